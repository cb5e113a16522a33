theorem dX0_init_0 : decode cX0_init 0 = .ok (.aload_n 0, 1) := by decide +kernel
theorem dX0_init_1 : decode cX0_init 1 = .ok (.invokespecial 3, 3) := by decide +kernel
theorem dX0_init_4 : decode cX0_init 4 = .ok (.aload_n 0, 1) := by decide +kernel
theorem dX0_init_5 : decode cX0_init 5 = .ok (.iconst 0, 1) := by decide +kernel
theorem dX0_init_6 : decode cX0_init 6 = .ok (.putfield 9, 3) := by decide +kernel
theorem dX0_init_9 : decode cX0_init 9 = .ok (.aload_n 0, 1) := by decide +kernel
theorem dX0_init_10 : decode cX0_init 10 = .ok (.iconst 5, 1) := by decide +kernel
theorem dX0_init_11 : decode cX0_init 11 = .ok (.newarray .int, 2) := by decide +kernel
theorem dX0_init_13 : decode cX0_init 13 = .ok (.putfield 15, 3) := by decide +kernel
theorem dX0_init_16 : decode cX0_init 16 = .ok (.aload_n 0, 1) := by decide +kernel
theorem dX0_init_17 : decode cX0_init 17 = .ok (.iconst 5, 1) := by decide +kernel
theorem dX0_init_18 : decode cX0_init 18 = .ok (.newarray .int, 2) := by decide +kernel
theorem dX0_init_20 : decode cX0_init 20 = .ok (.putfield 19, 3) := by decide +kernel
theorem dX0_init_23 : decode cX0_init 23 = .ok (.aload_n 0, 1) := by decide +kernel
theorem dX0_init_24 : decode cX0_init 24 = .ok (.iconst 5, 1) := by decide +kernel
theorem dX0_init_25 : decode cX0_init 25 = .ok (.newarray .int, 2) := by decide +kernel
theorem dX0_init_27 : decode cX0_init 27 = .ok (.putfield 22, 3) := by decide +kernel
theorem dX0_init_30 : decode cX0_init 30 = .ok (.aload_n 0, 1) := by decide +kernel
theorem dX0_init_31 : decode cX0_init 31 = .ok (.iconst 5, 1) := by decide +kernel
theorem dX0_init_32 : decode cX0_init 32 = .ok (.newarray .int, 2) := by decide +kernel
theorem dX0_init_34 : decode cX0_init 34 = .ok (.putfield 25, 3) := by decide +kernel
theorem dX0_init_37 : decode cX0_init 37 = .ok (.aload_n 0, 1) := by decide +kernel
theorem dX0_init_38 : decode cX0_init 38 = .ok (.iconst 5, 1) := by decide +kernel
theorem dX0_init_39 : decode cX0_init 39 = .ok (.newarray .int, 2) := by decide +kernel
theorem dX0_init_41 : decode cX0_init 41 = .ok (.putfield 28, 3) := by decide +kernel
theorem dX0_init_44 : decode cX0_init 44 = .ok (.aload_n 0, 1) := by decide +kernel
theorem dX0_init_45 : decode cX0_init 45 = .ok (.iconst 5, 1) := by decide +kernel
theorem dX0_init_46 : decode cX0_init 46 = .ok (.newarray .int, 2) := by decide +kernel
theorem dX0_init_48 : decode cX0_init 48 = .ok (.putfield 31, 3) := by decide +kernel
theorem dX0_init_51 : decode cX0_init 51 = .ok (.aload_n 0, 1) := by decide +kernel
theorem dX0_init_52 : decode cX0_init 52 = .ok (.iconst 0, 1) := by decide +kernel
theorem dX0_init_53 : decode cX0_init 53 = .ok (.putfield 34, 3) := by decide +kernel
theorem dX0_init_56 : decode cX0_init 56 = .ok (.aload_n 0, 1) := by decide +kernel
theorem dX0_init_57 : decode cX0_init 57 = .ok (.bipush 6, 2) := by decide +kernel
theorem dX0_init_59 : decode cX0_init 59 = .ok (.newarray .int, 2) := by decide +kernel
theorem dX0_init_61 : decode cX0_init 61 = .ok (.putfield 37, 3) := by decide +kernel
theorem dX0_init_64 : decode cX0_init 64 = .ok (.aload_n 0, 1) := by decide +kernel
theorem dX0_init_65 : decode cX0_init 65 = .ok (.bipush 6, 2) := by decide +kernel
theorem dX0_init_67 : decode cX0_init 67 = .ok (.newarray .int, 2) := by decide +kernel
theorem dX0_init_69 : decode cX0_init 69 = .ok (.putfield 40, 3) := by decide +kernel
theorem dX0_init_72 : decode cX0_init 72 = .ok (.aload_n 0, 1) := by decide +kernel
theorem dX0_init_73 : decode cX0_init 73 = .ok (.bipush 6, 2) := by decide +kernel
theorem dX0_init_75 : decode cX0_init 75 = .ok (.newarray .int, 2) := by decide +kernel
theorem dX0_init_77 : decode cX0_init 77 = .ok (.putfield 43, 3) := by decide +kernel
theorem dX0_init_80 : decode cX0_init 80 = .ok (.aload_n 0, 1) := by decide +kernel
theorem dX0_init_81 : decode cX0_init 81 = .ok (.bipush 6, 2) := by decide +kernel
theorem dX0_init_83 : decode cX0_init 83 = .ok (.newarray .int, 2) := by decide +kernel
theorem dX0_init_85 : decode cX0_init 85 = .ok (.putfield 46, 3) := by decide +kernel
theorem dX0_init_88 : decode cX0_init 88 = .ok (.aload_n 0, 1) := by decide +kernel
theorem dX0_init_89 : decode cX0_init 89 = .ok (.bipush 6, 2) := by decide +kernel
theorem dX0_init_91 : decode cX0_init 91 = .ok (.newarray .int, 2) := by decide +kernel
theorem dX0_init_93 : decode cX0_init 93 = .ok (.putfield 49, 3) := by decide +kernel
theorem dX0_init_96 : decode cX0_init 96 = .ok (.aload_n 0, 1) := by decide +kernel
theorem dX0_init_97 : decode cX0_init 97 = .ok (.bipush 64, 2) := by decide +kernel
theorem dX0_init_99 : decode cX0_init 99 = .ok (.newarray .int, 2) := by decide +kernel
theorem dX0_init_101 : decode cX0_init 101 = .ok (.putfield 52, 3) := by decide +kernel
theorem dX0_init_104 : decode cX0_init 104 = .ok (.aload_n 0, 1) := by decide +kernel
theorem dX0_init_105 : decode cX0_init 105 = .ok (.bipush 64, 2) := by decide +kernel
theorem dX0_init_107 : decode cX0_init 107 = .ok (.newarray .int, 2) := by decide +kernel
theorem dX0_init_109 : decode cX0_init 109 = .ok (.putfield 55, 3) := by decide +kernel
theorem dX0_init_112 : decode cX0_init 112 = .ok (.aload_n 0, 1) := by decide +kernel
theorem dX0_init_113 : decode cX0_init 113 = .ok (.getfield 31, 3) := by decide +kernel
theorem dX0_init_116 : decode cX0_init 116 = .ok (.iconst (-1), 1) := by decide +kernel
theorem dX0_init_117 : decode cX0_init 117 = .ok (.invokestatic 58, 3) := by decide +kernel
theorem dX0_init_120 : decode cX0_init 120 = .ok (.aload_n 0, 1) := by decide +kernel
theorem dX0_init_121 : decode cX0_init 121 = .ok (.getfield 52, 3) := by decide +kernel
theorem dX0_init_124 : decode cX0_init 124 = .ok (.iconst (-1), 1) := by decide +kernel
theorem dX0_init_125 : decode cX0_init 125 = .ok (.invokestatic 58, 3) := by decide +kernel
theorem dX0_init_128 : decode cX0_init 128 = .ok (.aload_n 0, 1) := by decide +kernel
theorem dX0_init_129 : decode cX0_init 129 = .ok (.getfield 55, 3) := by decide +kernel
theorem dX0_init_132 : decode cX0_init 132 = .ok (.iconst (-1), 1) := by decide +kernel
theorem dX0_init_133 : decode cX0_init 133 = .ok (.invokestatic 58, 3) := by decide +kernel
theorem dX0_init_136 : decode cX0_init 136 = .ok (.return_, 1) := by decide +kernel
theorem dX0_placeCount_0 : decode cX0_placeCount 0 = .ok (.aload_n 0, 1) := by decide +kernel
theorem dX0_placeCount_1 : decode cX0_placeCount 1 = .ok (.getfield 9, 3) := by decide +kernel
theorem dX0_placeCount_4 : decode cX0_placeCount 4 = .ok (.ireturn, 1) := by decide +kernel
theorem dX0_hasPlace_0 : decode cX0_hasPlace 0 = .ok (.iload_n 1, 1) := by decide +kernel
theorem dX0_hasPlace_1 : decode cX0_hasPlace 1 = .ok (.ifCond .lt 20, 3) := by decide +kernel
theorem dX0_hasPlace_4 : decode cX0_hasPlace 4 = .ok (.iload_n 1, 1) := by decide +kernel
theorem dX0_hasPlace_5 : decode cX0_hasPlace 5 = .ok (.aload_n 0, 1) := by decide +kernel
theorem dX0_hasPlace_6 : decode cX0_hasPlace 6 = .ok (.getfield 9, 3) := by decide +kernel
theorem dX0_hasPlace_9 : decode cX0_hasPlace 9 = .ok (.if_icmp .ge 12, 3) := by decide +kernel
theorem dX0_hasPlace_12 : decode cX0_hasPlace 12 = .ok (.iload_n 1, 1) := by decide +kernel
theorem dX0_hasPlace_13 : decode cX0_hasPlace 13 = .ok (.iconst 5, 1) := by decide +kernel
theorem dX0_hasPlace_14 : decode cX0_hasPlace 14 = .ok (.if_icmp .ge 7, 3) := by decide +kernel
theorem dX0_hasPlace_17 : decode cX0_hasPlace 17 = .ok (.iconst 1, 1) := by decide +kernel
theorem dX0_hasPlace_18 : decode cX0_hasPlace 18 = .ok (.goto 4, 3) := by decide +kernel
theorem dX0_hasPlace_21 : decode cX0_hasPlace 21 = .ok (.iconst 0, 1) := by decide +kernel
theorem dX0_hasPlace_22 : decode cX0_hasPlace 22 = .ok (.ireturn, 1) := by decide +kernel
theorem dX0_hasValue_0 : decode cX0_hasValue 0 = .ok (.aload_n 0, 1) := by decide +kernel
theorem dX0_hasValue_1 : decode cX0_hasValue 1 = .ok (.iload_n 1, 1) := by decide +kernel
theorem dX0_hasValue_2 : decode cX0_hasValue 2 = .ok (.invokevirtual 64, 3) := by decide +kernel
theorem dX0_hasValue_5 : decode cX0_hasValue 5 = .ok (.ifCond .eq 21, 3) := by decide +kernel
theorem dX0_hasValue_8 : decode cX0_hasValue 8 = .ok (.iload_n 2, 1) := by decide +kernel
theorem dX0_hasValue_9 : decode cX0_hasValue 9 = .ok (.ifCond .lt 17, 3) := by decide +kernel
theorem dX0_hasValue_12 : decode cX0_hasValue 12 = .ok (.iload_n 2, 1) := by decide +kernel
theorem dX0_hasValue_13 : decode cX0_hasValue 13 = .ok (.aload_n 0, 1) := by decide +kernel
theorem dX0_hasValue_14 : decode cX0_hasValue 14 = .ok (.getfield 19, 3) := by decide +kernel
theorem dX0_hasValue_17 : decode cX0_hasValue 17 = .ok (.iload_n 1, 1) := by decide +kernel
theorem dX0_hasValue_18 : decode cX0_hasValue 18 = .ok (.iaload, 1) := by decide +kernel
theorem dX0_hasValue_19 : decode cX0_hasValue 19 = .ok (.if_icmp .ge 7, 3) := by decide +kernel
theorem dX0_hasValue_22 : decode cX0_hasValue 22 = .ok (.iconst 1, 1) := by decide +kernel
theorem dX0_hasValue_23 : decode cX0_hasValue 23 = .ok (.goto 4, 3) := by decide +kernel
theorem dX0_hasValue_26 : decode cX0_hasValue 26 = .ok (.iconst 0, 1) := by decide +kernel
theorem dX0_hasValue_27 : decode cX0_hasValue 27 = .ok (.ireturn, 1) := by decide +kernel
theorem dX0_isWorked_0 : decode cX0_isWorked 0 = .ok (.aload_n 0, 1) := by decide +kernel
theorem dX0_isWorked_1 : decode cX0_isWorked 1 = .ok (.iload_n 1, 1) := by decide +kernel
theorem dX0_isWorked_2 : decode cX0_isWorked 2 = .ok (.invokevirtual 64, 3) := by decide +kernel
theorem dX0_isWorked_5 : decode cX0_isWorked 5 = .ok (.ifCond .eq 17, 3) := by decide +kernel
theorem dX0_isWorked_8 : decode cX0_isWorked 8 = .ok (.aload_n 0, 1) := by decide +kernel
theorem dX0_isWorked_9 : decode cX0_isWorked 9 = .ok (.getfield 15, 3) := by decide +kernel
theorem dX0_isWorked_12 : decode cX0_isWorked 12 = .ok (.iload_n 1, 1) := by decide +kernel
theorem dX0_isWorked_13 : decode cX0_isWorked 13 = .ok (.iaload, 1) := by decide +kernel
theorem dX0_isWorked_14 : decode cX0_isWorked 14 = .ok (.iconst 1, 1) := by decide +kernel
theorem dX0_isWorked_15 : decode cX0_isWorked 15 = .ok (.if_icmp .ne 7, 3) := by decide +kernel
theorem dX0_isWorked_18 : decode cX0_isWorked 18 = .ok (.iconst 1, 1) := by decide +kernel
theorem dX0_isWorked_19 : decode cX0_isWorked 19 = .ok (.goto 4, 3) := by decide +kernel
theorem dX0_isWorked_22 : decode cX0_isWorked 22 = .ok (.iconst 0, 1) := by decide +kernel
theorem dX0_isWorked_23 : decode cX0_isWorked 23 = .ok (.ireturn, 1) := by decide +kernel
theorem dX0_kindOf_0 : decode cX0_kindOf 0 = .ok (.aload_n 0, 1) := by decide +kernel
theorem dX0_kindOf_1 : decode cX0_kindOf 1 = .ok (.iload_n 1, 1) := by decide +kernel
theorem dX0_kindOf_2 : decode cX0_kindOf 2 = .ok (.invokevirtual 64, 3) := by decide +kernel
theorem dX0_kindOf_5 : decode cX0_kindOf 5 = .ok (.ifCond .eq 12, 3) := by decide +kernel
theorem dX0_kindOf_8 : decode cX0_kindOf 8 = .ok (.aload_n 0, 1) := by decide +kernel
theorem dX0_kindOf_9 : decode cX0_kindOf 9 = .ok (.getfield 15, 3) := by decide +kernel
theorem dX0_kindOf_12 : decode cX0_kindOf 12 = .ok (.iload_n 1, 1) := by decide +kernel
theorem dX0_kindOf_13 : decode cX0_kindOf 13 = .ok (.iaload, 1) := by decide +kernel
theorem dX0_kindOf_14 : decode cX0_kindOf 14 = .ok (.goto 4, 3) := by decide +kernel
theorem dX0_kindOf_17 : decode cX0_kindOf 17 = .ok (.iconst (-1), 1) := by decide +kernel
theorem dX0_kindOf_18 : decode cX0_kindOf 18 = .ok (.ireturn, 1) := by decide +kernel
theorem dX0_sizeOf_0 : decode cX0_sizeOf 0 = .ok (.aload_n 0, 1) := by decide +kernel
theorem dX0_sizeOf_1 : decode cX0_sizeOf 1 = .ok (.iload_n 1, 1) := by decide +kernel
theorem dX0_sizeOf_2 : decode cX0_sizeOf 2 = .ok (.invokevirtual 64, 3) := by decide +kernel
theorem dX0_sizeOf_5 : decode cX0_sizeOf 5 = .ok (.ifCond .eq 12, 3) := by decide +kernel
theorem dX0_sizeOf_8 : decode cX0_sizeOf 8 = .ok (.aload_n 0, 1) := by decide +kernel
theorem dX0_sizeOf_9 : decode cX0_sizeOf 9 = .ok (.getfield 19, 3) := by decide +kernel
theorem dX0_sizeOf_12 : decode cX0_sizeOf 12 = .ok (.iload_n 1, 1) := by decide +kernel
theorem dX0_sizeOf_13 : decode cX0_sizeOf 13 = .ok (.iaload, 1) := by decide +kernel
theorem dX0_sizeOf_14 : decode cX0_sizeOf 14 = .ok (.goto 4, 3) := by decide +kernel
theorem dX0_sizeOf_17 : decode cX0_sizeOf 17 = .ok (.iconst 0, 1) := by decide +kernel
theorem dX0_sizeOf_18 : decode cX0_sizeOf 18 = .ok (.ireturn, 1) := by decide +kernel
theorem dX0_addPlace_0 : decode cX0_addPlace 0 = .ok (.aload_n 0, 1) := by decide +kernel
theorem dX0_addPlace_1 : decode cX0_addPlace 1 = .ok (.getfield 9, 3) := by decide +kernel
theorem dX0_addPlace_4 : decode cX0_addPlace 4 = .ok (.iconst 5, 1) := by decide +kernel
theorem dX0_addPlace_5 : decode cX0_addPlace 5 = .ok (.if_icmp .lt 6, 3) := by decide +kernel
theorem dX0_addPlace_8 : decode cX0_addPlace 8 = .ok (.bipush (-4), 2) := by decide +kernel
theorem dX0_addPlace_10 : decode cX0_addPlace 10 = .ok (.ireturn, 1) := by decide +kernel
theorem dX0_addPlace_11 : decode cX0_addPlace 11 = .ok (.aload_n 0, 1) := by decide +kernel
theorem dX0_addPlace_12 : decode cX0_addPlace 12 = .ok (.getfield 15, 3) := by decide +kernel
theorem dX0_addPlace_15 : decode cX0_addPlace 15 = .ok (.aload_n 0, 1) := by decide +kernel
theorem dX0_addPlace_16 : decode cX0_addPlace 16 = .ok (.getfield 9, 3) := by decide +kernel
theorem dX0_addPlace_19 : decode cX0_addPlace 19 = .ok (.iload_n 1, 1) := by decide +kernel
theorem dX0_addPlace_20 : decode cX0_addPlace 20 = .ok (.iastore, 1) := by decide +kernel
theorem dX0_addPlace_21 : decode cX0_addPlace 21 = .ok (.aload_n 0, 1) := by decide +kernel
theorem dX0_addPlace_22 : decode cX0_addPlace 22 = .ok (.getfield 19, 3) := by decide +kernel
theorem dX0_addPlace_25 : decode cX0_addPlace 25 = .ok (.aload_n 0, 1) := by decide +kernel
theorem dX0_addPlace_26 : decode cX0_addPlace 26 = .ok (.getfield 9, 3) := by decide +kernel
theorem dX0_addPlace_29 : decode cX0_addPlace 29 = .ok (.iload_n 2, 1) := by decide +kernel
theorem dX0_addPlace_30 : decode cX0_addPlace 30 = .ok (.iastore, 1) := by decide +kernel
theorem dX0_addPlace_31 : decode cX0_addPlace 31 = .ok (.aload_n 0, 1) := by decide +kernel
theorem dX0_addPlace_32 : decode cX0_addPlace 32 = .ok (.getfield 22, 3) := by decide +kernel
theorem dX0_addPlace_35 : decode cX0_addPlace 35 = .ok (.aload_n 0, 1) := by decide +kernel
theorem dX0_addPlace_36 : decode cX0_addPlace 36 = .ok (.getfield 9, 3) := by decide +kernel
theorem dX0_addPlace_39 : decode cX0_addPlace 39 = .ok (.iload_n 3, 1) := by decide +kernel
theorem dX0_addPlace_40 : decode cX0_addPlace 40 = .ok (.iastore, 1) := by decide +kernel
theorem dX0_addPlace_41 : decode cX0_addPlace 41 = .ok (.aload_n 0, 1) := by decide +kernel
theorem dX0_addPlace_42 : decode cX0_addPlace 42 = .ok (.getfield 25, 3) := by decide +kernel
theorem dX0_addPlace_45 : decode cX0_addPlace 45 = .ok (.aload_n 0, 1) := by decide +kernel
theorem dX0_addPlace_46 : decode cX0_addPlace 46 = .ok (.getfield 9, 3) := by decide +kernel
theorem dX0_addPlace_49 : decode cX0_addPlace 49 = .ok (.iload 4, 2) := by decide +kernel
theorem dX0_addPlace_51 : decode cX0_addPlace 51 = .ok (.iastore, 1) := by decide +kernel
theorem dX0_addPlace_52 : decode cX0_addPlace 52 = .ok (.aload_n 0, 1) := by decide +kernel
theorem dX0_addPlace_53 : decode cX0_addPlace 53 = .ok (.dup, 1) := by decide +kernel
theorem dX0_addPlace_54 : decode cX0_addPlace 54 = .ok (.getfield 9, 3) := by decide +kernel
theorem dX0_addPlace_57 : decode cX0_addPlace 57 = .ok (.iconst 1, 1) := by decide +kernel
theorem dX0_addPlace_58 : decode cX0_addPlace 58 = .ok (.iadd, 1) := by decide +kernel
theorem dX0_addPlace_59 : decode cX0_addPlace 59 = .ok (.putfield 9, 3) := by decide +kernel
theorem dX0_addPlace_62 : decode cX0_addPlace 62 = .ok (.aload_n 0, 1) := by decide +kernel
theorem dX0_addPlace_63 : decode cX0_addPlace 63 = .ok (.getfield 9, 3) := by decide +kernel
theorem dX0_addPlace_66 : decode cX0_addPlace 66 = .ok (.iconst 1, 1) := by decide +kernel
theorem dX0_addPlace_67 : decode cX0_addPlace 67 = .ok (.isub, 1) := by decide +kernel
theorem dX0_addPlace_68 : decode cX0_addPlace 68 = .ok (.ireturn, 1) := by decide +kernel
theorem dX0_addRule_0 : decode cX0_addRule 0 = .ok (.aload_n 0, 1) := by decide +kernel
theorem dX0_addRule_1 : decode cX0_addRule 1 = .ok (.getfield 34, 3) := by decide +kernel
theorem dX0_addRule_4 : decode cX0_addRule 4 = .ok (.bipush 6, 2) := by decide +kernel
theorem dX0_addRule_6 : decode cX0_addRule 6 = .ok (.if_icmp .lt 6, 3) := by decide +kernel
theorem dX0_addRule_9 : decode cX0_addRule 9 = .ok (.bipush (-4), 2) := by decide +kernel
theorem dX0_addRule_11 : decode cX0_addRule 11 = .ok (.ireturn, 1) := by decide +kernel
theorem dX0_addRule_12 : decode cX0_addRule 12 = .ok (.aload_n 0, 1) := by decide +kernel
theorem dX0_addRule_13 : decode cX0_addRule 13 = .ok (.getfield 37, 3) := by decide +kernel
theorem dX0_addRule_16 : decode cX0_addRule 16 = .ok (.aload_n 0, 1) := by decide +kernel
theorem dX0_addRule_17 : decode cX0_addRule 17 = .ok (.getfield 34, 3) := by decide +kernel
theorem dX0_addRule_20 : decode cX0_addRule 20 = .ok (.iload_n 1, 1) := by decide +kernel
theorem dX0_addRule_21 : decode cX0_addRule 21 = .ok (.iastore, 1) := by decide +kernel
theorem dX0_addRule_22 : decode cX0_addRule 22 = .ok (.aload_n 0, 1) := by decide +kernel
theorem dX0_addRule_23 : decode cX0_addRule 23 = .ok (.getfield 40, 3) := by decide +kernel
theorem dX0_addRule_26 : decode cX0_addRule 26 = .ok (.aload_n 0, 1) := by decide +kernel
theorem dX0_addRule_27 : decode cX0_addRule 27 = .ok (.getfield 34, 3) := by decide +kernel
theorem dX0_addRule_30 : decode cX0_addRule 30 = .ok (.iload_n 2, 1) := by decide +kernel
theorem dX0_addRule_31 : decode cX0_addRule 31 = .ok (.iastore, 1) := by decide +kernel
theorem dX0_addRule_32 : decode cX0_addRule 32 = .ok (.aload_n 0, 1) := by decide +kernel
theorem dX0_addRule_33 : decode cX0_addRule 33 = .ok (.getfield 43, 3) := by decide +kernel
theorem dX0_addRule_36 : decode cX0_addRule 36 = .ok (.aload_n 0, 1) := by decide +kernel
theorem dX0_addRule_37 : decode cX0_addRule 37 = .ok (.getfield 34, 3) := by decide +kernel
theorem dX0_addRule_40 : decode cX0_addRule 40 = .ok (.iload_n 3, 1) := by decide +kernel
theorem dX0_addRule_41 : decode cX0_addRule 41 = .ok (.iastore, 1) := by decide +kernel
theorem dX0_addRule_42 : decode cX0_addRule 42 = .ok (.aload_n 0, 1) := by decide +kernel
theorem dX0_addRule_43 : decode cX0_addRule 43 = .ok (.getfield 46, 3) := by decide +kernel
theorem dX0_addRule_46 : decode cX0_addRule 46 = .ok (.aload_n 0, 1) := by decide +kernel
theorem dX0_addRule_47 : decode cX0_addRule 47 = .ok (.getfield 34, 3) := by decide +kernel
theorem dX0_addRule_50 : decode cX0_addRule 50 = .ok (.iload 4, 2) := by decide +kernel
theorem dX0_addRule_52 : decode cX0_addRule 52 = .ok (.iastore, 1) := by decide +kernel
theorem dX0_addRule_53 : decode cX0_addRule 53 = .ok (.aload_n 0, 1) := by decide +kernel
theorem dX0_addRule_54 : decode cX0_addRule 54 = .ok (.getfield 49, 3) := by decide +kernel
theorem dX0_addRule_57 : decode cX0_addRule 57 = .ok (.aload_n 0, 1) := by decide +kernel
theorem dX0_addRule_58 : decode cX0_addRule 58 = .ok (.getfield 34, 3) := by decide +kernel
theorem dX0_addRule_61 : decode cX0_addRule 61 = .ok (.iload 5, 2) := by decide +kernel
theorem dX0_addRule_63 : decode cX0_addRule 63 = .ok (.iastore, 1) := by decide +kernel
theorem dX0_addRule_64 : decode cX0_addRule 64 = .ok (.aload_n 0, 1) := by decide +kernel
theorem dX0_addRule_65 : decode cX0_addRule 65 = .ok (.dup, 1) := by decide +kernel
theorem dX0_addRule_66 : decode cX0_addRule 66 = .ok (.getfield 34, 3) := by decide +kernel
theorem dX0_addRule_69 : decode cX0_addRule 69 = .ok (.iconst 1, 1) := by decide +kernel
theorem dX0_addRule_70 : decode cX0_addRule 70 = .ok (.iadd, 1) := by decide +kernel
theorem dX0_addRule_71 : decode cX0_addRule 71 = .ok (.putfield 34, 3) := by decide +kernel
theorem dX0_addRule_74 : decode cX0_addRule 74 = .ok (.aload_n 0, 1) := by decide +kernel
theorem dX0_addRule_75 : decode cX0_addRule 75 = .ok (.getfield 34, 3) := by decide +kernel
theorem dX0_addRule_78 : decode cX0_addRule 78 = .ok (.iconst 1, 1) := by decide +kernel
theorem dX0_addRule_79 : decode cX0_addRule 79 = .ok (.isub, 1) := by decide +kernel
theorem dX0_addRule_80 : decode cX0_addRule 80 = .ok (.ireturn, 1) := by decide +kernel
theorem dX0_teach_0 : decode cX0_teach 0 = .ok (.iload_n 1, 1) := by decide +kernel
theorem dX0_teach_1 : decode cX0_teach 1 = .ok (.invokestatic 68, 3) := by decide +kernel
theorem dX0_teach_4 : decode cX0_teach 4 = .ok (.ifCond .eq 17, 3) := by decide +kernel
theorem dX0_teach_7 : decode cX0_teach 7 = .ok (.aload_n 0, 1) := by decide +kernel
theorem dX0_teach_8 : decode cX0_teach 8 = .ok (.getfield 52, 3) := by decide +kernel
theorem dX0_teach_11 : decode cX0_teach 11 = .ok (.iload_n 1, 1) := by decide +kernel
theorem dX0_teach_12 : decode cX0_teach 12 = .ok (.iload_n 2, 1) := by decide +kernel
theorem dX0_teach_13 : decode cX0_teach 13 = .ok (.iastore, 1) := by decide +kernel
theorem dX0_teach_14 : decode cX0_teach 14 = .ok (.aload_n 0, 1) := by decide +kernel
theorem dX0_teach_15 : decode cX0_teach 15 = .ok (.getfield 55, 3) := by decide +kernel
theorem dX0_teach_18 : decode cX0_teach 18 = .ok (.iload_n 1, 1) := by decide +kernel
theorem dX0_teach_19 : decode cX0_teach 19 = .ok (.iload_n 3, 1) := by decide +kernel
theorem dX0_teach_20 : decode cX0_teach 20 = .ok (.iastore, 1) := by decide +kernel
theorem dX0_teach_21 : decode cX0_teach 21 = .ok (.return_, 1) := by decide +kernel
theorem dX0_placeSaidBy_0 : decode cX0_placeSaidBy 0 = .ok (.iload_n 1, 1) := by decide +kernel
theorem dX0_placeSaidBy_1 : decode cX0_placeSaidBy 1 = .ok (.invokestatic 68, 3) := by decide +kernel
theorem dX0_placeSaidBy_4 : decode cX0_placeSaidBy 4 = .ok (.ifCond .eq 12, 3) := by decide +kernel
theorem dX0_placeSaidBy_7 : decode cX0_placeSaidBy 7 = .ok (.aload_n 0, 1) := by decide +kernel
theorem dX0_placeSaidBy_8 : decode cX0_placeSaidBy 8 = .ok (.getfield 52, 3) := by decide +kernel
theorem dX0_placeSaidBy_11 : decode cX0_placeSaidBy 11 = .ok (.iload_n 1, 1) := by decide +kernel
theorem dX0_placeSaidBy_12 : decode cX0_placeSaidBy 12 = .ok (.iaload, 1) := by decide +kernel
theorem dX0_placeSaidBy_13 : decode cX0_placeSaidBy 13 = .ok (.goto 4, 3) := by decide +kernel
theorem dX0_placeSaidBy_16 : decode cX0_placeSaidBy 16 = .ok (.iconst (-1), 1) := by decide +kernel
theorem dX0_placeSaidBy_17 : decode cX0_placeSaidBy 17 = .ok (.ireturn, 1) := by decide +kernel
theorem dX0_valueSaidBy_0 : decode cX0_valueSaidBy 0 = .ok (.iload_n 1, 1) := by decide +kernel
theorem dX0_valueSaidBy_1 : decode cX0_valueSaidBy 1 = .ok (.invokestatic 68, 3) := by decide +kernel
theorem dX0_valueSaidBy_4 : decode cX0_valueSaidBy 4 = .ok (.ifCond .eq 12, 3) := by decide +kernel
theorem dX0_valueSaidBy_7 : decode cX0_valueSaidBy 7 = .ok (.aload_n 0, 1) := by decide +kernel
theorem dX0_valueSaidBy_8 : decode cX0_valueSaidBy 8 = .ok (.getfield 55, 3) := by decide +kernel
theorem dX0_valueSaidBy_11 : decode cX0_valueSaidBy 11 = .ok (.iload_n 1, 1) := by decide +kernel
theorem dX0_valueSaidBy_12 : decode cX0_valueSaidBy 12 = .ok (.iaload, 1) := by decide +kernel
theorem dX0_valueSaidBy_13 : decode cX0_valueSaidBy 13 = .ok (.goto 4, 3) := by decide +kernel
theorem dX0_valueSaidBy_16 : decode cX0_valueSaidBy 16 = .ok (.iconst (-1), 1) := by decide +kernel
theorem dX0_valueSaidBy_17 : decode cX0_valueSaidBy 17 = .ok (.ireturn, 1) := by decide +kernel
theorem dX0_leastWord_0 : decode cX0_leastWord 0 = .ok (.iconst 0, 1) := by decide +kernel
theorem dX0_leastWord_1 : decode cX0_leastWord 1 = .ok (.istore_n 3, 1) := by decide +kernel
theorem dX0_leastWord_2 : decode cX0_leastWord 2 = .ok (.iload_n 3, 1) := by decide +kernel
theorem dX0_leastWord_3 : decode cX0_leastWord 3 = .ok (.bipush 64, 2) := by decide +kernel
theorem dX0_leastWord_5 : decode cX0_leastWord 5 = .ok (.if_icmp .ge 31, 3) := by decide +kernel
theorem dX0_leastWord_8 : decode cX0_leastWord 8 = .ok (.aload_n 0, 1) := by decide +kernel
theorem dX0_leastWord_9 : decode cX0_leastWord 9 = .ok (.getfield 52, 3) := by decide +kernel
theorem dX0_leastWord_12 : decode cX0_leastWord 12 = .ok (.iload_n 3, 1) := by decide +kernel
theorem dX0_leastWord_13 : decode cX0_leastWord 13 = .ok (.iaload, 1) := by decide +kernel
theorem dX0_leastWord_14 : decode cX0_leastWord 14 = .ok (.iload_n 1, 1) := by decide +kernel
theorem dX0_leastWord_15 : decode cX0_leastWord 15 = .ok (.if_icmp .ne 15, 3) := by decide +kernel
theorem dX0_leastWord_18 : decode cX0_leastWord 18 = .ok (.aload_n 0, 1) := by decide +kernel
theorem dX0_leastWord_19 : decode cX0_leastWord 19 = .ok (.getfield 55, 3) := by decide +kernel
theorem dX0_leastWord_22 : decode cX0_leastWord 22 = .ok (.iload_n 3, 1) := by decide +kernel
theorem dX0_leastWord_23 : decode cX0_leastWord 23 = .ok (.iaload, 1) := by decide +kernel
theorem dX0_leastWord_24 : decode cX0_leastWord 24 = .ok (.iload_n 2, 1) := by decide +kernel
theorem dX0_leastWord_25 : decode cX0_leastWord 25 = .ok (.if_icmp .ne 5, 3) := by decide +kernel
theorem dX0_leastWord_28 : decode cX0_leastWord 28 = .ok (.iload_n 3, 1) := by decide +kernel
theorem dX0_leastWord_29 : decode cX0_leastWord 29 = .ok (.ireturn, 1) := by decide +kernel
theorem dX0_leastWord_30 : decode cX0_leastWord 30 = .ok (.iinc 3 1, 3) := by decide +kernel
theorem dX0_leastWord_33 : decode cX0_leastWord 33 = .ok (.goto (-31), 3) := by decide +kernel
theorem dX0_leastWord_36 : decode cX0_leastWord 36 = .ok (.iconst (-1), 1) := by decide +kernel
theorem dX0_leastWord_37 : decode cX0_leastWord 37 = .ok (.ireturn, 1) := by decide +kernel
theorem dX0_empty_0 : decode cX0_empty 0 = .ok (.aload_n 0, 1) := by decide +kernel
theorem dX0_empty_1 : decode cX0_empty 1 = .ok (.getfield 28, 3) := by decide +kernel
theorem dX0_empty_4 : decode cX0_empty 4 = .ok (.iconst 0, 1) := by decide +kernel
theorem dX0_empty_5 : decode cX0_empty 5 = .ok (.invokestatic 58, 3) := by decide +kernel
theorem dX0_empty_8 : decode cX0_empty 8 = .ok (.aload_n 0, 1) := by decide +kernel
theorem dX0_empty_9 : decode cX0_empty 9 = .ok (.getfield 31, 3) := by decide +kernel
theorem dX0_empty_12 : decode cX0_empty 12 = .ok (.iconst (-1), 1) := by decide +kernel
theorem dX0_empty_13 : decode cX0_empty 13 = .ok (.invokestatic 58, 3) := by decide +kernel
theorem dX0_empty_16 : decode cX0_empty 16 = .ok (.return_, 1) := by decide +kernel
theorem dX0_sureValue_0 : decode cX0_sureValue 0 = .ok (.aload_n 0, 1) := by decide +kernel
theorem dX0_sureValue_1 : decode cX0_sureValue 1 = .ok (.iload_n 1, 1) := by decide +kernel
theorem dX0_sureValue_2 : decode cX0_sureValue 2 = .ok (.invokevirtual 64, 3) := by decide +kernel
theorem dX0_sureValue_5 : decode cX0_sureValue 5 = .ok (.ifCond .ne 5, 3) := by decide +kernel
theorem dX0_sureValue_8 : decode cX0_sureValue 8 = .ok (.iconst (-1), 1) := by decide +kernel
theorem dX0_sureValue_9 : decode cX0_sureValue 9 = .ok (.ireturn, 1) := by decide +kernel
theorem dX0_sureValue_10 : decode cX0_sureValue 10 = .ok (.aload_n 0, 1) := by decide +kernel
theorem dX0_sureValue_11 : decode cX0_sureValue 11 = .ok (.getfield 15, 3) := by decide +kernel
theorem dX0_sureValue_14 : decode cX0_sureValue 14 = .ok (.iload_n 1, 1) := by decide +kernel
theorem dX0_sureValue_15 : decode cX0_sureValue 15 = .ok (.iaload, 1) := by decide +kernel
theorem dX0_sureValue_16 : decode cX0_sureValue 16 = .ok (.iconst 1, 1) := by decide +kernel
theorem dX0_sureValue_17 : decode cX0_sureValue 17 = .ok (.if_icmp .eq 10, 3) := by decide +kernel
theorem dX0_sureValue_20 : decode cX0_sureValue 20 = .ok (.aload_n 0, 1) := by decide +kernel
theorem dX0_sureValue_21 : decode cX0_sureValue 21 = .ok (.getfield 31, 3) := by decide +kernel
theorem dX0_sureValue_24 : decode cX0_sureValue 24 = .ok (.iload_n 1, 1) := by decide +kernel
theorem dX0_sureValue_25 : decode cX0_sureValue 25 = .ok (.iaload, 1) := by decide +kernel
theorem dX0_sureValue_26 : decode cX0_sureValue 26 = .ok (.ireturn, 1) := by decide +kernel
theorem dX0_sureValue_27 : decode cX0_sureValue 27 = .ok (.aload_n 0, 1) := by decide +kernel
theorem dX0_sureValue_28 : decode cX0_sureValue 28 = .ok (.getfield 22, 3) := by decide +kernel
theorem dX0_sureValue_31 : decode cX0_sureValue 31 = .ok (.iload_n 1, 1) := by decide +kernel
theorem dX0_sureValue_32 : decode cX0_sureValue 32 = .ok (.iaload, 1) := by decide +kernel
theorem dX0_sureValue_33 : decode cX0_sureValue 33 = .ok (.istore_n 2, 1) := by decide +kernel
theorem dX0_sureValue_34 : decode cX0_sureValue 34 = .ok (.aload_n 0, 1) := by decide +kernel
theorem dX0_sureValue_35 : decode cX0_sureValue 35 = .ok (.getfield 25, 3) := by decide +kernel
theorem dX0_sureValue_38 : decode cX0_sureValue 38 = .ok (.iload_n 1, 1) := by decide +kernel
theorem dX0_sureValue_39 : decode cX0_sureValue 39 = .ok (.iaload, 1) := by decide +kernel
theorem dX0_sureValue_40 : decode cX0_sureValue 40 = .ok (.istore_n 3, 1) := by decide +kernel
theorem dX0_sureValue_41 : decode cX0_sureValue 41 = .ok (.aload_n 0, 1) := by decide +kernel
theorem dX0_sureValue_42 : decode cX0_sureValue 42 = .ok (.iload_n 2, 1) := by decide +kernel
theorem dX0_sureValue_43 : decode cX0_sureValue 43 = .ok (.invokevirtual 64, 3) := by decide +kernel
theorem dX0_sureValue_46 : decode cX0_sureValue 46 = .ok (.ifCond .eq 20, 3) := by decide +kernel
theorem dX0_sureValue_49 : decode cX0_sureValue 49 = .ok (.aload_n 0, 1) := by decide +kernel
theorem dX0_sureValue_50 : decode cX0_sureValue 50 = .ok (.iload_n 3, 1) := by decide +kernel
theorem dX0_sureValue_51 : decode cX0_sureValue 51 = .ok (.invokevirtual 64, 3) := by decide +kernel
theorem dX0_sureValue_54 : decode cX0_sureValue 54 = .ok (.ifCond .eq 12, 3) := by decide +kernel
theorem dX0_sureValue_57 : decode cX0_sureValue 57 = .ok (.aload_n 0, 1) := by decide +kernel
theorem dX0_sureValue_58 : decode cX0_sureValue 58 = .ok (.getfield 19, 3) := by decide +kernel
theorem dX0_sureValue_61 : decode cX0_sureValue 61 = .ok (.iload_n 1, 1) := by decide +kernel
theorem dX0_sureValue_62 : decode cX0_sureValue 62 = .ok (.iaload, 1) := by decide +kernel
theorem dX0_sureValue_63 : decode cX0_sureValue 63 = .ok (.ifCond .gt 5, 3) := by decide +kernel
theorem dX0_sureValue_66 : decode cX0_sureValue 66 = .ok (.iconst (-1), 1) := by decide +kernel
theorem dX0_sureValue_67 : decode cX0_sureValue 67 = .ok (.ireturn, 1) := by decide +kernel
theorem dX0_sureValue_68 : decode cX0_sureValue 68 = .ok (.aload_n 0, 1) := by decide +kernel
theorem dX0_sureValue_69 : decode cX0_sureValue 69 = .ok (.getfield 31, 3) := by decide +kernel
theorem dX0_sureValue_72 : decode cX0_sureValue 72 = .ok (.iload_n 2, 1) := by decide +kernel
theorem dX0_sureValue_73 : decode cX0_sureValue 73 = .ok (.iaload, 1) := by decide +kernel
theorem dX0_sureValue_74 : decode cX0_sureValue 74 = .ok (.iconst (-1), 1) := by decide +kernel
theorem dX0_sureValue_75 : decode cX0_sureValue 75 = .ok (.if_icmp .eq 13, 3) := by decide +kernel
theorem dX0_sureValue_78 : decode cX0_sureValue 78 = .ok (.aload_n 0, 1) := by decide +kernel
theorem dX0_sureValue_79 : decode cX0_sureValue 79 = .ok (.getfield 31, 3) := by decide +kernel
theorem dX0_sureValue_82 : decode cX0_sureValue 82 = .ok (.iload_n 3, 1) := by decide +kernel
theorem dX0_sureValue_83 : decode cX0_sureValue 83 = .ok (.iaload, 1) := by decide +kernel
theorem dX0_sureValue_84 : decode cX0_sureValue 84 = .ok (.iconst (-1), 1) := by decide +kernel
theorem dX0_sureValue_85 : decode cX0_sureValue 85 = .ok (.if_icmp .ne 5, 3) := by decide +kernel
theorem dX0_sureValue_88 : decode cX0_sureValue 88 = .ok (.iconst (-1), 1) := by decide +kernel
theorem dX0_sureValue_89 : decode cX0_sureValue 89 = .ok (.ireturn, 1) := by decide +kernel
theorem dX0_sureValue_90 : decode cX0_sureValue 90 = .ok (.aload_n 0, 1) := by decide +kernel
theorem dX0_sureValue_91 : decode cX0_sureValue 91 = .ok (.getfield 31, 3) := by decide +kernel
theorem dX0_sureValue_94 : decode cX0_sureValue 94 = .ok (.iload_n 2, 1) := by decide +kernel
theorem dX0_sureValue_95 : decode cX0_sureValue 95 = .ok (.iaload, 1) := by decide +kernel
theorem dX0_sureValue_96 : decode cX0_sureValue 96 = .ok (.aload_n 0, 1) := by decide +kernel
theorem dX0_sureValue_97 : decode cX0_sureValue 97 = .ok (.getfield 31, 3) := by decide +kernel
theorem dX0_sureValue_100 : decode cX0_sureValue 100 = .ok (.iload_n 3, 1) := by decide +kernel
theorem dX0_sureValue_101 : decode cX0_sureValue 101 = .ok (.iaload, 1) := by decide +kernel
theorem dX0_sureValue_102 : decode cX0_sureValue 102 = .ok (.iadd, 1) := by decide +kernel
theorem dX0_sureValue_103 : decode cX0_sureValue 103 = .ok (.aload_n 0, 1) := by decide +kernel
theorem dX0_sureValue_104 : decode cX0_sureValue 104 = .ok (.getfield 19, 3) := by decide +kernel
theorem dX0_sureValue_107 : decode cX0_sureValue 107 = .ok (.iload_n 1, 1) := by decide +kernel
theorem dX0_sureValue_108 : decode cX0_sureValue 108 = .ok (.iaload, 1) := by decide +kernel
theorem dX0_sureValue_109 : decode cX0_sureValue 109 = .ok (.irem, 1) := by decide +kernel
theorem dX0_sureValue_110 : decode cX0_sureValue 110 = .ok (.ireturn, 1) := by decide +kernel
theorem dX0_setOf_0 : decode cX0_setOf 0 = .ok (.aload_n 0, 1) := by decide +kernel
theorem dX0_setOf_1 : decode cX0_setOf 1 = .ok (.iload_n 1, 1) := by decide +kernel
theorem dX0_setOf_2 : decode cX0_setOf 2 = .ok (.invokevirtual 71, 3) := by decide +kernel
theorem dX0_setOf_5 : decode cX0_setOf 5 = .ok (.ifCond .ne 22, 3) := by decide +kernel
theorem dX0_setOf_8 : decode cX0_setOf 8 = .ok (.aload_n 0, 1) := by decide +kernel
theorem dX0_setOf_9 : decode cX0_setOf 9 = .ok (.iload_n 1, 1) := by decide +kernel
theorem dX0_setOf_10 : decode cX0_setOf 10 = .ok (.invokevirtual 64, 3) := by decide +kernel
theorem dX0_setOf_13 : decode cX0_setOf 13 = .ok (.ifCond .eq 12, 3) := by decide +kernel
theorem dX0_setOf_16 : decode cX0_setOf 16 = .ok (.aload_n 0, 1) := by decide +kernel
theorem dX0_setOf_17 : decode cX0_setOf 17 = .ok (.getfield 28, 3) := by decide +kernel
theorem dX0_setOf_20 : decode cX0_setOf 20 = .ok (.iload_n 1, 1) := by decide +kernel
theorem dX0_setOf_21 : decode cX0_setOf 21 = .ok (.iaload, 1) := by decide +kernel
theorem dX0_setOf_22 : decode cX0_setOf 22 = .ok (.goto 4, 3) := by decide +kernel
theorem dX0_setOf_25 : decode cX0_setOf 25 = .ok (.iconst 0, 1) := by decide +kernel
theorem dX0_setOf_26 : decode cX0_setOf 26 = .ok (.ireturn, 1) := by decide +kernel
theorem dX0_setOf_27 : decode cX0_setOf 27 = .ok (.aload_n 0, 1) := by decide +kernel
theorem dX0_setOf_28 : decode cX0_setOf 28 = .ok (.iload_n 1, 1) := by decide +kernel
theorem dX0_setOf_29 : decode cX0_setOf 29 = .ok (.invokevirtual 74, 3) := by decide +kernel
theorem dX0_setOf_32 : decode cX0_setOf 32 = .ok (.istore_n 2, 1) := by decide +kernel
theorem dX0_setOf_33 : decode cX0_setOf 33 = .ok (.iload_n 2, 1) := by decide +kernel
theorem dX0_setOf_34 : decode cX0_setOf 34 = .ok (.iconst (-1), 1) := by decide +kernel
theorem dX0_setOf_35 : decode cX0_setOf 35 = .ok (.if_icmp .ne 7, 3) := by decide +kernel
theorem dX0_setOf_38 : decode cX0_setOf 38 = .ok (.iconst 0, 1) := by decide +kernel
theorem dX0_setOf_39 : decode cX0_setOf 39 = .ok (.goto 6, 3) := by decide +kernel
theorem dX0_setOf_42 : decode cX0_setOf 42 = .ok (.iconst 1, 1) := by decide +kernel
theorem dX0_setOf_43 : decode cX0_setOf 43 = .ok (.iload_n 2, 1) := by decide +kernel
theorem dX0_setOf_44 : decode cX0_setOf 44 = .ok (.ishl, 1) := by decide +kernel
theorem dX0_setOf_45 : decode cX0_setOf 45 = .ok (.ireturn, 1) := by decide +kernel
theorem dX0_leastValue_0 : decode cX0_leastValue 0 = .ok (.aload_n 0, 1) := by decide +kernel
theorem dX0_leastValue_1 : decode cX0_leastValue 1 = .ok (.iload_n 1, 1) := by decide +kernel
theorem dX0_leastValue_2 : decode cX0_leastValue 2 = .ok (.invokevirtual 78, 3) := by decide +kernel
theorem dX0_leastValue_5 : decode cX0_leastValue 5 = .ok (.istore_n 2, 1) := by decide +kernel
theorem dX0_leastValue_6 : decode cX0_leastValue 6 = .ok (.iconst 0, 1) := by decide +kernel
theorem dX0_leastValue_7 : decode cX0_leastValue 7 = .ok (.istore_n 3, 1) := by decide +kernel
theorem dX0_leastValue_8 : decode cX0_leastValue 8 = .ok (.iload_n 3, 1) := by decide +kernel
theorem dX0_leastValue_9 : decode cX0_leastValue 9 = .ok (.iconst 4, 1) := by decide +kernel
theorem dX0_leastValue_10 : decode cX0_leastValue 10 = .ok (.if_icmp .ge 19, 3) := by decide +kernel
theorem dX0_leastValue_13 : decode cX0_leastValue 13 = .ok (.iload_n 2, 1) := by decide +kernel
theorem dX0_leastValue_14 : decode cX0_leastValue 14 = .ok (.iload_n 3, 1) := by decide +kernel
theorem dX0_leastValue_15 : decode cX0_leastValue 15 = .ok (.ishr, 1) := by decide +kernel
theorem dX0_leastValue_16 : decode cX0_leastValue 16 = .ok (.iconst 1, 1) := by decide +kernel
theorem dX0_leastValue_17 : decode cX0_leastValue 17 = .ok (.iand, 1) := by decide +kernel
theorem dX0_leastValue_18 : decode cX0_leastValue 18 = .ok (.ifCond .eq 5, 3) := by decide +kernel
theorem dX0_leastValue_21 : decode cX0_leastValue 21 = .ok (.iload_n 3, 1) := by decide +kernel
theorem dX0_leastValue_22 : decode cX0_leastValue 22 = .ok (.ireturn, 1) := by decide +kernel
theorem dX0_leastValue_23 : decode cX0_leastValue 23 = .ok (.iinc 3 1, 3) := by decide +kernel
theorem dX0_leastValue_26 : decode cX0_leastValue 26 = .ok (.goto (-18), 3) := by decide +kernel
theorem dX0_leastValue_29 : decode cX0_leastValue 29 = .ok (.iconst (-1), 1) := by decide +kernel
theorem dX0_leastValue_30 : decode cX0_leastValue 30 = .ok (.ireturn, 1) := by decide +kernel
theorem dX0_isWanted_0 : decode cX0_isWanted 0 = .ok (.aload_n 0, 1) := by decide +kernel
theorem dX0_isWanted_1 : decode cX0_isWanted 1 = .ok (.iload_n 1, 1) := by decide +kernel
theorem dX0_isWanted_2 : decode cX0_isWanted 2 = .ok (.invokevirtual 64, 3) := by decide +kernel
theorem dX0_isWanted_5 : decode cX0_isWanted 5 = .ok (.ifCond .eq 13, 3) := by decide +kernel
theorem dX0_isWanted_8 : decode cX0_isWanted 8 = .ok (.aload_n 0, 1) := by decide +kernel
theorem dX0_isWanted_9 : decode cX0_isWanted 9 = .ok (.getfield 15, 3) := by decide +kernel
theorem dX0_isWanted_12 : decode cX0_isWanted 12 = .ok (.iload_n 1, 1) := by decide +kernel
theorem dX0_isWanted_13 : decode cX0_isWanted 13 = .ok (.iaload, 1) := by decide +kernel
theorem dX0_isWanted_14 : decode cX0_isWanted 14 = .ok (.iconst 1, 1) := by decide +kernel
theorem dX0_isWanted_15 : decode cX0_isWanted 15 = .ok (.if_icmp .ne 5, 3) := by decide +kernel
theorem dX0_isWanted_18 : decode cX0_isWanted 18 = .ok (.iconst 0, 1) := by decide +kernel
theorem dX0_isWanted_19 : decode cX0_isWanted 19 = .ok (.ireturn, 1) := by decide +kernel
theorem dX0_isWanted_20 : decode cX0_isWanted 20 = .ok (.iconst 1, 1) := by decide +kernel
theorem dX0_isWanted_21 : decode cX0_isWanted 21 = .ok (.istore_n 2, 1) := by decide +kernel
theorem dX0_isWanted_22 : decode cX0_isWanted 22 = .ok (.iconst 0, 1) := by decide +kernel
theorem dX0_isWanted_23 : decode cX0_isWanted 23 = .ok (.istore_n 3, 1) := by decide +kernel
theorem dX0_isWanted_24 : decode cX0_isWanted 24 = .ok (.iload_n 3, 1) := by decide +kernel
theorem dX0_isWanted_25 : decode cX0_isWanted 25 = .ok (.aload_n 0, 1) := by decide +kernel
theorem dX0_isWanted_26 : decode cX0_isWanted 26 = .ok (.getfield 34, 3) := by decide +kernel
theorem dX0_isWanted_29 : decode cX0_isWanted 29 = .ok (.if_icmp .ge 52, 3) := by decide +kernel
theorem dX0_isWanted_32 : decode cX0_isWanted 32 = .ok (.aload_n 0, 1) := by decide +kernel
theorem dX0_isWanted_33 : decode cX0_isWanted 33 = .ok (.getfield 37, 3) := by decide +kernel
theorem dX0_isWanted_36 : decode cX0_isWanted 36 = .ok (.iload_n 3, 1) := by decide +kernel
theorem dX0_isWanted_37 : decode cX0_isWanted 37 = .ok (.iaload, 1) := by decide +kernel
theorem dX0_isWanted_38 : decode cX0_isWanted 38 = .ok (.iconst 1, 1) := by decide +kernel
theorem dX0_isWanted_39 : decode cX0_isWanted 39 = .ok (.if_icmp .ne 36, 3) := by decide +kernel
theorem dX0_isWanted_42 : decode cX0_isWanted 42 = .ok (.aload_n 0, 1) := by decide +kernel
theorem dX0_isWanted_43 : decode cX0_isWanted 43 = .ok (.getfield 46, 3) := by decide +kernel
theorem dX0_isWanted_46 : decode cX0_isWanted 46 = .ok (.iload_n 3, 1) := by decide +kernel
theorem dX0_isWanted_47 : decode cX0_isWanted 47 = .ok (.iaload, 1) := by decide +kernel
theorem dX0_isWanted_48 : decode cX0_isWanted 48 = .ok (.iload_n 1, 1) := by decide +kernel
theorem dX0_isWanted_49 : decode cX0_isWanted 49 = .ok (.if_icmp .ne 26, 3) := by decide +kernel
theorem dX0_isWanted_52 : decode cX0_isWanted 52 = .ok (.aload_n 0, 1) := by decide +kernel
theorem dX0_isWanted_53 : decode cX0_isWanted 53 = .ok (.aload_n 0, 1) := by decide +kernel
theorem dX0_isWanted_54 : decode cX0_isWanted 54 = .ok (.getfield 40, 3) := by decide +kernel
theorem dX0_isWanted_57 : decode cX0_isWanted 57 = .ok (.iload_n 3, 1) := by decide +kernel
theorem dX0_isWanted_58 : decode cX0_isWanted 58 = .ok (.iaload, 1) := by decide +kernel
theorem dX0_isWanted_59 : decode cX0_isWanted 59 = .ok (.invokevirtual 74, 3) := by decide +kernel
theorem dX0_isWanted_62 : decode cX0_isWanted 62 = .ok (.aload_n 0, 1) := by decide +kernel
theorem dX0_isWanted_63 : decode cX0_isWanted 63 = .ok (.getfield 43, 3) := by decide +kernel
theorem dX0_isWanted_66 : decode cX0_isWanted 66 = .ok (.iload_n 3, 1) := by decide +kernel
theorem dX0_isWanted_67 : decode cX0_isWanted 67 = .ok (.iaload, 1) := by decide +kernel
theorem dX0_isWanted_68 : decode cX0_isWanted 68 = .ok (.if_icmp .ne 5, 3) := by decide +kernel
theorem dX0_isWanted_71 : decode cX0_isWanted 71 = .ok (.iconst 1, 1) := by decide +kernel
theorem dX0_isWanted_72 : decode cX0_isWanted 72 = .ok (.ireturn, 1) := by decide +kernel
theorem dX0_isWanted_73 : decode cX0_isWanted 73 = .ok (.iconst 0, 1) := by decide +kernel
theorem dX0_isWanted_74 : decode cX0_isWanted 74 = .ok (.istore_n 2, 1) := by decide +kernel
theorem dX0_isWanted_75 : decode cX0_isWanted 75 = .ok (.iinc 3 1, 3) := by decide +kernel
theorem dX0_isWanted_78 : decode cX0_isWanted 78 = .ok (.goto (-54), 3) := by decide +kernel
theorem dX0_isWanted_81 : decode cX0_isWanted 81 = .ok (.iload_n 2, 1) := by decide +kernel
theorem dX0_isWanted_82 : decode cX0_isWanted 82 = .ok (.ireturn, 1) := by decide +kernel
theorem dX0_questions_0 : decode cX0_questions 0 = .ok (.iconst 0, 1) := by decide +kernel
theorem dX0_questions_1 : decode cX0_questions 1 = .ok (.istore_n 1, 1) := by decide +kernel
theorem dX0_questions_2 : decode cX0_questions 2 = .ok (.iconst 0, 1) := by decide +kernel
theorem dX0_questions_3 : decode cX0_questions 3 = .ok (.istore_n 2, 1) := by decide +kernel
theorem dX0_questions_4 : decode cX0_questions 4 = .ok (.iload_n 2, 1) := by decide +kernel
theorem dX0_questions_5 : decode cX0_questions 5 = .ok (.aload_n 0, 1) := by decide +kernel
theorem dX0_questions_6 : decode cX0_questions 6 = .ok (.getfield 9, 3) := by decide +kernel
theorem dX0_questions_9 : decode cX0_questions 9 = .ok (.if_icmp .ge 32, 3) := by decide +kernel
theorem dX0_questions_12 : decode cX0_questions 12 = .ok (.aload_n 0, 1) := by decide +kernel
theorem dX0_questions_13 : decode cX0_questions 13 = .ok (.iload_n 2, 1) := by decide +kernel
theorem dX0_questions_14 : decode cX0_questions 14 = .ok (.invokevirtual 74, 3) := by decide +kernel
theorem dX0_questions_17 : decode cX0_questions 17 = .ok (.iconst (-1), 1) := by decide +kernel
theorem dX0_questions_18 : decode cX0_questions 18 = .ok (.if_icmp .ne 17, 3) := by decide +kernel
theorem dX0_questions_21 : decode cX0_questions 21 = .ok (.aload_n 0, 1) := by decide +kernel
theorem dX0_questions_22 : decode cX0_questions 22 = .ok (.iload_n 2, 1) := by decide +kernel
theorem dX0_questions_23 : decode cX0_questions 23 = .ok (.invokevirtual 81, 3) := by decide +kernel
theorem dX0_questions_26 : decode cX0_questions 26 = .ok (.ifCond .eq 9, 3) := by decide +kernel
theorem dX0_questions_29 : decode cX0_questions 29 = .ok (.iload_n 1, 1) := by decide +kernel
theorem dX0_questions_30 : decode cX0_questions 30 = .ok (.iconst 1, 1) := by decide +kernel
theorem dX0_questions_31 : decode cX0_questions 31 = .ok (.iload_n 2, 1) := by decide +kernel
theorem dX0_questions_32 : decode cX0_questions 32 = .ok (.ishl, 1) := by decide +kernel
theorem dX0_questions_33 : decode cX0_questions 33 = .ok (.ior, 1) := by decide +kernel
theorem dX0_questions_34 : decode cX0_questions 34 = .ok (.istore_n 1, 1) := by decide +kernel
theorem dX0_questions_35 : decode cX0_questions 35 = .ok (.iinc 2 1, 3) := by decide +kernel
theorem dX0_questions_38 : decode cX0_questions 38 = .ok (.goto (-34), 3) := by decide +kernel
theorem dX0_questions_41 : decode cX0_questions 41 = .ok (.iload_n 1, 1) := by decide +kernel
theorem dX0_questions_42 : decode cX0_questions 42 = .ok (.ireturn, 1) := by decide +kernel
theorem dX0_placeToConfirm_0 : decode cX0_placeToConfirm 0 = .ok (.aload_n 0, 1) := by decide +kernel
theorem dX0_placeToConfirm_1 : decode cX0_placeToConfirm 1 = .ok (.invokevirtual 84, 3) := by decide +kernel
theorem dX0_placeToConfirm_4 : decode cX0_placeToConfirm 4 = .ok (.istore_n 1, 1) := by decide +kernel
theorem dX0_placeToConfirm_5 : decode cX0_placeToConfirm 5 = .ok (.iconst 0, 1) := by decide +kernel
theorem dX0_placeToConfirm_6 : decode cX0_placeToConfirm 6 = .ok (.istore_n 2, 1) := by decide +kernel
theorem dX0_placeToConfirm_7 : decode cX0_placeToConfirm 7 = .ok (.iload_n 2, 1) := by decide +kernel
theorem dX0_placeToConfirm_8 : decode cX0_placeToConfirm 8 = .ok (.aload_n 0, 1) := by decide +kernel
theorem dX0_placeToConfirm_9 : decode cX0_placeToConfirm 9 = .ok (.getfield 9, 3) := by decide +kernel
theorem dX0_placeToConfirm_12 : decode cX0_placeToConfirm 12 = .ok (.if_icmp .ge 38, 3) := by decide +kernel
theorem dX0_placeToConfirm_15 : decode cX0_placeToConfirm 15 = .ok (.iload_n 1, 1) := by decide +kernel
theorem dX0_placeToConfirm_16 : decode cX0_placeToConfirm 16 = .ok (.iload_n 2, 1) := by decide +kernel
theorem dX0_placeToConfirm_17 : decode cX0_placeToConfirm 17 = .ok (.ishr, 1) := by decide +kernel
theorem dX0_placeToConfirm_18 : decode cX0_placeToConfirm 18 = .ok (.iconst 1, 1) := by decide +kernel
theorem dX0_placeToConfirm_19 : decode cX0_placeToConfirm 19 = .ok (.iand, 1) := by decide +kernel
theorem dX0_placeToConfirm_20 : decode cX0_placeToConfirm 20 = .ok (.ifCond .eq 24, 3) := by decide +kernel
theorem dX0_placeToConfirm_23 : decode cX0_placeToConfirm 23 = .ok (.aload_n 0, 1) := by decide +kernel
theorem dX0_placeToConfirm_24 : decode cX0_placeToConfirm 24 = .ok (.getfield 28, 3) := by decide +kernel
theorem dX0_placeToConfirm_27 : decode cX0_placeToConfirm 27 = .ok (.iload_n 2, 1) := by decide +kernel
theorem dX0_placeToConfirm_28 : decode cX0_placeToConfirm 28 = .ok (.iaload, 1) := by decide +kernel
theorem dX0_placeToConfirm_29 : decode cX0_placeToConfirm 29 = .ok (.ifCond .eq 15, 3) := by decide +kernel
theorem dX0_placeToConfirm_32 : decode cX0_placeToConfirm 32 = .ok (.aload_n 0, 1) := by decide +kernel
theorem dX0_placeToConfirm_33 : decode cX0_placeToConfirm 33 = .ok (.getfield 15, 3) := by decide +kernel
theorem dX0_placeToConfirm_36 : decode cX0_placeToConfirm 36 = .ok (.iload_n 2, 1) := by decide +kernel
theorem dX0_placeToConfirm_37 : decode cX0_placeToConfirm 37 = .ok (.iaload, 1) := by decide +kernel
theorem dX0_placeToConfirm_38 : decode cX0_placeToConfirm 38 = .ok (.iconst 2, 1) := by decide +kernel
theorem dX0_placeToConfirm_39 : decode cX0_placeToConfirm 39 = .ok (.if_icmp .eq 5, 3) := by decide +kernel
theorem dX0_placeToConfirm_42 : decode cX0_placeToConfirm 42 = .ok (.iload_n 2, 1) := by decide +kernel
theorem dX0_placeToConfirm_43 : decode cX0_placeToConfirm 43 = .ok (.ireturn, 1) := by decide +kernel
theorem dX0_placeToConfirm_44 : decode cX0_placeToConfirm 44 = .ok (.iinc 2 1, 3) := by decide +kernel
theorem dX0_placeToConfirm_47 : decode cX0_placeToConfirm 47 = .ok (.goto (-40), 3) := by decide +kernel
theorem dX0_placeToConfirm_50 : decode cX0_placeToConfirm 50 = .ok (.iconst (-1), 1) := by decide +kernel
theorem dX0_placeToConfirm_51 : decode cX0_placeToConfirm 51 = .ok (.ireturn, 1) := by decide +kernel
theorem dX0_firstBrokenBar_0 : decode cX0_firstBrokenBar 0 = .ok (.iconst 0, 1) := by decide +kernel
theorem dX0_firstBrokenBar_1 : decode cX0_firstBrokenBar 1 = .ok (.istore_n 1, 1) := by decide +kernel
theorem dX0_firstBrokenBar_2 : decode cX0_firstBrokenBar 2 = .ok (.iload_n 1, 1) := by decide +kernel
theorem dX0_firstBrokenBar_3 : decode cX0_firstBrokenBar 3 = .ok (.aload_n 0, 1) := by decide +kernel
theorem dX0_firstBrokenBar_4 : decode cX0_firstBrokenBar 4 = .ok (.getfield 34, 3) := by decide +kernel
theorem dX0_firstBrokenBar_7 : decode cX0_firstBrokenBar 7 = .ok (.if_icmp .ge 58, 3) := by decide +kernel
theorem dX0_firstBrokenBar_10 : decode cX0_firstBrokenBar 10 = .ok (.aload_n 0, 1) := by decide +kernel
theorem dX0_firstBrokenBar_11 : decode cX0_firstBrokenBar 11 = .ok (.getfield 37, 3) := by decide +kernel
theorem dX0_firstBrokenBar_14 : decode cX0_firstBrokenBar 14 = .ok (.iload_n 1, 1) := by decide +kernel
theorem dX0_firstBrokenBar_15 : decode cX0_firstBrokenBar 15 = .ok (.iaload, 1) := by decide +kernel
theorem dX0_firstBrokenBar_16 : decode cX0_firstBrokenBar 16 = .ok (.ifCond .ne 43, 3) := by decide +kernel
theorem dX0_firstBrokenBar_19 : decode cX0_firstBrokenBar 19 = .ok (.aload_n 0, 1) := by decide +kernel
theorem dX0_firstBrokenBar_20 : decode cX0_firstBrokenBar 20 = .ok (.aload_n 0, 1) := by decide +kernel
theorem dX0_firstBrokenBar_21 : decode cX0_firstBrokenBar 21 = .ok (.getfield 40, 3) := by decide +kernel
theorem dX0_firstBrokenBar_24 : decode cX0_firstBrokenBar 24 = .ok (.iload_n 1, 1) := by decide +kernel
theorem dX0_firstBrokenBar_25 : decode cX0_firstBrokenBar 25 = .ok (.iaload, 1) := by decide +kernel
theorem dX0_firstBrokenBar_26 : decode cX0_firstBrokenBar 26 = .ok (.invokevirtual 74, 3) := by decide +kernel
theorem dX0_firstBrokenBar_29 : decode cX0_firstBrokenBar 29 = .ok (.aload_n 0, 1) := by decide +kernel
theorem dX0_firstBrokenBar_30 : decode cX0_firstBrokenBar 30 = .ok (.getfield 43, 3) := by decide +kernel
theorem dX0_firstBrokenBar_33 : decode cX0_firstBrokenBar 33 = .ok (.iload_n 1, 1) := by decide +kernel
theorem dX0_firstBrokenBar_34 : decode cX0_firstBrokenBar 34 = .ok (.iaload, 1) := by decide +kernel
theorem dX0_firstBrokenBar_35 : decode cX0_firstBrokenBar 35 = .ok (.if_icmp .ne 24, 3) := by decide +kernel
theorem dX0_firstBrokenBar_38 : decode cX0_firstBrokenBar 38 = .ok (.aload_n 0, 1) := by decide +kernel
theorem dX0_firstBrokenBar_39 : decode cX0_firstBrokenBar 39 = .ok (.aload_n 0, 1) := by decide +kernel
theorem dX0_firstBrokenBar_40 : decode cX0_firstBrokenBar 40 = .ok (.getfield 46, 3) := by decide +kernel
theorem dX0_firstBrokenBar_43 : decode cX0_firstBrokenBar 43 = .ok (.iload_n 1, 1) := by decide +kernel
theorem dX0_firstBrokenBar_44 : decode cX0_firstBrokenBar 44 = .ok (.iaload, 1) := by decide +kernel
theorem dX0_firstBrokenBar_45 : decode cX0_firstBrokenBar 45 = .ok (.invokevirtual 74, 3) := by decide +kernel
theorem dX0_firstBrokenBar_48 : decode cX0_firstBrokenBar 48 = .ok (.aload_n 0, 1) := by decide +kernel
theorem dX0_firstBrokenBar_49 : decode cX0_firstBrokenBar 49 = .ok (.getfield 49, 3) := by decide +kernel
theorem dX0_firstBrokenBar_52 : decode cX0_firstBrokenBar 52 = .ok (.iload_n 1, 1) := by decide +kernel
theorem dX0_firstBrokenBar_53 : decode cX0_firstBrokenBar 53 = .ok (.iaload, 1) := by decide +kernel
theorem dX0_firstBrokenBar_54 : decode cX0_firstBrokenBar 54 = .ok (.if_icmp .ne 5, 3) := by decide +kernel
theorem dX0_firstBrokenBar_57 : decode cX0_firstBrokenBar 57 = .ok (.iload_n 1, 1) := by decide +kernel
theorem dX0_firstBrokenBar_58 : decode cX0_firstBrokenBar 58 = .ok (.ireturn, 1) := by decide +kernel
theorem dX0_firstBrokenBar_59 : decode cX0_firstBrokenBar 59 = .ok (.iinc 1 1, 3) := by decide +kernel
theorem dX0_firstBrokenBar_62 : decode cX0_firstBrokenBar 62 = .ok (.goto (-60), 3) := by decide +kernel
theorem dX0_firstBrokenBar_65 : decode cX0_firstBrokenBar 65 = .ok (.iconst (-1), 1) := by decide +kernel
theorem dX0_firstBrokenBar_66 : decode cX0_firstBrokenBar 66 = .ok (.ireturn, 1) := by decide +kernel
theorem dX0_put_0 : decode cX0_put 0 = .ok (.aload_n 0, 1) := by decide +kernel
theorem dX0_put_1 : decode cX0_put 1 = .ok (.iload_n 1, 1) := by decide +kernel
theorem dX0_put_2 : decode cX0_put 2 = .ok (.invokevirtual 64, 3) := by decide +kernel
theorem dX0_put_5 : decode cX0_put 5 = .ok (.ifCond .eq 17, 3) := by decide +kernel
theorem dX0_put_8 : decode cX0_put 8 = .ok (.aload_n 0, 1) := by decide +kernel
theorem dX0_put_9 : decode cX0_put 9 = .ok (.getfield 28, 3) := by decide +kernel
theorem dX0_put_12 : decode cX0_put 12 = .ok (.iload_n 1, 1) := by decide +kernel
theorem dX0_put_13 : decode cX0_put 13 = .ok (.iload_n 2, 1) := by decide +kernel
theorem dX0_put_14 : decode cX0_put 14 = .ok (.iastore, 1) := by decide +kernel
theorem dX0_put_15 : decode cX0_put 15 = .ok (.aload_n 0, 1) := by decide +kernel
theorem dX0_put_16 : decode cX0_put 16 = .ok (.getfield 31, 3) := by decide +kernel
theorem dX0_put_19 : decode cX0_put 19 = .ok (.iload_n 1, 1) := by decide +kernel
theorem dX0_put_20 : decode cX0_put 20 = .ok (.iload_n 3, 1) := by decide +kernel
theorem dX0_put_21 : decode cX0_put 21 = .ok (.iastore, 1) := by decide +kernel
theorem dX0_put_22 : decode cX0_put 22 = .ok (.return_, 1) := by decide +kernel
theorem dX0_settle_0 : decode cX0_settle 0 = .ok (.aload_n 0, 1) := by decide +kernel
theorem dX0_settle_1 : decode cX0_settle 1 = .ok (.iload_n 1, 1) := by decide +kernel
theorem dX0_settle_2 : decode cX0_settle 2 = .ok (.invokevirtual 78, 3) := by decide +kernel
theorem dX0_settle_5 : decode cX0_settle 5 = .ok (.istore 4, 2) := by decide +kernel
theorem dX0_settle_7 : decode cX0_settle 7 = .ok (.aload_n 0, 1) := by decide +kernel
theorem dX0_settle_8 : decode cX0_settle 8 = .ok (.iload_n 1, 1) := by decide +kernel
theorem dX0_settle_9 : decode cX0_settle 9 = .ok (.invokevirtual 74, 3) := by decide +kernel
theorem dX0_settle_12 : decode cX0_settle 12 = .ok (.istore 5, 2) := by decide +kernel
theorem dX0_settle_14 : decode cX0_settle 14 = .ok (.aload_n 0, 1) := by decide +kernel
theorem dX0_settle_15 : decode cX0_settle 15 = .ok (.iload_n 1, 1) := by decide +kernel
theorem dX0_settle_16 : decode cX0_settle 16 = .ok (.iload_n 2, 1) := by decide +kernel
theorem dX0_settle_17 : decode cX0_settle 17 = .ok (.iload_n 3, 1) := by decide +kernel
theorem dX0_settle_18 : decode cX0_settle 18 = .ok (.invokevirtual 88, 3) := by decide +kernel
theorem dX0_settle_21 : decode cX0_settle 21 = .ok (.aload_n 0, 1) := by decide +kernel
theorem dX0_settle_22 : decode cX0_settle 22 = .ok (.invokevirtual 92, 3) := by decide +kernel
theorem dX0_settle_25 : decode cX0_settle 25 = .ok (.istore 6, 2) := by decide +kernel
theorem dX0_settle_27 : decode cX0_settle 27 = .ok (.iload 6, 2) := by decide +kernel
theorem dX0_settle_29 : decode cX0_settle 29 = .ok (.iconst (-1), 1) := by decide +kernel
theorem dX0_settle_30 : decode cX0_settle 30 = .ok (.if_icmp .eq 12, 3) := by decide +kernel
theorem dX0_settle_33 : decode cX0_settle 33 = .ok (.aload_n 0, 1) := by decide +kernel
theorem dX0_settle_34 : decode cX0_settle 34 = .ok (.iload_n 1, 1) := by decide +kernel
theorem dX0_settle_35 : decode cX0_settle 35 = .ok (.iload 4, 2) := by decide +kernel
theorem dX0_settle_37 : decode cX0_settle 37 = .ok (.iload 5, 2) := by decide +kernel
theorem dX0_settle_39 : decode cX0_settle 39 = .ok (.invokevirtual 88, 3) := by decide +kernel
theorem dX0_settle_42 : decode cX0_settle 42 = .ok (.iload 6, 2) := by decide +kernel
theorem dX0_settle_44 : decode cX0_settle 44 = .ok (.ireturn, 1) := by decide +kernel
theorem dX0_strike_0 : decode cX0_strike 0 = .ok (.aload_n 0, 1) := by decide +kernel
theorem dX0_strike_1 : decode cX0_strike 1 = .ok (.iload_n 1, 1) := by decide +kernel
theorem dX0_strike_2 : decode cX0_strike 2 = .ok (.iload_n 2, 1) := by decide +kernel
theorem dX0_strike_3 : decode cX0_strike 3 = .ok (.invokevirtual 95, 3) := by decide +kernel
theorem dX0_strike_6 : decode cX0_strike 6 = .ok (.ifCond .eq 21, 3) := by decide +kernel
theorem dX0_strike_9 : decode cX0_strike 9 = .ok (.aload_n 0, 1) := by decide +kernel
theorem dX0_strike_10 : decode cX0_strike 10 = .ok (.iload_n 1, 1) := by decide +kernel
theorem dX0_strike_11 : decode cX0_strike 11 = .ok (.aload_n 0, 1) := by decide +kernel
theorem dX0_strike_12 : decode cX0_strike 12 = .ok (.getfield 28, 3) := by decide +kernel
theorem dX0_strike_15 : decode cX0_strike 15 = .ok (.iload_n 1, 1) := by decide +kernel
theorem dX0_strike_16 : decode cX0_strike 16 = .ok (.iaload, 1) := by decide +kernel
theorem dX0_strike_17 : decode cX0_strike 17 = .ok (.iconst 1, 1) := by decide +kernel
theorem dX0_strike_18 : decode cX0_strike 18 = .ok (.iload_n 2, 1) := by decide +kernel
theorem dX0_strike_19 : decode cX0_strike 19 = .ok (.ishl, 1) := by decide +kernel
theorem dX0_strike_20 : decode cX0_strike 20 = .ok (.iconst (-1), 1) := by decide +kernel
theorem dX0_strike_21 : decode cX0_strike 21 = .ok (.ixor, 1) := by decide +kernel
theorem dX0_strike_22 : decode cX0_strike 22 = .ok (.iand, 1) := by decide +kernel
theorem dX0_strike_23 : decode cX0_strike 23 = .ok (.iconst (-1), 1) := by decide +kernel
theorem dX0_strike_24 : decode cX0_strike 24 = .ok (.invokevirtual 88, 3) := by decide +kernel
theorem dX0_strike_27 : decode cX0_strike 27 = .ok (.return_, 1) := by decide +kernel
theorem dX0_copyTo_0 : decode cX0_copyTo 0 = .ok (.aload_n 1, 1) := by decide +kernel
theorem dX0_copyTo_1 : decode cX0_copyTo 1 = .ok (.iload_n 3, 1) := by decide +kernel
theorem dX0_copyTo_2 : decode cX0_copyTo 2 = .ok (.invokestatic 99, 3) := by decide +kernel
theorem dX0_copyTo_5 : decode cX0_copyTo 5 = .ok (.ifCond .eq 33, 3) := by decide +kernel
theorem dX0_copyTo_8 : decode cX0_copyTo 8 = .ok (.aload_n 2, 1) := by decide +kernel
theorem dX0_copyTo_9 : decode cX0_copyTo 9 = .ok (.iload_n 3, 1) := by decide +kernel
theorem dX0_copyTo_10 : decode cX0_copyTo 10 = .ok (.invokestatic 99, 3) := by decide +kernel
theorem dX0_copyTo_13 : decode cX0_copyTo 13 = .ok (.ifCond .eq 25, 3) := by decide +kernel
theorem dX0_copyTo_16 : decode cX0_copyTo 16 = .ok (.aload_n 0, 1) := by decide +kernel
theorem dX0_copyTo_17 : decode cX0_copyTo 17 = .ok (.getfield 28, 3) := by decide +kernel
theorem dX0_copyTo_20 : decode cX0_copyTo 20 = .ok (.iconst 0, 1) := by decide +kernel
theorem dX0_copyTo_21 : decode cX0_copyTo 21 = .ok (.aload_n 1, 1) := by decide +kernel
theorem dX0_copyTo_22 : decode cX0_copyTo 22 = .ok (.iload_n 3, 1) := by decide +kernel
theorem dX0_copyTo_23 : decode cX0_copyTo 23 = .ok (.iconst 5, 1) := by decide +kernel
theorem dX0_copyTo_24 : decode cX0_copyTo 24 = .ok (.invokestatic 103, 3) := by decide +kernel
theorem dX0_copyTo_27 : decode cX0_copyTo 27 = .ok (.aload_n 0, 1) := by decide +kernel
theorem dX0_copyTo_28 : decode cX0_copyTo 28 = .ok (.getfield 31, 3) := by decide +kernel
theorem dX0_copyTo_31 : decode cX0_copyTo 31 = .ok (.iconst 0, 1) := by decide +kernel
theorem dX0_copyTo_32 : decode cX0_copyTo 32 = .ok (.aload_n 2, 1) := by decide +kernel
theorem dX0_copyTo_33 : decode cX0_copyTo 33 = .ok (.iload_n 3, 1) := by decide +kernel
theorem dX0_copyTo_34 : decode cX0_copyTo 34 = .ok (.iconst 5, 1) := by decide +kernel
theorem dX0_copyTo_35 : decode cX0_copyTo 35 = .ok (.invokestatic 103, 3) := by decide +kernel
theorem dX0_copyTo_38 : decode cX0_copyTo 38 = .ok (.return_, 1) := by decide +kernel
theorem dX0_copyFrom_0 : decode cX0_copyFrom 0 = .ok (.aload_n 1, 1) := by decide +kernel
theorem dX0_copyFrom_1 : decode cX0_copyFrom 1 = .ok (.iload_n 3, 1) := by decide +kernel
theorem dX0_copyFrom_2 : decode cX0_copyFrom 2 = .ok (.invokestatic 99, 3) := by decide +kernel
theorem dX0_copyFrom_5 : decode cX0_copyFrom 5 = .ok (.ifCond .eq 33, 3) := by decide +kernel
theorem dX0_copyFrom_8 : decode cX0_copyFrom 8 = .ok (.aload_n 2, 1) := by decide +kernel
theorem dX0_copyFrom_9 : decode cX0_copyFrom 9 = .ok (.iload_n 3, 1) := by decide +kernel
theorem dX0_copyFrom_10 : decode cX0_copyFrom 10 = .ok (.invokestatic 99, 3) := by decide +kernel
theorem dX0_copyFrom_13 : decode cX0_copyFrom 13 = .ok (.ifCond .eq 25, 3) := by decide +kernel
theorem dX0_copyFrom_16 : decode cX0_copyFrom 16 = .ok (.aload_n 1, 1) := by decide +kernel
theorem dX0_copyFrom_17 : decode cX0_copyFrom 17 = .ok (.iload_n 3, 1) := by decide +kernel
theorem dX0_copyFrom_18 : decode cX0_copyFrom 18 = .ok (.aload_n 0, 1) := by decide +kernel
theorem dX0_copyFrom_19 : decode cX0_copyFrom 19 = .ok (.getfield 28, 3) := by decide +kernel
theorem dX0_copyFrom_22 : decode cX0_copyFrom 22 = .ok (.iconst 0, 1) := by decide +kernel
theorem dX0_copyFrom_23 : decode cX0_copyFrom 23 = .ok (.iconst 5, 1) := by decide +kernel
theorem dX0_copyFrom_24 : decode cX0_copyFrom 24 = .ok (.invokestatic 103, 3) := by decide +kernel
theorem dX0_copyFrom_27 : decode cX0_copyFrom 27 = .ok (.aload_n 2, 1) := by decide +kernel
theorem dX0_copyFrom_28 : decode cX0_copyFrom 28 = .ok (.iload_n 3, 1) := by decide +kernel
theorem dX0_copyFrom_29 : decode cX0_copyFrom 29 = .ok (.aload_n 0, 1) := by decide +kernel
theorem dX0_copyFrom_30 : decode cX0_copyFrom 30 = .ok (.getfield 31, 3) := by decide +kernel
theorem dX0_copyFrom_33 : decode cX0_copyFrom 33 = .ok (.iconst 0, 1) := by decide +kernel
theorem dX0_copyFrom_34 : decode cX0_copyFrom 34 = .ok (.iconst 5, 1) := by decide +kernel
theorem dX0_copyFrom_35 : decode cX0_copyFrom 35 = .ok (.invokestatic 103, 3) := by decide +kernel
theorem dX0_copyFrom_38 : decode cX0_copyFrom 38 = .ok (.return_, 1) := by decide +kernel
theorem dX0_holdsForm_0 : decode cX0_holdsForm 0 = .ok (.aload_n 0, 1) := by decide +kernel
theorem dX0_holdsForm_1 : decode cX0_holdsForm 1 = .ok (.ifnull 19, 3) := by decide +kernel
theorem dX0_holdsForm_4 : decode cX0_holdsForm 4 = .ok (.iload_n 1, 1) := by decide +kernel
theorem dX0_holdsForm_5 : decode cX0_holdsForm 5 = .ok (.ifCond .lt 15, 3) := by decide +kernel
theorem dX0_holdsForm_8 : decode cX0_holdsForm 8 = .ok (.iload_n 1, 1) := by decide +kernel
theorem dX0_holdsForm_9 : decode cX0_holdsForm 9 = .ok (.aload_n 0, 1) := by decide +kernel
theorem dX0_holdsForm_10 : decode cX0_holdsForm 10 = .ok (.arraylength, 1) := by decide +kernel
theorem dX0_holdsForm_11 : decode cX0_holdsForm 11 = .ok (.iconst 5, 1) := by decide +kernel
theorem dX0_holdsForm_12 : decode cX0_holdsForm 12 = .ok (.isub, 1) := by decide +kernel
theorem dX0_holdsForm_13 : decode cX0_holdsForm 13 = .ok (.if_icmp .gt 7, 3) := by decide +kernel
theorem dX0_holdsForm_16 : decode cX0_holdsForm 16 = .ok (.iconst 1, 1) := by decide +kernel
theorem dX0_holdsForm_17 : decode cX0_holdsForm 17 = .ok (.goto 4, 3) := by decide +kernel
theorem dX0_holdsForm_20 : decode cX0_holdsForm 20 = .ok (.iconst 0, 1) := by decide +kernel
theorem dX0_holdsForm_21 : decode cX0_holdsForm 21 = .ok (.ireturn, 1) := by decide +kernel
theorem dX1_init_0 : decode cX1_init 0 = .ok (.aload_n 0, 1) := by decide +kernel
theorem dX1_init_1 : decode cX1_init 1 = .ok (.invokespecial 3, 3) := by decide +kernel
theorem dX1_init_4 : decode cX1_init 4 = .ok (.aload_n 0, 1) := by decide +kernel
theorem dX1_init_5 : decode cX1_init 5 = .ok (.sipush 150, 3) := by decide +kernel
theorem dX1_init_8 : decode cX1_init 8 = .ok (.newarray .int, 2) := by decide +kernel
theorem dX1_init_10 : decode cX1_init 10 = .ok (.putfield 11, 3) := by decide +kernel
theorem dX1_init_13 : decode cX1_init 13 = .ok (.aload_n 0, 1) := by decide +kernel
theorem dX1_init_14 : decode cX1_init 14 = .ok (.sipush 150, 3) := by decide +kernel
theorem dX1_init_17 : decode cX1_init 17 = .ok (.newarray .int, 2) := by decide +kernel
theorem dX1_init_19 : decode cX1_init 19 = .ok (.putfield 15, 3) := by decide +kernel
theorem dX1_init_22 : decode cX1_init 22 = .ok (.aload_n 0, 1) := by decide +kernel
theorem dX1_init_23 : decode cX1_init 23 = .ok (.iconst 0, 1) := by decide +kernel
theorem dX1_init_24 : decode cX1_init 24 = .ok (.putfield 18, 3) := by decide +kernel
theorem dX1_init_27 : decode cX1_init 27 = .ok (.aload_n 0, 1) := by decide +kernel
theorem dX1_init_28 : decode cX1_init 28 = .ok (.iconst 0, 1) := by decide +kernel
theorem dX1_init_29 : decode cX1_init 29 = .ok (.putfield 22, 3) := by decide +kernel
theorem dX1_init_32 : decode cX1_init 32 = .ok (.aload_n 0, 1) := by decide +kernel
theorem dX1_init_33 : decode cX1_init 33 = .ok (.getfield 15, 3) := by decide +kernel
theorem dX1_init_36 : decode cX1_init 36 = .ok (.iconst (-1), 1) := by decide +kernel
theorem dX1_init_37 : decode cX1_init 37 = .ok (.invokestatic 25, 3) := by decide +kernel
theorem dX1_init_40 : decode cX1_init 40 = .ok (.return_, 1) := by decide +kernel
theorem dX1_size_0 : decode cX1_size 0 = .ok (.aload_n 0, 1) := by decide +kernel
theorem dX1_size_1 : decode cX1_size 1 = .ok (.getfield 22, 3) := by decide +kernel
theorem dX1_size_4 : decode cX1_size 4 = .ok (.ireturn, 1) := by decide +kernel
theorem dX1_clear_0 : decode cX1_clear 0 = .ok (.aload_n 0, 1) := by decide +kernel
theorem dX1_clear_1 : decode cX1_clear 1 = .ok (.iconst 0, 1) := by decide +kernel
theorem dX1_clear_2 : decode cX1_clear 2 = .ok (.putfield 22, 3) := by decide +kernel
theorem dX1_clear_5 : decode cX1_clear 5 = .ok (.return_, 1) := by decide +kernel
theorem dX1_keep_0 : decode cX1_keep 0 = .ok (.iconst 0, 1) := by decide +kernel
theorem dX1_keep_1 : decode cX1_keep 1 = .ok (.istore_n 2, 1) := by decide +kernel
theorem dX1_keep_2 : decode cX1_keep 2 = .ok (.iload_n 2, 1) := by decide +kernel
theorem dX1_keep_3 : decode cX1_keep 3 = .ok (.aload_n 1, 1) := by decide +kernel
theorem dX1_keep_4 : decode cX1_keep 4 = .ok (.arraylength, 1) := by decide +kernel
theorem dX1_keep_5 : decode cX1_keep 5 = .ok (.if_icmp .ge 45, 3) := by decide +kernel
theorem dX1_keep_8 : decode cX1_keep 8 = .ok (.iload_n 2, 1) := by decide +kernel
theorem dX1_keep_9 : decode cX1_keep 9 = .ok (.iconst 3, 1) := by decide +kernel
theorem dX1_keep_10 : decode cX1_keep 10 = .ok (.if_icmp .ge 40, 3) := by decide +kernel
theorem dX1_keep_13 : decode cX1_keep 13 = .ok (.aload_n 1, 1) := by decide +kernel
theorem dX1_keep_14 : decode cX1_keep 14 = .ok (.iload_n 2, 1) := by decide +kernel
theorem dX1_keep_15 : decode cX1_keep 15 = .ok (.aaload, 1) := by decide +kernel
theorem dX1_keep_16 : decode cX1_keep 16 = .ok (.ifnull 28, 3) := by decide +kernel
theorem dX1_keep_19 : decode cX1_keep 19 = .ok (.aload_n 1, 1) := by decide +kernel
theorem dX1_keep_20 : decode cX1_keep 20 = .ok (.iload_n 2, 1) := by decide +kernel
theorem dX1_keep_21 : decode cX1_keep 21 = .ok (.aaload, 1) := by decide +kernel
theorem dX1_keep_22 : decode cX1_keep 22 = .ok (.aload_n 0, 1) := by decide +kernel
theorem dX1_keep_23 : decode cX1_keep 23 = .ok (.getfield 11, 3) := by decide +kernel
theorem dX1_keep_26 : decode cX1_keep 26 = .ok (.aload_n 0, 1) := by decide +kernel
theorem dX1_keep_27 : decode cX1_keep 27 = .ok (.getfield 15, 3) := by decide +kernel
theorem dX1_keep_30 : decode cX1_keep 30 = .ok (.aload_n 0, 1) := by decide +kernel
theorem dX1_keep_31 : decode cX1_keep 31 = .ok (.getfield 18, 3) := by decide +kernel
theorem dX1_keep_34 : decode cX1_keep 34 = .ok (.bipush 15, 2) := by decide +kernel
theorem dX1_keep_36 : decode cX1_keep 36 = .ok (.imul, 1) := by decide +kernel
theorem dX1_keep_37 : decode cX1_keep 37 = .ok (.iload_n 2, 1) := by decide +kernel
theorem dX1_keep_38 : decode cX1_keep 38 = .ok (.iconst 5, 1) := by decide +kernel
theorem dX1_keep_39 : decode cX1_keep 39 = .ok (.imul, 1) := by decide +kernel
theorem dX1_keep_40 : decode cX1_keep 40 = .ok (.iadd, 1) := by decide +kernel
theorem dX1_keep_41 : decode cX1_keep 41 = .ok (.invokevirtual 31, 3) := by decide +kernel
theorem dX1_keep_44 : decode cX1_keep 44 = .ok (.iinc 2 1, 3) := by decide +kernel
theorem dX1_keep_47 : decode cX1_keep 47 = .ok (.goto (-45), 3) := by decide +kernel
theorem dX1_keep_50 : decode cX1_keep 50 = .ok (.aload_n 0, 1) := by decide +kernel
theorem dX1_keep_51 : decode cX1_keep 51 = .ok (.aload_n 0, 1) := by decide +kernel
theorem dX1_keep_52 : decode cX1_keep 52 = .ok (.getfield 18, 3) := by decide +kernel
theorem dX1_keep_55 : decode cX1_keep 55 = .ok (.iconst 1, 1) := by decide +kernel
theorem dX1_keep_56 : decode cX1_keep 56 = .ok (.iadd, 1) := by decide +kernel
theorem dX1_keep_57 : decode cX1_keep 57 = .ok (.bipush 10, 2) := by decide +kernel
theorem dX1_keep_59 : decode cX1_keep 59 = .ok (.irem, 1) := by decide +kernel
theorem dX1_keep_60 : decode cX1_keep 60 = .ok (.putfield 18, 3) := by decide +kernel
theorem dX1_keep_63 : decode cX1_keep 63 = .ok (.aload_n 0, 1) := by decide +kernel
theorem dX1_keep_64 : decode cX1_keep 64 = .ok (.bipush 10, 2) := by decide +kernel
theorem dX1_keep_66 : decode cX1_keep 66 = .ok (.aload_n 0, 1) := by decide +kernel
theorem dX1_keep_67 : decode cX1_keep 67 = .ok (.getfield 22, 3) := by decide +kernel
theorem dX1_keep_70 : decode cX1_keep 70 = .ok (.iconst 1, 1) := by decide +kernel
theorem dX1_keep_71 : decode cX1_keep 71 = .ok (.iadd, 1) := by decide +kernel
theorem dX1_keep_72 : decode cX1_keep 72 = .ok (.invokestatic 37, 3) := by decide +kernel
theorem dX1_keep_75 : decode cX1_keep 75 = .ok (.putfield 22, 3) := by decide +kernel
theorem dX1_keep_78 : decode cX1_keep 78 = .ok (.return_, 1) := by decide +kernel
theorem dX1_restore_0 : decode cX1_restore 0 = .ok (.aload_n 0, 1) := by decide +kernel
theorem dX1_restore_1 : decode cX1_restore 1 = .ok (.aload_n 0, 1) := by decide +kernel
theorem dX1_restore_2 : decode cX1_restore 2 = .ok (.getfield 18, 3) := by decide +kernel
theorem dX1_restore_5 : decode cX1_restore 5 = .ok (.bipush 10, 2) := by decide +kernel
theorem dX1_restore_7 : decode cX1_restore 7 = .ok (.iadd, 1) := by decide +kernel
theorem dX1_restore_8 : decode cX1_restore 8 = .ok (.iconst 1, 1) := by decide +kernel
theorem dX1_restore_9 : decode cX1_restore 9 = .ok (.isub, 1) := by decide +kernel
theorem dX1_restore_10 : decode cX1_restore 10 = .ok (.bipush 10, 2) := by decide +kernel
theorem dX1_restore_12 : decode cX1_restore 12 = .ok (.irem, 1) := by decide +kernel
theorem dX1_restore_13 : decode cX1_restore 13 = .ok (.putfield 18, 3) := by decide +kernel
theorem dX1_restore_16 : decode cX1_restore 16 = .ok (.aload_n 0, 1) := by decide +kernel
theorem dX1_restore_17 : decode cX1_restore 17 = .ok (.iconst 0, 1) := by decide +kernel
theorem dX1_restore_18 : decode cX1_restore 18 = .ok (.aload_n 0, 1) := by decide +kernel
theorem dX1_restore_19 : decode cX1_restore 19 = .ok (.getfield 22, 3) := by decide +kernel
theorem dX1_restore_22 : decode cX1_restore 22 = .ok (.iconst 1, 1) := by decide +kernel
theorem dX1_restore_23 : decode cX1_restore 23 = .ok (.isub, 1) := by decide +kernel
theorem dX1_restore_24 : decode cX1_restore 24 = .ok (.invokestatic 43, 3) := by decide +kernel
theorem dX1_restore_27 : decode cX1_restore 27 = .ok (.putfield 22, 3) := by decide +kernel
theorem dX1_restore_30 : decode cX1_restore 30 = .ok (.iconst 0, 1) := by decide +kernel
theorem dX1_restore_31 : decode cX1_restore 31 = .ok (.istore_n 2, 1) := by decide +kernel
theorem dX1_restore_32 : decode cX1_restore 32 = .ok (.iload_n 2, 1) := by decide +kernel
theorem dX1_restore_33 : decode cX1_restore 33 = .ok (.aload_n 1, 1) := by decide +kernel
theorem dX1_restore_34 : decode cX1_restore 34 = .ok (.arraylength, 1) := by decide +kernel
theorem dX1_restore_35 : decode cX1_restore 35 = .ok (.if_icmp .ge 45, 3) := by decide +kernel
theorem dX1_restore_38 : decode cX1_restore 38 = .ok (.iload_n 2, 1) := by decide +kernel
theorem dX1_restore_39 : decode cX1_restore 39 = .ok (.iconst 3, 1) := by decide +kernel
theorem dX1_restore_40 : decode cX1_restore 40 = .ok (.if_icmp .ge 40, 3) := by decide +kernel
theorem dX1_restore_43 : decode cX1_restore 43 = .ok (.aload_n 1, 1) := by decide +kernel
theorem dX1_restore_44 : decode cX1_restore 44 = .ok (.iload_n 2, 1) := by decide +kernel
theorem dX1_restore_45 : decode cX1_restore 45 = .ok (.aaload, 1) := by decide +kernel
theorem dX1_restore_46 : decode cX1_restore 46 = .ok (.ifnull 28, 3) := by decide +kernel
theorem dX1_restore_49 : decode cX1_restore 49 = .ok (.aload_n 1, 1) := by decide +kernel
theorem dX1_restore_50 : decode cX1_restore 50 = .ok (.iload_n 2, 1) := by decide +kernel
theorem dX1_restore_51 : decode cX1_restore 51 = .ok (.aaload, 1) := by decide +kernel
theorem dX1_restore_52 : decode cX1_restore 52 = .ok (.aload_n 0, 1) := by decide +kernel
theorem dX1_restore_53 : decode cX1_restore 53 = .ok (.getfield 11, 3) := by decide +kernel
theorem dX1_restore_56 : decode cX1_restore 56 = .ok (.aload_n 0, 1) := by decide +kernel
theorem dX1_restore_57 : decode cX1_restore 57 = .ok (.getfield 15, 3) := by decide +kernel
theorem dX1_restore_60 : decode cX1_restore 60 = .ok (.aload_n 0, 1) := by decide +kernel
theorem dX1_restore_61 : decode cX1_restore 61 = .ok (.getfield 18, 3) := by decide +kernel
theorem dX1_restore_64 : decode cX1_restore 64 = .ok (.bipush 15, 2) := by decide +kernel
theorem dX1_restore_66 : decode cX1_restore 66 = .ok (.imul, 1) := by decide +kernel
theorem dX1_restore_67 : decode cX1_restore 67 = .ok (.iload_n 2, 1) := by decide +kernel
theorem dX1_restore_68 : decode cX1_restore 68 = .ok (.iconst 5, 1) := by decide +kernel
theorem dX1_restore_69 : decode cX1_restore 69 = .ok (.imul, 1) := by decide +kernel
theorem dX1_restore_70 : decode cX1_restore 70 = .ok (.iadd, 1) := by decide +kernel
theorem dX1_restore_71 : decode cX1_restore 71 = .ok (.invokevirtual 46, 3) := by decide +kernel
theorem dX1_restore_74 : decode cX1_restore 74 = .ok (.iinc 2 1, 3) := by decide +kernel
theorem dX1_restore_77 : decode cX1_restore 77 = .ok (.goto (-45), 3) := by decide +kernel
theorem dX1_restore_80 : decode cX1_restore 80 = .ok (.return_, 1) := by decide +kernel
theorem dX2_init_0 : decode cX2_init 0 = .ok (.aload_n 0, 1) := by decide +kernel
theorem dX2_init_1 : decode cX2_init 1 = .ok (.invokespecial 3, 3) := by decide +kernel
theorem dX2_init_4 : decode cX2_init 4 = .ok (.aload_n 0, 1) := by decide +kernel
theorem dX2_init_5 : decode cX2_init 5 = .ok (.sipush 3125, 3) := by decide +kernel
theorem dX2_init_8 : decode cX2_init 8 = .ok (.newarray .int, 2) := by decide +kernel
theorem dX2_init_10 : decode cX2_init 10 = .ok (.putfield 11, 3) := by decide +kernel
theorem dX2_init_13 : decode cX2_init 13 = .ok (.aload_n 0, 1) := by decide +kernel
theorem dX2_init_14 : decode cX2_init 14 = .ok (.iconst 5, 1) := by decide +kernel
theorem dX2_init_15 : decode cX2_init 15 = .ok (.newarray .int, 2) := by decide +kernel
theorem dX2_init_17 : decode cX2_init 17 = .ok (.putfield 15, 3) := by decide +kernel
theorem dX2_init_20 : decode cX2_init 20 = .ok (.return_, 1) := by decide +kernel
theorem dX2_fewestQuestions_0 : decode cX2_fewestQuestions 0 = .ok (.aload_n 0, 1) := by decide +kernel
theorem dX2_fewestQuestions_1 : decode cX2_fewestQuestions 1 = .ok (.aload_n 1, 1) := by decide +kernel
theorem dX2_fewestQuestions_2 : decode cX2_fewestQuestions 2 = .ok (.invokevirtual 18, 3) := by decide +kernel
theorem dX2_fewestQuestions_5 : decode cX2_fewestQuestions 5 = .ok (.aload_n 0, 1) := by decide +kernel
theorem dX2_fewestQuestions_6 : decode cX2_fewestQuestions 6 = .ok (.aload_n 1, 1) := by decide +kernel
theorem dX2_fewestQuestions_7 : decode cX2_fewestQuestions 7 = .ok (.iconst 0, 1) := by decide +kernel
theorem dX2_fewestQuestions_8 : decode cX2_fewestQuestions 8 = .ok (.iconst 0, 1) := by decide +kernel
theorem dX2_fewestQuestions_9 : decode cX2_fewestQuestions 9 = .ok (.invokevirtual 22, 3) := by decide +kernel
theorem dX2_fewestQuestions_12 : decode cX2_fewestQuestions 12 = .ok (.ireturn, 1) := by decide +kernel
theorem dX2_placeToAsk_0 : decode cX2_placeToAsk 0 = .ok (.aload_n 0, 1) := by decide +kernel
theorem dX2_placeToAsk_1 : decode cX2_placeToAsk 1 = .ok (.aload_n 1, 1) := by decide +kernel
theorem dX2_placeToAsk_2 : decode cX2_placeToAsk 2 = .ok (.invokevirtual 18, 3) := by decide +kernel
theorem dX2_placeToAsk_5 : decode cX2_placeToAsk 5 = .ok (.aload_n 1, 1) := by decide +kernel
theorem dX2_placeToAsk_6 : decode cX2_placeToAsk 6 = .ok (.invokevirtual 26, 3) := by decide +kernel
theorem dX2_placeToAsk_9 : decode cX2_placeToAsk 9 = .ok (.istore_n 2, 1) := by decide +kernel
theorem dX2_placeToAsk_10 : decode cX2_placeToAsk 10 = .ok (.iconst (-1), 1) := by decide +kernel
theorem dX2_placeToAsk_11 : decode cX2_placeToAsk 11 = .ok (.istore_n 3, 1) := by decide +kernel
theorem dX2_placeToAsk_12 : decode cX2_placeToAsk 12 = .ok (.iconst 0, 1) := by decide +kernel
theorem dX2_placeToAsk_13 : decode cX2_placeToAsk 13 = .ok (.istore 4, 2) := by decide +kernel
theorem dX2_placeToAsk_15 : decode cX2_placeToAsk 15 = .ok (.iconst 0, 1) := by decide +kernel
theorem dX2_placeToAsk_16 : decode cX2_placeToAsk 16 = .ok (.istore 5, 2) := by decide +kernel
theorem dX2_placeToAsk_18 : decode cX2_placeToAsk 18 = .ok (.iload 5, 2) := by decide +kernel
theorem dX2_placeToAsk_20 : decode cX2_placeToAsk 20 = .ok (.iconst 5, 1) := by decide +kernel
theorem dX2_placeToAsk_21 : decode cX2_placeToAsk 21 = .ok (.if_icmp .ge 48, 3) := by decide +kernel
theorem dX2_placeToAsk_24 : decode cX2_placeToAsk 24 = .ok (.iload_n 2, 1) := by decide +kernel
theorem dX2_placeToAsk_25 : decode cX2_placeToAsk 25 = .ok (.iload 5, 2) := by decide +kernel
theorem dX2_placeToAsk_27 : decode cX2_placeToAsk 27 = .ok (.ishr, 1) := by decide +kernel
theorem dX2_placeToAsk_28 : decode cX2_placeToAsk 28 = .ok (.iconst 1, 1) := by decide +kernel
theorem dX2_placeToAsk_29 : decode cX2_placeToAsk 29 = .ok (.iand, 1) := by decide +kernel
theorem dX2_placeToAsk_30 : decode cX2_placeToAsk 30 = .ok (.ifCond .eq 33, 3) := by decide +kernel
theorem dX2_placeToAsk_33 : decode cX2_placeToAsk 33 = .ok (.aload_n 0, 1) := by decide +kernel
theorem dX2_placeToAsk_34 : decode cX2_placeToAsk 34 = .ok (.aload_n 1, 1) := by decide +kernel
theorem dX2_placeToAsk_35 : decode cX2_placeToAsk 35 = .ok (.iload 5, 2) := by decide +kernel
theorem dX2_placeToAsk_37 : decode cX2_placeToAsk 37 = .ok (.iconst 0, 1) := by decide +kernel
theorem dX2_placeToAsk_38 : decode cX2_placeToAsk 38 = .ok (.iconst 0, 1) := by decide +kernel
theorem dX2_placeToAsk_39 : decode cX2_placeToAsk 39 = .ok (.invokevirtual 32, 3) := by decide +kernel
theorem dX2_placeToAsk_42 : decode cX2_placeToAsk 42 = .ok (.istore 6, 2) := by decide +kernel
theorem dX2_placeToAsk_44 : decode cX2_placeToAsk 44 = .ok (.iload_n 3, 1) := by decide +kernel
theorem dX2_placeToAsk_45 : decode cX2_placeToAsk 45 = .ok (.iconst (-1), 1) := by decide +kernel
theorem dX2_placeToAsk_46 : decode cX2_placeToAsk 46 = .ok (.if_icmp .eq 10, 3) := by decide +kernel
theorem dX2_placeToAsk_49 : decode cX2_placeToAsk 49 = .ok (.iload 6, 2) := by decide +kernel
theorem dX2_placeToAsk_51 : decode cX2_placeToAsk 51 = .ok (.iload 4, 2) := by decide +kernel
theorem dX2_placeToAsk_53 : decode cX2_placeToAsk 53 = .ok (.if_icmp .ge 10, 3) := by decide +kernel
theorem dX2_placeToAsk_56 : decode cX2_placeToAsk 56 = .ok (.iload 5, 2) := by decide +kernel
theorem dX2_placeToAsk_58 : decode cX2_placeToAsk 58 = .ok (.istore_n 3, 1) := by decide +kernel
theorem dX2_placeToAsk_59 : decode cX2_placeToAsk 59 = .ok (.iload 6, 2) := by decide +kernel
theorem dX2_placeToAsk_61 : decode cX2_placeToAsk 61 = .ok (.istore 4, 2) := by decide +kernel
theorem dX2_placeToAsk_63 : decode cX2_placeToAsk 63 = .ok (.iinc 5 1, 3) := by decide +kernel
theorem dX2_placeToAsk_66 : decode cX2_placeToAsk 66 = .ok (.goto (-48), 3) := by decide +kernel
theorem dX2_placeToAsk_69 : decode cX2_placeToAsk 69 = .ok (.iload_n 3, 1) := by decide +kernel
theorem dX2_placeToAsk_70 : decode cX2_placeToAsk 70 = .ok (.ireturn, 1) := by decide +kernel
theorem dX2_startFrom_0 : decode cX2_startFrom 0 = .ok (.iconst 1, 1) := by decide +kernel
theorem dX2_startFrom_1 : decode cX2_startFrom 1 = .ok (.istore_n 2, 1) := by decide +kernel
theorem dX2_startFrom_2 : decode cX2_startFrom 2 = .ok (.iconst 0, 1) := by decide +kernel
theorem dX2_startFrom_3 : decode cX2_startFrom 3 = .ok (.istore_n 3, 1) := by decide +kernel
theorem dX2_startFrom_4 : decode cX2_startFrom 4 = .ok (.iload_n 3, 1) := by decide +kernel
theorem dX2_startFrom_5 : decode cX2_startFrom 5 = .ok (.iconst 5, 1) := by decide +kernel
theorem dX2_startFrom_6 : decode cX2_startFrom 6 = .ok (.if_icmp .ge 51, 3) := by decide +kernel
theorem dX2_startFrom_9 : decode cX2_startFrom 9 = .ok (.aload_n 0, 1) := by decide +kernel
theorem dX2_startFrom_10 : decode cX2_startFrom 10 = .ok (.getfield 15, 3) := by decide +kernel
theorem dX2_startFrom_13 : decode cX2_startFrom 13 = .ok (.iload_n 3, 1) := by decide +kernel
theorem dX2_startFrom_14 : decode cX2_startFrom 14 = .ok (.iload_n 2, 1) := by decide +kernel
theorem dX2_startFrom_15 : decode cX2_startFrom 15 = .ok (.iastore, 1) := by decide +kernel
theorem dX2_startFrom_16 : decode cX2_startFrom 16 = .ok (.aload_n 1, 1) := by decide +kernel
theorem dX2_startFrom_17 : decode cX2_startFrom 17 = .ok (.iload_n 3, 1) := by decide +kernel
theorem dX2_startFrom_18 : decode cX2_startFrom 18 = .ok (.invokevirtual 36, 3) := by decide +kernel
theorem dX2_startFrom_21 : decode cX2_startFrom 21 = .ok (.ifCond .eq 30, 3) := by decide +kernel
theorem dX2_startFrom_24 : decode cX2_startFrom 24 = .ok (.aload_n 1, 1) := by decide +kernel
theorem dX2_startFrom_25 : decode cX2_startFrom 25 = .ok (.iload_n 3, 1) := by decide +kernel
theorem dX2_startFrom_26 : decode cX2_startFrom 26 = .ok (.invokevirtual 40, 3) := by decide +kernel
theorem dX2_startFrom_29 : decode cX2_startFrom 29 = .ok (.ifCond .ne 22, 3) := by decide +kernel
theorem dX2_startFrom_32 : decode cX2_startFrom 32 = .ok (.aload_n 1, 1) := by decide +kernel
theorem dX2_startFrom_33 : decode cX2_startFrom 33 = .ok (.iload_n 3, 1) := by decide +kernel
theorem dX2_startFrom_34 : decode cX2_startFrom 34 = .ok (.invokevirtual 43, 3) := by decide +kernel
theorem dX2_startFrom_37 : decode cX2_startFrom 37 = .ok (.iconst (-1), 1) := by decide +kernel
theorem dX2_startFrom_38 : decode cX2_startFrom 38 = .ok (.if_icmp .ne 13, 3) := by decide +kernel
theorem dX2_startFrom_41 : decode cX2_startFrom 41 = .ok (.iload_n 2, 1) := by decide +kernel
theorem dX2_startFrom_42 : decode cX2_startFrom 42 = .ok (.aload_n 1, 1) := by decide +kernel
theorem dX2_startFrom_43 : decode cX2_startFrom 43 = .ok (.iload_n 3, 1) := by decide +kernel
theorem dX2_startFrom_44 : decode cX2_startFrom 44 = .ok (.invokevirtual 47, 3) := by decide +kernel
theorem dX2_startFrom_47 : decode cX2_startFrom 47 = .ok (.iconst 1, 1) := by decide +kernel
theorem dX2_startFrom_48 : decode cX2_startFrom 48 = .ok (.iadd, 1) := by decide +kernel
theorem dX2_startFrom_49 : decode cX2_startFrom 49 = .ok (.imul, 1) := by decide +kernel
theorem dX2_startFrom_50 : decode cX2_startFrom 50 = .ok (.istore_n 2, 1) := by decide +kernel
theorem dX2_startFrom_51 : decode cX2_startFrom 51 = .ok (.iinc 3 1, 3) := by decide +kernel
theorem dX2_startFrom_54 : decode cX2_startFrom 54 = .ok (.goto (-50), 3) := by decide +kernel
theorem dX2_startFrom_57 : decode cX2_startFrom 57 = .ok (.iconst 0, 1) := by decide +kernel
theorem dX2_startFrom_58 : decode cX2_startFrom 58 = .ok (.istore_n 3, 1) := by decide +kernel
theorem dX2_startFrom_59 : decode cX2_startFrom 59 = .ok (.iload_n 3, 1) := by decide +kernel
theorem dX2_startFrom_60 : decode cX2_startFrom 60 = .ok (.iload_n 2, 1) := by decide +kernel
theorem dX2_startFrom_61 : decode cX2_startFrom 61 = .ok (.if_icmp .ge 23, 3) := by decide +kernel
theorem dX2_startFrom_64 : decode cX2_startFrom 64 = .ok (.iload_n 3, 1) := by decide +kernel
theorem dX2_startFrom_65 : decode cX2_startFrom 65 = .ok (.sipush 3125, 3) := by decide +kernel
theorem dX2_startFrom_68 : decode cX2_startFrom 68 = .ok (.if_icmp .ge 16, 3) := by decide +kernel
theorem dX2_startFrom_71 : decode cX2_startFrom 71 = .ok (.aload_n 0, 1) := by decide +kernel
theorem dX2_startFrom_72 : decode cX2_startFrom 72 = .ok (.getfield 11, 3) := by decide +kernel
theorem dX2_startFrom_75 : decode cX2_startFrom 75 = .ok (.iload_n 3, 1) := by decide +kernel
theorem dX2_startFrom_76 : decode cX2_startFrom 76 = .ok (.iconst (-1), 1) := by decide +kernel
theorem dX2_startFrom_77 : decode cX2_startFrom 77 = .ok (.iastore, 1) := by decide +kernel
theorem dX2_startFrom_78 : decode cX2_startFrom 78 = .ok (.iinc 3 1, 3) := by decide +kernel
theorem dX2_startFrom_81 : decode cX2_startFrom 81 = .ok (.goto (-22), 3) := by decide +kernel
theorem dX2_startFrom_84 : decode cX2_startFrom 84 = .ok (.return_, 1) := by decide +kernel
theorem dX2_fewest_0 : decode cX2_fewest 0 = .ok (.iload_n 2, 1) := by decide +kernel
theorem dX2_fewest_1 : decode cX2_fewest 1 = .ok (.ifCond .lt 10, 3) := by decide +kernel
theorem dX2_fewest_4 : decode cX2_fewest 4 = .ok (.iload_n 2, 1) := by decide +kernel
theorem dX2_fewest_5 : decode cX2_fewest 5 = .ok (.sipush 3125, 3) := by decide +kernel
theorem dX2_fewest_8 : decode cX2_fewest 8 = .ok (.if_icmp .lt 6, 3) := by decide +kernel
theorem dX2_fewest_11 : decode cX2_fewest 11 = .ok (.bipush 100, 2) := by decide +kernel
theorem dX2_fewest_13 : decode cX2_fewest 13 = .ok (.ireturn, 1) := by decide +kernel
theorem dX2_fewest_14 : decode cX2_fewest 14 = .ok (.aload_n 0, 1) := by decide +kernel
theorem dX2_fewest_15 : decode cX2_fewest 15 = .ok (.getfield 11, 3) := by decide +kernel
theorem dX2_fewest_18 : decode cX2_fewest 18 = .ok (.iload_n 2, 1) := by decide +kernel
theorem dX2_fewest_19 : decode cX2_fewest 19 = .ok (.iaload, 1) := by decide +kernel
theorem dX2_fewest_20 : decode cX2_fewest 20 = .ok (.iconst (-1), 1) := by decide +kernel
theorem dX2_fewest_21 : decode cX2_fewest 21 = .ok (.if_icmp .eq 10, 3) := by decide +kernel
theorem dX2_fewest_24 : decode cX2_fewest 24 = .ok (.aload_n 0, 1) := by decide +kernel
theorem dX2_fewest_25 : decode cX2_fewest 25 = .ok (.getfield 11, 3) := by decide +kernel
theorem dX2_fewest_28 : decode cX2_fewest 28 = .ok (.iload_n 2, 1) := by decide +kernel
theorem dX2_fewest_29 : decode cX2_fewest 29 = .ok (.iaload, 1) := by decide +kernel
theorem dX2_fewest_30 : decode cX2_fewest 30 = .ok (.ireturn, 1) := by decide +kernel
theorem dX2_fewest_31 : decode cX2_fewest 31 = .ok (.aload_n 1, 1) := by decide +kernel
theorem dX2_fewest_32 : decode cX2_fewest 32 = .ok (.invokevirtual 26, 3) := by decide +kernel
theorem dX2_fewest_35 : decode cX2_fewest 35 = .ok (.istore 4, 2) := by decide +kernel
theorem dX2_fewest_37 : decode cX2_fewest 37 = .ok (.iload 4, 2) := by decide +kernel
theorem dX2_fewest_39 : decode cX2_fewest 39 = .ok (.invokestatic 50, 3) := by decide +kernel
theorem dX2_fewest_42 : decode cX2_fewest 42 = .ok (.istore 5, 2) := by decide +kernel
theorem dX2_fewest_44 : decode cX2_fewest 44 = .ok (.iload 5, 2) := by decide +kernel
theorem dX2_fewest_46 : decode cX2_fewest 46 = .ok (.ifCond .ne 7, 3) := by decide +kernel
theorem dX2_fewest_49 : decode cX2_fewest 49 = .ok (.iconst 0, 1) := by decide +kernel
theorem dX2_fewest_50 : decode cX2_fewest 50 = .ok (.goto 5, 3) := by decide +kernel
theorem dX2_fewest_53 : decode cX2_fewest 53 = .ok (.bipush 100, 2) := by decide +kernel
theorem dX2_fewest_55 : decode cX2_fewest 55 = .ok (.istore 6, 2) := by decide +kernel
theorem dX2_fewest_57 : decode cX2_fewest 57 = .ok (.iconst 0, 1) := by decide +kernel
theorem dX2_fewest_58 : decode cX2_fewest 58 = .ok (.istore 7, 2) := by decide +kernel
theorem dX2_fewest_60 : decode cX2_fewest 60 = .ok (.iload 7, 2) := by decide +kernel
theorem dX2_fewest_62 : decode cX2_fewest 62 = .ok (.iconst 5, 1) := by decide +kernel
theorem dX2_fewest_63 : decode cX2_fewest 63 = .ok (.if_icmp .ge 42, 3) := by decide +kernel
theorem dX2_fewest_66 : decode cX2_fewest 66 = .ok (.iload 6, 2) := by decide +kernel
theorem dX2_fewest_68 : decode cX2_fewest 68 = .ok (.iload 5, 2) := by decide +kernel
theorem dX2_fewest_70 : decode cX2_fewest 70 = .ok (.if_icmp .le 35, 3) := by decide +kernel
theorem dX2_fewest_73 : decode cX2_fewest 73 = .ok (.iload 4, 2) := by decide +kernel
theorem dX2_fewest_75 : decode cX2_fewest 75 = .ok (.iload 7, 2) := by decide +kernel
theorem dX2_fewest_77 : decode cX2_fewest 77 = .ok (.ishr, 1) := by decide +kernel
theorem dX2_fewest_78 : decode cX2_fewest 78 = .ok (.iconst 1, 1) := by decide +kernel
theorem dX2_fewest_79 : decode cX2_fewest 79 = .ok (.iand, 1) := by decide +kernel
theorem dX2_fewest_80 : decode cX2_fewest 80 = .ok (.ifCond .eq 19, 3) := by decide +kernel
theorem dX2_fewest_83 : decode cX2_fewest 83 = .ok (.iload 6, 2) := by decide +kernel
theorem dX2_fewest_85 : decode cX2_fewest 85 = .ok (.aload_n 0, 1) := by decide +kernel
theorem dX2_fewest_86 : decode cX2_fewest 86 = .ok (.aload_n 1, 1) := by decide +kernel
theorem dX2_fewest_87 : decode cX2_fewest 87 = .ok (.iload 7, 2) := by decide +kernel
theorem dX2_fewest_89 : decode cX2_fewest 89 = .ok (.iload_n 2, 1) := by decide +kernel
theorem dX2_fewest_90 : decode cX2_fewest 90 = .ok (.iload_n 3, 1) := by decide +kernel
theorem dX2_fewest_91 : decode cX2_fewest 91 = .ok (.invokevirtual 32, 3) := by decide +kernel
theorem dX2_fewest_94 : decode cX2_fewest 94 = .ok (.invokestatic 55, 3) := by decide +kernel
theorem dX2_fewest_97 : decode cX2_fewest 97 = .ok (.istore 6, 2) := by decide +kernel
theorem dX2_fewest_99 : decode cX2_fewest 99 = .ok (.iinc 7 1, 3) := by decide +kernel
theorem dX2_fewest_102 : decode cX2_fewest 102 = .ok (.goto (-42), 3) := by decide +kernel
theorem dX2_fewest_105 : decode cX2_fewest 105 = .ok (.aload_n 0, 1) := by decide +kernel
theorem dX2_fewest_106 : decode cX2_fewest 106 = .ok (.getfield 11, 3) := by decide +kernel
theorem dX2_fewest_109 : decode cX2_fewest 109 = .ok (.iload_n 2, 1) := by decide +kernel
theorem dX2_fewest_110 : decode cX2_fewest 110 = .ok (.iload 6, 2) := by decide +kernel
theorem dX2_fewest_112 : decode cX2_fewest 112 = .ok (.iastore, 1) := by decide +kernel
theorem dX2_fewest_113 : decode cX2_fewest 113 = .ok (.iload 6, 2) := by decide +kernel
theorem dX2_fewest_115 : decode cX2_fewest 115 = .ok (.ireturn, 1) := by decide +kernel
theorem dX2_fewestBy_0 : decode cX2_fewestBy 0 = .ok (.iload 4, 2) := by decide +kernel
theorem dX2_fewestBy_2 : decode cX2_fewestBy 2 = .ok (.iconst 5, 1) := by decide +kernel
theorem dX2_fewestBy_3 : decode cX2_fewestBy 3 = .ok (.if_icmp .ge 12, 3) := by decide +kernel
theorem dX2_fewestBy_6 : decode cX2_fewestBy 6 = .ok (.iload_n 2, 1) := by decide +kernel
theorem dX2_fewestBy_7 : decode cX2_fewestBy 7 = .ok (.ifCond .lt 8, 3) := by decide +kernel
theorem dX2_fewestBy_10 : decode cX2_fewestBy 10 = .ok (.iload_n 2, 1) := by decide +kernel
theorem dX2_fewestBy_11 : decode cX2_fewestBy 11 = .ok (.iconst 5, 1) := by decide +kernel
theorem dX2_fewestBy_12 : decode cX2_fewestBy 12 = .ok (.if_icmp .lt 6, 3) := by decide +kernel
theorem dX2_fewestBy_15 : decode cX2_fewestBy 15 = .ok (.bipush 100, 2) := by decide +kernel
theorem dX2_fewestBy_17 : decode cX2_fewestBy 17 = .ok (.ireturn, 1) := by decide +kernel
theorem dX2_fewestBy_18 : decode cX2_fewestBy 18 = .ok (.aload_n 1, 1) := by decide +kernel
theorem dX2_fewestBy_19 : decode cX2_fewestBy 19 = .ok (.iload_n 2, 1) := by decide +kernel
theorem dX2_fewestBy_20 : decode cX2_fewestBy 20 = .ok (.invokevirtual 61, 3) := by decide +kernel
theorem dX2_fewestBy_23 : decode cX2_fewestBy 23 = .ok (.istore 5, 2) := by decide +kernel
theorem dX2_fewestBy_25 : decode cX2_fewestBy 25 = .ok (.iconst (-1), 1) := by decide +kernel
theorem dX2_fewestBy_26 : decode cX2_fewestBy 26 = .ok (.istore 6, 2) := by decide +kernel
theorem dX2_fewestBy_28 : decode cX2_fewestBy 28 = .ok (.iconst 0, 1) := by decide +kernel
theorem dX2_fewestBy_29 : decode cX2_fewestBy 29 = .ok (.istore 7, 2) := by decide +kernel
theorem dX2_fewestBy_31 : decode cX2_fewestBy 31 = .ok (.iload 7, 2) := by decide +kernel
theorem dX2_fewestBy_33 : decode cX2_fewestBy 33 = .ok (.aload_n 1, 1) := by decide +kernel
theorem dX2_fewestBy_34 : decode cX2_fewestBy 34 = .ok (.iload_n 2, 1) := by decide +kernel
theorem dX2_fewestBy_35 : decode cX2_fewestBy 35 = .ok (.invokevirtual 47, 3) := by decide +kernel
theorem dX2_fewestBy_38 : decode cX2_fewestBy 38 = .ok (.if_icmp .ge 68, 3) := by decide +kernel
theorem dX2_fewestBy_41 : decode cX2_fewestBy 41 = .ok (.iload 6, 2) := by decide +kernel
theorem dX2_fewestBy_43 : decode cX2_fewestBy 43 = .ok (.bipush 100, 2) := by decide +kernel
theorem dX2_fewestBy_45 : decode cX2_fewestBy 45 = .ok (.if_icmp .ge 61, 3) := by decide +kernel
theorem dX2_fewestBy_48 : decode cX2_fewestBy 48 = .ok (.aload_n 1, 1) := by decide +kernel
theorem dX2_fewestBy_49 : decode cX2_fewestBy 49 = .ok (.iload_n 2, 1) := by decide +kernel
theorem dX2_fewestBy_50 : decode cX2_fewestBy 50 = .ok (.iconst 1, 1) := by decide +kernel
theorem dX2_fewestBy_51 : decode cX2_fewestBy 51 = .ok (.iload 7, 2) := by decide +kernel
theorem dX2_fewestBy_53 : decode cX2_fewestBy 53 = .ok (.ishl, 1) := by decide +kernel
theorem dX2_fewestBy_54 : decode cX2_fewestBy 54 = .ok (.iload 7, 2) := by decide +kernel
theorem dX2_fewestBy_56 : decode cX2_fewestBy 56 = .ok (.invokevirtual 64, 3) := by decide +kernel
theorem dX2_fewestBy_59 : decode cX2_fewestBy 59 = .ok (.aload_n 1, 1) := by decide +kernel
theorem dX2_fewestBy_60 : decode cX2_fewestBy 60 = .ok (.invokevirtual 68, 3) := by decide +kernel
theorem dX2_fewestBy_63 : decode cX2_fewestBy 63 = .ok (.iconst (-1), 1) := by decide +kernel
theorem dX2_fewestBy_64 : decode cX2_fewestBy 64 = .ok (.if_icmp .ne 36, 3) := by decide +kernel
theorem dX2_fewestBy_67 : decode cX2_fewestBy 67 = .ok (.aload_n 0, 1) := by decide +kernel
theorem dX2_fewestBy_68 : decode cX2_fewestBy 68 = .ok (.aload_n 1, 1) := by decide +kernel
theorem dX2_fewestBy_69 : decode cX2_fewestBy 69 = .ok (.iload_n 3, 1) := by decide +kernel
theorem dX2_fewestBy_70 : decode cX2_fewestBy 70 = .ok (.aload_n 0, 1) := by decide +kernel
theorem dX2_fewestBy_71 : decode cX2_fewestBy 71 = .ok (.getfield 15, 3) := by decide +kernel
theorem dX2_fewestBy_74 : decode cX2_fewestBy 74 = .ok (.iload_n 2, 1) := by decide +kernel
theorem dX2_fewestBy_75 : decode cX2_fewestBy 75 = .ok (.iaload, 1) := by decide +kernel
theorem dX2_fewestBy_76 : decode cX2_fewestBy 76 = .ok (.iload 7, 2) := by decide +kernel
theorem dX2_fewestBy_78 : decode cX2_fewestBy 78 = .ok (.iconst 1, 1) := by decide +kernel
theorem dX2_fewestBy_79 : decode cX2_fewestBy 79 = .ok (.iadd, 1) := by decide +kernel
theorem dX2_fewestBy_80 : decode cX2_fewestBy 80 = .ok (.imul, 1) := by decide +kernel
theorem dX2_fewestBy_81 : decode cX2_fewestBy 81 = .ok (.iadd, 1) := by decide +kernel
theorem dX2_fewestBy_82 : decode cX2_fewestBy 82 = .ok (.iload 4, 2) := by decide +kernel
theorem dX2_fewestBy_84 : decode cX2_fewestBy 84 = .ok (.iconst 1, 1) := by decide +kernel
theorem dX2_fewestBy_85 : decode cX2_fewestBy 85 = .ok (.iadd, 1) := by decide +kernel
theorem dX2_fewestBy_86 : decode cX2_fewestBy 86 = .ok (.invokevirtual 22, 3) := by decide +kernel
theorem dX2_fewestBy_89 : decode cX2_fewestBy 89 = .ok (.istore 8, 2) := by decide +kernel
theorem dX2_fewestBy_91 : decode cX2_fewestBy 91 = .ok (.iload 6, 2) := by decide +kernel
theorem dX2_fewestBy_93 : decode cX2_fewestBy 93 = .ok (.iload 8, 2) := by decide +kernel
theorem dX2_fewestBy_95 : decode cX2_fewestBy 95 = .ok (.invokestatic 71, 3) := by decide +kernel
theorem dX2_fewestBy_98 : decode cX2_fewestBy 98 = .ok (.istore 6, 2) := by decide +kernel
theorem dX2_fewestBy_100 : decode cX2_fewestBy 100 = .ok (.iinc 7 1, 3) := by decide +kernel
theorem dX2_fewestBy_103 : decode cX2_fewestBy 103 = .ok (.goto (-72), 3) := by decide +kernel
theorem dX2_fewestBy_106 : decode cX2_fewestBy 106 = .ok (.aload_n 1, 1) := by decide +kernel
theorem dX2_fewestBy_107 : decode cX2_fewestBy 107 = .ok (.iload_n 2, 1) := by decide +kernel
theorem dX2_fewestBy_108 : decode cX2_fewestBy 108 = .ok (.iload 5, 2) := by decide +kernel
theorem dX2_fewestBy_110 : decode cX2_fewestBy 110 = .ok (.iconst (-1), 1) := by decide +kernel
theorem dX2_fewestBy_111 : decode cX2_fewestBy 111 = .ok (.invokevirtual 64, 3) := by decide +kernel
theorem dX2_fewestBy_114 : decode cX2_fewestBy 114 = .ok (.iload 6, 2) := by decide +kernel
theorem dX2_fewestBy_116 : decode cX2_fewestBy 116 = .ok (.iconst (-1), 1) := by decide +kernel
theorem dX2_fewestBy_117 : decode cX2_fewestBy 117 = .ok (.if_icmp .ne 8, 3) := by decide +kernel
theorem dX2_fewestBy_120 : decode cX2_fewestBy 120 = .ok (.bipush 100, 2) := by decide +kernel
theorem dX2_fewestBy_122 : decode cX2_fewestBy 122 = .ok (.goto 12, 3) := by decide +kernel
theorem dX2_fewestBy_125 : decode cX2_fewestBy 125 = .ok (.bipush 100, 2) := by decide +kernel
theorem dX2_fewestBy_127 : decode cX2_fewestBy 127 = .ok (.iload 6, 2) := by decide +kernel
theorem dX2_fewestBy_129 : decode cX2_fewestBy 129 = .ok (.iconst 1, 1) := by decide +kernel
theorem dX2_fewestBy_130 : decode cX2_fewestBy 130 = .ok (.iadd, 1) := by decide +kernel
theorem dX2_fewestBy_131 : decode cX2_fewestBy 131 = .ok (.invokestatic 55, 3) := by decide +kernel
theorem dX2_fewestBy_134 : decode cX2_fewestBy 134 = .ok (.ireturn, 1) := by decide +kernel
theorem dJ6_bitCount_0f7a4_0 : decode cJ6_bitCount_0f7a4 0 = .ok (.iload_n 0, 1) := by decide +kernel
theorem dJ6_bitCount_0f7a4_1 : decode cJ6_bitCount_0f7a4 1 = .ok (.iload_n 0, 1) := by decide +kernel
theorem dJ6_bitCount_0f7a4_2 : decode cJ6_bitCount_0f7a4 2 = .ok (.iconst 1, 1) := by decide +kernel
theorem dJ6_bitCount_0f7a4_3 : decode cJ6_bitCount_0f7a4 3 = .ok (.iushr, 1) := by decide +kernel
theorem dJ6_bitCount_0f7a4_4 : decode cJ6_bitCount_0f7a4 4 = .ok (.ldc_w 265, 3) := by decide +kernel
theorem dJ6_bitCount_0f7a4_7 : decode cJ6_bitCount_0f7a4 7 = .ok (.iand, 1) := by decide +kernel
theorem dJ6_bitCount_0f7a4_8 : decode cJ6_bitCount_0f7a4 8 = .ok (.isub, 1) := by decide +kernel
theorem dJ6_bitCount_0f7a4_9 : decode cJ6_bitCount_0f7a4 9 = .ok (.istore_n 0, 1) := by decide +kernel
theorem dJ6_bitCount_0f7a4_10 : decode cJ6_bitCount_0f7a4 10 = .ok (.iload_n 0, 1) := by decide +kernel
theorem dJ6_bitCount_0f7a4_11 : decode cJ6_bitCount_0f7a4 11 = .ok (.ldc_w 266, 3) := by decide +kernel
theorem dJ6_bitCount_0f7a4_14 : decode cJ6_bitCount_0f7a4 14 = .ok (.iand, 1) := by decide +kernel
theorem dJ6_bitCount_0f7a4_15 : decode cJ6_bitCount_0f7a4 15 = .ok (.iload_n 0, 1) := by decide +kernel
theorem dJ6_bitCount_0f7a4_16 : decode cJ6_bitCount_0f7a4 16 = .ok (.iconst 2, 1) := by decide +kernel
theorem dJ6_bitCount_0f7a4_17 : decode cJ6_bitCount_0f7a4 17 = .ok (.iushr, 1) := by decide +kernel
theorem dJ6_bitCount_0f7a4_18 : decode cJ6_bitCount_0f7a4 18 = .ok (.ldc_w 266, 3) := by decide +kernel
theorem dJ6_bitCount_0f7a4_21 : decode cJ6_bitCount_0f7a4 21 = .ok (.iand, 1) := by decide +kernel
theorem dJ6_bitCount_0f7a4_22 : decode cJ6_bitCount_0f7a4 22 = .ok (.iadd, 1) := by decide +kernel
theorem dJ6_bitCount_0f7a4_23 : decode cJ6_bitCount_0f7a4 23 = .ok (.istore_n 0, 1) := by decide +kernel
theorem dJ6_bitCount_0f7a4_24 : decode cJ6_bitCount_0f7a4 24 = .ok (.iload_n 0, 1) := by decide +kernel
theorem dJ6_bitCount_0f7a4_25 : decode cJ6_bitCount_0f7a4 25 = .ok (.iload_n 0, 1) := by decide +kernel
theorem dJ6_bitCount_0f7a4_26 : decode cJ6_bitCount_0f7a4 26 = .ok (.iconst 4, 1) := by decide +kernel
theorem dJ6_bitCount_0f7a4_27 : decode cJ6_bitCount_0f7a4 27 = .ok (.iushr, 1) := by decide +kernel
theorem dJ6_bitCount_0f7a4_28 : decode cJ6_bitCount_0f7a4 28 = .ok (.iadd, 1) := by decide +kernel
theorem dJ6_bitCount_0f7a4_29 : decode cJ6_bitCount_0f7a4 29 = .ok (.ldc_w 267, 3) := by decide +kernel
theorem dJ6_bitCount_0f7a4_32 : decode cJ6_bitCount_0f7a4 32 = .ok (.iand, 1) := by decide +kernel
theorem dJ6_bitCount_0f7a4_33 : decode cJ6_bitCount_0f7a4 33 = .ok (.istore_n 0, 1) := by decide +kernel
theorem dJ6_bitCount_0f7a4_34 : decode cJ6_bitCount_0f7a4 34 = .ok (.iload_n 0, 1) := by decide +kernel
theorem dJ6_bitCount_0f7a4_35 : decode cJ6_bitCount_0f7a4 35 = .ok (.iload_n 0, 1) := by decide +kernel
theorem dJ6_bitCount_0f7a4_36 : decode cJ6_bitCount_0f7a4 36 = .ok (.bipush 8, 2) := by decide +kernel
theorem dJ6_bitCount_0f7a4_38 : decode cJ6_bitCount_0f7a4 38 = .ok (.iushr, 1) := by decide +kernel
theorem dJ6_bitCount_0f7a4_39 : decode cJ6_bitCount_0f7a4 39 = .ok (.iadd, 1) := by decide +kernel
theorem dJ6_bitCount_0f7a4_40 : decode cJ6_bitCount_0f7a4 40 = .ok (.istore_n 0, 1) := by decide +kernel
theorem dJ6_bitCount_0f7a4_41 : decode cJ6_bitCount_0f7a4 41 = .ok (.iload_n 0, 1) := by decide +kernel
theorem dJ6_bitCount_0f7a4_42 : decode cJ6_bitCount_0f7a4 42 = .ok (.iload_n 0, 1) := by decide +kernel
theorem dJ6_bitCount_0f7a4_43 : decode cJ6_bitCount_0f7a4 43 = .ok (.bipush 16, 2) := by decide +kernel
theorem dJ6_bitCount_0f7a4_45 : decode cJ6_bitCount_0f7a4 45 = .ok (.iushr, 1) := by decide +kernel
theorem dJ6_bitCount_0f7a4_46 : decode cJ6_bitCount_0f7a4 46 = .ok (.iadd, 1) := by decide +kernel
theorem dJ6_bitCount_0f7a4_47 : decode cJ6_bitCount_0f7a4 47 = .ok (.istore_n 0, 1) := by decide +kernel
theorem dJ6_bitCount_0f7a4_48 : decode cJ6_bitCount_0f7a4 48 = .ok (.iload_n 0, 1) := by decide +kernel
theorem dJ6_bitCount_0f7a4_49 : decode cJ6_bitCount_0f7a4 49 = .ok (.bipush 63, 2) := by decide +kernel
theorem dJ6_bitCount_0f7a4_51 : decode cJ6_bitCount_0f7a4 51 = .ok (.iand, 1) := by decide +kernel
theorem dJ6_bitCount_0f7a4_52 : decode cJ6_bitCount_0f7a4 52 = .ok (.ireturn, 1) := by decide +kernel
theorem dJ9_max_7cf53_0 : decode cJ9_max_7cf53 0 = .ok (.iload_n 0, 1) := by decide +kernel
theorem dJ9_max_7cf53_1 : decode cJ9_max_7cf53 1 = .ok (.iload_n 1, 1) := by decide +kernel
theorem dJ9_max_7cf53_2 : decode cJ9_max_7cf53 2 = .ok (.if_icmp .lt 7, 3) := by decide +kernel
theorem dJ9_max_7cf53_5 : decode cJ9_max_7cf53 5 = .ok (.iload_n 0, 1) := by decide +kernel
theorem dJ9_max_7cf53_6 : decode cJ9_max_7cf53 6 = .ok (.goto 4, 3) := by decide +kernel
theorem dJ9_max_7cf53_9 : decode cJ9_max_7cf53 9 = .ok (.iload_n 1, 1) := by decide +kernel
theorem dJ9_max_7cf53_10 : decode cJ9_max_7cf53 10 = .ok (.ireturn, 1) := by decide +kernel
theorem dJ9_min_7cf53_0 : decode cJ9_min_7cf53 0 = .ok (.iload_n 0, 1) := by decide +kernel
theorem dJ9_min_7cf53_1 : decode cJ9_min_7cf53 1 = .ok (.iload_n 1, 1) := by decide +kernel
theorem dJ9_min_7cf53_2 : decode cJ9_min_7cf53 2 = .ok (.if_icmp .gt 7, 3) := by decide +kernel
theorem dJ9_min_7cf53_5 : decode cJ9_min_7cf53 5 = .ok (.iload_n 0, 1) := by decide +kernel
theorem dJ9_min_7cf53_6 : decode cJ9_min_7cf53 6 = .ok (.goto 4, 3) := by decide +kernel
theorem dJ9_min_7cf53_9 : decode cJ9_min_7cf53 9 = .ok (.iload_n 1, 1) := by decide +kernel
theorem dJ9_min_7cf53_10 : decode cJ9_min_7cf53 10 = .ok (.ireturn, 1) := by decide +kernel
theorem dJ7_fill_53178_0 : decode cJ7_fill_53178 0 = .ok (.iconst 0, 1) := by decide +kernel
theorem dJ7_fill_53178_1 : decode cJ7_fill_53178 1 = .ok (.istore_n 2, 1) := by decide +kernel
theorem dJ7_fill_53178_2 : decode cJ7_fill_53178 2 = .ok (.aload_n 0, 1) := by decide +kernel
theorem dJ7_fill_53178_3 : decode cJ7_fill_53178 3 = .ok (.arraylength, 1) := by decide +kernel
theorem dJ7_fill_53178_4 : decode cJ7_fill_53178 4 = .ok (.istore_n 3, 1) := by decide +kernel
theorem dJ7_fill_53178_5 : decode cJ7_fill_53178 5 = .ok (.iload_n 2, 1) := by decide +kernel
theorem dJ7_fill_53178_6 : decode cJ7_fill_53178 6 = .ok (.iload_n 3, 1) := by decide +kernel
theorem dJ7_fill_53178_7 : decode cJ7_fill_53178 7 = .ok (.if_icmp .ge 13, 3) := by decide +kernel
theorem dJ7_fill_53178_10 : decode cJ7_fill_53178 10 = .ok (.aload_n 0, 1) := by decide +kernel
theorem dJ7_fill_53178_11 : decode cJ7_fill_53178 11 = .ok (.iload_n 2, 1) := by decide +kernel
theorem dJ7_fill_53178_12 : decode cJ7_fill_53178 12 = .ok (.iload_n 1, 1) := by decide +kernel
theorem dJ7_fill_53178_13 : decode cJ7_fill_53178 13 = .ok (.iastore, 1) := by decide +kernel
theorem dJ7_fill_53178_14 : decode cJ7_fill_53178 14 = .ok (.iinc 2 1, 3) := by decide +kernel
theorem dJ7_fill_53178_17 : decode cJ7_fill_53178 17 = .ok (.goto (-12), 3) := by decide +kernel
theorem dJ7_fill_53178_20 : decode cJ7_fill_53178 20 = .ok (.return_, 1) := by decide +kernel
