theorem dX3_init_0 : decode cX3_init 0 = .ok (.aload_n 0, 1) := by decide +kernel
theorem dX3_init_1 : decode cX3_init 1 = .ok (.invokespecial 5, 3) := by decide +kernel
theorem dX3_init_4 : decode cX3_init 4 = .ok (.aload_n 0, 1) := by decide +kernel
theorem dX3_init_5 : decode cX3_init 5 = .ok (.bipush 8, 2) := by decide +kernel
theorem dX3_init_7 : decode cX3_init 7 = .ok (.newarray .int, 2) := by decide +kernel
theorem dX3_init_9 : decode cX3_init 9 = .ok (.putfield 11, 3) := by decide +kernel
theorem dX3_init_12 : decode cX3_init 12 = .ok (.aload_n 0, 1) := by decide +kernel
theorem dX3_init_13 : decode cX3_init 13 = .ok (.iconst 0, 1) := by decide +kernel
theorem dX3_init_14 : decode cX3_init 14 = .ok (.putfield 15, 3) := by decide +kernel
theorem dX3_init_17 : decode cX3_init 17 = .ok (.aload_n 0, 1) := by decide +kernel
theorem dX3_init_18 : decode cX3_init 18 = .ok (.bipush 9, 2) := by decide +kernel
theorem dX3_init_20 : decode cX3_init 20 = .ok (.newarray .int, 2) := by decide +kernel
theorem dX3_init_22 : decode cX3_init 22 = .ok (.putfield 19, 3) := by decide +kernel
theorem dX3_init_25 : decode cX3_init 25 = .ok (.aload_n 0, 1) := by decide +kernel
theorem dX3_init_26 : decode cX3_init 26 = .ok (.bipush 9, 2) := by decide +kernel
theorem dX3_init_28 : decode cX3_init 28 = .ok (.newarray .int, 2) := by decide +kernel
theorem dX3_init_30 : decode cX3_init 30 = .ok (.putfield 22, 3) := by decide +kernel
theorem dX3_init_33 : decode cX3_init 33 = .ok (.aload_n 0, 1) := by decide +kernel
theorem dX3_init_34 : decode cX3_init 34 = .ok (.bipush 9, 2) := by decide +kernel
theorem dX3_init_36 : decode cX3_init 36 = .ok (.newarray .int, 2) := by decide +kernel
theorem dX3_init_38 : decode cX3_init 38 = .ok (.putfield 25, 3) := by decide +kernel
theorem dX3_init_41 : decode cX3_init 41 = .ok (.aload_n 0, 1) := by decide +kernel
theorem dX3_init_42 : decode cX3_init 42 = .ok (.bipush 9, 2) := by decide +kernel
theorem dX3_init_44 : decode cX3_init 44 = .ok (.newarray .boolean, 2) := by decide +kernel
theorem dX3_init_46 : decode cX3_init 46 = .ok (.putfield 28, 3) := by decide +kernel
theorem dX3_init_49 : decode cX3_init 49 = .ok (.aload_n 0, 1) := by decide +kernel
theorem dX3_init_50 : decode cX3_init 50 = .ok (.bipush 45, 2) := by decide +kernel
theorem dX3_init_52 : decode cX3_init 52 = .ok (.newarray .int, 2) := by decide +kernel
theorem dX3_init_54 : decode cX3_init 54 = .ok (.putfield 32, 3) := by decide +kernel
theorem dX3_init_57 : decode cX3_init 57 = .ok (.aload_n 0, 1) := by decide +kernel
theorem dX3_init_58 : decode cX3_init 58 = .ok (.iconst (-1), 1) := by decide +kernel
theorem dX3_init_59 : decode cX3_init 59 = .ok (.putfield 35, 3) := by decide +kernel
theorem dX3_init_62 : decode cX3_init 62 = .ok (.return_, 1) := by decide +kernel
theorem dX3_leastCost_0 : decode cX3_leastCost 0 = .ok (.aload_n 0, 1) := by decide +kernel
theorem dX3_leastCost_1 : decode cX3_leastCost 1 = .ok (.getfield 19, 3) := by decide +kernel
theorem dX3_leastCost_4 : decode cX3_leastCost 4 = .ok (.iconst 0, 1) := by decide +kernel
theorem dX3_leastCost_5 : decode cX3_leastCost 5 = .ok (.iaload, 1) := by decide +kernel
theorem dX3_leastCost_6 : decode cX3_leastCost 6 = .ok (.ireturn, 1) := by decide +kernel
theorem dX3_isHeard_0 : decode cX3_isHeard 0 = .ok (.aload_n 0, 1) := by decide +kernel
theorem dX3_isHeard_1 : decode cX3_isHeard 1 = .ok (.getfield 28, 3) := by decide +kernel
theorem dX3_isHeard_4 : decode cX3_isHeard 4 = .ok (.iconst 0, 1) := by decide +kernel
theorem dX3_isHeard_5 : decode cX3_isHeard 5 = .ok (.baload, 1) := by decide +kernel
theorem dX3_isHeard_6 : decode cX3_isHeard 6 = .ok (.ireturn, 1) := by decide +kernel
theorem dX3_mostPassed_0 : decode cX3_mostPassed 0 = .ok (.aload_n 0, 1) := by decide +kernel
theorem dX3_mostPassed_1 : decode cX3_mostPassed 1 = .ok (.getfield 25, 3) := by decide +kernel
theorem dX3_mostPassed_4 : decode cX3_mostPassed 4 = .ok (.iconst 0, 1) := by decide +kernel
theorem dX3_mostPassed_5 : decode cX3_mostPassed 5 = .ok (.iaload, 1) := by decide +kernel
theorem dX3_mostPassed_6 : decode cX3_mostPassed 6 = .ok (.ireturn, 1) := by decide +kernel
theorem dX3_leastReadings_0 : decode cX3_leastReadings 0 = .ok (.aload_n 0, 1) := by decide +kernel
theorem dX3_leastReadings_1 : decode cX3_leastReadings 1 = .ok (.getfield 22, 3) := by decide +kernel
theorem dX3_leastReadings_4 : decode cX3_leastReadings 4 = .ok (.iconst 0, 1) := by decide +kernel
theorem dX3_leastReadings_5 : decode cX3_leastReadings 5 = .ok (.iaload, 1) := by decide +kernel
theorem dX3_leastReadings_6 : decode cX3_leastReadings 6 = .ok (.ireturn, 1) := by decide +kernel
theorem dX3_answer_0 : decode cX3_answer 0 = .ok (.aload_n 0, 1) := by decide +kernel
theorem dX3_answer_1 : decode cX3_answer 1 = .ok (.getfield 35, 3) := by decide +kernel
theorem dX3_answer_4 : decode cX3_answer 4 = .ok (.ireturn, 1) := by decide +kernel
theorem dX3_valuesFor_0 : decode cX3_valuesFor 0 = .ok (.iload_n 1, 1) := by decide +kernel
theorem dX3_valuesFor_1 : decode cX3_valuesFor 1 = .ok (.ifCond .lt 20, 3) := by decide +kernel
theorem dX3_valuesFor_4 : decode cX3_valuesFor 4 = .ok (.iload_n 1, 1) := by decide +kernel
theorem dX3_valuesFor_5 : decode cX3_valuesFor 5 = .ok (.iconst 5, 1) := by decide +kernel
theorem dX3_valuesFor_6 : decode cX3_valuesFor 6 = .ok (.if_icmp .ge 15, 3) := by decide +kernel
theorem dX3_valuesFor_9 : decode cX3_valuesFor 9 = .ok (.aload_n 0, 1) := by decide +kernel
theorem dX3_valuesFor_10 : decode cX3_valuesFor 10 = .ok (.getfield 32, 3) := by decide +kernel
theorem dX3_valuesFor_13 : decode cX3_valuesFor 13 = .ok (.iload_n 1, 1) := by decide +kernel
theorem dX3_valuesFor_14 : decode cX3_valuesFor 14 = .ok (.iaload, 1) := by decide +kernel
theorem dX3_valuesFor_15 : decode cX3_valuesFor 15 = .ok (.bipush 15, 2) := by decide +kernel
theorem dX3_valuesFor_17 : decode cX3_valuesFor 17 = .ok (.iand, 1) := by decide +kernel
theorem dX3_valuesFor_18 : decode cX3_valuesFor 18 = .ok (.goto 4, 3) := by decide +kernel
theorem dX3_valuesFor_21 : decode cX3_valuesFor 21 = .ok (.iconst 0, 1) := by decide +kernel
theorem dX3_valuesFor_22 : decode cX3_valuesFor 22 = .ok (.ireturn, 1) := by decide +kernel
theorem dX3_mayLeave_0 : decode cX3_mayLeave 0 = .ok (.iload_n 1, 1) := by decide +kernel
theorem dX3_mayLeave_1 : decode cX3_mayLeave 1 = .ok (.ifCond .lt 24, 3) := by decide +kernel
theorem dX3_mayLeave_4 : decode cX3_mayLeave 4 = .ok (.iload_n 1, 1) := by decide +kernel
theorem dX3_mayLeave_5 : decode cX3_mayLeave 5 = .ok (.iconst 5, 1) := by decide +kernel
theorem dX3_mayLeave_6 : decode cX3_mayLeave 6 = .ok (.if_icmp .ge 19, 3) := by decide +kernel
theorem dX3_mayLeave_9 : decode cX3_mayLeave 9 = .ok (.aload_n 0, 1) := by decide +kernel
theorem dX3_mayLeave_10 : decode cX3_mayLeave 10 = .ok (.getfield 32, 3) := by decide +kernel
theorem dX3_mayLeave_13 : decode cX3_mayLeave 13 = .ok (.iload_n 1, 1) := by decide +kernel
theorem dX3_mayLeave_14 : decode cX3_mayLeave 14 = .ok (.iaload, 1) := by decide +kernel
theorem dX3_mayLeave_15 : decode cX3_mayLeave 15 = .ok (.bipush 16, 2) := by decide +kernel
theorem dX3_mayLeave_17 : decode cX3_mayLeave 17 = .ok (.iand, 1) := by decide +kernel
theorem dX3_mayLeave_18 : decode cX3_mayLeave 18 = .ok (.ifCond .eq 7, 3) := by decide +kernel
theorem dX3_mayLeave_21 : decode cX3_mayLeave 21 = .ok (.iconst 1, 1) := by decide +kernel
theorem dX3_mayLeave_22 : decode cX3_mayLeave 22 = .ok (.goto 4, 3) := by decide +kernel
theorem dX3_mayLeave_25 : decode cX3_mayLeave 25 = .ok (.iconst 0, 1) := by decide +kernel
theorem dX3_mayLeave_26 : decode cX3_mayLeave 26 = .ok (.ireturn, 1) := by decide +kernel
theorem dX3_read_0 : decode cX3_read 0 = .ok (.aload_n 0, 1) := by decide +kernel
theorem dX3_read_1 : decode cX3_read 1 = .ok (.iload 5, 2) := by decide +kernel
theorem dX3_read_3 : decode cX3_read 3 = .ok (.aload 4, 2) := by decide +kernel
theorem dX3_read_5 : decode cX3_read 5 = .ok (.arraylength, 1) := by decide +kernel
theorem dX3_read_6 : decode cX3_read 6 = .ok (.bipush 8, 2) := by decide +kernel
theorem dX3_read_8 : decode cX3_read 8 = .ok (.invokestatic 38, 3) := by decide +kernel
theorem dX3_read_11 : decode cX3_read 11 = .ok (.invokestatic 38, 3) := by decide +kernel
theorem dX3_read_14 : decode cX3_read 14 = .ok (.putfield 15, 3) := by decide +kernel
theorem dX3_read_17 : decode cX3_read 17 = .ok (.iconst 0, 1) := by decide +kernel
theorem dX3_read_18 : decode cX3_read 18 = .ok (.istore 6, 2) := by decide +kernel
theorem dX3_read_20 : decode cX3_read 20 = .ok (.iload 6, 2) := by decide +kernel
theorem dX3_read_22 : decode cX3_read 22 = .ok (.aload_n 0, 1) := by decide +kernel
theorem dX3_read_23 : decode cX3_read 23 = .ok (.getfield 15, 3) := by decide +kernel
theorem dX3_read_26 : decode cX3_read 26 = .ok (.if_icmp .ge 21, 3) := by decide +kernel
theorem dX3_read_29 : decode cX3_read 29 = .ok (.aload_n 0, 1) := by decide +kernel
theorem dX3_read_30 : decode cX3_read 30 = .ok (.getfield 11, 3) := by decide +kernel
theorem dX3_read_33 : decode cX3_read 33 = .ok (.iload 6, 2) := by decide +kernel
theorem dX3_read_35 : decode cX3_read 35 = .ok (.aload 4, 2) := by decide +kernel
theorem dX3_read_37 : decode cX3_read 37 = .ok (.iload 6, 2) := by decide +kernel
theorem dX3_read_39 : decode cX3_read 39 = .ok (.iaload, 1) := by decide +kernel
theorem dX3_read_40 : decode cX3_read 40 = .ok (.iastore, 1) := by decide +kernel
theorem dX3_read_41 : decode cX3_read 41 = .ok (.iinc 6 1, 3) := by decide +kernel
theorem dX3_read_44 : decode cX3_read 44 = .ok (.goto (-24), 3) := by decide +kernel
theorem dX3_read_47 : decode cX3_read 47 = .ok (.aload_n 0, 1) := by decide +kernel
theorem dX3_read_48 : decode cX3_read 48 = .ok (.invokevirtual 44, 3) := by decide +kernel
theorem dX3_read_51 : decode cX3_read 51 = .ok (.aload_n 0, 1) := by decide +kernel
theorem dX3_read_52 : decode cX3_read 52 = .ok (.getfield 15, 3) := by decide +kernel
theorem dX3_read_55 : decode cX3_read 55 = .ok (.iconst 1, 1) := by decide +kernel
theorem dX3_read_56 : decode cX3_read 56 = .ok (.isub, 1) := by decide +kernel
theorem dX3_read_57 : decode cX3_read 57 = .ok (.istore 6, 2) := by decide +kernel
theorem dX3_read_59 : decode cX3_read 59 = .ok (.iload 6, 2) := by decide +kernel
theorem dX3_read_61 : decode cX3_read 61 = .ok (.ifCond .lt 66, 3) := by decide +kernel
theorem dX3_read_64 : decode cX3_read 64 = .ok (.aload_n 0, 1) := by decide +kernel
theorem dX3_read_65 : decode cX3_read 65 = .ok (.iload 6, 2) := by decide +kernel
theorem dX3_read_67 : decode cX3_read 67 = .ok (.invokevirtual 47, 3) := by decide +kernel
theorem dX3_read_70 : decode cX3_read 70 = .ok (.iconst 0, 1) := by decide +kernel
theorem dX3_read_71 : decode cX3_read 71 = .ok (.istore 7, 2) := by decide +kernel
theorem dX3_read_73 : decode cX3_read 73 = .ok (.iload 7, 2) := by decide +kernel
theorem dX3_read_75 : decode cX3_read 75 = .ok (.aload_n 3, 1) := by decide +kernel
theorem dX3_read_76 : decode cX3_read 76 = .ok (.invokevirtual 51, 3) := by decide +kernel
theorem dX3_read_79 : decode cX3_read 79 = .ok (.if_icmp .ge 42, 3) := by decide +kernel
theorem dX3_read_82 : decode cX3_read 82 = .ok (.aload_n 3, 1) := by decide +kernel
theorem dX3_read_83 : decode cX3_read 83 = .ok (.iload 7, 2) := by decide +kernel
theorem dX3_read_85 : decode cX3_read 85 = .ok (.iload_n 2, 1) := by decide +kernel
theorem dX3_read_86 : decode cX3_read 86 = .ok (.invokevirtual 57, 3) := by decide +kernel
theorem dX3_read_89 : decode cX3_read 89 = .ok (.ifCond .eq 26, 3) := by decide +kernel
theorem dX3_read_92 : decode cX3_read 92 = .ok (.aload_n 0, 1) := by decide +kernel
theorem dX3_read_93 : decode cX3_read 93 = .ok (.aload_n 1, 1) := by decide +kernel
theorem dX3_read_94 : decode cX3_read 94 = .ok (.aload_n 3, 1) := by decide +kernel
theorem dX3_read_95 : decode cX3_read 95 = .ok (.iload 7, 2) := by decide +kernel
theorem dX3_read_97 : decode cX3_read 97 = .ok (.iload 6, 2) := by decide +kernel
theorem dX3_read_99 : decode cX3_read 99 = .ok (.invokevirtual 61, 3) := by decide +kernel
theorem dX3_read_102 : decode cX3_read 102 = .ok (.ifCond .eq 13, 3) := by decide +kernel
theorem dX3_read_105 : decode cX3_read 105 = .ok (.aload_n 0, 1) := by decide +kernel
theorem dX3_read_106 : decode cX3_read 106 = .ok (.aload_n 1, 1) := by decide +kernel
theorem dX3_read_107 : decode cX3_read 107 = .ok (.aload_n 3, 1) := by decide +kernel
theorem dX3_read_108 : decode cX3_read 108 = .ok (.iload 7, 2) := by decide +kernel
theorem dX3_read_110 : decode cX3_read 110 = .ok (.iload 6, 2) := by decide +kernel
theorem dX3_read_112 : decode cX3_read 112 = .ok (.invokevirtual 65, 3) := by decide +kernel
theorem dX3_read_115 : decode cX3_read 115 = .ok (.iinc 7 1, 3) := by decide +kernel
theorem dX3_read_118 : decode cX3_read 118 = .ok (.goto (-45), 3) := by decide +kernel
theorem dX3_read_121 : decode cX3_read 121 = .ok (.iinc 6 (-1), 3) := by decide +kernel
theorem dX3_read_124 : decode cX3_read 124 = .ok (.goto (-65), 3) := by decide +kernel
theorem dX3_read_127 : decode cX3_read 127 = .ok (.aload_n 0, 1) := by decide +kernel
theorem dX3_read_128 : decode cX3_read 128 = .ok (.aload_n 0, 1) := by decide +kernel
theorem dX3_read_129 : decode cX3_read 129 = .ok (.aload_n 1, 1) := by decide +kernel
theorem dX3_read_130 : decode cX3_read 130 = .ok (.iload_n 2, 1) := by decide +kernel
theorem dX3_read_131 : decode cX3_read 131 = .ok (.aload_n 3, 1) := by decide +kernel
theorem dX3_read_132 : decode cX3_read 132 = .ok (.invokevirtual 69, 3) := by decide +kernel
theorem dX3_read_135 : decode cX3_read 135 = .ok (.putfield 35, 3) := by decide +kernel
theorem dX3_read_138 : decode cX3_read 138 = .ok (.return_, 1) := by decide +kernel
theorem dX3_startAtEnd_0 : decode cX3_startAtEnd 0 = .ok (.aload_n 0, 1) := by decide +kernel
theorem dX3_startAtEnd_1 : decode cX3_startAtEnd 1 = .ok (.getfield 19, 3) := by decide +kernel
theorem dX3_startAtEnd_4 : decode cX3_startAtEnd 4 = .ok (.aload_n 0, 1) := by decide +kernel
theorem dX3_startAtEnd_5 : decode cX3_startAtEnd 5 = .ok (.getfield 15, 3) := by decide +kernel
theorem dX3_startAtEnd_8 : decode cX3_startAtEnd 8 = .ok (.iconst 0, 1) := by decide +kernel
theorem dX3_startAtEnd_9 : decode cX3_startAtEnd 9 = .ok (.iastore, 1) := by decide +kernel
theorem dX3_startAtEnd_10 : decode cX3_startAtEnd 10 = .ok (.aload_n 0, 1) := by decide +kernel
theorem dX3_startAtEnd_11 : decode cX3_startAtEnd 11 = .ok (.getfield 22, 3) := by decide +kernel
theorem dX3_startAtEnd_14 : decode cX3_startAtEnd 14 = .ok (.aload_n 0, 1) := by decide +kernel
theorem dX3_startAtEnd_15 : decode cX3_startAtEnd 15 = .ok (.getfield 15, 3) := by decide +kernel
theorem dX3_startAtEnd_18 : decode cX3_startAtEnd 18 = .ok (.iconst 1, 1) := by decide +kernel
theorem dX3_startAtEnd_19 : decode cX3_startAtEnd 19 = .ok (.iastore, 1) := by decide +kernel
theorem dX3_startAtEnd_20 : decode cX3_startAtEnd 20 = .ok (.aload_n 0, 1) := by decide +kernel
theorem dX3_startAtEnd_21 : decode cX3_startAtEnd 21 = .ok (.getfield 25, 3) := by decide +kernel
theorem dX3_startAtEnd_24 : decode cX3_startAtEnd 24 = .ok (.aload_n 0, 1) := by decide +kernel
theorem dX3_startAtEnd_25 : decode cX3_startAtEnd 25 = .ok (.getfield 15, 3) := by decide +kernel
theorem dX3_startAtEnd_28 : decode cX3_startAtEnd 28 = .ok (.iconst 0, 1) := by decide +kernel
theorem dX3_startAtEnd_29 : decode cX3_startAtEnd 29 = .ok (.iastore, 1) := by decide +kernel
theorem dX3_startAtEnd_30 : decode cX3_startAtEnd 30 = .ok (.aload_n 0, 1) := by decide +kernel
theorem dX3_startAtEnd_31 : decode cX3_startAtEnd 31 = .ok (.getfield 28, 3) := by decide +kernel
theorem dX3_startAtEnd_34 : decode cX3_startAtEnd 34 = .ok (.aload_n 0, 1) := by decide +kernel
theorem dX3_startAtEnd_35 : decode cX3_startAtEnd 35 = .ok (.getfield 15, 3) := by decide +kernel
theorem dX3_startAtEnd_38 : decode cX3_startAtEnd 38 = .ok (.iconst 0, 1) := by decide +kernel
theorem dX3_startAtEnd_39 : decode cX3_startAtEnd 39 = .ok (.bastore, 1) := by decide +kernel
theorem dX3_startAtEnd_40 : decode cX3_startAtEnd 40 = .ok (.iconst 0, 1) := by decide +kernel
theorem dX3_startAtEnd_41 : decode cX3_startAtEnd 41 = .ok (.istore_n 1, 1) := by decide +kernel
theorem dX3_startAtEnd_42 : decode cX3_startAtEnd 42 = .ok (.iload_n 1, 1) := by decide +kernel
theorem dX3_startAtEnd_43 : decode cX3_startAtEnd 43 = .ok (.iconst 5, 1) := by decide +kernel
theorem dX3_startAtEnd_44 : decode cX3_startAtEnd 44 = .ok (.if_icmp .ge 24, 3) := by decide +kernel
theorem dX3_startAtEnd_47 : decode cX3_startAtEnd 47 = .ok (.aload_n 0, 1) := by decide +kernel
theorem dX3_startAtEnd_48 : decode cX3_startAtEnd 48 = .ok (.getfield 32, 3) := by decide +kernel
theorem dX3_startAtEnd_51 : decode cX3_startAtEnd 51 = .ok (.aload_n 0, 1) := by decide +kernel
theorem dX3_startAtEnd_52 : decode cX3_startAtEnd 52 = .ok (.getfield 15, 3) := by decide +kernel
theorem dX3_startAtEnd_55 : decode cX3_startAtEnd 55 = .ok (.iconst 5, 1) := by decide +kernel
theorem dX3_startAtEnd_56 : decode cX3_startAtEnd 56 = .ok (.imul, 1) := by decide +kernel
theorem dX3_startAtEnd_57 : decode cX3_startAtEnd 57 = .ok (.iload_n 1, 1) := by decide +kernel
theorem dX3_startAtEnd_58 : decode cX3_startAtEnd 58 = .ok (.iadd, 1) := by decide +kernel
theorem dX3_startAtEnd_59 : decode cX3_startAtEnd 59 = .ok (.bipush 16, 2) := by decide +kernel
theorem dX3_startAtEnd_61 : decode cX3_startAtEnd 61 = .ok (.iastore, 1) := by decide +kernel
theorem dX3_startAtEnd_62 : decode cX3_startAtEnd 62 = .ok (.iinc 1 1, 3) := by decide +kernel
theorem dX3_startAtEnd_65 : decode cX3_startAtEnd 65 = .ok (.goto (-23), 3) := by decide +kernel
theorem dX3_startAtEnd_68 : decode cX3_startAtEnd 68 = .ok (.return_, 1) := by decide +kernel
theorem dX3_passWord_0 : decode cX3_passWord 0 = .ok (.aload_n 0, 1) := by decide +kernel
theorem dX3_passWord_1 : decode cX3_passWord 1 = .ok (.getfield 19, 3) := by decide +kernel
theorem dX3_passWord_4 : decode cX3_passWord 4 = .ok (.iload_n 1, 1) := by decide +kernel
theorem dX3_passWord_5 : decode cX3_passWord 5 = .ok (.bipush 6, 2) := by decide +kernel
theorem dX3_passWord_7 : decode cX3_passWord 7 = .ok (.aload_n 0, 1) := by decide +kernel
theorem dX3_passWord_8 : decode cX3_passWord 8 = .ok (.getfield 19, 3) := by decide +kernel
theorem dX3_passWord_11 : decode cX3_passWord 11 = .ok (.iload_n 1, 1) := by decide +kernel
theorem dX3_passWord_12 : decode cX3_passWord 12 = .ok (.iconst 1, 1) := by decide +kernel
theorem dX3_passWord_13 : decode cX3_passWord 13 = .ok (.iadd, 1) := by decide +kernel
theorem dX3_passWord_14 : decode cX3_passWord 14 = .ok (.iaload, 1) := by decide +kernel
theorem dX3_passWord_15 : decode cX3_passWord 15 = .ok (.iadd, 1) := by decide +kernel
theorem dX3_passWord_16 : decode cX3_passWord 16 = .ok (.iastore, 1) := by decide +kernel
theorem dX3_passWord_17 : decode cX3_passWord 17 = .ok (.aload_n 0, 1) := by decide +kernel
theorem dX3_passWord_18 : decode cX3_passWord 18 = .ok (.getfield 22, 3) := by decide +kernel
theorem dX3_passWord_21 : decode cX3_passWord 21 = .ok (.iload_n 1, 1) := by decide +kernel
theorem dX3_passWord_22 : decode cX3_passWord 22 = .ok (.aload_n 0, 1) := by decide +kernel
theorem dX3_passWord_23 : decode cX3_passWord 23 = .ok (.getfield 22, 3) := by decide +kernel
theorem dX3_passWord_26 : decode cX3_passWord 26 = .ok (.iload_n 1, 1) := by decide +kernel
theorem dX3_passWord_27 : decode cX3_passWord 27 = .ok (.iconst 1, 1) := by decide +kernel
theorem dX3_passWord_28 : decode cX3_passWord 28 = .ok (.iadd, 1) := by decide +kernel
theorem dX3_passWord_29 : decode cX3_passWord 29 = .ok (.iaload, 1) := by decide +kernel
theorem dX3_passWord_30 : decode cX3_passWord 30 = .ok (.iastore, 1) := by decide +kernel
theorem dX3_passWord_31 : decode cX3_passWord 31 = .ok (.aload_n 0, 1) := by decide +kernel
theorem dX3_passWord_32 : decode cX3_passWord 32 = .ok (.getfield 25, 3) := by decide +kernel
theorem dX3_passWord_35 : decode cX3_passWord 35 = .ok (.iload_n 1, 1) := by decide +kernel
theorem dX3_passWord_36 : decode cX3_passWord 36 = .ok (.iconst 1, 1) := by decide +kernel
theorem dX3_passWord_37 : decode cX3_passWord 37 = .ok (.aload_n 0, 1) := by decide +kernel
theorem dX3_passWord_38 : decode cX3_passWord 38 = .ok (.getfield 25, 3) := by decide +kernel
theorem dX3_passWord_41 : decode cX3_passWord 41 = .ok (.iload_n 1, 1) := by decide +kernel
theorem dX3_passWord_42 : decode cX3_passWord 42 = .ok (.iconst 1, 1) := by decide +kernel
theorem dX3_passWord_43 : decode cX3_passWord 43 = .ok (.iadd, 1) := by decide +kernel
theorem dX3_passWord_44 : decode cX3_passWord 44 = .ok (.iaload, 1) := by decide +kernel
theorem dX3_passWord_45 : decode cX3_passWord 45 = .ok (.iadd, 1) := by decide +kernel
theorem dX3_passWord_46 : decode cX3_passWord 46 = .ok (.iastore, 1) := by decide +kernel
theorem dX3_passWord_47 : decode cX3_passWord 47 = .ok (.aload_n 0, 1) := by decide +kernel
theorem dX3_passWord_48 : decode cX3_passWord 48 = .ok (.getfield 28, 3) := by decide +kernel
theorem dX3_passWord_51 : decode cX3_passWord 51 = .ok (.iload_n 1, 1) := by decide +kernel
theorem dX3_passWord_52 : decode cX3_passWord 52 = .ok (.aload_n 0, 1) := by decide +kernel
theorem dX3_passWord_53 : decode cX3_passWord 53 = .ok (.getfield 28, 3) := by decide +kernel
theorem dX3_passWord_56 : decode cX3_passWord 56 = .ok (.iload_n 1, 1) := by decide +kernel
theorem dX3_passWord_57 : decode cX3_passWord 57 = .ok (.iconst 1, 1) := by decide +kernel
theorem dX3_passWord_58 : decode cX3_passWord 58 = .ok (.iadd, 1) := by decide +kernel
theorem dX3_passWord_59 : decode cX3_passWord 59 = .ok (.baload, 1) := by decide +kernel
theorem dX3_passWord_60 : decode cX3_passWord 60 = .ok (.bastore, 1) := by decide +kernel
theorem dX3_passWord_61 : decode cX3_passWord 61 = .ok (.iconst 0, 1) := by decide +kernel
theorem dX3_passWord_62 : decode cX3_passWord 62 = .ok (.istore_n 2, 1) := by decide +kernel
theorem dX3_passWord_63 : decode cX3_passWord 63 = .ok (.iload_n 2, 1) := by decide +kernel
theorem dX3_passWord_64 : decode cX3_passWord 64 = .ok (.iconst 5, 1) := by decide +kernel
theorem dX3_passWord_65 : decode cX3_passWord 65 = .ok (.if_icmp .ge 31, 3) := by decide +kernel
theorem dX3_passWord_68 : decode cX3_passWord 68 = .ok (.aload_n 0, 1) := by decide +kernel
theorem dX3_passWord_69 : decode cX3_passWord 69 = .ok (.getfield 32, 3) := by decide +kernel
theorem dX3_passWord_72 : decode cX3_passWord 72 = .ok (.iload_n 1, 1) := by decide +kernel
theorem dX3_passWord_73 : decode cX3_passWord 73 = .ok (.iconst 5, 1) := by decide +kernel
theorem dX3_passWord_74 : decode cX3_passWord 74 = .ok (.imul, 1) := by decide +kernel
theorem dX3_passWord_75 : decode cX3_passWord 75 = .ok (.iload_n 2, 1) := by decide +kernel
theorem dX3_passWord_76 : decode cX3_passWord 76 = .ok (.iadd, 1) := by decide +kernel
theorem dX3_passWord_77 : decode cX3_passWord 77 = .ok (.aload_n 0, 1) := by decide +kernel
theorem dX3_passWord_78 : decode cX3_passWord 78 = .ok (.getfield 32, 3) := by decide +kernel
theorem dX3_passWord_81 : decode cX3_passWord 81 = .ok (.iload_n 1, 1) := by decide +kernel
theorem dX3_passWord_82 : decode cX3_passWord 82 = .ok (.iconst 1, 1) := by decide +kernel
theorem dX3_passWord_83 : decode cX3_passWord 83 = .ok (.iadd, 1) := by decide +kernel
theorem dX3_passWord_84 : decode cX3_passWord 84 = .ok (.iconst 5, 1) := by decide +kernel
theorem dX3_passWord_85 : decode cX3_passWord 85 = .ok (.imul, 1) := by decide +kernel
theorem dX3_passWord_86 : decode cX3_passWord 86 = .ok (.iload_n 2, 1) := by decide +kernel
theorem dX3_passWord_87 : decode cX3_passWord 87 = .ok (.iadd, 1) := by decide +kernel
theorem dX3_passWord_88 : decode cX3_passWord 88 = .ok (.iaload, 1) := by decide +kernel
theorem dX3_passWord_89 : decode cX3_passWord 89 = .ok (.iastore, 1) := by decide +kernel
theorem dX3_passWord_90 : decode cX3_passWord 90 = .ok (.iinc 2 1, 3) := by decide +kernel
theorem dX3_passWord_93 : decode cX3_passWord 93 = .ok (.goto (-30), 3) := by decide +kernel
theorem dX3_passWord_96 : decode cX3_passWord 96 = .ok (.return_, 1) := by decide +kernel
theorem dX3_useRow_0 : decode cX3_useRow 0 = .ok (.iload 4, 2) := by decide +kernel
theorem dX3_useRow_2 : decode cX3_useRow 2 = .ok (.aload_n 2, 1) := by decide +kernel
theorem dX3_useRow_3 : decode cX3_useRow 3 = .ok (.iload_n 3, 1) := by decide +kernel
theorem dX3_useRow_4 : decode cX3_useRow 4 = .ok (.invokevirtual 73, 3) := by decide +kernel
theorem dX3_useRow_7 : decode cX3_useRow 7 = .ok (.iadd, 1) := by decide +kernel
theorem dX3_useRow_8 : decode cX3_useRow 8 = .ok (.istore 5, 2) := by decide +kernel
theorem dX3_useRow_10 : decode cX3_useRow 10 = .ok (.aload_n 2, 1) := by decide +kernel
theorem dX3_useRow_11 : decode cX3_useRow 11 = .ok (.iload_n 3, 1) := by decide +kernel
theorem dX3_useRow_12 : decode cX3_useRow 12 = .ok (.invokevirtual 77, 3) := by decide +kernel
theorem dX3_useRow_15 : decode cX3_useRow 15 = .ok (.aload_n 0, 1) := by decide +kernel
theorem dX3_useRow_16 : decode cX3_useRow 16 = .ok (.getfield 19, 3) := by decide +kernel
theorem dX3_useRow_19 : decode cX3_useRow 19 = .ok (.iload 5, 2) := by decide +kernel
theorem dX3_useRow_21 : decode cX3_useRow 21 = .ok (.iaload, 1) := by decide +kernel
theorem dX3_useRow_22 : decode cX3_useRow 22 = .ok (.iadd, 1) := by decide +kernel
theorem dX3_useRow_23 : decode cX3_useRow 23 = .ok (.istore 6, 2) := by decide +kernel
theorem dX3_useRow_25 : decode cX3_useRow 25 = .ok (.iload 6, 2) := by decide +kernel
theorem dX3_useRow_27 : decode cX3_useRow 27 = .ok (.aload_n 0, 1) := by decide +kernel
theorem dX3_useRow_28 : decode cX3_useRow 28 = .ok (.getfield 19, 3) := by decide +kernel
theorem dX3_useRow_31 : decode cX3_useRow 31 = .ok (.iload 4, 2) := by decide +kernel
theorem dX3_useRow_33 : decode cX3_useRow 33 = .ok (.iaload, 1) := by decide +kernel
theorem dX3_useRow_34 : decode cX3_useRow 34 = .ok (.if_icmp .le 4, 3) := by decide +kernel
theorem dX3_useRow_37 : decode cX3_useRow 37 = .ok (.return_, 1) := by decide +kernel
theorem dX3_useRow_38 : decode cX3_useRow 38 = .ok (.iload 6, 2) := by decide +kernel
theorem dX3_useRow_40 : decode cX3_useRow 40 = .ok (.aload_n 0, 1) := by decide +kernel
theorem dX3_useRow_41 : decode cX3_useRow 41 = .ok (.getfield 19, 3) := by decide +kernel
theorem dX3_useRow_44 : decode cX3_useRow 44 = .ok (.iload 4, 2) := by decide +kernel
theorem dX3_useRow_46 : decode cX3_useRow 46 = .ok (.iaload, 1) := by decide +kernel
theorem dX3_useRow_47 : decode cX3_useRow 47 = .ok (.if_icmp .ge 11, 3) := by decide +kernel
theorem dX3_useRow_50 : decode cX3_useRow 50 = .ok (.aload_n 0, 1) := by decide +kernel
theorem dX3_useRow_51 : decode cX3_useRow 51 = .ok (.iload 4, 2) := by decide +kernel
theorem dX3_useRow_53 : decode cX3_useRow 53 = .ok (.iload 6, 2) := by decide +kernel
theorem dX3_useRow_55 : decode cX3_useRow 55 = .ok (.invokevirtual 80, 3) := by decide +kernel
theorem dX3_useRow_58 : decode cX3_useRow 58 = .ok (.aload_n 0, 1) := by decide +kernel
theorem dX3_useRow_59 : decode cX3_useRow 59 = .ok (.getfield 22, 3) := by decide +kernel
theorem dX3_useRow_62 : decode cX3_useRow 62 = .ok (.iload 4, 2) := by decide +kernel
theorem dX3_useRow_64 : decode cX3_useRow 64 = .ok (.ldc 84, 2) := by decide +kernel
theorem dX3_useRow_66 : decode cX3_useRow 66 = .ok (.aload_n 0, 1) := by decide +kernel
theorem dX3_useRow_67 : decode cX3_useRow 67 = .ok (.getfield 22, 3) := by decide +kernel
theorem dX3_useRow_70 : decode cX3_useRow 70 = .ok (.iload 4, 2) := by decide +kernel
theorem dX3_useRow_72 : decode cX3_useRow 72 = .ok (.iaload, 1) := by decide +kernel
theorem dX3_useRow_73 : decode cX3_useRow 73 = .ok (.aload_n 0, 1) := by decide +kernel
theorem dX3_useRow_74 : decode cX3_useRow 74 = .ok (.getfield 22, 3) := by decide +kernel
theorem dX3_useRow_77 : decode cX3_useRow 77 = .ok (.iload 5, 2) := by decide +kernel
theorem dX3_useRow_79 : decode cX3_useRow 79 = .ok (.iaload, 1) := by decide +kernel
theorem dX3_useRow_80 : decode cX3_useRow 80 = .ok (.iadd, 1) := by decide +kernel
theorem dX3_useRow_81 : decode cX3_useRow 81 = .ok (.invokestatic 38, 3) := by decide +kernel
theorem dX3_useRow_84 : decode cX3_useRow 84 = .ok (.iastore, 1) := by decide +kernel
theorem dX3_useRow_85 : decode cX3_useRow 85 = .ok (.aload_n 0, 1) := by decide +kernel
theorem dX3_useRow_86 : decode cX3_useRow 86 = .ok (.getfield 25, 3) := by decide +kernel
theorem dX3_useRow_89 : decode cX3_useRow 89 = .ok (.iload 4, 2) := by decide +kernel
theorem dX3_useRow_91 : decode cX3_useRow 91 = .ok (.aload_n 0, 1) := by decide +kernel
theorem dX3_useRow_92 : decode cX3_useRow 92 = .ok (.getfield 25, 3) := by decide +kernel
theorem dX3_useRow_95 : decode cX3_useRow 95 = .ok (.iload 4, 2) := by decide +kernel
theorem dX3_useRow_97 : decode cX3_useRow 97 = .ok (.iaload, 1) := by decide +kernel
theorem dX3_useRow_98 : decode cX3_useRow 98 = .ok (.aload_n 0, 1) := by decide +kernel
theorem dX3_useRow_99 : decode cX3_useRow 99 = .ok (.getfield 25, 3) := by decide +kernel
theorem dX3_useRow_102 : decode cX3_useRow 102 = .ok (.iload 5, 2) := by decide +kernel
theorem dX3_useRow_104 : decode cX3_useRow 104 = .ok (.iaload, 1) := by decide +kernel
theorem dX3_useRow_105 : decode cX3_useRow 105 = .ok (.invokestatic 85, 3) := by decide +kernel
theorem dX3_useRow_108 : decode cX3_useRow 108 = .ok (.iastore, 1) := by decide +kernel
theorem dX3_useRow_109 : decode cX3_useRow 109 = .ok (.aload_n 0, 1) := by decide +kernel
theorem dX3_useRow_110 : decode cX3_useRow 110 = .ok (.getfield 28, 3) := by decide +kernel
theorem dX3_useRow_113 : decode cX3_useRow 113 = .ok (.iload 4, 2) := by decide +kernel
theorem dX3_useRow_115 : decode cX3_useRow 115 = .ok (.iconst 1, 1) := by decide +kernel
theorem dX3_useRow_116 : decode cX3_useRow 116 = .ok (.bastore, 1) := by decide +kernel
theorem dX3_useRow_117 : decode cX3_useRow 117 = .ok (.iconst 0, 1) := by decide +kernel
theorem dX3_useRow_118 : decode cX3_useRow 118 = .ok (.istore 7, 2) := by decide +kernel
theorem dX3_useRow_120 : decode cX3_useRow 120 = .ok (.iload 7, 2) := by decide +kernel
theorem dX3_useRow_122 : decode cX3_useRow 122 = .ok (.iconst 5, 1) := by decide +kernel
theorem dX3_useRow_123 : decode cX3_useRow 123 = .ok (.if_icmp .ge 71, 3) := by decide +kernel
theorem dX3_useRow_126 : decode cX3_useRow 126 = .ok (.aload_n 0, 1) := by decide +kernel
theorem dX3_useRow_127 : decode cX3_useRow 127 = .ok (.getfield 32, 3) := by decide +kernel
theorem dX3_useRow_130 : decode cX3_useRow 130 = .ok (.iload 5, 2) := by decide +kernel
theorem dX3_useRow_132 : decode cX3_useRow 132 = .ok (.iconst 5, 1) := by decide +kernel
theorem dX3_useRow_133 : decode cX3_useRow 133 = .ok (.imul, 1) := by decide +kernel
theorem dX3_useRow_134 : decode cX3_useRow 134 = .ok (.iload 7, 2) := by decide +kernel
theorem dX3_useRow_136 : decode cX3_useRow 136 = .ok (.iadd, 1) := by decide +kernel
theorem dX3_useRow_137 : decode cX3_useRow 137 = .ok (.iaload, 1) := by decide +kernel
theorem dX3_useRow_138 : decode cX3_useRow 138 = .ok (.istore 8, 2) := by decide +kernel
theorem dX3_useRow_140 : decode cX3_useRow 140 = .ok (.iload 8, 2) := by decide +kernel
theorem dX3_useRow_142 : decode cX3_useRow 142 = .ok (.bipush 15, 2) := by decide +kernel
theorem dX3_useRow_144 : decode cX3_useRow 144 = .ok (.iand, 1) := by decide +kernel
theorem dX3_useRow_145 : decode cX3_useRow 145 = .ok (.istore 9, 2) := by decide +kernel
theorem dX3_useRow_147 : decode cX3_useRow 147 = .ok (.iload 8, 2) := by decide +kernel
theorem dX3_useRow_149 : decode cX3_useRow 149 = .ok (.bipush 16, 2) := by decide +kernel
theorem dX3_useRow_151 : decode cX3_useRow 151 = .ok (.iand, 1) := by decide +kernel
theorem dX3_useRow_152 : decode cX3_useRow 152 = .ok (.ifCond .eq 19, 3) := by decide +kernel
theorem dX3_useRow_155 : decode cX3_useRow 155 = .ok (.iload 9, 2) := by decide +kernel
theorem dX3_useRow_157 : decode cX3_useRow 157 = .ok (.aload_n 0, 1) := by decide +kernel
theorem dX3_useRow_158 : decode cX3_useRow 158 = .ok (.aload_n 1, 1) := by decide +kernel
theorem dX3_useRow_159 : decode cX3_useRow 159 = .ok (.aload_n 2, 1) := by decide +kernel
theorem dX3_useRow_160 : decode cX3_useRow 160 = .ok (.iload_n 3, 1) := by decide +kernel
theorem dX3_useRow_161 : decode cX3_useRow 161 = .ok (.iload 4, 2) := by decide +kernel
theorem dX3_useRow_163 : decode cX3_useRow 163 = .ok (.iload 7, 2) := by decide +kernel
theorem dX3_useRow_165 : decode cX3_useRow 165 = .ok (.invokevirtual 88, 3) := by decide +kernel
theorem dX3_useRow_168 : decode cX3_useRow 168 = .ok (.ior, 1) := by decide +kernel
theorem dX3_useRow_169 : decode cX3_useRow 169 = .ok (.istore 9, 2) := by decide +kernel
theorem dX3_useRow_171 : decode cX3_useRow 171 = .ok (.aload_n 0, 1) := by decide +kernel
theorem dX3_useRow_172 : decode cX3_useRow 172 = .ok (.getfield 32, 3) := by decide +kernel
theorem dX3_useRow_175 : decode cX3_useRow 175 = .ok (.iload 4, 2) := by decide +kernel
theorem dX3_useRow_177 : decode cX3_useRow 177 = .ok (.iconst 5, 1) := by decide +kernel
theorem dX3_useRow_178 : decode cX3_useRow 178 = .ok (.imul, 1) := by decide +kernel
theorem dX3_useRow_179 : decode cX3_useRow 179 = .ok (.iload 7, 2) := by decide +kernel
theorem dX3_useRow_181 : decode cX3_useRow 181 = .ok (.iadd, 1) := by decide +kernel
theorem dX3_useRow_182 : decode cX3_useRow 182 = .ok (.dup2, 1) := by decide +kernel
theorem dX3_useRow_183 : decode cX3_useRow 183 = .ok (.iaload, 1) := by decide +kernel
theorem dX3_useRow_184 : decode cX3_useRow 184 = .ok (.iload 9, 2) := by decide +kernel
theorem dX3_useRow_186 : decode cX3_useRow 186 = .ok (.ior, 1) := by decide +kernel
theorem dX3_useRow_187 : decode cX3_useRow 187 = .ok (.iastore, 1) := by decide +kernel
theorem dX3_useRow_188 : decode cX3_useRow 188 = .ok (.iinc 7 1, 3) := by decide +kernel
theorem dX3_useRow_191 : decode cX3_useRow 191 = .ok (.goto (-71), 3) := by decide +kernel
theorem dX3_useRow_194 : decode cX3_useRow 194 = .ok (.return_, 1) := by decide +kernel
theorem dX3_clearAt_0 : decode cX3_clearAt 0 = .ok (.aload_n 0, 1) := by decide +kernel
theorem dX3_clearAt_1 : decode cX3_clearAt 1 = .ok (.getfield 19, 3) := by decide +kernel
theorem dX3_clearAt_4 : decode cX3_clearAt 4 = .ok (.iload_n 1, 1) := by decide +kernel
theorem dX3_clearAt_5 : decode cX3_clearAt 5 = .ok (.iload_n 2, 1) := by decide +kernel
theorem dX3_clearAt_6 : decode cX3_clearAt 6 = .ok (.iastore, 1) := by decide +kernel
theorem dX3_clearAt_7 : decode cX3_clearAt 7 = .ok (.aload_n 0, 1) := by decide +kernel
theorem dX3_clearAt_8 : decode cX3_clearAt 8 = .ok (.getfield 22, 3) := by decide +kernel
theorem dX3_clearAt_11 : decode cX3_clearAt 11 = .ok (.iload_n 1, 1) := by decide +kernel
theorem dX3_clearAt_12 : decode cX3_clearAt 12 = .ok (.iconst 0, 1) := by decide +kernel
theorem dX3_clearAt_13 : decode cX3_clearAt 13 = .ok (.iastore, 1) := by decide +kernel
theorem dX3_clearAt_14 : decode cX3_clearAt 14 = .ok (.aload_n 0, 1) := by decide +kernel
theorem dX3_clearAt_15 : decode cX3_clearAt 15 = .ok (.getfield 25, 3) := by decide +kernel
theorem dX3_clearAt_18 : decode cX3_clearAt 18 = .ok (.iload_n 1, 1) := by decide +kernel
theorem dX3_clearAt_19 : decode cX3_clearAt 19 = .ok (.iconst 0, 1) := by decide +kernel
theorem dX3_clearAt_20 : decode cX3_clearAt 20 = .ok (.iastore, 1) := by decide +kernel
theorem dX3_clearAt_21 : decode cX3_clearAt 21 = .ok (.iconst 0, 1) := by decide +kernel
theorem dX3_clearAt_22 : decode cX3_clearAt 22 = .ok (.istore_n 3, 1) := by decide +kernel
theorem dX3_clearAt_23 : decode cX3_clearAt 23 = .ok (.iload_n 3, 1) := by decide +kernel
theorem dX3_clearAt_24 : decode cX3_clearAt 24 = .ok (.iconst 5, 1) := by decide +kernel
theorem dX3_clearAt_25 : decode cX3_clearAt 25 = .ok (.if_icmp .ge 20, 3) := by decide +kernel
theorem dX3_clearAt_28 : decode cX3_clearAt 28 = .ok (.aload_n 0, 1) := by decide +kernel
theorem dX3_clearAt_29 : decode cX3_clearAt 29 = .ok (.getfield 32, 3) := by decide +kernel
theorem dX3_clearAt_32 : decode cX3_clearAt 32 = .ok (.iload_n 1, 1) := by decide +kernel
theorem dX3_clearAt_33 : decode cX3_clearAt 33 = .ok (.iconst 5, 1) := by decide +kernel
theorem dX3_clearAt_34 : decode cX3_clearAt 34 = .ok (.imul, 1) := by decide +kernel
theorem dX3_clearAt_35 : decode cX3_clearAt 35 = .ok (.iload_n 3, 1) := by decide +kernel
theorem dX3_clearAt_36 : decode cX3_clearAt 36 = .ok (.iadd, 1) := by decide +kernel
theorem dX3_clearAt_37 : decode cX3_clearAt 37 = .ok (.iconst 0, 1) := by decide +kernel
theorem dX3_clearAt_38 : decode cX3_clearAt 38 = .ok (.iastore, 1) := by decide +kernel
theorem dX3_clearAt_39 : decode cX3_clearAt 39 = .ok (.iinc 3 1, 3) := by decide +kernel
theorem dX3_clearAt_42 : decode cX3_clearAt 42 = .ok (.goto (-19), 3) := by decide +kernel
theorem dX3_clearAt_45 : decode cX3_clearAt 45 = .ok (.return_, 1) := by decide +kernel
theorem dX3_fillingByRow_0 : decode cX3_fillingByRow 0 = .ok (.aload_n 2, 1) := by decide +kernel
theorem dX3_fillingByRow_1 : decode cX3_fillingByRow 1 = .ok (.iload_n 3, 1) := by decide +kernel
theorem dX3_fillingByRow_2 : decode cX3_fillingByRow 2 = .ok (.invokevirtual 73, 3) := by decide +kernel
theorem dX3_fillingByRow_5 : decode cX3_fillingByRow 5 = .ok (.iconst 1, 1) := by decide +kernel
theorem dX3_fillingByRow_6 : decode cX3_fillingByRow 6 = .ok (.isub, 1) := by decide +kernel
theorem dX3_fillingByRow_7 : decode cX3_fillingByRow 7 = .ok (.istore 6, 2) := by decide +kernel
theorem dX3_fillingByRow_9 : decode cX3_fillingByRow 9 = .ok (.iload 6, 2) := by decide +kernel
theorem dX3_fillingByRow_11 : decode cX3_fillingByRow 11 = .ok (.ifCond .lt 49, 3) := by decide +kernel
theorem dX3_fillingByRow_14 : decode cX3_fillingByRow 14 = .ok (.aload_n 2, 1) := by decide +kernel
theorem dX3_fillingByRow_15 : decode cX3_fillingByRow 15 = .ok (.iload_n 3, 1) := by decide +kernel
theorem dX3_fillingByRow_16 : decode cX3_fillingByRow 16 = .ok (.iload 6, 2) := by decide +kernel
theorem dX3_fillingByRow_18 : decode cX3_fillingByRow 18 = .ok (.invokevirtual 92, 3) := by decide +kernel
theorem dX3_fillingByRow_21 : decode cX3_fillingByRow 21 = .ok (.iconst 1, 1) := by decide +kernel
theorem dX3_fillingByRow_22 : decode cX3_fillingByRow 22 = .ok (.if_icmp .ne 32, 3) := by decide +kernel
theorem dX3_fillingByRow_25 : decode cX3_fillingByRow 25 = .ok (.aload_n 2, 1) := by decide +kernel
theorem dX3_fillingByRow_26 : decode cX3_fillingByRow 26 = .ok (.iload_n 3, 1) := by decide +kernel
theorem dX3_fillingByRow_27 : decode cX3_fillingByRow 27 = .ok (.iload 6, 2) := by decide +kernel
theorem dX3_fillingByRow_29 : decode cX3_fillingByRow 29 = .ok (.invokevirtual 95, 3) := by decide +kernel
theorem dX3_fillingByRow_32 : decode cX3_fillingByRow 32 = .ok (.iload 5, 2) := by decide +kernel
theorem dX3_fillingByRow_34 : decode cX3_fillingByRow 34 = .ok (.if_icmp .ne 20, 3) := by decide +kernel
theorem dX3_fillingByRow_37 : decode cX3_fillingByRow 37 = .ok (.iconst 1, 1) := by decide +kernel
theorem dX3_fillingByRow_38 : decode cX3_fillingByRow 38 = .ok (.aload_n 1, 1) := by decide +kernel
theorem dX3_fillingByRow_39 : decode cX3_fillingByRow 39 = .ok (.aload_n 0, 1) := by decide +kernel
theorem dX3_fillingByRow_40 : decode cX3_fillingByRow 40 = .ok (.getfield 11, 3) := by decide +kernel
theorem dX3_fillingByRow_43 : decode cX3_fillingByRow 43 = .ok (.iload 4, 2) := by decide +kernel
theorem dX3_fillingByRow_45 : decode cX3_fillingByRow 45 = .ok (.iload 6, 2) := by decide +kernel
theorem dX3_fillingByRow_47 : decode cX3_fillingByRow 47 = .ok (.iadd, 1) := by decide +kernel
theorem dX3_fillingByRow_48 : decode cX3_fillingByRow 48 = .ok (.iaload, 1) := by decide +kernel
theorem dX3_fillingByRow_49 : decode cX3_fillingByRow 49 = .ok (.invokevirtual 98, 3) := by decide +kernel
theorem dX3_fillingByRow_52 : decode cX3_fillingByRow 52 = .ok (.ishl, 1) := by decide +kernel
theorem dX3_fillingByRow_53 : decode cX3_fillingByRow 53 = .ok (.ireturn, 1) := by decide +kernel
theorem dX3_fillingByRow_54 : decode cX3_fillingByRow 54 = .ok (.iinc 6 (-1), 3) := by decide +kernel
theorem dX3_fillingByRow_57 : decode cX3_fillingByRow 57 = .ok (.goto (-48), 3) := by decide +kernel
theorem dX3_fillingByRow_60 : decode cX3_fillingByRow 60 = .ok (.bipush 16, 2) := by decide +kernel
theorem dX3_fillingByRow_62 : decode cX3_fillingByRow 62 = .ok (.ireturn, 1) := by decide +kernel
theorem dX3_fits_0 : decode cX3_fits 0 = .ok (.aload_n 2, 1) := by decide +kernel
theorem dX3_fits_1 : decode cX3_fits 1 = .ok (.iload_n 3, 1) := by decide +kernel
theorem dX3_fits_2 : decode cX3_fits 2 = .ok (.invokevirtual 73, 3) := by decide +kernel
theorem dX3_fits_5 : decode cX3_fits 5 = .ok (.istore 5, 2) := by decide +kernel
theorem dX3_fits_7 : decode cX3_fits 7 = .ok (.iload 5, 2) := by decide +kernel
theorem dX3_fits_9 : decode cX3_fits 9 = .ok (.ifCond .le 15, 3) := by decide +kernel
theorem dX3_fits_12 : decode cX3_fits 12 = .ok (.iload 4, 2) := by decide +kernel
theorem dX3_fits_14 : decode cX3_fits 14 = .ok (.iload 5, 2) := by decide +kernel
theorem dX3_fits_16 : decode cX3_fits 16 = .ok (.iadd, 1) := by decide +kernel
theorem dX3_fits_17 : decode cX3_fits 17 = .ok (.aload_n 0, 1) := by decide +kernel
theorem dX3_fits_18 : decode cX3_fits 18 = .ok (.getfield 15, 3) := by decide +kernel
theorem dX3_fits_21 : decode cX3_fits 21 = .ok (.if_icmp .le 5, 3) := by decide +kernel
theorem dX3_fits_24 : decode cX3_fits 24 = .ok (.iconst 0, 1) := by decide +kernel
theorem dX3_fits_25 : decode cX3_fits 25 = .ok (.ireturn, 1) := by decide +kernel
theorem dX3_fits_26 : decode cX3_fits 26 = .ok (.iconst 0, 1) := by decide +kernel
theorem dX3_fits_27 : decode cX3_fits 27 = .ok (.istore 6, 2) := by decide +kernel
theorem dX3_fits_29 : decode cX3_fits 29 = .ok (.iload 6, 2) := by decide +kernel
theorem dX3_fits_31 : decode cX3_fits 31 = .ok (.iload 5, 2) := by decide +kernel
theorem dX3_fits_33 : decode cX3_fits 33 = .ok (.if_icmp .ge 42, 3) := by decide +kernel
theorem dX3_fits_36 : decode cX3_fits 36 = .ok (.aload_n 1, 1) := by decide +kernel
theorem dX3_fits_37 : decode cX3_fits 37 = .ok (.aload_n 2, 1) := by decide +kernel
theorem dX3_fits_38 : decode cX3_fits 38 = .ok (.iload_n 3, 1) := by decide +kernel
theorem dX3_fits_39 : decode cX3_fits 39 = .ok (.iload 6, 2) := by decide +kernel
theorem dX3_fits_41 : decode cX3_fits 41 = .ok (.invokevirtual 92, 3) := by decide +kernel
theorem dX3_fits_44 : decode cX3_fits 44 = .ok (.aload_n 2, 1) := by decide +kernel
theorem dX3_fits_45 : decode cX3_fits 45 = .ok (.iload_n 3, 1) := by decide +kernel
theorem dX3_fits_46 : decode cX3_fits 46 = .ok (.iload 6, 2) := by decide +kernel
theorem dX3_fits_48 : decode cX3_fits 48 = .ok (.invokevirtual 95, 3) := by decide +kernel
theorem dX3_fits_51 : decode cX3_fits 51 = .ok (.aload_n 0, 1) := by decide +kernel
theorem dX3_fits_52 : decode cX3_fits 52 = .ok (.getfield 11, 3) := by decide +kernel
theorem dX3_fits_55 : decode cX3_fits 55 = .ok (.iload 4, 2) := by decide +kernel
theorem dX3_fits_57 : decode cX3_fits 57 = .ok (.iload 6, 2) := by decide +kernel
theorem dX3_fits_59 : decode cX3_fits 59 = .ok (.iadd, 1) := by decide +kernel
theorem dX3_fits_60 : decode cX3_fits 60 = .ok (.iaload, 1) := by decide +kernel
theorem dX3_fits_61 : decode cX3_fits 61 = .ok (.invokestatic 103, 3) := by decide +kernel
theorem dX3_fits_64 : decode cX3_fits 64 = .ok (.ifCond .ne 5, 3) := by decide +kernel
theorem dX3_fits_67 : decode cX3_fits 67 = .ok (.iconst 0, 1) := by decide +kernel
theorem dX3_fits_68 : decode cX3_fits 68 = .ok (.ireturn, 1) := by decide +kernel
theorem dX3_fits_69 : decode cX3_fits 69 = .ok (.iinc 6 1, 3) := by decide +kernel
theorem dX3_fits_72 : decode cX3_fits 72 = .ok (.goto (-43), 3) := by decide +kernel
theorem dX3_fits_75 : decode cX3_fits 75 = .ok (.iconst 1, 1) := by decide +kernel
theorem dX3_fits_76 : decode cX3_fits 76 = .ok (.ireturn, 1) := by decide +kernel
theorem dX3_itemFits_0 : decode cX3_itemFits 0 = .ok (.iload_n 1, 1) := by decide +kernel
theorem dX3_itemFits_1 : decode cX3_itemFits 1 = .ok (.tableswitch 55 0 2 #[27, 38, 53], 27) := by decide +kernel
theorem dX3_itemFits_28 : decode cX3_itemFits 28 = .ok (.iload_n 3, 1) := by decide +kernel
theorem dX3_itemFits_29 : decode cX3_itemFits 29 = .ok (.iload_n 2, 1) := by decide +kernel
theorem dX3_itemFits_30 : decode cX3_itemFits 30 = .ok (.if_icmp .ne 7, 3) := by decide +kernel
theorem dX3_itemFits_33 : decode cX3_itemFits 33 = .ok (.iconst 1, 1) := by decide +kernel
theorem dX3_itemFits_34 : decode cX3_itemFits 34 = .ok (.goto 4, 3) := by decide +kernel
theorem dX3_itemFits_37 : decode cX3_itemFits 37 = .ok (.iconst 0, 1) := by decide +kernel
theorem dX3_itemFits_38 : decode cX3_itemFits 38 = .ok (.ireturn, 1) := by decide +kernel
theorem dX3_itemFits_39 : decode cX3_itemFits 39 = .ok (.aload_n 0, 1) := by decide +kernel
theorem dX3_itemFits_40 : decode cX3_itemFits 40 = .ok (.iload_n 3, 1) := by decide +kernel
theorem dX3_itemFits_41 : decode cX3_itemFits 41 = .ok (.invokevirtual 107, 3) := by decide +kernel
theorem dX3_itemFits_44 : decode cX3_itemFits 44 = .ok (.iload_n 2, 1) := by decide +kernel
theorem dX3_itemFits_45 : decode cX3_itemFits 45 = .ok (.if_icmp .ne 7, 3) := by decide +kernel
theorem dX3_itemFits_48 : decode cX3_itemFits 48 = .ok (.iconst 1, 1) := by decide +kernel
theorem dX3_itemFits_49 : decode cX3_itemFits 49 = .ok (.goto 4, 3) := by decide +kernel
theorem dX3_itemFits_52 : decode cX3_itemFits 52 = .ok (.iconst 0, 1) := by decide +kernel
theorem dX3_itemFits_53 : decode cX3_itemFits 53 = .ok (.ireturn, 1) := by decide +kernel
theorem dX3_itemFits_54 : decode cX3_itemFits 54 = .ok (.iconst 1, 1) := by decide +kernel
theorem dX3_itemFits_55 : decode cX3_itemFits 55 = .ok (.ireturn, 1) := by decide +kernel
theorem dX3_itemFits_56 : decode cX3_itemFits 56 = .ok (.iconst 0, 1) := by decide +kernel
theorem dX3_itemFits_57 : decode cX3_itemFits 57 = .ok (.ireturn, 1) := by decide +kernel
theorem dX3_commonAnswer_0 : decode cX3_commonAnswer 0 = .ok (.aload_n 0, 1) := by decide +kernel
theorem dX3_commonAnswer_1 : decode cX3_commonAnswer 1 = .ok (.getfield 15, 3) := by decide +kernel
theorem dX3_commonAnswer_4 : decode cX3_commonAnswer 4 = .ok (.ifCond .le 21, 3) := by decide +kernel
theorem dX3_commonAnswer_7 : decode cX3_commonAnswer 7 = .ok (.aload_n 0, 1) := by decide +kernel
theorem dX3_commonAnswer_8 : decode cX3_commonAnswer 8 = .ok (.getfield 19, 3) := by decide +kernel
theorem dX3_commonAnswer_11 : decode cX3_commonAnswer 11 = .ok (.iconst 0, 1) := by decide +kernel
theorem dX3_commonAnswer_12 : decode cX3_commonAnswer 12 = .ok (.iaload, 1) := by decide +kernel
theorem dX3_commonAnswer_13 : decode cX3_commonAnswer 13 = .ok (.bipush 6, 2) := by decide +kernel
theorem dX3_commonAnswer_15 : decode cX3_commonAnswer 15 = .ok (.aload_n 0, 1) := by decide +kernel
theorem dX3_commonAnswer_16 : decode cX3_commonAnswer 16 = .ok (.getfield 19, 3) := by decide +kernel
theorem dX3_commonAnswer_19 : decode cX3_commonAnswer 19 = .ok (.iconst 1, 1) := by decide +kernel
theorem dX3_commonAnswer_20 : decode cX3_commonAnswer 20 = .ok (.iaload, 1) := by decide +kernel
theorem dX3_commonAnswer_21 : decode cX3_commonAnswer 21 = .ok (.iadd, 1) := by decide +kernel
theorem dX3_commonAnswer_22 : decode cX3_commonAnswer 22 = .ok (.if_icmp .ne 5, 3) := by decide +kernel
theorem dX3_commonAnswer_25 : decode cX3_commonAnswer 25 = .ok (.iconst (-1), 1) := by decide +kernel
theorem dX3_commonAnswer_26 : decode cX3_commonAnswer 26 = .ok (.ireturn, 1) := by decide +kernel
theorem dX3_commonAnswer_27 : decode cX3_commonAnswer 27 = .ok (.iconst (-1), 1) := by decide +kernel
theorem dX3_commonAnswer_28 : decode cX3_commonAnswer 28 = .ok (.istore 4, 2) := by decide +kernel
theorem dX3_commonAnswer_30 : decode cX3_commonAnswer 30 = .ok (.iconst 0, 1) := by decide +kernel
theorem dX3_commonAnswer_31 : decode cX3_commonAnswer 31 = .ok (.istore 5, 2) := by decide +kernel
theorem dX3_commonAnswer_33 : decode cX3_commonAnswer 33 = .ok (.iload 5, 2) := by decide +kernel
theorem dX3_commonAnswer_35 : decode cX3_commonAnswer 35 = .ok (.aload_n 3, 1) := by decide +kernel
theorem dX3_commonAnswer_36 : decode cX3_commonAnswer 36 = .ok (.invokevirtual 51, 3) := by decide +kernel
theorem dX3_commonAnswer_39 : decode cX3_commonAnswer 39 = .ok (.if_icmp .ge 110, 3) := by decide +kernel
theorem dX3_commonAnswer_42 : decode cX3_commonAnswer 42 = .ok (.aload_n 3, 1) := by decide +kernel
theorem dX3_commonAnswer_43 : decode cX3_commonAnswer 43 = .ok (.iload 5, 2) := by decide +kernel
theorem dX3_commonAnswer_45 : decode cX3_commonAnswer 45 = .ok (.iload_n 2, 1) := by decide +kernel
theorem dX3_commonAnswer_46 : decode cX3_commonAnswer 46 = .ok (.invokevirtual 57, 3) := by decide +kernel
theorem dX3_commonAnswer_49 : decode cX3_commonAnswer 49 = .ok (.ifCond .eq 94, 3) := by decide +kernel
theorem dX3_commonAnswer_52 : decode cX3_commonAnswer 52 = .ok (.aload_n 0, 1) := by decide +kernel
theorem dX3_commonAnswer_53 : decode cX3_commonAnswer 53 = .ok (.aload_n 1, 1) := by decide +kernel
theorem dX3_commonAnswer_54 : decode cX3_commonAnswer 54 = .ok (.aload_n 3, 1) := by decide +kernel
theorem dX3_commonAnswer_55 : decode cX3_commonAnswer 55 = .ok (.iload 5, 2) := by decide +kernel
theorem dX3_commonAnswer_57 : decode cX3_commonAnswer 57 = .ok (.iconst 0, 1) := by decide +kernel
theorem dX3_commonAnswer_58 : decode cX3_commonAnswer 58 = .ok (.invokevirtual 61, 3) := by decide +kernel
theorem dX3_commonAnswer_61 : decode cX3_commonAnswer 61 = .ok (.ifCond .eq 82, 3) := by decide +kernel
theorem dX3_commonAnswer_64 : decode cX3_commonAnswer 64 = .ok (.aload_n 3, 1) := by decide +kernel
theorem dX3_commonAnswer_65 : decode cX3_commonAnswer 65 = .ok (.iload 5, 2) := by decide +kernel
theorem dX3_commonAnswer_67 : decode cX3_commonAnswer 67 = .ok (.invokevirtual 77, 3) := by decide +kernel
theorem dX3_commonAnswer_70 : decode cX3_commonAnswer 70 = .ok (.aload_n 0, 1) := by decide +kernel
theorem dX3_commonAnswer_71 : decode cX3_commonAnswer 71 = .ok (.getfield 19, 3) := by decide +kernel
theorem dX3_commonAnswer_74 : decode cX3_commonAnswer 74 = .ok (.aload_n 3, 1) := by decide +kernel
theorem dX3_commonAnswer_75 : decode cX3_commonAnswer 75 = .ok (.iload 5, 2) := by decide +kernel
theorem dX3_commonAnswer_77 : decode cX3_commonAnswer 77 = .ok (.invokevirtual 73, 3) := by decide +kernel
theorem dX3_commonAnswer_80 : decode cX3_commonAnswer 80 = .ok (.iaload, 1) := by decide +kernel
theorem dX3_commonAnswer_81 : decode cX3_commonAnswer 81 = .ok (.iadd, 1) := by decide +kernel
theorem dX3_commonAnswer_82 : decode cX3_commonAnswer 82 = .ok (.aload_n 0, 1) := by decide +kernel
theorem dX3_commonAnswer_83 : decode cX3_commonAnswer 83 = .ok (.getfield 19, 3) := by decide +kernel
theorem dX3_commonAnswer_86 : decode cX3_commonAnswer 86 = .ok (.iconst 0, 1) := by decide +kernel
theorem dX3_commonAnswer_87 : decode cX3_commonAnswer 87 = .ok (.iaload, 1) := by decide +kernel
theorem dX3_commonAnswer_88 : decode cX3_commonAnswer 88 = .ok (.if_icmp .ne 55, 3) := by decide +kernel
theorem dX3_commonAnswer_91 : decode cX3_commonAnswer 91 = .ok (.iload 4, 2) := by decide +kernel
theorem dX3_commonAnswer_93 : decode cX3_commonAnswer 93 = .ok (.iconst (-1), 1) := by decide +kernel
theorem dX3_commonAnswer_94 : decode cX3_commonAnswer 94 = .ok (.if_icmp .eq 18, 3) := by decide +kernel
theorem dX3_commonAnswer_97 : decode cX3_commonAnswer 97 = .ok (.iload 4, 2) := by decide +kernel
theorem dX3_commonAnswer_99 : decode cX3_commonAnswer 99 = .ok (.aload_n 3, 1) := by decide +kernel
theorem dX3_commonAnswer_100 : decode cX3_commonAnswer 100 = .ok (.iload 5, 2) := by decide +kernel
theorem dX3_commonAnswer_102 : decode cX3_commonAnswer 102 = .ok (.invokevirtual 110, 3) := by decide +kernel
theorem dX3_commonAnswer_105 : decode cX3_commonAnswer 105 = .ok (.if_icmp .eq 7, 3) := by decide +kernel
theorem dX3_commonAnswer_108 : decode cX3_commonAnswer 108 = .ok (.iconst 1, 1) := by decide +kernel
theorem dX3_commonAnswer_109 : decode cX3_commonAnswer 109 = .ok (.goto 4, 3) := by decide +kernel
theorem dX3_commonAnswer_112 : decode cX3_commonAnswer 112 = .ok (.iconst 0, 1) := by decide +kernel
theorem dX3_commonAnswer_113 : decode cX3_commonAnswer 113 = .ok (.istore 6, 2) := by decide +kernel
theorem dX3_commonAnswer_115 : decode cX3_commonAnswer 115 = .ok (.iload 6, 2) := by decide +kernel
theorem dX3_commonAnswer_117 : decode cX3_commonAnswer 117 = .ok (.ifCond .ne 16, 3) := by decide +kernel
theorem dX3_commonAnswer_120 : decode cX3_commonAnswer 120 = .ok (.aload_n 3, 1) := by decide +kernel
theorem dX3_commonAnswer_121 : decode cX3_commonAnswer 121 = .ok (.iload 5, 2) := by decide +kernel
theorem dX3_commonAnswer_123 : decode cX3_commonAnswer 123 = .ok (.invokevirtual 73, 3) := by decide +kernel
theorem dX3_commonAnswer_126 : decode cX3_commonAnswer 126 = .ok (.aload_n 0, 1) := by decide +kernel
theorem dX3_commonAnswer_127 : decode cX3_commonAnswer 127 = .ok (.getfield 15, 3) := by decide +kernel
theorem dX3_commonAnswer_130 : decode cX3_commonAnswer 130 = .ok (.if_icmp .eq 5, 3) := by decide +kernel
theorem dX3_commonAnswer_133 : decode cX3_commonAnswer 133 = .ok (.iconst (-1), 1) := by decide +kernel
theorem dX3_commonAnswer_134 : decode cX3_commonAnswer 134 = .ok (.ireturn, 1) := by decide +kernel
theorem dX3_commonAnswer_135 : decode cX3_commonAnswer 135 = .ok (.aload_n 3, 1) := by decide +kernel
theorem dX3_commonAnswer_136 : decode cX3_commonAnswer 136 = .ok (.iload 5, 2) := by decide +kernel
theorem dX3_commonAnswer_138 : decode cX3_commonAnswer 138 = .ok (.invokevirtual 110, 3) := by decide +kernel
theorem dX3_commonAnswer_141 : decode cX3_commonAnswer 141 = .ok (.istore 4, 2) := by decide +kernel
theorem dX3_commonAnswer_143 : decode cX3_commonAnswer 143 = .ok (.iinc 5 1, 3) := by decide +kernel
theorem dX3_commonAnswer_146 : decode cX3_commonAnswer 146 = .ok (.goto (-113), 3) := by decide +kernel
theorem dX3_commonAnswer_149 : decode cX3_commonAnswer 149 = .ok (.iload 4, 2) := by decide +kernel
theorem dX3_commonAnswer_151 : decode cX3_commonAnswer 151 = .ok (.ireturn, 1) := by decide +kernel
theorem dX4_init_0 : decode cX4_init 0 = .ok (.aload_n 0, 1) := by decide +kernel
theorem dX4_init_1 : decode cX4_init 1 = .ok (.invokespecial 3, 3) := by decide +kernel
theorem dX4_init_4 : decode cX4_init 4 = .ok (.aload_n 0, 1) := by decide +kernel
theorem dX4_init_5 : decode cX4_init 5 = .ok (.iconst 0, 1) := by decide +kernel
theorem dX4_init_6 : decode cX4_init 6 = .ok (.putfield 9, 3) := by decide +kernel
theorem dX4_init_9 : decode cX4_init 9 = .ok (.aload_n 0, 1) := by decide +kernel
theorem dX4_init_10 : decode cX4_init 10 = .ok (.iconst 0, 1) := by decide +kernel
theorem dX4_init_11 : decode cX4_init 11 = .ok (.putfield 15, 3) := by decide +kernel
theorem dX4_init_14 : decode cX4_init 14 = .ok (.aload_n 0, 1) := by decide +kernel
theorem dX4_init_15 : decode cX4_init 15 = .ok (.bipush 20, 2) := by decide +kernel
theorem dX4_init_17 : decode cX4_init 17 = .ok (.newarray .int, 2) := by decide +kernel
theorem dX4_init_19 : decode cX4_init 19 = .ok (.putfield 18, 3) := by decide +kernel
theorem dX4_init_22 : decode cX4_init 22 = .ok (.aload_n 0, 1) := by decide +kernel
theorem dX4_init_23 : decode cX4_init 23 = .ok (.bipush 20, 2) := by decide +kernel
theorem dX4_init_25 : decode cX4_init 25 = .ok (.newarray .int, 2) := by decide +kernel
theorem dX4_init_27 : decode cX4_init 27 = .ok (.putfield 22, 3) := by decide +kernel
theorem dX4_init_30 : decode cX4_init 30 = .ok (.aload_n 0, 1) := by decide +kernel
theorem dX4_init_31 : decode cX4_init 31 = .ok (.bipush 20, 2) := by decide +kernel
theorem dX4_init_33 : decode cX4_init 33 = .ok (.newarray .int, 2) := by decide +kernel
theorem dX4_init_35 : decode cX4_init 35 = .ok (.putfield 25, 3) := by decide +kernel
theorem dX4_init_38 : decode cX4_init 38 = .ok (.aload_n 0, 1) := by decide +kernel
theorem dX4_init_39 : decode cX4_init 39 = .ok (.bipush 20, 2) := by decide +kernel
theorem dX4_init_41 : decode cX4_init 41 = .ok (.newarray .int, 2) := by decide +kernel
theorem dX4_init_43 : decode cX4_init 43 = .ok (.putfield 28, 3) := by decide +kernel
theorem dX4_init_46 : decode cX4_init 46 = .ok (.aload_n 0, 1) := by decide +kernel
theorem dX4_init_47 : decode cX4_init 47 = .ok (.bipush 84, 2) := by decide +kernel
theorem dX4_init_49 : decode cX4_init 49 = .ok (.newarray .int, 2) := by decide +kernel
theorem dX4_init_51 : decode cX4_init 51 = .ok (.putfield 31, 3) := by decide +kernel
theorem dX4_init_54 : decode cX4_init 54 = .ok (.aload_n 0, 1) := by decide +kernel
theorem dX4_init_55 : decode cX4_init 55 = .ok (.bipush 84, 2) := by decide +kernel
theorem dX4_init_57 : decode cX4_init 57 = .ok (.newarray .int, 2) := by decide +kernel
theorem dX4_init_59 : decode cX4_init 59 = .ok (.putfield 34, 3) := by decide +kernel
theorem dX4_init_62 : decode cX4_init 62 = .ok (.return_, 1) := by decide +kernel
theorem dX4_rowCount_0 : decode cX4_rowCount 0 = .ok (.aload_n 0, 1) := by decide +kernel
theorem dX4_rowCount_1 : decode cX4_rowCount 1 = .ok (.getfield 9, 3) := by decide +kernel
theorem dX4_rowCount_4 : decode cX4_rowCount 4 = .ok (.ireturn, 1) := by decide +kernel
theorem dX4_itemCount_0 : decode cX4_itemCount 0 = .ok (.aload_n 0, 1) := by decide +kernel
theorem dX4_itemCount_1 : decode cX4_itemCount 1 = .ok (.getfield 15, 3) := by decide +kernel
theorem dX4_itemCount_4 : decode cX4_itemCount 4 = .ok (.ireturn, 1) := by decide +kernel
theorem dX4_addItem_0 : decode cX4_addItem 0 = .ok (.aload_n 0, 1) := by decide +kernel
theorem dX4_addItem_1 : decode cX4_addItem 1 = .ok (.getfield 15, 3) := by decide +kernel
theorem dX4_addItem_4 : decode cX4_addItem 4 = .ok (.iconst 4, 1) := by decide +kernel
theorem dX4_addItem_5 : decode cX4_addItem 5 = .ok (.if_icmp .lt 6, 3) := by decide +kernel
theorem dX4_addItem_8 : decode cX4_addItem 8 = .ok (.bipush (-4), 2) := by decide +kernel
theorem dX4_addItem_10 : decode cX4_addItem 10 = .ok (.ireturn, 1) := by decide +kernel
theorem dX4_addItem_11 : decode cX4_addItem 11 = .ok (.aload_n 0, 1) := by decide +kernel
theorem dX4_addItem_12 : decode cX4_addItem 12 = .ok (.getfield 31, 3) := by decide +kernel
theorem dX4_addItem_15 : decode cX4_addItem 15 = .ok (.aload_n 0, 1) := by decide +kernel
theorem dX4_addItem_16 : decode cX4_addItem 16 = .ok (.getfield 9, 3) := by decide +kernel
theorem dX4_addItem_19 : decode cX4_addItem 19 = .ok (.iconst 4, 1) := by decide +kernel
theorem dX4_addItem_20 : decode cX4_addItem 20 = .ok (.imul, 1) := by decide +kernel
theorem dX4_addItem_21 : decode cX4_addItem 21 = .ok (.aload_n 0, 1) := by decide +kernel
theorem dX4_addItem_22 : decode cX4_addItem 22 = .ok (.getfield 15, 3) := by decide +kernel
theorem dX4_addItem_25 : decode cX4_addItem 25 = .ok (.iadd, 1) := by decide +kernel
theorem dX4_addItem_26 : decode cX4_addItem 26 = .ok (.iload_n 1, 1) := by decide +kernel
theorem dX4_addItem_27 : decode cX4_addItem 27 = .ok (.iastore, 1) := by decide +kernel
theorem dX4_addItem_28 : decode cX4_addItem 28 = .ok (.aload_n 0, 1) := by decide +kernel
theorem dX4_addItem_29 : decode cX4_addItem 29 = .ok (.getfield 34, 3) := by decide +kernel
theorem dX4_addItem_32 : decode cX4_addItem 32 = .ok (.aload_n 0, 1) := by decide +kernel
theorem dX4_addItem_33 : decode cX4_addItem 33 = .ok (.getfield 9, 3) := by decide +kernel
theorem dX4_addItem_36 : decode cX4_addItem 36 = .ok (.iconst 4, 1) := by decide +kernel
theorem dX4_addItem_37 : decode cX4_addItem 37 = .ok (.imul, 1) := by decide +kernel
theorem dX4_addItem_38 : decode cX4_addItem 38 = .ok (.aload_n 0, 1) := by decide +kernel
theorem dX4_addItem_39 : decode cX4_addItem 39 = .ok (.getfield 15, 3) := by decide +kernel
theorem dX4_addItem_42 : decode cX4_addItem 42 = .ok (.iadd, 1) := by decide +kernel
theorem dX4_addItem_43 : decode cX4_addItem 43 = .ok (.iload_n 2, 1) := by decide +kernel
theorem dX4_addItem_44 : decode cX4_addItem 44 = .ok (.iastore, 1) := by decide +kernel
theorem dX4_addItem_45 : decode cX4_addItem 45 = .ok (.aload_n 0, 1) := by decide +kernel
theorem dX4_addItem_46 : decode cX4_addItem 46 = .ok (.dup, 1) := by decide +kernel
theorem dX4_addItem_47 : decode cX4_addItem 47 = .ok (.getfield 15, 3) := by decide +kernel
theorem dX4_addItem_50 : decode cX4_addItem 50 = .ok (.iconst 1, 1) := by decide +kernel
theorem dX4_addItem_51 : decode cX4_addItem 51 = .ok (.iadd, 1) := by decide +kernel
theorem dX4_addItem_52 : decode cX4_addItem 52 = .ok (.putfield 15, 3) := by decide +kernel
theorem dX4_addItem_55 : decode cX4_addItem 55 = .ok (.aload_n 0, 1) := by decide +kernel
theorem dX4_addItem_56 : decode cX4_addItem 56 = .ok (.getfield 15, 3) := by decide +kernel
theorem dX4_addItem_59 : decode cX4_addItem 59 = .ok (.ireturn, 1) := by decide +kernel
theorem dX4_itemsNamePlace_0 : decode cX4_itemsNamePlace 0 = .ok (.iconst 0, 1) := by decide +kernel
theorem dX4_itemsNamePlace_1 : decode cX4_itemsNamePlace 1 = .ok (.istore_n 1, 1) := by decide +kernel
theorem dX4_itemsNamePlace_2 : decode cX4_itemsNamePlace 2 = .ok (.iload_n 1, 1) := by decide +kernel
theorem dX4_itemsNamePlace_3 : decode cX4_itemsNamePlace 3 = .ok (.aload_n 0, 1) := by decide +kernel
theorem dX4_itemsNamePlace_4 : decode cX4_itemsNamePlace 4 = .ok (.getfield 15, 3) := by decide +kernel
theorem dX4_itemsNamePlace_7 : decode cX4_itemsNamePlace 7 = .ok (.if_icmp .ge 28, 3) := by decide +kernel
theorem dX4_itemsNamePlace_10 : decode cX4_itemsNamePlace 10 = .ok (.aload_n 0, 1) := by decide +kernel
theorem dX4_itemsNamePlace_11 : decode cX4_itemsNamePlace 11 = .ok (.getfield 31, 3) := by decide +kernel
theorem dX4_itemsNamePlace_14 : decode cX4_itemsNamePlace 14 = .ok (.aload_n 0, 1) := by decide +kernel
theorem dX4_itemsNamePlace_15 : decode cX4_itemsNamePlace 15 = .ok (.getfield 9, 3) := by decide +kernel
theorem dX4_itemsNamePlace_18 : decode cX4_itemsNamePlace 18 = .ok (.iconst 4, 1) := by decide +kernel
theorem dX4_itemsNamePlace_19 : decode cX4_itemsNamePlace 19 = .ok (.imul, 1) := by decide +kernel
theorem dX4_itemsNamePlace_20 : decode cX4_itemsNamePlace 20 = .ok (.iload_n 1, 1) := by decide +kernel
theorem dX4_itemsNamePlace_21 : decode cX4_itemsNamePlace 21 = .ok (.iadd, 1) := by decide +kernel
theorem dX4_itemsNamePlace_22 : decode cX4_itemsNamePlace 22 = .ok (.iaload, 1) := by decide +kernel
theorem dX4_itemsNamePlace_23 : decode cX4_itemsNamePlace 23 = .ok (.iconst 1, 1) := by decide +kernel
theorem dX4_itemsNamePlace_24 : decode cX4_itemsNamePlace 24 = .ok (.if_icmp .ne 5, 3) := by decide +kernel
theorem dX4_itemsNamePlace_27 : decode cX4_itemsNamePlace 27 = .ok (.iconst 1, 1) := by decide +kernel
theorem dX4_itemsNamePlace_28 : decode cX4_itemsNamePlace 28 = .ok (.ireturn, 1) := by decide +kernel
theorem dX4_itemsNamePlace_29 : decode cX4_itemsNamePlace 29 = .ok (.iinc 1 1, 3) := by decide +kernel
theorem dX4_itemsNamePlace_32 : decode cX4_itemsNamePlace 32 = .ok (.goto (-30), 3) := by decide +kernel
theorem dX4_itemsNamePlace_35 : decode cX4_itemsNamePlace 35 = .ok (.iconst 0, 1) := by decide +kernel
theorem dX4_itemsNamePlace_36 : decode cX4_itemsNamePlace 36 = .ok (.ireturn, 1) := by decide +kernel
theorem dX4_itemsLackPlace_0 : decode cX4_itemsLackPlace 0 = .ok (.iconst 0, 1) := by decide +kernel
theorem dX4_itemsLackPlace_1 : decode cX4_itemsLackPlace 1 = .ok (.istore_n 2, 1) := by decide +kernel
theorem dX4_itemsLackPlace_2 : decode cX4_itemsLackPlace 2 = .ok (.iload_n 2, 1) := by decide +kernel
theorem dX4_itemsLackPlace_3 : decode cX4_itemsLackPlace 3 = .ok (.aload_n 0, 1) := by decide +kernel
theorem dX4_itemsLackPlace_4 : decode cX4_itemsLackPlace 4 = .ok (.getfield 15, 3) := by decide +kernel
theorem dX4_itemsLackPlace_7 : decode cX4_itemsLackPlace 7 = .ok (.if_icmp .ge 43, 3) := by decide +kernel
theorem dX4_itemsLackPlace_10 : decode cX4_itemsLackPlace 10 = .ok (.aload_n 0, 1) := by decide +kernel
theorem dX4_itemsLackPlace_11 : decode cX4_itemsLackPlace 11 = .ok (.getfield 9, 3) := by decide +kernel
theorem dX4_itemsLackPlace_14 : decode cX4_itemsLackPlace 14 = .ok (.iconst 4, 1) := by decide +kernel
theorem dX4_itemsLackPlace_15 : decode cX4_itemsLackPlace 15 = .ok (.imul, 1) := by decide +kernel
theorem dX4_itemsLackPlace_16 : decode cX4_itemsLackPlace 16 = .ok (.iload_n 2, 1) := by decide +kernel
theorem dX4_itemsLackPlace_17 : decode cX4_itemsLackPlace 17 = .ok (.iadd, 1) := by decide +kernel
theorem dX4_itemsLackPlace_18 : decode cX4_itemsLackPlace 18 = .ok (.istore_n 3, 1) := by decide +kernel
theorem dX4_itemsLackPlace_19 : decode cX4_itemsLackPlace 19 = .ok (.aload_n 0, 1) := by decide +kernel
theorem dX4_itemsLackPlace_20 : decode cX4_itemsLackPlace 20 = .ok (.getfield 31, 3) := by decide +kernel
theorem dX4_itemsLackPlace_23 : decode cX4_itemsLackPlace 23 = .ok (.iload_n 3, 1) := by decide +kernel
theorem dX4_itemsLackPlace_24 : decode cX4_itemsLackPlace 24 = .ok (.iaload, 1) := by decide +kernel
theorem dX4_itemsLackPlace_25 : decode cX4_itemsLackPlace 25 = .ok (.iconst 1, 1) := by decide +kernel
theorem dX4_itemsLackPlace_26 : decode cX4_itemsLackPlace 26 = .ok (.if_icmp .ne 18, 3) := by decide +kernel
theorem dX4_itemsLackPlace_29 : decode cX4_itemsLackPlace 29 = .ok (.aload_n 1, 1) := by decide +kernel
theorem dX4_itemsLackPlace_30 : decode cX4_itemsLackPlace 30 = .ok (.aload_n 0, 1) := by decide +kernel
theorem dX4_itemsLackPlace_31 : decode cX4_itemsLackPlace 31 = .ok (.getfield 34, 3) := by decide +kernel
theorem dX4_itemsLackPlace_34 : decode cX4_itemsLackPlace 34 = .ok (.iload_n 3, 1) := by decide +kernel
theorem dX4_itemsLackPlace_35 : decode cX4_itemsLackPlace 35 = .ok (.iaload, 1) := by decide +kernel
theorem dX4_itemsLackPlace_36 : decode cX4_itemsLackPlace 36 = .ok (.invokevirtual 37, 3) := by decide +kernel
theorem dX4_itemsLackPlace_39 : decode cX4_itemsLackPlace 39 = .ok (.ifCond .ne 5, 3) := by decide +kernel
theorem dX4_itemsLackPlace_42 : decode cX4_itemsLackPlace 42 = .ok (.iconst 1, 1) := by decide +kernel
theorem dX4_itemsLackPlace_43 : decode cX4_itemsLackPlace 43 = .ok (.ireturn, 1) := by decide +kernel
theorem dX4_itemsLackPlace_44 : decode cX4_itemsLackPlace 44 = .ok (.iinc 2 1, 3) := by decide +kernel
theorem dX4_itemsLackPlace_47 : decode cX4_itemsLackPlace 47 = .ok (.goto (-45), 3) := by decide +kernel
theorem dX4_itemsLackPlace_50 : decode cX4_itemsLackPlace 50 = .ok (.iconst 0, 1) := by decide +kernel
theorem dX4_itemsLackPlace_51 : decode cX4_itemsLackPlace 51 = .ok (.ireturn, 1) := by decide +kernel
theorem dX4_itemsNameWorked_0 : decode cX4_itemsNameWorked 0 = .ok (.iconst 0, 1) := by decide +kernel
theorem dX4_itemsNameWorked_1 : decode cX4_itemsNameWorked 1 = .ok (.istore_n 2, 1) := by decide +kernel
theorem dX4_itemsNameWorked_2 : decode cX4_itemsNameWorked 2 = .ok (.iload_n 2, 1) := by decide +kernel
theorem dX4_itemsNameWorked_3 : decode cX4_itemsNameWorked 3 = .ok (.aload_n 0, 1) := by decide +kernel
theorem dX4_itemsNameWorked_4 : decode cX4_itemsNameWorked 4 = .ok (.getfield 15, 3) := by decide +kernel
theorem dX4_itemsNameWorked_7 : decode cX4_itemsNameWorked 7 = .ok (.if_icmp .ge 43, 3) := by decide +kernel
theorem dX4_itemsNameWorked_10 : decode cX4_itemsNameWorked 10 = .ok (.aload_n 0, 1) := by decide +kernel
theorem dX4_itemsNameWorked_11 : decode cX4_itemsNameWorked 11 = .ok (.getfield 9, 3) := by decide +kernel
theorem dX4_itemsNameWorked_14 : decode cX4_itemsNameWorked 14 = .ok (.iconst 4, 1) := by decide +kernel
theorem dX4_itemsNameWorked_15 : decode cX4_itemsNameWorked 15 = .ok (.imul, 1) := by decide +kernel
theorem dX4_itemsNameWorked_16 : decode cX4_itemsNameWorked 16 = .ok (.iload_n 2, 1) := by decide +kernel
theorem dX4_itemsNameWorked_17 : decode cX4_itemsNameWorked 17 = .ok (.iadd, 1) := by decide +kernel
theorem dX4_itemsNameWorked_18 : decode cX4_itemsNameWorked 18 = .ok (.istore_n 3, 1) := by decide +kernel
theorem dX4_itemsNameWorked_19 : decode cX4_itemsNameWorked 19 = .ok (.aload_n 0, 1) := by decide +kernel
theorem dX4_itemsNameWorked_20 : decode cX4_itemsNameWorked 20 = .ok (.getfield 31, 3) := by decide +kernel
theorem dX4_itemsNameWorked_23 : decode cX4_itemsNameWorked 23 = .ok (.iload_n 3, 1) := by decide +kernel
theorem dX4_itemsNameWorked_24 : decode cX4_itemsNameWorked 24 = .ok (.iaload, 1) := by decide +kernel
theorem dX4_itemsNameWorked_25 : decode cX4_itemsNameWorked 25 = .ok (.iconst 1, 1) := by decide +kernel
theorem dX4_itemsNameWorked_26 : decode cX4_itemsNameWorked 26 = .ok (.if_icmp .ne 18, 3) := by decide +kernel
theorem dX4_itemsNameWorked_29 : decode cX4_itemsNameWorked 29 = .ok (.aload_n 1, 1) := by decide +kernel
theorem dX4_itemsNameWorked_30 : decode cX4_itemsNameWorked 30 = .ok (.aload_n 0, 1) := by decide +kernel
theorem dX4_itemsNameWorked_31 : decode cX4_itemsNameWorked 31 = .ok (.getfield 34, 3) := by decide +kernel
theorem dX4_itemsNameWorked_34 : decode cX4_itemsNameWorked 34 = .ok (.iload_n 3, 1) := by decide +kernel
theorem dX4_itemsNameWorked_35 : decode cX4_itemsNameWorked 35 = .ok (.iaload, 1) := by decide +kernel
theorem dX4_itemsNameWorked_36 : decode cX4_itemsNameWorked 36 = .ok (.invokevirtual 43, 3) := by decide +kernel
theorem dX4_itemsNameWorked_39 : decode cX4_itemsNameWorked 39 = .ok (.ifCond .eq 5, 3) := by decide +kernel
theorem dX4_itemsNameWorked_42 : decode cX4_itemsNameWorked 42 = .ok (.iconst 1, 1) := by decide +kernel
theorem dX4_itemsNameWorked_43 : decode cX4_itemsNameWorked 43 = .ok (.ireturn, 1) := by decide +kernel
theorem dX4_itemsNameWorked_44 : decode cX4_itemsNameWorked 44 = .ok (.iinc 2 1, 3) := by decide +kernel
theorem dX4_itemsNameWorked_47 : decode cX4_itemsNameWorked 47 = .ok (.goto (-45), 3) := by decide +kernel
theorem dX4_itemsNameWorked_50 : decode cX4_itemsNameWorked 50 = .ok (.iconst 0, 1) := by decide +kernel
theorem dX4_itemsNameWorked_51 : decode cX4_itemsNameWorked 51 = .ok (.ireturn, 1) := by decide +kernel
theorem dX4_addRow_0 : decode cX4_addRow 0 = .ok (.aload_n 0, 1) := by decide +kernel
theorem dX4_addRow_1 : decode cX4_addRow 1 = .ok (.getfield 15, 3) := by decide +kernel
theorem dX4_addRow_4 : decode cX4_addRow 4 = .ok (.ifCond .gt 6, 3) := by decide +kernel
theorem dX4_addRow_7 : decode cX4_addRow 7 = .ok (.bipush (-3), 2) := by decide +kernel
theorem dX4_addRow_9 : decode cX4_addRow 9 = .ok (.ireturn, 1) := by decide +kernel
theorem dX4_addRow_10 : decode cX4_addRow 10 = .ok (.aload_n 0, 1) := by decide +kernel
theorem dX4_addRow_11 : decode cX4_addRow 11 = .ok (.getfield 9, 3) := by decide +kernel
theorem dX4_addRow_14 : decode cX4_addRow 14 = .ok (.bipush 20, 2) := by decide +kernel
theorem dX4_addRow_16 : decode cX4_addRow 16 = .ok (.if_icmp .lt 6, 3) := by decide +kernel
theorem dX4_addRow_19 : decode cX4_addRow 19 = .ok (.bipush (-4), 2) := by decide +kernel
theorem dX4_addRow_21 : decode cX4_addRow 21 = .ok (.ireturn, 1) := by decide +kernel
theorem dX4_addRow_22 : decode cX4_addRow 22 = .ok (.aload_n 0, 1) := by decide +kernel
theorem dX4_addRow_23 : decode cX4_addRow 23 = .ok (.getfield 18, 3) := by decide +kernel
theorem dX4_addRow_26 : decode cX4_addRow 26 = .ok (.aload_n 0, 1) := by decide +kernel
theorem dX4_addRow_27 : decode cX4_addRow 27 = .ok (.getfield 9, 3) := by decide +kernel
theorem dX4_addRow_30 : decode cX4_addRow 30 = .ok (.iload_n 1, 1) := by decide +kernel
theorem dX4_addRow_31 : decode cX4_addRow 31 = .ok (.iastore, 1) := by decide +kernel
theorem dX4_addRow_32 : decode cX4_addRow 32 = .ok (.aload_n 0, 1) := by decide +kernel
theorem dX4_addRow_33 : decode cX4_addRow 33 = .ok (.getfield 22, 3) := by decide +kernel
theorem dX4_addRow_36 : decode cX4_addRow 36 = .ok (.aload_n 0, 1) := by decide +kernel
theorem dX4_addRow_37 : decode cX4_addRow 37 = .ok (.getfield 9, 3) := by decide +kernel
theorem dX4_addRow_40 : decode cX4_addRow 40 = .ok (.iload_n 2, 1) := by decide +kernel
theorem dX4_addRow_41 : decode cX4_addRow 41 = .ok (.iastore, 1) := by decide +kernel
theorem dX4_addRow_42 : decode cX4_addRow 42 = .ok (.aload_n 0, 1) := by decide +kernel
theorem dX4_addRow_43 : decode cX4_addRow 43 = .ok (.getfield 25, 3) := by decide +kernel
theorem dX4_addRow_46 : decode cX4_addRow 46 = .ok (.aload_n 0, 1) := by decide +kernel
theorem dX4_addRow_47 : decode cX4_addRow 47 = .ok (.getfield 9, 3) := by decide +kernel
theorem dX4_addRow_50 : decode cX4_addRow 50 = .ok (.iload_n 3, 1) := by decide +kernel
theorem dX4_addRow_51 : decode cX4_addRow 51 = .ok (.iastore, 1) := by decide +kernel
theorem dX4_addRow_52 : decode cX4_addRow 52 = .ok (.aload_n 0, 1) := by decide +kernel
theorem dX4_addRow_53 : decode cX4_addRow 53 = .ok (.getfield 28, 3) := by decide +kernel
theorem dX4_addRow_56 : decode cX4_addRow 56 = .ok (.aload_n 0, 1) := by decide +kernel
theorem dX4_addRow_57 : decode cX4_addRow 57 = .ok (.getfield 9, 3) := by decide +kernel
theorem dX4_addRow_60 : decode cX4_addRow 60 = .ok (.aload_n 0, 1) := by decide +kernel
theorem dX4_addRow_61 : decode cX4_addRow 61 = .ok (.getfield 15, 3) := by decide +kernel
theorem dX4_addRow_64 : decode cX4_addRow 64 = .ok (.iastore, 1) := by decide +kernel
theorem dX4_addRow_65 : decode cX4_addRow 65 = .ok (.aload_n 0, 1) := by decide +kernel
theorem dX4_addRow_66 : decode cX4_addRow 66 = .ok (.iconst 0, 1) := by decide +kernel
theorem dX4_addRow_67 : decode cX4_addRow 67 = .ok (.putfield 15, 3) := by decide +kernel
theorem dX4_addRow_70 : decode cX4_addRow 70 = .ok (.aload_n 0, 1) := by decide +kernel
theorem dX4_addRow_71 : decode cX4_addRow 71 = .ok (.dup, 1) := by decide +kernel
theorem dX4_addRow_72 : decode cX4_addRow 72 = .ok (.getfield 9, 3) := by decide +kernel
theorem dX4_addRow_75 : decode cX4_addRow 75 = .ok (.iconst 1, 1) := by decide +kernel
theorem dX4_addRow_76 : decode cX4_addRow 76 = .ok (.iadd, 1) := by decide +kernel
theorem dX4_addRow_77 : decode cX4_addRow 77 = .ok (.putfield 9, 3) := by decide +kernel
theorem dX4_addRow_80 : decode cX4_addRow 80 = .ok (.aload_n 0, 1) := by decide +kernel
theorem dX4_addRow_81 : decode cX4_addRow 81 = .ok (.getfield 9, 3) := by decide +kernel
theorem dX4_addRow_84 : decode cX4_addRow 84 = .ok (.iconst 1, 1) := by decide +kernel
theorem dX4_addRow_85 : decode cX4_addRow 85 = .ok (.isub, 1) := by decide +kernel
theorem dX4_addRow_86 : decode cX4_addRow 86 = .ok (.ireturn, 1) := by decide +kernel
theorem dX4_isOfForm_0 : decode cX4_isOfForm 0 = .ok (.aload_n 0, 1) := by decide +kernel
theorem dX4_isOfForm_1 : decode cX4_isOfForm 1 = .ok (.iload_n 1, 1) := by decide +kernel
theorem dX4_isOfForm_2 : decode cX4_isOfForm 2 = .ok (.invokevirtual 46, 3) := by decide +kernel
theorem dX4_isOfForm_5 : decode cX4_isOfForm 5 = .ok (.ifCond .eq 17, 3) := by decide +kernel
theorem dX4_isOfForm_8 : decode cX4_isOfForm 8 = .ok (.aload_n 0, 1) := by decide +kernel
theorem dX4_isOfForm_9 : decode cX4_isOfForm 9 = .ok (.getfield 18, 3) := by decide +kernel
theorem dX4_isOfForm_12 : decode cX4_isOfForm 12 = .ok (.iload_n 1, 1) := by decide +kernel
theorem dX4_isOfForm_13 : decode cX4_isOfForm 13 = .ok (.iaload, 1) := by decide +kernel
theorem dX4_isOfForm_14 : decode cX4_isOfForm 14 = .ok (.iload_n 2, 1) := by decide +kernel
theorem dX4_isOfForm_15 : decode cX4_isOfForm 15 = .ok (.if_icmp .ne 7, 3) := by decide +kernel
theorem dX4_isOfForm_18 : decode cX4_isOfForm 18 = .ok (.iconst 1, 1) := by decide +kernel
theorem dX4_isOfForm_19 : decode cX4_isOfForm 19 = .ok (.goto 4, 3) := by decide +kernel
theorem dX4_isOfForm_22 : decode cX4_isOfForm 22 = .ok (.iconst 0, 1) := by decide +kernel
theorem dX4_isOfForm_23 : decode cX4_isOfForm 23 = .ok (.ireturn, 1) := by decide +kernel
theorem dX4_costOf_0 : decode cX4_costOf 0 = .ok (.aload_n 0, 1) := by decide +kernel
theorem dX4_costOf_1 : decode cX4_costOf 1 = .ok (.iload_n 1, 1) := by decide +kernel
theorem dX4_costOf_2 : decode cX4_costOf 2 = .ok (.invokevirtual 46, 3) := by decide +kernel
theorem dX4_costOf_5 : decode cX4_costOf 5 = .ok (.ifCond .eq 12, 3) := by decide +kernel
theorem dX4_costOf_8 : decode cX4_costOf 8 = .ok (.aload_n 0, 1) := by decide +kernel
theorem dX4_costOf_9 : decode cX4_costOf 9 = .ok (.getfield 22, 3) := by decide +kernel
theorem dX4_costOf_12 : decode cX4_costOf 12 = .ok (.iload_n 1, 1) := by decide +kernel
theorem dX4_costOf_13 : decode cX4_costOf 13 = .ok (.iaload, 1) := by decide +kernel
theorem dX4_costOf_14 : decode cX4_costOf 14 = .ok (.goto 4, 3) := by decide +kernel
theorem dX4_costOf_17 : decode cX4_costOf 17 = .ok (.iconst 0, 1) := by decide +kernel
theorem dX4_costOf_18 : decode cX4_costOf 18 = .ok (.ireturn, 1) := by decide +kernel
theorem dX4_actOf_0 : decode cX4_actOf 0 = .ok (.aload_n 0, 1) := by decide +kernel
theorem dX4_actOf_1 : decode cX4_actOf 1 = .ok (.iload_n 1, 1) := by decide +kernel
theorem dX4_actOf_2 : decode cX4_actOf 2 = .ok (.invokevirtual 46, 3) := by decide +kernel
theorem dX4_actOf_5 : decode cX4_actOf 5 = .ok (.ifCond .eq 12, 3) := by decide +kernel
theorem dX4_actOf_8 : decode cX4_actOf 8 = .ok (.aload_n 0, 1) := by decide +kernel
theorem dX4_actOf_9 : decode cX4_actOf 9 = .ok (.getfield 25, 3) := by decide +kernel
theorem dX4_actOf_12 : decode cX4_actOf 12 = .ok (.iload_n 1, 1) := by decide +kernel
theorem dX4_actOf_13 : decode cX4_actOf 13 = .ok (.iaload, 1) := by decide +kernel
theorem dX4_actOf_14 : decode cX4_actOf 14 = .ok (.goto 4, 3) := by decide +kernel
theorem dX4_actOf_17 : decode cX4_actOf 17 = .ok (.iconst (-1), 1) := by decide +kernel
theorem dX4_actOf_18 : decode cX4_actOf 18 = .ok (.ireturn, 1) := by decide +kernel
theorem dX4_lengthOf_0 : decode cX4_lengthOf 0 = .ok (.aload_n 0, 1) := by decide +kernel
theorem dX4_lengthOf_1 : decode cX4_lengthOf 1 = .ok (.iload_n 1, 1) := by decide +kernel
theorem dX4_lengthOf_2 : decode cX4_lengthOf 2 = .ok (.invokevirtual 46, 3) := by decide +kernel
theorem dX4_lengthOf_5 : decode cX4_lengthOf 5 = .ok (.ifCond .eq 12, 3) := by decide +kernel
theorem dX4_lengthOf_8 : decode cX4_lengthOf 8 = .ok (.aload_n 0, 1) := by decide +kernel
theorem dX4_lengthOf_9 : decode cX4_lengthOf 9 = .ok (.getfield 28, 3) := by decide +kernel
theorem dX4_lengthOf_12 : decode cX4_lengthOf 12 = .ok (.iload_n 1, 1) := by decide +kernel
theorem dX4_lengthOf_13 : decode cX4_lengthOf 13 = .ok (.iaload, 1) := by decide +kernel
theorem dX4_lengthOf_14 : decode cX4_lengthOf 14 = .ok (.goto 4, 3) := by decide +kernel
theorem dX4_lengthOf_17 : decode cX4_lengthOf 17 = .ok (.iconst 0, 1) := by decide +kernel
theorem dX4_lengthOf_18 : decode cX4_lengthOf 18 = .ok (.ireturn, 1) := by decide +kernel
theorem dX4_kindOfItem_0 : decode cX4_kindOfItem 0 = .ok (.aload_n 0, 1) := by decide +kernel
theorem dX4_kindOfItem_1 : decode cX4_kindOfItem 1 = .ok (.iload_n 1, 1) := by decide +kernel
theorem dX4_kindOfItem_2 : decode cX4_kindOfItem 2 = .ok (.iload_n 2, 1) := by decide +kernel
theorem dX4_kindOfItem_3 : decode cX4_kindOfItem 3 = .ok (.invokevirtual 49, 3) := by decide +kernel
theorem dX4_kindOfItem_6 : decode cX4_kindOfItem 6 = .ok (.ifCond .eq 16, 3) := by decide +kernel
theorem dX4_kindOfItem_9 : decode cX4_kindOfItem 9 = .ok (.aload_n 0, 1) := by decide +kernel
theorem dX4_kindOfItem_10 : decode cX4_kindOfItem 10 = .ok (.getfield 31, 3) := by decide +kernel
theorem dX4_kindOfItem_13 : decode cX4_kindOfItem 13 = .ok (.iload_n 1, 1) := by decide +kernel
theorem dX4_kindOfItem_14 : decode cX4_kindOfItem 14 = .ok (.iconst 4, 1) := by decide +kernel
theorem dX4_kindOfItem_15 : decode cX4_kindOfItem 15 = .ok (.imul, 1) := by decide +kernel
theorem dX4_kindOfItem_16 : decode cX4_kindOfItem 16 = .ok (.iload_n 2, 1) := by decide +kernel
theorem dX4_kindOfItem_17 : decode cX4_kindOfItem 17 = .ok (.iadd, 1) := by decide +kernel
theorem dX4_kindOfItem_18 : decode cX4_kindOfItem 18 = .ok (.iaload, 1) := by decide +kernel
theorem dX4_kindOfItem_19 : decode cX4_kindOfItem 19 = .ok (.goto 4, 3) := by decide +kernel
theorem dX4_kindOfItem_22 : decode cX4_kindOfItem 22 = .ok (.iconst (-1), 1) := by decide +kernel
theorem dX4_kindOfItem_23 : decode cX4_kindOfItem 23 = .ok (.ireturn, 1) := by decide +kernel
theorem dX4_keyOfItem_0 : decode cX4_keyOfItem 0 = .ok (.aload_n 0, 1) := by decide +kernel
theorem dX4_keyOfItem_1 : decode cX4_keyOfItem 1 = .ok (.iload_n 1, 1) := by decide +kernel
theorem dX4_keyOfItem_2 : decode cX4_keyOfItem 2 = .ok (.iload_n 2, 1) := by decide +kernel
theorem dX4_keyOfItem_3 : decode cX4_keyOfItem 3 = .ok (.invokevirtual 49, 3) := by decide +kernel
theorem dX4_keyOfItem_6 : decode cX4_keyOfItem 6 = .ok (.ifCond .eq 16, 3) := by decide +kernel
theorem dX4_keyOfItem_9 : decode cX4_keyOfItem 9 = .ok (.aload_n 0, 1) := by decide +kernel
theorem dX4_keyOfItem_10 : decode cX4_keyOfItem 10 = .ok (.getfield 34, 3) := by decide +kernel
theorem dX4_keyOfItem_13 : decode cX4_keyOfItem 13 = .ok (.iload_n 1, 1) := by decide +kernel
theorem dX4_keyOfItem_14 : decode cX4_keyOfItem 14 = .ok (.iconst 4, 1) := by decide +kernel
theorem dX4_keyOfItem_15 : decode cX4_keyOfItem 15 = .ok (.imul, 1) := by decide +kernel
theorem dX4_keyOfItem_16 : decode cX4_keyOfItem 16 = .ok (.iload_n 2, 1) := by decide +kernel
theorem dX4_keyOfItem_17 : decode cX4_keyOfItem 17 = .ok (.iadd, 1) := by decide +kernel
theorem dX4_keyOfItem_18 : decode cX4_keyOfItem 18 = .ok (.iaload, 1) := by decide +kernel
theorem dX4_keyOfItem_19 : decode cX4_keyOfItem 19 = .ok (.goto 4, 3) := by decide +kernel
theorem dX4_keyOfItem_22 : decode cX4_keyOfItem 22 = .ok (.iconst (-1), 1) := by decide +kernel
theorem dX4_keyOfItem_23 : decode cX4_keyOfItem 23 = .ok (.ireturn, 1) := by decide +kernel
theorem dX4_isRow_0 : decode cX4_isRow 0 = .ok (.iload_n 1, 1) := by decide +kernel
theorem dX4_isRow_1 : decode cX4_isRow 1 = .ok (.ifCond .lt 21, 3) := by decide +kernel
theorem dX4_isRow_4 : decode cX4_isRow 4 = .ok (.iload_n 1, 1) := by decide +kernel
theorem dX4_isRow_5 : decode cX4_isRow 5 = .ok (.aload_n 0, 1) := by decide +kernel
theorem dX4_isRow_6 : decode cX4_isRow 6 = .ok (.getfield 9, 3) := by decide +kernel
theorem dX4_isRow_9 : decode cX4_isRow 9 = .ok (.if_icmp .ge 13, 3) := by decide +kernel
theorem dX4_isRow_12 : decode cX4_isRow 12 = .ok (.iload_n 1, 1) := by decide +kernel
theorem dX4_isRow_13 : decode cX4_isRow 13 = .ok (.bipush 20, 2) := by decide +kernel
theorem dX4_isRow_15 : decode cX4_isRow 15 = .ok (.if_icmp .ge 7, 3) := by decide +kernel
theorem dX4_isRow_18 : decode cX4_isRow 18 = .ok (.iconst 1, 1) := by decide +kernel
theorem dX4_isRow_19 : decode cX4_isRow 19 = .ok (.goto 4, 3) := by decide +kernel
theorem dX4_isRow_22 : decode cX4_isRow 22 = .ok (.iconst 0, 1) := by decide +kernel
theorem dX4_isRow_23 : decode cX4_isRow 23 = .ok (.ireturn, 1) := by decide +kernel
theorem dX4_isItemOf_0 : decode cX4_isItemOf 0 = .ok (.aload_n 0, 1) := by decide +kernel
theorem dX4_isItemOf_1 : decode cX4_isItemOf 1 = .ok (.iload_n 1, 1) := by decide +kernel
theorem dX4_isItemOf_2 : decode cX4_isItemOf 2 = .ok (.invokevirtual 46, 3) := by decide +kernel
theorem dX4_isItemOf_5 : decode cX4_isItemOf 5 = .ok (.ifCond .eq 21, 3) := by decide +kernel
theorem dX4_isItemOf_8 : decode cX4_isItemOf 8 = .ok (.iload_n 2, 1) := by decide +kernel
theorem dX4_isItemOf_9 : decode cX4_isItemOf 9 = .ok (.ifCond .lt 17, 3) := by decide +kernel
theorem dX4_isItemOf_12 : decode cX4_isItemOf 12 = .ok (.iload_n 2, 1) := by decide +kernel
theorem dX4_isItemOf_13 : decode cX4_isItemOf 13 = .ok (.aload_n 0, 1) := by decide +kernel
theorem dX4_isItemOf_14 : decode cX4_isItemOf 14 = .ok (.getfield 28, 3) := by decide +kernel
theorem dX4_isItemOf_17 : decode cX4_isItemOf 17 = .ok (.iload_n 1, 1) := by decide +kernel
theorem dX4_isItemOf_18 : decode cX4_isItemOf 18 = .ok (.iaload, 1) := by decide +kernel
theorem dX4_isItemOf_19 : decode cX4_isItemOf 19 = .ok (.if_icmp .ge 7, 3) := by decide +kernel
theorem dX4_isItemOf_22 : decode cX4_isItemOf 22 = .ok (.iconst 1, 1) := by decide +kernel
theorem dX4_isItemOf_23 : decode cX4_isItemOf 23 = .ok (.goto 4, 3) := by decide +kernel
theorem dX4_isItemOf_26 : decode cX4_isItemOf 26 = .ok (.iconst 0, 1) := by decide +kernel
theorem dX4_isItemOf_27 : decode cX4_isItemOf 27 = .ok (.ireturn, 1) := by decide +kernel
