theorem dX5_init_0 : decode cX5_init 0 = .ok (.aload_n 0, 1) := by decide +kernel
theorem dX5_init_1 : decode cX5_init 1 = .ok (.invokespecial 1, 3) := by decide +kernel
theorem dX5_init_4 : decode cX5_init 4 = .ok (.aload_n 0, 1) := by decide +kernel
theorem dX5_init_5 : decode cX5_init 5 = .ok (.iconst 3, 1) := by decide +kernel
theorem dX5_init_6 : decode cX5_init 6 = .ok (.anewarray 9, 3) := by decide +kernel
theorem dX5_init_9 : decode cX5_init 9 = .ok (.putfield 11, 3) := by decide +kernel
theorem dX5_init_12 : decode cX5_init 12 = .ok (.aload_n 0, 1) := by decide +kernel
theorem dX5_init_13 : decode cX5_init 13 = .ok (.iconst 0, 1) := by decide +kernel
theorem dX5_init_14 : decode cX5_init 14 = .ok (.putfield 15, 3) := by decide +kernel
theorem dX5_init_17 : decode cX5_init 17 = .ok (.aload_n 0, 1) := by decide +kernel
theorem dX5_init_18 : decode cX5_init 18 = .ok (.new 19, 3) := by decide +kernel
theorem dX5_init_21 : decode cX5_init 21 = .ok (.dup, 1) := by decide +kernel
theorem dX5_init_22 : decode cX5_init 22 = .ok (.invokespecial 21, 3) := by decide +kernel
theorem dX5_init_25 : decode cX5_init 25 = .ok (.putfield 22, 3) := by decide +kernel
theorem dX5_init_28 : decode cX5_init 28 = .ok (.aload_n 0, 1) := by decide +kernel
theorem dX5_init_29 : decode cX5_init 29 = .ok (.iconst 3, 1) := by decide +kernel
theorem dX5_init_30 : decode cX5_init 30 = .ok (.newarray .int, 2) := by decide +kernel
theorem dX5_init_32 : decode cX5_init 32 = .ok (.putfield 26, 3) := by decide +kernel
theorem dX5_init_35 : decode cX5_init 35 = .ok (.aload_n 0, 1) := by decide +kernel
theorem dX5_init_36 : decode cX5_init 36 = .ok (.iconst 0, 1) := by decide +kernel
theorem dX5_init_37 : decode cX5_init 37 = .ok (.putfield 30, 3) := by decide +kernel
theorem dX5_init_40 : decode cX5_init 40 = .ok (.aload_n 0, 1) := by decide +kernel
theorem dX5_init_41 : decode cX5_init 41 = .ok (.bipush 8, 2) := by decide +kernel
theorem dX5_init_43 : decode cX5_init 43 = .ok (.newarray .int, 2) := by decide +kernel
theorem dX5_init_45 : decode cX5_init 45 = .ok (.putfield 33, 3) := by decide +kernel
theorem dX5_init_48 : decode cX5_init 48 = .ok (.aload_n 0, 1) := by decide +kernel
theorem dX5_init_49 : decode cX5_init 49 = .ok (.iconst 0, 1) := by decide +kernel
theorem dX5_init_50 : decode cX5_init 50 = .ok (.putfield 36, 3) := by decide +kernel
theorem dX5_init_53 : decode cX5_init 53 = .ok (.aload_n 0, 1) := by decide +kernel
theorem dX5_init_54 : decode cX5_init 54 = .ok (.new 39, 3) := by decide +kernel
theorem dX5_init_57 : decode cX5_init 57 = .ok (.dup, 1) := by decide +kernel
theorem dX5_init_58 : decode cX5_init 58 = .ok (.invokespecial 41, 3) := by decide +kernel
theorem dX5_init_61 : decode cX5_init 61 = .ok (.putfield 42, 3) := by decide +kernel
theorem dX5_init_64 : decode cX5_init 64 = .ok (.aload_n 0, 1) := by decide +kernel
theorem dX5_init_65 : decode cX5_init 65 = .ok (.new 46, 3) := by decide +kernel
theorem dX5_init_68 : decode cX5_init 68 = .ok (.dup, 1) := by decide +kernel
theorem dX5_init_69 : decode cX5_init 69 = .ok (.invokespecial 48, 3) := by decide +kernel
theorem dX5_init_72 : decode cX5_init 72 = .ok (.putfield 49, 3) := by decide +kernel
theorem dX5_init_75 : decode cX5_init 75 = .ok (.aload_n 0, 1) := by decide +kernel
theorem dX5_init_76 : decode cX5_init 76 = .ok (.new 53, 3) := by decide +kernel
theorem dX5_init_79 : decode cX5_init 79 = .ok (.dup, 1) := by decide +kernel
theorem dX5_init_80 : decode cX5_init 80 = .ok (.invokespecial 55, 3) := by decide +kernel
theorem dX5_init_83 : decode cX5_init 83 = .ok (.putfield 56, 3) := by decide +kernel
theorem dX5_init_86 : decode cX5_init 86 = .ok (.aload_n 0, 1) := by decide +kernel
theorem dX5_init_87 : decode cX5_init 87 = .ok (.iconst 0, 1) := by decide +kernel
theorem dX5_init_88 : decode cX5_init 88 = .ok (.putfield 60, 3) := by decide +kernel
theorem dX5_init_91 : decode cX5_init 91 = .ok (.aload_n 0, 1) := by decide +kernel
theorem dX5_init_92 : decode cX5_init 92 = .ok (.iconst (-1), 1) := by decide +kernel
theorem dX5_init_93 : decode cX5_init 93 = .ok (.putfield 63, 3) := by decide +kernel
theorem dX5_init_96 : decode cX5_init 96 = .ok (.aload_n 0, 1) := by decide +kernel
theorem dX5_init_97 : decode cX5_init 97 = .ok (.iconst (-1), 1) := by decide +kernel
theorem dX5_init_98 : decode cX5_init 98 = .ok (.putfield 66, 3) := by decide +kernel
theorem dX5_init_101 : decode cX5_init 101 = .ok (.aload_n 0, 1) := by decide +kernel
theorem dX5_init_102 : decode cX5_init 102 = .ok (.iconst (-1), 1) := by decide +kernel
theorem dX5_init_103 : decode cX5_init 103 = .ok (.putfield 69, 3) := by decide +kernel
theorem dX5_init_106 : decode cX5_init 106 = .ok (.return_, 1) := by decide +kernel
theorem dX5_form_0 : decode cX5_form 0 = .ok (.aload_n 0, 1) := by decide +kernel
theorem dX5_form_1 : decode cX5_form 1 = .ok (.getfield 15, 3) := by decide +kernel
theorem dX5_form_4 : decode cX5_form 4 = .ok (.iconst 3, 1) := by decide +kernel
theorem dX5_form_5 : decode cX5_form 5 = .ok (.if_icmp .lt 6, 3) := by decide +kernel
theorem dX5_form_8 : decode cX5_form 8 = .ok (.bipush (-4), 2) := by decide +kernel
theorem dX5_form_10 : decode cX5_form 10 = .ok (.ireturn, 1) := by decide +kernel
theorem dX5_form_11 : decode cX5_form 11 = .ok (.aload_n 0, 1) := by decide +kernel
theorem dX5_form_12 : decode cX5_form 12 = .ok (.getfield 11, 3) := by decide +kernel
theorem dX5_form_15 : decode cX5_form 15 = .ok (.aload_n 0, 1) := by decide +kernel
theorem dX5_form_16 : decode cX5_form 16 = .ok (.getfield 15, 3) := by decide +kernel
theorem dX5_form_19 : decode cX5_form 19 = .ok (.new 9, 3) := by decide +kernel
theorem dX5_form_22 : decode cX5_form 22 = .ok (.dup, 1) := by decide +kernel
theorem dX5_form_23 : decode cX5_form 23 = .ok (.invokespecial 72, 3) := by decide +kernel
theorem dX5_form_26 : decode cX5_form 26 = .ok (.aastore, 1) := by decide +kernel
theorem dX5_form_27 : decode cX5_form 27 = .ok (.aload_n 0, 1) := by decide +kernel
theorem dX5_form_28 : decode cX5_form 28 = .ok (.dup, 1) := by decide +kernel
theorem dX5_form_29 : decode cX5_form 29 = .ok (.getfield 15, 3) := by decide +kernel
theorem dX5_form_32 : decode cX5_form 32 = .ok (.iconst 1, 1) := by decide +kernel
theorem dX5_form_33 : decode cX5_form 33 = .ok (.iadd, 1) := by decide +kernel
theorem dX5_form_34 : decode cX5_form 34 = .ok (.putfield 15, 3) := by decide +kernel
theorem dX5_form_37 : decode cX5_form 37 = .ok (.aload_n 0, 1) := by decide +kernel
theorem dX5_form_38 : decode cX5_form 38 = .ok (.getfield 15, 3) := by decide +kernel
theorem dX5_form_41 : decode cX5_form 41 = .ok (.iconst 1, 1) := by decide +kernel
theorem dX5_form_42 : decode cX5_form 42 = .ok (.isub, 1) := by decide +kernel
theorem dX5_form_43 : decode cX5_form 43 = .ok (.ireturn, 1) := by decide +kernel
theorem dX5_place_0 : decode cX5_place 0 = .ok (.aload_n 0, 1) := by decide +kernel
theorem dX5_place_1 : decode cX5_place 1 = .ok (.iload_n 1, 1) := by decide +kernel
theorem dX5_place_2 : decode cX5_place 2 = .ok (.invokevirtual 73, 3) := by decide +kernel
theorem dX5_place_5 : decode cX5_place 5 = .ok (.astore 4, 2) := by decide +kernel
theorem dX5_place_7 : decode cX5_place 7 = .ok (.aload 4, 2) := by decide +kernel
theorem dX5_place_9 : decode cX5_place 9 = .ok (.ifnonnull 5, 3) := by decide +kernel
theorem dX5_place_12 : decode cX5_place 12 = .ok (.iconst (-1), 1) := by decide +kernel
theorem dX5_place_13 : decode cX5_place 13 = .ok (.ireturn, 1) := by decide +kernel
theorem dX5_place_14 : decode cX5_place 14 = .ok (.iload_n 2, 1) := by decide +kernel
theorem dX5_place_15 : decode cX5_place 15 = .ok (.ifCond .eq 8, 3) := by decide +kernel
theorem dX5_place_18 : decode cX5_place 18 = .ok (.iload_n 2, 1) := by decide +kernel
theorem dX5_place_19 : decode cX5_place 19 = .ok (.iconst 2, 1) := by decide +kernel
theorem dX5_place_20 : decode cX5_place 20 = .ok (.if_icmp .ne 10, 3) := by decide +kernel
theorem dX5_place_23 : decode cX5_place 23 = .ok (.iload_n 3, 1) := by decide +kernel
theorem dX5_place_24 : decode cX5_place 24 = .ok (.invokestatic 77, 3) := by decide +kernel
theorem dX5_place_27 : decode cX5_place 27 = .ok (.ifCond .ne 6, 3) := by decide +kernel
theorem dX5_place_30 : decode cX5_place 30 = .ok (.bipush (-2), 2) := by decide +kernel
theorem dX5_place_32 : decode cX5_place 32 = .ok (.ireturn, 1) := by decide +kernel
theorem dX5_place_33 : decode cX5_place 33 = .ok (.aload_n 0, 1) := by decide +kernel
theorem dX5_place_34 : decode cX5_place 34 = .ok (.iload_n 1, 1) := by decide +kernel
theorem dX5_place_35 : decode cX5_place 35 = .ok (.invokevirtual 81, 3) := by decide +kernel
theorem dX5_place_38 : decode cX5_place 38 = .ok (.ifCond .eq 6, 3) := by decide +kernel
theorem dX5_place_41 : decode cX5_place 41 = .ok (.bipush (-3), 2) := by decide +kernel
theorem dX5_place_43 : decode cX5_place 43 = .ok (.ireturn, 1) := by decide +kernel
theorem dX5_place_44 : decode cX5_place 44 = .ok (.aload 4, 2) := by decide +kernel
theorem dX5_place_46 : decode cX5_place 46 = .ok (.iload_n 2, 1) := by decide +kernel
theorem dX5_place_47 : decode cX5_place 47 = .ok (.iload_n 3, 1) := by decide +kernel
theorem dX5_place_48 : decode cX5_place 48 = .ok (.iconst 0, 1) := by decide +kernel
theorem dX5_place_49 : decode cX5_place 49 = .ok (.iconst 0, 1) := by decide +kernel
theorem dX5_place_50 : decode cX5_place 50 = .ok (.invokevirtual 84, 3) := by decide +kernel
theorem dX5_place_53 : decode cX5_place 53 = .ok (.ireturn, 1) := by decide +kernel
theorem dX5_worked_0 : decode cX5_worked 0 = .ok (.aload_n 0, 1) := by decide +kernel
theorem dX5_worked_1 : decode cX5_worked 1 = .ok (.iload_n 1, 1) := by decide +kernel
theorem dX5_worked_2 : decode cX5_worked 2 = .ok (.invokevirtual 73, 3) := by decide +kernel
theorem dX5_worked_5 : decode cX5_worked 5 = .ok (.astore 5, 2) := by decide +kernel
theorem dX5_worked_7 : decode cX5_worked 7 = .ok (.aload 5, 2) := by decide +kernel
theorem dX5_worked_9 : decode cX5_worked 9 = .ok (.ifnull 22, 3) := by decide +kernel
theorem dX5_worked_12 : decode cX5_worked 12 = .ok (.aload 5, 2) := by decide +kernel
theorem dX5_worked_14 : decode cX5_worked 14 = .ok (.iload_n 3, 1) := by decide +kernel
theorem dX5_worked_15 : decode cX5_worked 15 = .ok (.invokevirtual 88, 3) := by decide +kernel
theorem dX5_worked_18 : decode cX5_worked 18 = .ok (.ifCond .eq 13, 3) := by decide +kernel
theorem dX5_worked_21 : decode cX5_worked 21 = .ok (.aload 5, 2) := by decide +kernel
theorem dX5_worked_23 : decode cX5_worked 23 = .ok (.iload 4, 2) := by decide +kernel
theorem dX5_worked_25 : decode cX5_worked 25 = .ok (.invokevirtual 88, 3) := by decide +kernel
theorem dX5_worked_28 : decode cX5_worked 28 = .ok (.ifCond .ne 5, 3) := by decide +kernel
theorem dX5_worked_31 : decode cX5_worked 31 = .ok (.iconst (-1), 1) := by decide +kernel
theorem dX5_worked_32 : decode cX5_worked 32 = .ok (.ireturn, 1) := by decide +kernel
theorem dX5_worked_33 : decode cX5_worked 33 = .ok (.iload_n 2, 1) := by decide +kernel
theorem dX5_worked_34 : decode cX5_worked 34 = .ok (.invokestatic 77, 3) := by decide +kernel
theorem dX5_worked_37 : decode cX5_worked 37 = .ok (.ifCond .eq 22, 3) := by decide +kernel
theorem dX5_worked_40 : decode cX5_worked 40 = .ok (.aload 5, 2) := by decide +kernel
theorem dX5_worked_42 : decode cX5_worked 42 = .ok (.iload_n 3, 1) := by decide +kernel
theorem dX5_worked_43 : decode cX5_worked 43 = .ok (.invokevirtual 91, 3) := by decide +kernel
theorem dX5_worked_46 : decode cX5_worked 46 = .ok (.ifCond .ne 13, 3) := by decide +kernel
theorem dX5_worked_49 : decode cX5_worked 49 = .ok (.aload 5, 2) := by decide +kernel
theorem dX5_worked_51 : decode cX5_worked 51 = .ok (.iload 4, 2) := by decide +kernel
theorem dX5_worked_53 : decode cX5_worked 53 = .ok (.invokevirtual 91, 3) := by decide +kernel
theorem dX5_worked_56 : decode cX5_worked 56 = .ok (.ifCond .eq 6, 3) := by decide +kernel
theorem dX5_worked_59 : decode cX5_worked 59 = .ok (.bipush (-2), 2) := by decide +kernel
theorem dX5_worked_61 : decode cX5_worked 61 = .ok (.ireturn, 1) := by decide +kernel
theorem dX5_worked_62 : decode cX5_worked 62 = .ok (.aload_n 0, 1) := by decide +kernel
theorem dX5_worked_63 : decode cX5_worked 63 = .ok (.iload_n 1, 1) := by decide +kernel
theorem dX5_worked_64 : decode cX5_worked 64 = .ok (.invokevirtual 81, 3) := by decide +kernel
theorem dX5_worked_67 : decode cX5_worked 67 = .ok (.ifCond .eq 6, 3) := by decide +kernel
theorem dX5_worked_70 : decode cX5_worked 70 = .ok (.bipush (-3), 2) := by decide +kernel
theorem dX5_worked_72 : decode cX5_worked 72 = .ok (.ireturn, 1) := by decide +kernel
theorem dX5_worked_73 : decode cX5_worked 73 = .ok (.aload 5, 2) := by decide +kernel
theorem dX5_worked_75 : decode cX5_worked 75 = .ok (.iconst 1, 1) := by decide +kernel
theorem dX5_worked_76 : decode cX5_worked 76 = .ok (.iload_n 2, 1) := by decide +kernel
theorem dX5_worked_77 : decode cX5_worked 77 = .ok (.iload_n 3, 1) := by decide +kernel
theorem dX5_worked_78 : decode cX5_worked 78 = .ok (.iload 4, 2) := by decide +kernel
theorem dX5_worked_80 : decode cX5_worked 80 = .ok (.invokevirtual 84, 3) := by decide +kernel
theorem dX5_worked_83 : decode cX5_worked 83 = .ok (.ireturn, 1) := by decide +kernel
theorem dX5_bar_0 : decode cX5_bar 0 = .ok (.aload_n 0, 1) := by decide +kernel
theorem dX5_bar_1 : decode cX5_bar 1 = .ok (.iload_n 1, 1) := by decide +kernel
theorem dX5_bar_2 : decode cX5_bar 2 = .ok (.invokevirtual 73, 3) := by decide +kernel
theorem dX5_bar_5 : decode cX5_bar 5 = .ok (.astore 6, 2) := by decide +kernel
theorem dX5_bar_7 : decode cX5_bar 7 = .ok (.aload 6, 2) := by decide +kernel
theorem dX5_bar_9 : decode cX5_bar 9 = .ok (.ifnull 25, 3) := by decide +kernel
theorem dX5_bar_12 : decode cX5_bar 12 = .ok (.aload 6, 2) := by decide +kernel
theorem dX5_bar_14 : decode cX5_bar 14 = .ok (.iload_n 2, 1) := by decide +kernel
theorem dX5_bar_15 : decode cX5_bar 15 = .ok (.iload_n 3, 1) := by decide +kernel
theorem dX5_bar_16 : decode cX5_bar 16 = .ok (.invokevirtual 94, 3) := by decide +kernel
theorem dX5_bar_19 : decode cX5_bar 19 = .ok (.ifCond .eq 15, 3) := by decide +kernel
theorem dX5_bar_22 : decode cX5_bar 22 = .ok (.aload 6, 2) := by decide +kernel
theorem dX5_bar_24 : decode cX5_bar 24 = .ok (.iload 4, 2) := by decide +kernel
theorem dX5_bar_26 : decode cX5_bar 26 = .ok (.iload 5, 2) := by decide +kernel
theorem dX5_bar_28 : decode cX5_bar 28 = .ok (.invokevirtual 94, 3) := by decide +kernel
theorem dX5_bar_31 : decode cX5_bar 31 = .ok (.ifCond .ne 5, 3) := by decide +kernel
theorem dX5_bar_34 : decode cX5_bar 34 = .ok (.iconst (-1), 1) := by decide +kernel
theorem dX5_bar_35 : decode cX5_bar 35 = .ok (.ireturn, 1) := by decide +kernel
theorem dX5_bar_36 : decode cX5_bar 36 = .ok (.iload_n 2, 1) := by decide +kernel
theorem dX5_bar_37 : decode cX5_bar 37 = .ok (.iload 4, 2) := by decide +kernel
theorem dX5_bar_39 : decode cX5_bar 39 = .ok (.if_icmp .ne 6, 3) := by decide +kernel
theorem dX5_bar_42 : decode cX5_bar 42 = .ok (.bipush (-2), 2) := by decide +kernel
theorem dX5_bar_44 : decode cX5_bar 44 = .ok (.ireturn, 1) := by decide +kernel
theorem dX5_bar_45 : decode cX5_bar 45 = .ok (.aload_n 0, 1) := by decide +kernel
theorem dX5_bar_46 : decode cX5_bar 46 = .ok (.iload_n 1, 1) := by decide +kernel
theorem dX5_bar_47 : decode cX5_bar 47 = .ok (.invokevirtual 81, 3) := by decide +kernel
theorem dX5_bar_50 : decode cX5_bar 50 = .ok (.ifCond .eq 6, 3) := by decide +kernel
theorem dX5_bar_53 : decode cX5_bar 53 = .ok (.bipush (-3), 2) := by decide +kernel
theorem dX5_bar_55 : decode cX5_bar 55 = .ok (.ireturn, 1) := by decide +kernel
theorem dX5_bar_56 : decode cX5_bar 56 = .ok (.aload 6, 2) := by decide +kernel
theorem dX5_bar_58 : decode cX5_bar 58 = .ok (.iconst 0, 1) := by decide +kernel
theorem dX5_bar_59 : decode cX5_bar 59 = .ok (.iload_n 2, 1) := by decide +kernel
theorem dX5_bar_60 : decode cX5_bar 60 = .ok (.iload_n 3, 1) := by decide +kernel
theorem dX5_bar_61 : decode cX5_bar 61 = .ok (.iload 4, 2) := by decide +kernel
theorem dX5_bar_63 : decode cX5_bar 63 = .ok (.iload 5, 2) := by decide +kernel
theorem dX5_bar_65 : decode cX5_bar 65 = .ok (.invokevirtual 98, 3) := by decide +kernel
theorem dX5_bar_68 : decode cX5_bar 68 = .ok (.ireturn, 1) := by decide +kernel
theorem dX5_need_0 : decode cX5_need 0 = .ok (.aload_n 0, 1) := by decide +kernel
theorem dX5_need_1 : decode cX5_need 1 = .ok (.iload_n 1, 1) := by decide +kernel
theorem dX5_need_2 : decode cX5_need 2 = .ok (.invokevirtual 73, 3) := by decide +kernel
theorem dX5_need_5 : decode cX5_need 5 = .ok (.astore 5, 2) := by decide +kernel
theorem dX5_need_7 : decode cX5_need 7 = .ok (.aload 5, 2) := by decide +kernel
theorem dX5_need_9 : decode cX5_need 9 = .ok (.ifnull 23, 3) := by decide +kernel
theorem dX5_need_12 : decode cX5_need 12 = .ok (.aload 5, 2) := by decide +kernel
theorem dX5_need_14 : decode cX5_need 14 = .ok (.iload_n 2, 1) := by decide +kernel
theorem dX5_need_15 : decode cX5_need 15 = .ok (.iload_n 3, 1) := by decide +kernel
theorem dX5_need_16 : decode cX5_need 16 = .ok (.invokevirtual 94, 3) := by decide +kernel
theorem dX5_need_19 : decode cX5_need 19 = .ok (.ifCond .eq 13, 3) := by decide +kernel
theorem dX5_need_22 : decode cX5_need 22 = .ok (.aload 5, 2) := by decide +kernel
theorem dX5_need_24 : decode cX5_need 24 = .ok (.iload 4, 2) := by decide +kernel
theorem dX5_need_26 : decode cX5_need 26 = .ok (.invokevirtual 88, 3) := by decide +kernel
theorem dX5_need_29 : decode cX5_need 29 = .ok (.ifCond .ne 5, 3) := by decide +kernel
theorem dX5_need_32 : decode cX5_need 32 = .ok (.iconst (-1), 1) := by decide +kernel
theorem dX5_need_33 : decode cX5_need 33 = .ok (.ireturn, 1) := by decide +kernel
theorem dX5_need_34 : decode cX5_need 34 = .ok (.iload_n 2, 1) := by decide +kernel
theorem dX5_need_35 : decode cX5_need 35 = .ok (.iload 4, 2) := by decide +kernel
theorem dX5_need_37 : decode cX5_need 37 = .ok (.if_icmp .eq 13, 3) := by decide +kernel
theorem dX5_need_40 : decode cX5_need 40 = .ok (.aload 5, 2) := by decide +kernel
theorem dX5_need_42 : decode cX5_need 42 = .ok (.iload 4, 2) := by decide +kernel
theorem dX5_need_44 : decode cX5_need 44 = .ok (.invokevirtual 91, 3) := by decide +kernel
theorem dX5_need_47 : decode cX5_need 47 = .ok (.ifCond .eq 6, 3) := by decide +kernel
theorem dX5_need_50 : decode cX5_need 50 = .ok (.bipush (-2), 2) := by decide +kernel
theorem dX5_need_52 : decode cX5_need 52 = .ok (.ireturn, 1) := by decide +kernel
theorem dX5_need_53 : decode cX5_need 53 = .ok (.aload_n 0, 1) := by decide +kernel
theorem dX5_need_54 : decode cX5_need 54 = .ok (.iload_n 1, 1) := by decide +kernel
theorem dX5_need_55 : decode cX5_need 55 = .ok (.invokevirtual 81, 3) := by decide +kernel
theorem dX5_need_58 : decode cX5_need 58 = .ok (.ifCond .eq 6, 3) := by decide +kernel
theorem dX5_need_61 : decode cX5_need 61 = .ok (.bipush (-3), 2) := by decide +kernel
theorem dX5_need_63 : decode cX5_need 63 = .ok (.ireturn, 1) := by decide +kernel
theorem dX5_need_64 : decode cX5_need 64 = .ok (.aload 5, 2) := by decide +kernel
theorem dX5_need_66 : decode cX5_need 66 = .ok (.iconst 1, 1) := by decide +kernel
theorem dX5_need_67 : decode cX5_need 67 = .ok (.iload_n 2, 1) := by decide +kernel
theorem dX5_need_68 : decode cX5_need 68 = .ok (.iload_n 3, 1) := by decide +kernel
theorem dX5_need_69 : decode cX5_need 69 = .ok (.iload 4, 2) := by decide +kernel
theorem dX5_need_71 : decode cX5_need 71 = .ok (.iconst 0, 1) := by decide +kernel
theorem dX5_need_72 : decode cX5_need 72 = .ok (.invokevirtual 98, 3) := by decide +kernel
theorem dX5_need_75 : decode cX5_need 75 = .ok (.ireturn, 1) := by decide +kernel
theorem dX5_word_0 : decode cX5_word 0 = .ok (.aload_n 0, 1) := by decide +kernel
theorem dX5_word_1 : decode cX5_word 1 = .ok (.iload_n 1, 1) := by decide +kernel
theorem dX5_word_2 : decode cX5_word 2 = .ok (.invokevirtual 73, 3) := by decide +kernel
theorem dX5_word_5 : decode cX5_word 5 = .ok (.astore 5, 2) := by decide +kernel
theorem dX5_word_7 : decode cX5_word 7 = .ok (.aload 5, 2) := by decide +kernel
theorem dX5_word_9 : decode cX5_word 9 = .ok (.ifnull 21, 3) := by decide +kernel
theorem dX5_word_12 : decode cX5_word 12 = .ok (.aload 5, 2) := by decide +kernel
theorem dX5_word_14 : decode cX5_word 14 = .ok (.iload_n 2, 1) := by decide +kernel
theorem dX5_word_15 : decode cX5_word 15 = .ok (.iload_n 3, 1) := by decide +kernel
theorem dX5_word_16 : decode cX5_word 16 = .ok (.invokevirtual 94, 3) := by decide +kernel
theorem dX5_word_19 : decode cX5_word 19 = .ok (.ifCond .eq 11, 3) := by decide +kernel
theorem dX5_word_22 : decode cX5_word 22 = .ok (.iload 4, 2) := by decide +kernel
theorem dX5_word_24 : decode cX5_word 24 = .ok (.invokestatic 102, 3) := by decide +kernel
theorem dX5_word_27 : decode cX5_word 27 = .ok (.ifCond .ne 5, 3) := by decide +kernel
theorem dX5_word_30 : decode cX5_word 30 = .ok (.iconst (-1), 1) := by decide +kernel
theorem dX5_word_31 : decode cX5_word 31 = .ok (.ireturn, 1) := by decide +kernel
theorem dX5_word_32 : decode cX5_word 32 = .ok (.aload 5, 2) := by decide +kernel
theorem dX5_word_34 : decode cX5_word 34 = .ok (.iload_n 2, 1) := by decide +kernel
theorem dX5_word_35 : decode cX5_word 35 = .ok (.invokevirtual 91, 3) := by decide +kernel
theorem dX5_word_38 : decode cX5_word 38 = .ok (.ifCond .eq 6, 3) := by decide +kernel
theorem dX5_word_41 : decode cX5_word 41 = .ok (.bipush (-2), 2) := by decide +kernel
theorem dX5_word_43 : decode cX5_word 43 = .ok (.ireturn, 1) := by decide +kernel
theorem dX5_word_44 : decode cX5_word 44 = .ok (.aload 5, 2) := by decide +kernel
theorem dX5_word_46 : decode cX5_word 46 = .ok (.iload 4, 2) := by decide +kernel
theorem dX5_word_48 : decode cX5_word 48 = .ok (.invokevirtual 105, 3) := by decide +kernel
theorem dX5_word_51 : decode cX5_word 51 = .ok (.iconst (-1), 1) := by decide +kernel
theorem dX5_word_52 : decode cX5_word 52 = .ok (.if_icmp .eq 6, 3) := by decide +kernel
theorem dX5_word_55 : decode cX5_word 55 = .ok (.bipush (-3), 2) := by decide +kernel
theorem dX5_word_57 : decode cX5_word 57 = .ok (.ireturn, 1) := by decide +kernel
theorem dX5_word_58 : decode cX5_word 58 = .ok (.aload 5, 2) := by decide +kernel
theorem dX5_word_60 : decode cX5_word 60 = .ok (.iload 4, 2) := by decide +kernel
theorem dX5_word_62 : decode cX5_word 62 = .ok (.iload_n 2, 1) := by decide +kernel
theorem dX5_word_63 : decode cX5_word 63 = .ok (.iload_n 3, 1) := by decide +kernel
theorem dX5_word_64 : decode cX5_word 64 = .ok (.invokevirtual 109, 3) := by decide +kernel
theorem dX5_word_67 : decode cX5_word 67 = .ok (.iconst 0, 1) := by decide +kernel
theorem dX5_word_68 : decode cX5_word 68 = .ok (.ireturn, 1) := by decide +kernel
theorem dX5_item_0 : decode cX5_item 0 = .ok (.iload_n 1, 1) := by decide +kernel
theorem dX5_item_1 : decode cX5_item 1 = .ok (.iload_n 2, 1) := by decide +kernel
theorem dX5_item_2 : decode cX5_item 2 = .ok (.invokestatic 113, 3) := by decide +kernel
theorem dX5_item_5 : decode cX5_item 5 = .ok (.ifCond .ne 6, 3) := by decide +kernel
theorem dX5_item_8 : decode cX5_item 8 = .ok (.bipush (-2), 2) := by decide +kernel
theorem dX5_item_10 : decode cX5_item 10 = .ok (.ireturn, 1) := by decide +kernel
theorem dX5_item_11 : decode cX5_item 11 = .ok (.aload_n 0, 1) := by decide +kernel
theorem dX5_item_12 : decode cX5_item 12 = .ok (.getfield 22, 3) := by decide +kernel
theorem dX5_item_15 : decode cX5_item 15 = .ok (.iload_n 1, 1) := by decide +kernel
theorem dX5_item_16 : decode cX5_item 16 = .ok (.iload_n 2, 1) := by decide +kernel
theorem dX5_item_17 : decode cX5_item 17 = .ok (.invokevirtual 116, 3) := by decide +kernel
theorem dX5_item_20 : decode cX5_item 20 = .ok (.ireturn, 1) := by decide +kernel
theorem dX5_row_0 : decode cX5_row 0 = .ok (.aload_n 0, 1) := by decide +kernel
theorem dX5_row_1 : decode cX5_row 1 = .ok (.iload_n 1, 1) := by decide +kernel
theorem dX5_row_2 : decode cX5_row 2 = .ok (.invokevirtual 73, 3) := by decide +kernel
theorem dX5_row_5 : decode cX5_row 5 = .ok (.astore 4, 2) := by decide +kernel
theorem dX5_row_7 : decode cX5_row 7 = .ok (.aload 4, 2) := by decide +kernel
theorem dX5_row_9 : decode cX5_row 9 = .ok (.ifnull 15, 3) := by decide +kernel
theorem dX5_row_12 : decode cX5_row 12 = .ok (.aload_n 0, 1) := by decide +kernel
theorem dX5_row_13 : decode cX5_row 13 = .ok (.getfield 22, 3) := by decide +kernel
theorem dX5_row_16 : decode cX5_row 16 = .ok (.aload 4, 2) := by decide +kernel
theorem dX5_row_18 : decode cX5_row 18 = .ok (.invokevirtual 120, 3) := by decide +kernel
theorem dX5_row_21 : decode cX5_row 21 = .ok (.ifCond .eq 5, 3) := by decide +kernel
theorem dX5_row_24 : decode cX5_row 24 = .ok (.iconst (-1), 1) := by decide +kernel
theorem dX5_row_25 : decode cX5_row 25 = .ok (.ireturn, 1) := by decide +kernel
theorem dX5_row_26 : decode cX5_row 26 = .ok (.iload_n 2, 1) := by decide +kernel
theorem dX5_row_27 : decode cX5_row 27 = .ok (.iconst 1, 1) := by decide +kernel
theorem dX5_row_28 : decode cX5_row 28 = .ok (.if_icmp .lt 18, 3) := by decide +kernel
theorem dX5_row_31 : decode cX5_row 31 = .ok (.iload_n 2, 1) := by decide +kernel
theorem dX5_row_32 : decode cX5_row 32 = .ok (.bipush 9, 2) := by decide +kernel
theorem dX5_row_34 : decode cX5_row 34 = .ok (.if_icmp .gt 12, 3) := by decide +kernel
theorem dX5_row_37 : decode cX5_row 37 = .ok (.iload_n 3, 1) := by decide +kernel
theorem dX5_row_38 : decode cX5_row 38 = .ok (.ifCond .lt 8, 3) := by decide +kernel
theorem dX5_row_41 : decode cX5_row 41 = .ok (.iload_n 3, 1) := by decide +kernel
theorem dX5_row_42 : decode cX5_row 42 = .ok (.iconst 2, 1) := by decide +kernel
theorem dX5_row_43 : decode cX5_row 43 = .ok (.if_icmp .le 6, 3) := by decide +kernel
theorem dX5_row_46 : decode cX5_row 46 = .ok (.bipush (-2), 2) := by decide +kernel
theorem dX5_row_48 : decode cX5_row 48 = .ok (.ireturn, 1) := by decide +kernel
theorem dX5_row_49 : decode cX5_row 49 = .ok (.aload_n 0, 1) := by decide +kernel
theorem dX5_row_50 : decode cX5_row 50 = .ok (.getfield 22, 3) := by decide +kernel
theorem dX5_row_53 : decode cX5_row 53 = .ok (.aload 4, 2) := by decide +kernel
theorem dX5_row_55 : decode cX5_row 55 = .ok (.invokevirtual 124, 3) := by decide +kernel
theorem dX5_row_58 : decode cX5_row 58 = .ok (.ifCond .ne 17, 3) := by decide +kernel
theorem dX5_row_61 : decode cX5_row 61 = .ok (.iload_n 3, 1) := by decide +kernel
theorem dX5_row_62 : decode cX5_row 62 = .ok (.ifCond .eq 16, 3) := by decide +kernel
theorem dX5_row_65 : decode cX5_row 65 = .ok (.aload_n 0, 1) := by decide +kernel
theorem dX5_row_66 : decode cX5_row 66 = .ok (.getfield 22, 3) := by decide +kernel
theorem dX5_row_69 : decode cX5_row 69 = .ok (.invokevirtual 127, 3) := by decide +kernel
theorem dX5_row_72 : decode cX5_row 72 = .ok (.ifCond .eq 6, 3) := by decide +kernel
theorem dX5_row_75 : decode cX5_row 75 = .ok (.bipush (-2), 2) := by decide +kernel
theorem dX5_row_77 : decode cX5_row 77 = .ok (.ireturn, 1) := by decide +kernel
theorem dX5_row_78 : decode cX5_row 78 = .ok (.aload_n 0, 1) := by decide +kernel
theorem dX5_row_79 : decode cX5_row 79 = .ok (.getfield 22, 3) := by decide +kernel
theorem dX5_row_82 : decode cX5_row 82 = .ok (.iload_n 1, 1) := by decide +kernel
theorem dX5_row_83 : decode cX5_row 83 = .ok (.iload_n 2, 1) := by decide +kernel
theorem dX5_row_84 : decode cX5_row 84 = .ok (.iload_n 3, 1) := by decide +kernel
theorem dX5_row_85 : decode cX5_row 85 = .ok (.invokevirtual 131, 3) := by decide +kernel
theorem dX5_row_88 : decode cX5_row 88 = .ok (.ireturn, 1) := by decide +kernel
theorem dX5_open_0 : decode cX5_open 0 = .ok (.aload_n 0, 1) := by decide +kernel
theorem dX5_open_1 : decode cX5_open 1 = .ok (.iload_n 1, 1) := by decide +kernel
theorem dX5_open_2 : decode cX5_open 2 = .ok (.invokevirtual 73, 3) := by decide +kernel
theorem dX5_open_5 : decode cX5_open 5 = .ok (.astore_n 2, 1) := by decide +kernel
theorem dX5_open_6 : decode cX5_open 6 = .ok (.aload_n 2, 1) := by decide +kernel
theorem dX5_open_7 : decode cX5_open 7 = .ok (.ifnonnull 5, 3) := by decide +kernel
theorem dX5_open_10 : decode cX5_open 10 = .ok (.iconst (-1), 1) := by decide +kernel
theorem dX5_open_11 : decode cX5_open 11 = .ok (.ireturn, 1) := by decide +kernel
theorem dX5_open_12 : decode cX5_open 12 = .ok (.aload_n 0, 1) := by decide +kernel
theorem dX5_open_13 : decode cX5_open 13 = .ok (.iload_n 1, 1) := by decide +kernel
theorem dX5_open_14 : decode cX5_open 14 = .ok (.invokevirtual 81, 3) := by decide +kernel
theorem dX5_open_17 : decode cX5_open 17 = .ok (.ifCond .ne 11, 3) := by decide +kernel
theorem dX5_open_20 : decode cX5_open 20 = .ok (.aload_n 0, 1) := by decide +kernel
theorem dX5_open_21 : decode cX5_open 21 = .ok (.getfield 30, 3) := by decide +kernel
theorem dX5_open_24 : decode cX5_open 24 = .ok (.iconst 3, 1) := by decide +kernel
theorem dX5_open_25 : decode cX5_open 25 = .ok (.if_icmp .lt 6, 3) := by decide +kernel
theorem dX5_open_28 : decode cX5_open 28 = .ok (.bipush (-3), 2) := by decide +kernel
theorem dX5_open_30 : decode cX5_open 30 = .ok (.ireturn, 1) := by decide +kernel
theorem dX5_open_31 : decode cX5_open 31 = .ok (.aload_n 2, 1) := by decide +kernel
theorem dX5_open_32 : decode cX5_open 32 = .ok (.invokevirtual 135, 3) := by decide +kernel
theorem dX5_open_35 : decode cX5_open 35 = .ok (.aload_n 0, 1) := by decide +kernel
theorem dX5_open_36 : decode cX5_open 36 = .ok (.getfield 26, 3) := by decide +kernel
theorem dX5_open_39 : decode cX5_open 39 = .ok (.aload_n 0, 1) := by decide +kernel
theorem dX5_open_40 : decode cX5_open 40 = .ok (.getfield 30, 3) := by decide +kernel
theorem dX5_open_43 : decode cX5_open 43 = .ok (.iload_n 1, 1) := by decide +kernel
theorem dX5_open_44 : decode cX5_open 44 = .ok (.iastore, 1) := by decide +kernel
theorem dX5_open_45 : decode cX5_open 45 = .ok (.aload_n 0, 1) := by decide +kernel
theorem dX5_open_46 : decode cX5_open 46 = .ok (.dup, 1) := by decide +kernel
theorem dX5_open_47 : decode cX5_open 47 = .ok (.getfield 30, 3) := by decide +kernel
theorem dX5_open_50 : decode cX5_open 50 = .ok (.iconst 1, 1) := by decide +kernel
theorem dX5_open_51 : decode cX5_open 51 = .ok (.iadd, 1) := by decide +kernel
theorem dX5_open_52 : decode cX5_open 52 = .ok (.putfield 30, 3) := by decide +kernel
theorem dX5_open_55 : decode cX5_open 55 = .ok (.aload_n 0, 1) := by decide +kernel
theorem dX5_open_56 : decode cX5_open 56 = .ok (.invokevirtual 138, 3) := by decide +kernel
theorem dX5_open_59 : decode cX5_open 59 = .ok (.aload_n 0, 1) := by decide +kernel
theorem dX5_open_60 : decode cX5_open 60 = .ok (.getfield 30, 3) := by decide +kernel
theorem dX5_open_63 : decode cX5_open 63 = .ok (.ireturn, 1) := by decide +kernel
theorem dX5_close_0 : decode cX5_close 0 = .ok (.aload_n 0, 1) := by decide +kernel
theorem dX5_close_1 : decode cX5_close 1 = .ok (.getfield 30, 3) := by decide +kernel
theorem dX5_close_4 : decode cX5_close 4 = .ok (.ifCond .gt 6, 3) := by decide +kernel
theorem dX5_close_7 : decode cX5_close 7 = .ok (.bipush (-3), 2) := by decide +kernel
theorem dX5_close_9 : decode cX5_close 9 = .ok (.ireturn, 1) := by decide +kernel
theorem dX5_close_10 : decode cX5_close 10 = .ok (.aload_n 0, 1) := by decide +kernel
theorem dX5_close_11 : decode cX5_close 11 = .ok (.dup, 1) := by decide +kernel
theorem dX5_close_12 : decode cX5_close 12 = .ok (.getfield 30, 3) := by decide +kernel
theorem dX5_close_15 : decode cX5_close 15 = .ok (.iconst 1, 1) := by decide +kernel
theorem dX5_close_16 : decode cX5_close 16 = .ok (.isub, 1) := by decide +kernel
theorem dX5_close_17 : decode cX5_close 17 = .ok (.putfield 30, 3) := by decide +kernel
theorem dX5_close_20 : decode cX5_close 20 = .ok (.aload_n 0, 1) := by decide +kernel
theorem dX5_close_21 : decode cX5_close 21 = .ok (.invokevirtual 138, 3) := by decide +kernel
theorem dX5_close_24 : decode cX5_close 24 = .ok (.aload_n 0, 1) := by decide +kernel
theorem dX5_close_25 : decode cX5_close 25 = .ok (.getfield 26, 3) := by decide +kernel
theorem dX5_close_28 : decode cX5_close 28 = .ok (.aload_n 0, 1) := by decide +kernel
theorem dX5_close_29 : decode cX5_close 29 = .ok (.getfield 30, 3) := by decide +kernel
theorem dX5_close_32 : decode cX5_close 32 = .ok (.iaload, 1) := by decide +kernel
theorem dX5_close_33 : decode cX5_close 33 = .ok (.ireturn, 1) := by decide +kernel
theorem dX5_say_0 : decode cX5_say 0 = .ok (.iload_n 1, 1) := by decide +kernel
theorem dX5_say_1 : decode cX5_say 1 = .ok (.invokestatic 102, 3) := by decide +kernel
theorem dX5_say_4 : decode cX5_say 4 = .ok (.ifCond .ne 5, 3) := by decide +kernel
theorem dX5_say_7 : decode cX5_say 7 = .ok (.iconst (-1), 1) := by decide +kernel
theorem dX5_say_8 : decode cX5_say 8 = .ok (.ireturn, 1) := by decide +kernel
theorem dX5_say_9 : decode cX5_say 9 = .ok (.aload_n 0, 1) := by decide +kernel
theorem dX5_say_10 : decode cX5_say 10 = .ok (.getfield 36, 3) := by decide +kernel
theorem dX5_say_13 : decode cX5_say 13 = .ok (.bipush 8, 2) := by decide +kernel
theorem dX5_say_15 : decode cX5_say 15 = .ok (.if_icmp .lt 6, 3) := by decide +kernel
theorem dX5_say_18 : decode cX5_say 18 = .ok (.bipush (-4), 2) := by decide +kernel
theorem dX5_say_20 : decode cX5_say 20 = .ok (.ireturn, 1) := by decide +kernel
theorem dX5_say_21 : decode cX5_say 21 = .ok (.aload_n 0, 1) := by decide +kernel
theorem dX5_say_22 : decode cX5_say 22 = .ok (.getfield 33, 3) := by decide +kernel
theorem dX5_say_25 : decode cX5_say 25 = .ok (.aload_n 0, 1) := by decide +kernel
theorem dX5_say_26 : decode cX5_say 26 = .ok (.getfield 36, 3) := by decide +kernel
theorem dX5_say_29 : decode cX5_say 29 = .ok (.iload_n 1, 1) := by decide +kernel
theorem dX5_say_30 : decode cX5_say 30 = .ok (.iastore, 1) := by decide +kernel
theorem dX5_say_31 : decode cX5_say 31 = .ok (.aload_n 0, 1) := by decide +kernel
theorem dX5_say_32 : decode cX5_say 32 = .ok (.dup, 1) := by decide +kernel
theorem dX5_say_33 : decode cX5_say 33 = .ok (.getfield 36, 3) := by decide +kernel
theorem dX5_say_36 : decode cX5_say 36 = .ok (.iconst 1, 1) := by decide +kernel
theorem dX5_say_37 : decode cX5_say 37 = .ok (.iadd, 1) := by decide +kernel
theorem dX5_say_38 : decode cX5_say 38 = .ok (.putfield 36, 3) := by decide +kernel
theorem dX5_say_41 : decode cX5_say 41 = .ok (.aload_n 0, 1) := by decide +kernel
theorem dX5_say_42 : decode cX5_say 42 = .ok (.getfield 36, 3) := by decide +kernel
theorem dX5_say_45 : decode cX5_say 45 = .ok (.ireturn, 1) := by decide +kernel
theorem dX5_hear_0 : decode cX5_hear 0 = .ok (.aload_n 0, 1) := by decide +kernel
theorem dX5_hear_1 : decode cX5_hear 1 = .ok (.aload_n 0, 1) := by decide +kernel
theorem dX5_hear_2 : decode cX5_hear 2 = .ok (.invokevirtual 141, 3) := by decide +kernel
theorem dX5_hear_5 : decode cX5_hear 5 = .ok (.invokevirtual 73, 3) := by decide +kernel
theorem dX5_hear_8 : decode cX5_hear 8 = .ok (.astore_n 1, 1) := by decide +kernel
theorem dX5_hear_9 : decode cX5_hear 9 = .ok (.aload_n 0, 1) := by decide +kernel
theorem dX5_hear_10 : decode cX5_hear 10 = .ok (.getfield 36, 3) := by decide +kernel
theorem dX5_hear_13 : decode cX5_hear 13 = .ok (.ifCond .le 7, 3) := by decide +kernel
theorem dX5_hear_16 : decode cX5_hear 16 = .ok (.aload_n 1, 1) := by decide +kernel
theorem dX5_hear_17 : decode cX5_hear 17 = .ok (.ifnonnull 6, 3) := by decide +kernel
theorem dX5_hear_20 : decode cX5_hear 20 = .ok (.bipush (-3), 2) := by decide +kernel
theorem dX5_hear_22 : decode cX5_hear 22 = .ok (.ireturn, 1) := by decide +kernel
theorem dX5_hear_23 : decode cX5_hear 23 = .ok (.aload_n 0, 1) := by decide +kernel
theorem dX5_hear_24 : decode cX5_hear 24 = .ok (.getfield 42, 3) := by decide +kernel
theorem dX5_hear_27 : decode cX5_hear 27 = .ok (.aload_n 1, 1) := by decide +kernel
theorem dX5_hear_28 : decode cX5_hear 28 = .ok (.aload_n 0, 1) := by decide +kernel
theorem dX5_hear_29 : decode cX5_hear 29 = .ok (.invokevirtual 141, 3) := by decide +kernel
theorem dX5_hear_32 : decode cX5_hear 32 = .ok (.aload_n 0, 1) := by decide +kernel
theorem dX5_hear_33 : decode cX5_hear 33 = .ok (.getfield 22, 3) := by decide +kernel
theorem dX5_hear_36 : decode cX5_hear 36 = .ok (.aload_n 0, 1) := by decide +kernel
theorem dX5_hear_37 : decode cX5_hear 37 = .ok (.getfield 33, 3) := by decide +kernel
theorem dX5_hear_40 : decode cX5_hear 40 = .ok (.aload_n 0, 1) := by decide +kernel
theorem dX5_hear_41 : decode cX5_hear 41 = .ok (.getfield 36, 3) := by decide +kernel
theorem dX5_hear_44 : decode cX5_hear 44 = .ok (.invokevirtual 145, 3) := by decide +kernel
theorem dX5_hear_47 : decode cX5_hear 47 = .ok (.aload_n 0, 1) := by decide +kernel
theorem dX5_hear_48 : decode cX5_hear 48 = .ok (.iconst 0, 1) := by decide +kernel
theorem dX5_hear_49 : decode cX5_hear 49 = .ok (.putfield 36, 3) := by decide +kernel
theorem dX5_hear_52 : decode cX5_hear 52 = .ok (.aload_n 0, 1) := by decide +kernel
theorem dX5_hear_53 : decode cX5_hear 53 = .ok (.iconst (-1), 1) := by decide +kernel
theorem dX5_hear_54 : decode cX5_hear 54 = .ok (.putfield 63, 3) := by decide +kernel
theorem dX5_hear_57 : decode cX5_hear 57 = .ok (.aload_n 0, 1) := by decide +kernel
theorem dX5_hear_58 : decode cX5_hear 58 = .ok (.getfield 42, 3) := by decide +kernel
theorem dX5_hear_61 : decode cX5_hear 61 = .ok (.invokevirtual 149, 3) := by decide +kernel
theorem dX5_hear_64 : decode cX5_hear 64 = .ok (.ifCond .ne 28, 3) := by decide +kernel
theorem dX5_hear_67 : decode cX5_hear 67 = .ok (.aload_n 0, 1) := by decide +kernel
theorem dX5_hear_68 : decode cX5_hear 68 = .ok (.iconst 3, 1) := by decide +kernel
theorem dX5_hear_69 : decode cX5_hear 69 = .ok (.aload_n 0, 1) := by decide +kernel
theorem dX5_hear_70 : decode cX5_hear 70 = .ok (.getfield 60, 3) := by decide +kernel
theorem dX5_hear_73 : decode cX5_hear 73 = .ok (.iconst 1, 1) := by decide +kernel
theorem dX5_hear_74 : decode cX5_hear 74 = .ok (.iadd, 1) := by decide +kernel
theorem dX5_hear_75 : decode cX5_hear 75 = .ok (.invokestatic 152, 3) := by decide +kernel
theorem dX5_hear_78 : decode cX5_hear 78 = .ok (.putfield 60, 3) := by decide +kernel
theorem dX5_hear_81 : decode cX5_hear 81 = .ok (.bipush 100, 2) := by decide +kernel
theorem dX5_hear_83 : decode cX5_hear 83 = .ok (.aload_n 0, 1) := by decide +kernel
theorem dX5_hear_84 : decode cX5_hear 84 = .ok (.getfield 42, 3) := by decide +kernel
theorem dX5_hear_87 : decode cX5_hear 87 = .ok (.invokevirtual 157, 3) := by decide +kernel
theorem dX5_hear_90 : decode cX5_hear 90 = .ok (.iadd, 1) := by decide +kernel
theorem dX5_hear_91 : decode cX5_hear 91 = .ok (.ireturn, 1) := by decide +kernel
theorem dX5_hear_92 : decode cX5_hear 92 = .ok (.aload_n 0, 1) := by decide +kernel
theorem dX5_hear_93 : decode cX5_hear 93 = .ok (.iconst 0, 1) := by decide +kernel
theorem dX5_hear_94 : decode cX5_hear 94 = .ok (.putfield 60, 3) := by decide +kernel
theorem dX5_hear_97 : decode cX5_hear 97 = .ok (.aload_n 0, 1) := by decide +kernel
theorem dX5_hear_98 : decode cX5_hear 98 = .ok (.getfield 56, 3) := by decide +kernel
theorem dX5_hear_101 : decode cX5_hear 101 = .ok (.aload_n 0, 1) := by decide +kernel
theorem dX5_hear_102 : decode cX5_hear 102 = .ok (.getfield 11, 3) := by decide +kernel
theorem dX5_hear_105 : decode cX5_hear 105 = .ok (.invokevirtual 160, 3) := by decide +kernel
theorem dX5_hear_108 : decode cX5_hear 108 = .ok (.aload_n 0, 1) := by decide +kernel
theorem dX5_hear_109 : decode cX5_hear 109 = .ok (.aload_n 0, 1) := by decide +kernel
theorem dX5_hear_110 : decode cX5_hear 110 = .ok (.aload_n 1, 1) := by decide +kernel
theorem dX5_hear_111 : decode cX5_hear 111 = .ok (.invokevirtual 164, 3) := by decide +kernel
theorem dX5_hear_114 : decode cX5_hear 114 = .ok (.putfield 63, 3) := by decide +kernel
theorem dX5_hear_117 : decode cX5_hear 117 = .ok (.aload_n 0, 1) := by decide +kernel
theorem dX5_hear_118 : decode cX5_hear 118 = .ok (.invokevirtual 168, 3) := by decide +kernel
theorem dX5_hear_121 : decode cX5_hear 121 = .ok (.aload_n 0, 1) := by decide +kernel
theorem dX5_hear_122 : decode cX5_hear 122 = .ok (.getfield 42, 3) := by decide +kernel
theorem dX5_hear_125 : decode cX5_hear 125 = .ok (.invokevirtual 157, 3) := by decide +kernel
theorem dX5_hear_128 : decode cX5_hear 128 = .ok (.ireturn, 1) := by decide +kernel
theorem dX5_back_0 : decode cX5_back 0 = .ok (.aload_n 0, 1) := by decide +kernel
theorem dX5_back_1 : decode cX5_back 1 = .ok (.getfield 56, 3) := by decide +kernel
theorem dX5_back_4 : decode cX5_back 4 = .ok (.invokevirtual 171, 3) := by decide +kernel
theorem dX5_back_7 : decode cX5_back 7 = .ok (.ifCond .gt 6, 3) := by decide +kernel
theorem dX5_back_10 : decode cX5_back 10 = .ok (.bipush (-3), 2) := by decide +kernel
theorem dX5_back_12 : decode cX5_back 12 = .ok (.ireturn, 1) := by decide +kernel
theorem dX5_back_13 : decode cX5_back 13 = .ok (.aload_n 0, 1) := by decide +kernel
theorem dX5_back_14 : decode cX5_back 14 = .ok (.getfield 56, 3) := by decide +kernel
theorem dX5_back_17 : decode cX5_back 17 = .ok (.aload_n 0, 1) := by decide +kernel
theorem dX5_back_18 : decode cX5_back 18 = .ok (.getfield 11, 3) := by decide +kernel
theorem dX5_back_21 : decode cX5_back 21 = .ok (.invokevirtual 174, 3) := by decide +kernel
theorem dX5_back_24 : decode cX5_back 24 = .ok (.aload_n 0, 1) := by decide +kernel
theorem dX5_back_25 : decode cX5_back 25 = .ok (.invokevirtual 168, 3) := by decide +kernel
theorem dX5_back_28 : decode cX5_back 28 = .ok (.aload_n 0, 1) := by decide +kernel
theorem dX5_back_29 : decode cX5_back 29 = .ok (.getfield 56, 3) := by decide +kernel
theorem dX5_back_32 : decode cX5_back 32 = .ok (.invokevirtual 171, 3) := by decide +kernel
theorem dX5_back_35 : decode cX5_back 35 = .ok (.ireturn, 1) := by decide +kernel
theorem dX5_act_0 : decode cX5_act 0 = .ok (.aload_n 0, 1) := by decide +kernel
theorem dX5_act_1 : decode cX5_act 1 = .ok (.aload_n 0, 1) := by decide +kernel
theorem dX5_act_2 : decode cX5_act 2 = .ok (.invokevirtual 141, 3) := by decide +kernel
theorem dX5_act_5 : decode cX5_act 5 = .ok (.invokevirtual 73, 3) := by decide +kernel
theorem dX5_act_8 : decode cX5_act 8 = .ok (.astore_n 1, 1) := by decide +kernel
theorem dX5_act_9 : decode cX5_act 9 = .ok (.aload_n 1, 1) := by decide +kernel
theorem dX5_act_10 : decode cX5_act 10 = .ok (.ifnonnull 6, 3) := by decide +kernel
theorem dX5_act_13 : decode cX5_act 13 = .ok (.bipush (-3), 2) := by decide +kernel
theorem dX5_act_15 : decode cX5_act 15 = .ok (.ireturn, 1) := by decide +kernel
theorem dX5_act_16 : decode cX5_act 16 = .ok (.aload_n 0, 1) := by decide +kernel
theorem dX5_act_17 : decode cX5_act 17 = .ok (.invokevirtual 168, 3) := by decide +kernel
theorem dX5_act_20 : decode cX5_act 20 = .ok (.aload_n 1, 1) := by decide +kernel
theorem dX5_act_21 : decode cX5_act 21 = .ok (.invokevirtual 177, 3) := by decide +kernel
theorem dX5_act_24 : decode cX5_act 24 = .ok (.ifCond .ne 5, 3) := by decide +kernel
theorem dX5_act_27 : decode cX5_act 27 = .ok (.iconst 0, 1) := by decide +kernel
theorem dX5_act_28 : decode cX5_act 28 = .ok (.ireturn, 1) := by decide +kernel
theorem dX5_act_29 : decode cX5_act 29 = .ok (.aload_n 1, 1) := by decide +kernel
theorem dX5_act_30 : decode cX5_act 30 = .ok (.invokevirtual 180, 3) := by decide +kernel
theorem dX5_act_33 : decode cX5_act 33 = .ok (.istore_n 2, 1) := by decide +kernel
theorem dX5_act_34 : decode cX5_act 34 = .ok (.iload_n 2, 1) := by decide +kernel
theorem dX5_act_35 : decode cX5_act 35 = .ok (.iconst (-1), 1) := by decide +kernel
theorem dX5_act_36 : decode cX5_act 36 = .ok (.if_icmp .eq 33, 3) := by decide +kernel
theorem dX5_act_39 : decode cX5_act 39 = .ok (.aload_n 0, 1) := by decide +kernel
theorem dX5_act_40 : decode cX5_act 40 = .ok (.iload_n 2, 1) := by decide +kernel
theorem dX5_act_41 : decode cX5_act 41 = .ok (.putfield 66, 3) := by decide +kernel
theorem dX5_act_44 : decode cX5_act 44 = .ok (.aload_n 0, 1) := by decide +kernel
theorem dX5_act_45 : decode cX5_act 45 = .ok (.aload_n 1, 1) := by decide +kernel
theorem dX5_act_46 : decode cX5_act 46 = .ok (.iload_n 2, 1) := by decide +kernel
theorem dX5_act_47 : decode cX5_act 47 = .ok (.invokevirtual 183, 3) := by decide +kernel
theorem dX5_act_50 : decode cX5_act 50 = .ok (.putfield 69, 3) := by decide +kernel
theorem dX5_act_53 : decode cX5_act 53 = .ok (.bipush 100, 2) := by decide +kernel
theorem dX5_act_55 : decode cX5_act 55 = .ok (.bipush 10, 2) := by decide +kernel
theorem dX5_act_57 : decode cX5_act 57 = .ok (.aload_n 0, 1) := by decide +kernel
theorem dX5_act_58 : decode cX5_act 58 = .ok (.getfield 66, 3) := by decide +kernel
theorem dX5_act_61 : decode cX5_act 61 = .ok (.imul, 1) := by decide +kernel
theorem dX5_act_62 : decode cX5_act 62 = .ok (.iadd, 1) := by decide +kernel
theorem dX5_act_63 : decode cX5_act 63 = .ok (.aload_n 0, 1) := by decide +kernel
theorem dX5_act_64 : decode cX5_act 64 = .ok (.getfield 69, 3) := by decide +kernel
theorem dX5_act_67 : decode cX5_act 67 = .ok (.iadd, 1) := by decide +kernel
theorem dX5_act_68 : decode cX5_act 68 = .ok (.ireturn, 1) := by decide +kernel
theorem dX5_act_69 : decode cX5_act 69 = .ok (.sipush 200, 3) := by decide +kernel
theorem dX5_act_72 : decode cX5_act 72 = .ok (.bipush 10, 2) := by decide +kernel
theorem dX5_act_74 : decode cX5_act 74 = .ok (.aload_n 0, 1) := by decide +kernel
theorem dX5_act_75 : decode cX5_act 75 = .ok (.getfield 49, 3) := by decide +kernel
theorem dX5_act_78 : decode cX5_act 78 = .ok (.aload_n 1, 1) := by decide +kernel
theorem dX5_act_79 : decode cX5_act 79 = .ok (.invokevirtual 186, 3) := by decide +kernel
theorem dX5_act_82 : decode cX5_act 82 = .ok (.imul, 1) := by decide +kernel
theorem dX5_act_83 : decode cX5_act 83 = .ok (.iadd, 1) := by decide +kernel
theorem dX5_act_84 : decode cX5_act 84 = .ok (.ireturn, 1) := by decide +kernel
theorem dX5_worst_0 : decode cX5_worst 0 = .ok (.aload_n 0, 1) := by decide +kernel
theorem dX5_worst_1 : decode cX5_worst 1 = .ok (.aload_n 0, 1) := by decide +kernel
theorem dX5_worst_2 : decode cX5_worst 2 = .ok (.invokevirtual 141, 3) := by decide +kernel
theorem dX5_worst_5 : decode cX5_worst 5 = .ok (.invokevirtual 73, 3) := by decide +kernel
theorem dX5_worst_8 : decode cX5_worst 8 = .ok (.astore_n 1, 1) := by decide +kernel
theorem dX5_worst_9 : decode cX5_worst 9 = .ok (.aload_n 1, 1) := by decide +kernel
theorem dX5_worst_10 : decode cX5_worst 10 = .ok (.ifnonnull 6, 3) := by decide +kernel
theorem dX5_worst_13 : decode cX5_worst 13 = .ok (.bipush (-3), 2) := by decide +kernel
theorem dX5_worst_15 : decode cX5_worst 15 = .ok (.ireturn, 1) := by decide +kernel
theorem dX5_worst_16 : decode cX5_worst 16 = .ok (.aload_n 0, 1) := by decide +kernel
theorem dX5_worst_17 : decode cX5_worst 17 = .ok (.getfield 49, 3) := by decide +kernel
theorem dX5_worst_20 : decode cX5_worst 20 = .ok (.aload_n 1, 1) := by decide +kernel
theorem dX5_worst_21 : decode cX5_worst 21 = .ok (.invokevirtual 189, 3) := by decide +kernel
theorem dX5_worst_24 : decode cX5_worst 24 = .ok (.ireturn, 1) := by decide +kernel
theorem dX5_about_0 : decode cX5_about 0 = .ok (.aload_n 0, 1) := by decide +kernel
theorem dX5_about_1 : decode cX5_about 1 = .ok (.iload_n 1, 1) := by decide +kernel
theorem dX5_about_2 : decode cX5_about 2 = .ok (.invokevirtual 73, 3) := by decide +kernel
theorem dX5_about_5 : decode cX5_about 5 = .ok (.astore 4, 2) := by decide +kernel
theorem dX5_about_7 : decode cX5_about 7 = .ok (.aload 4, 2) := by decide +kernel
theorem dX5_about_9 : decode cX5_about 9 = .ok (.ifnull 12, 3) := by decide +kernel
theorem dX5_about_12 : decode cX5_about 12 = .ok (.aload 4, 2) := by decide +kernel
theorem dX5_about_14 : decode cX5_about 14 = .ok (.iload_n 2, 1) := by decide +kernel
theorem dX5_about_15 : decode cX5_about 15 = .ok (.invokevirtual 88, 3) := by decide +kernel
theorem dX5_about_18 : decode cX5_about 18 = .ok (.ifCond .ne 5, 3) := by decide +kernel
theorem dX5_about_21 : decode cX5_about 21 = .ok (.iconst (-1), 1) := by decide +kernel
theorem dX5_about_22 : decode cX5_about 22 = .ok (.ireturn, 1) := by decide +kernel
theorem dX5_about_23 : decode cX5_about 23 = .ok (.iload_n 3, 1) := by decide +kernel
theorem dX5_about_24 : decode cX5_about 24 = .ok (.tableswitch 86 0 4 #[36, 43, 62, 72, 79], 36) := by decide +kernel
theorem dX5_about_60 : decode cX5_about 60 = .ok (.aload 4, 2) := by decide +kernel
theorem dX5_about_62 : decode cX5_about 62 = .ok (.iload_n 2, 1) := by decide +kernel
theorem dX5_about_63 : decode cX5_about 63 = .ok (.invokevirtual 192, 3) := by decide +kernel
theorem dX5_about_66 : decode cX5_about 66 = .ok (.ireturn, 1) := by decide +kernel
theorem dX5_about_67 : decode cX5_about 67 = .ok (.aload 4, 2) := by decide +kernel
theorem dX5_about_69 : decode cX5_about 69 = .ok (.iload_n 2, 1) := by decide +kernel
theorem dX5_about_70 : decode cX5_about 70 = .ok (.invokevirtual 195, 3) := by decide +kernel
theorem dX5_about_73 : decode cX5_about 73 = .ok (.iconst (-1), 1) := by decide +kernel
theorem dX5_about_74 : decode cX5_about 74 = .ok (.if_icmp .eq 7, 3) := by decide +kernel
theorem dX5_about_77 : decode cX5_about 77 = .ok (.iconst 1, 1) := by decide +kernel
theorem dX5_about_78 : decode cX5_about 78 = .ok (.goto 4, 3) := by decide +kernel
theorem dX5_about_81 : decode cX5_about 81 = .ok (.iconst 0, 1) := by decide +kernel
theorem dX5_about_82 : decode cX5_about 82 = .ok (.invokestatic 198, 3) := by decide +kernel
theorem dX5_about_85 : decode cX5_about 85 = .ok (.ireturn, 1) := by decide +kernel
theorem dX5_about_86 : decode cX5_about 86 = .ok (.aload 4, 2) := by decide +kernel
theorem dX5_about_88 : decode cX5_about 88 = .ok (.iload_n 2, 1) := by decide +kernel
theorem dX5_about_89 : decode cX5_about 89 = .ok (.invokevirtual 202, 3) := by decide +kernel
theorem dX5_about_92 : decode cX5_about 92 = .ok (.invokestatic 198, 3) := by decide +kernel
theorem dX5_about_95 : decode cX5_about 95 = .ok (.ireturn, 1) := by decide +kernel
theorem dX5_about_96 : decode cX5_about 96 = .ok (.aload 4, 2) := by decide +kernel
theorem dX5_about_98 : decode cX5_about 98 = .ok (.iload_n 2, 1) := by decide +kernel
theorem dX5_about_99 : decode cX5_about 99 = .ok (.invokevirtual 205, 3) := by decide +kernel
theorem dX5_about_102 : decode cX5_about 102 = .ok (.ireturn, 1) := by decide +kernel
theorem dX5_about_103 : decode cX5_about 103 = .ok (.aload 4, 2) := by decide +kernel
theorem dX5_about_105 : decode cX5_about 105 = .ok (.iload_n 2, 1) := by decide +kernel
theorem dX5_about_106 : decode cX5_about 106 = .ok (.invokevirtual 208, 3) := by decide +kernel
theorem dX5_about_109 : decode cX5_about 109 = .ok (.ireturn, 1) := by decide +kernel
theorem dX5_about_110 : decode cX5_about 110 = .ok (.iconst (-1), 1) := by decide +kernel
theorem dX5_about_111 : decode cX5_about 111 = .ok (.ireturn, 1) := by decide +kernel
theorem dX5_said_0 : decode cX5_said 0 = .ok (.aload_n 0, 1) := by decide +kernel
theorem dX5_said_1 : decode cX5_said 1 = .ok (.iload_n 1, 1) := by decide +kernel
theorem dX5_said_2 : decode cX5_said 2 = .ok (.invokevirtual 73, 3) := by decide +kernel
theorem dX5_said_5 : decode cX5_said 5 = .ok (.astore 4, 2) := by decide +kernel
theorem dX5_said_7 : decode cX5_said 7 = .ok (.aload 4, 2) := by decide +kernel
theorem dX5_said_9 : decode cX5_said 9 = .ok (.ifnull 13, 3) := by decide +kernel
theorem dX5_said_12 : decode cX5_said 12 = .ok (.aload 4, 2) := by decide +kernel
theorem dX5_said_14 : decode cX5_said 14 = .ok (.iload_n 2, 1) := by decide +kernel
theorem dX5_said_15 : decode cX5_said 15 = .ok (.iload_n 3, 1) := by decide +kernel
theorem dX5_said_16 : decode cX5_said 16 = .ok (.invokevirtual 94, 3) := by decide +kernel
theorem dX5_said_19 : decode cX5_said 19 = .ok (.ifCond .ne 5, 3) := by decide +kernel
theorem dX5_said_22 : decode cX5_said 22 = .ok (.iconst (-1), 1) := by decide +kernel
theorem dX5_said_23 : decode cX5_said 23 = .ok (.ireturn, 1) := by decide +kernel
theorem dX5_said_24 : decode cX5_said 24 = .ok (.aload 4, 2) := by decide +kernel
theorem dX5_said_26 : decode cX5_said 26 = .ok (.iload_n 2, 1) := by decide +kernel
theorem dX5_said_27 : decode cX5_said 27 = .ok (.iload_n 3, 1) := by decide +kernel
theorem dX5_said_28 : decode cX5_said 28 = .ok (.invokevirtual 211, 3) := by decide +kernel
theorem dX5_said_31 : decode cX5_said 31 = .ok (.ireturn, 1) := by decide +kernel
theorem dX5_heard_0 : decode cX5_heard 0 = .ok (.iload_n 1, 1) := by decide +kernel
theorem dX5_heard_1 : decode cX5_heard 1 = .ok (.tableswitch 75 0 4 #[35, 43, 54, 62, 70], 35) := by decide +kernel
theorem dX5_heard_36 : decode cX5_heard 36 = .ok (.aload_n 0, 1) := by decide +kernel
theorem dX5_heard_37 : decode cX5_heard 37 = .ok (.getfield 42, 3) := by decide +kernel
theorem dX5_heard_40 : decode cX5_heard 40 = .ok (.invokevirtual 157, 3) := by decide +kernel
theorem dX5_heard_43 : decode cX5_heard 43 = .ok (.ireturn, 1) := by decide +kernel
theorem dX5_heard_44 : decode cX5_heard 44 = .ok (.aload_n 0, 1) := by decide +kernel
theorem dX5_heard_45 : decode cX5_heard 45 = .ok (.getfield 42, 3) := by decide +kernel
theorem dX5_heard_48 : decode cX5_heard 48 = .ok (.invokevirtual 149, 3) := by decide +kernel
theorem dX5_heard_51 : decode cX5_heard 51 = .ok (.invokestatic 198, 3) := by decide +kernel
theorem dX5_heard_54 : decode cX5_heard 54 = .ok (.ireturn, 1) := by decide +kernel
theorem dX5_heard_55 : decode cX5_heard 55 = .ok (.aload_n 0, 1) := by decide +kernel
theorem dX5_heard_56 : decode cX5_heard 56 = .ok (.getfield 42, 3) := by decide +kernel
theorem dX5_heard_59 : decode cX5_heard 59 = .ok (.invokevirtual 214, 3) := by decide +kernel
theorem dX5_heard_62 : decode cX5_heard 62 = .ok (.ireturn, 1) := by decide +kernel
theorem dX5_heard_63 : decode cX5_heard 63 = .ok (.aload_n 0, 1) := by decide +kernel
theorem dX5_heard_64 : decode cX5_heard 64 = .ok (.getfield 42, 3) := by decide +kernel
theorem dX5_heard_67 : decode cX5_heard 67 = .ok (.invokevirtual 217, 3) := by decide +kernel
theorem dX5_heard_70 : decode cX5_heard 70 = .ok (.ireturn, 1) := by decide +kernel
theorem dX5_heard_71 : decode cX5_heard 71 = .ok (.aload_n 0, 1) := by decide +kernel
theorem dX5_heard_72 : decode cX5_heard 72 = .ok (.getfield 63, 3) := by decide +kernel
theorem dX5_heard_75 : decode cX5_heard 75 = .ok (.ireturn, 1) := by decide +kernel
theorem dX5_heard_76 : decode cX5_heard 76 = .ok (.iconst (-1), 1) := by decide +kernel
theorem dX5_heard_77 : decode cX5_heard 77 = .ok (.ireturn, 1) := by decide +kernel
theorem dX5_count_0 : decode cX5_count 0 = .ok (.iload_n 1, 1) := by decide +kernel
theorem dX5_count_1 : decode cX5_count 1 = .ok (.tableswitch 108 0 7 #[47, 52, 57, 74, 82, 87, 95, 100], 47) := by decide +kernel
theorem dX5_count_48 : decode cX5_count 48 = .ok (.aload_n 0, 1) := by decide +kernel
theorem dX5_count_49 : decode cX5_count 49 = .ok (.getfield 30, 3) := by decide +kernel
theorem dX5_count_52 : decode cX5_count 52 = .ok (.ireturn, 1) := by decide +kernel
theorem dX5_count_53 : decode cX5_count 53 = .ok (.aload_n 0, 1) := by decide +kernel
theorem dX5_count_54 : decode cX5_count 54 = .ok (.invokevirtual 141, 3) := by decide +kernel
theorem dX5_count_57 : decode cX5_count 57 = .ok (.ireturn, 1) := by decide +kernel
theorem dX5_count_58 : decode cX5_count 58 = .ok (.aload_n 0, 1) := by decide +kernel
theorem dX5_count_59 : decode cX5_count 59 = .ok (.getfield 60, 3) := by decide +kernel
theorem dX5_count_62 : decode cX5_count 62 = .ok (.iconst 3, 1) := by decide +kernel
theorem dX5_count_63 : decode cX5_count 63 = .ok (.if_icmp .lt 7, 3) := by decide +kernel
theorem dX5_count_66 : decode cX5_count 66 = .ok (.iconst 1, 1) := by decide +kernel
theorem dX5_count_67 : decode cX5_count 67 = .ok (.goto 4, 3) := by decide +kernel
theorem dX5_count_70 : decode cX5_count 70 = .ok (.iconst 0, 1) := by decide +kernel
theorem dX5_count_71 : decode cX5_count 71 = .ok (.invokestatic 198, 3) := by decide +kernel
theorem dX5_count_74 : decode cX5_count 74 = .ok (.ireturn, 1) := by decide +kernel
theorem dX5_count_75 : decode cX5_count 75 = .ok (.aload_n 0, 1) := by decide +kernel
theorem dX5_count_76 : decode cX5_count 76 = .ok (.getfield 56, 3) := by decide +kernel
theorem dX5_count_79 : decode cX5_count 79 = .ok (.invokevirtual 171, 3) := by decide +kernel
theorem dX5_count_82 : decode cX5_count 82 = .ok (.ireturn, 1) := by decide +kernel
theorem dX5_count_83 : decode cX5_count 83 = .ok (.aload_n 0, 1) := by decide +kernel
theorem dX5_count_84 : decode cX5_count 84 = .ok (.getfield 36, 3) := by decide +kernel
theorem dX5_count_87 : decode cX5_count 87 = .ok (.ireturn, 1) := by decide +kernel
theorem dX5_count_88 : decode cX5_count 88 = .ok (.aload_n 0, 1) := by decide +kernel
theorem dX5_count_89 : decode cX5_count 89 = .ok (.getfield 22, 3) := by decide +kernel
theorem dX5_count_92 : decode cX5_count 92 = .ok (.invokevirtual 220, 3) := by decide +kernel
theorem dX5_count_95 : decode cX5_count 95 = .ok (.ireturn, 1) := by decide +kernel
theorem dX5_count_96 : decode cX5_count 96 = .ok (.aload_n 0, 1) := by decide +kernel
theorem dX5_count_97 : decode cX5_count 97 = .ok (.getfield 15, 3) := by decide +kernel
theorem dX5_count_100 : decode cX5_count 100 = .ok (.ireturn, 1) := by decide +kernel
theorem dX5_count_101 : decode cX5_count 101 = .ok (.aload_n 0, 1) := by decide +kernel
theorem dX5_count_102 : decode cX5_count 102 = .ok (.getfield 22, 3) := by decide +kernel
theorem dX5_count_105 : decode cX5_count 105 = .ok (.invokevirtual 223, 3) := by decide +kernel
theorem dX5_count_108 : decode cX5_count 108 = .ok (.ireturn, 1) := by decide +kernel
theorem dX5_count_109 : decode cX5_count 109 = .ok (.iconst (-1), 1) := by decide +kernel
theorem dX5_count_110 : decode cX5_count 110 = .ok (.ireturn, 1) := by decide +kernel
theorem dX5_asNumber_0 : decode cX5_asNumber 0 = .ok (.iload_n 0, 1) := by decide +kernel
theorem dX5_asNumber_1 : decode cX5_asNumber 1 = .ok (.ifCond .eq 7, 3) := by decide +kernel
theorem dX5_asNumber_4 : decode cX5_asNumber 4 = .ok (.iconst 1, 1) := by decide +kernel
theorem dX5_asNumber_5 : decode cX5_asNumber 5 = .ok (.goto 4, 3) := by decide +kernel
theorem dX5_asNumber_8 : decode cX5_asNumber 8 = .ok (.iconst 0, 1) := by decide +kernel
theorem dX5_asNumber_9 : decode cX5_asNumber 9 = .ok (.ireturn, 1) := by decide +kernel
theorem dX5_isSize_0 : decode cX5_isSize 0 = .ok (.iload_n 0, 1) := by decide +kernel
theorem dX5_isSize_1 : decode cX5_isSize 1 = .ok (.iconst 2, 1) := by decide +kernel
theorem dX5_isSize_2 : decode cX5_isSize 2 = .ok (.if_icmp .lt 12, 3) := by decide +kernel
theorem dX5_isSize_5 : decode cX5_isSize 5 = .ok (.iload_n 0, 1) := by decide +kernel
theorem dX5_isSize_6 : decode cX5_isSize 6 = .ok (.iconst 4, 1) := by decide +kernel
theorem dX5_isSize_7 : decode cX5_isSize 7 = .ok (.if_icmp .gt 7, 3) := by decide +kernel
theorem dX5_isSize_10 : decode cX5_isSize 10 = .ok (.iconst 1, 1) := by decide +kernel
theorem dX5_isSize_11 : decode cX5_isSize 11 = .ok (.goto 4, 3) := by decide +kernel
theorem dX5_isSize_14 : decode cX5_isSize 14 = .ok (.iconst 0, 1) := by decide +kernel
theorem dX5_isSize_15 : decode cX5_isSize 15 = .ok (.ireturn, 1) := by decide +kernel
theorem dX5_isWord_0 : decode cX5_isWord 0 = .ok (.iload_n 0, 1) := by decide +kernel
theorem dX5_isWord_1 : decode cX5_isWord 1 = .ok (.ifCond .lt 13, 3) := by decide +kernel
theorem dX5_isWord_4 : decode cX5_isWord 4 = .ok (.iload_n 0, 1) := by decide +kernel
theorem dX5_isWord_5 : decode cX5_isWord 5 = .ok (.bipush 64, 2) := by decide +kernel
theorem dX5_isWord_7 : decode cX5_isWord 7 = .ok (.if_icmp .ge 7, 3) := by decide +kernel
theorem dX5_isWord_10 : decode cX5_isWord 10 = .ok (.iconst 1, 1) := by decide +kernel
theorem dX5_isWord_11 : decode cX5_isWord 11 = .ok (.goto 4, 3) := by decide +kernel
theorem dX5_isWord_14 : decode cX5_isWord 14 = .ok (.iconst 0, 1) := by decide +kernel
theorem dX5_isWord_15 : decode cX5_isWord 15 = .ok (.ireturn, 1) := by decide +kernel
theorem dX5_isItem_0 : decode cX5_isItem 0 = .ok (.iload_n 0, 1) := by decide +kernel
theorem dX5_isItem_1 : decode cX5_isItem 1 = .ok (.tableswitch 57 0 2 #[27, 32, 47], 27) := by decide +kernel
theorem dX5_isItem_28 : decode cX5_isItem 28 = .ok (.iload_n 1, 1) := by decide +kernel
theorem dX5_isItem_29 : decode cX5_isItem 29 = .ok (.invokestatic 102, 3) := by decide +kernel
theorem dX5_isItem_32 : decode cX5_isItem 32 = .ok (.ireturn, 1) := by decide +kernel
theorem dX5_isItem_33 : decode cX5_isItem 33 = .ok (.iload_n 1, 1) := by decide +kernel
theorem dX5_isItem_34 : decode cX5_isItem 34 = .ok (.ifCond .lt 12, 3) := by decide +kernel
theorem dX5_isItem_37 : decode cX5_isItem 37 = .ok (.iload_n 1, 1) := by decide +kernel
theorem dX5_isItem_38 : decode cX5_isItem 38 = .ok (.iconst 5, 1) := by decide +kernel
theorem dX5_isItem_39 : decode cX5_isItem 39 = .ok (.if_icmp .ge 7, 3) := by decide +kernel
theorem dX5_isItem_42 : decode cX5_isItem 42 = .ok (.iconst 1, 1) := by decide +kernel
theorem dX5_isItem_43 : decode cX5_isItem 43 = .ok (.goto 4, 3) := by decide +kernel
theorem dX5_isItem_46 : decode cX5_isItem 46 = .ok (.iconst 0, 1) := by decide +kernel
theorem dX5_isItem_47 : decode cX5_isItem 47 = .ok (.ireturn, 1) := by decide +kernel
theorem dX5_isItem_48 : decode cX5_isItem 48 = .ok (.iload_n 1, 1) := by decide +kernel
theorem dX5_isItem_49 : decode cX5_isItem 49 = .ok (.ifCond .ne 7, 3) := by decide +kernel
theorem dX5_isItem_52 : decode cX5_isItem 52 = .ok (.iconst 1, 1) := by decide +kernel
theorem dX5_isItem_53 : decode cX5_isItem 53 = .ok (.goto 4, 3) := by decide +kernel
theorem dX5_isItem_56 : decode cX5_isItem 56 = .ok (.iconst 0, 1) := by decide +kernel
theorem dX5_isItem_57 : decode cX5_isItem 57 = .ok (.ireturn, 1) := by decide +kernel
theorem dX5_isItem_58 : decode cX5_isItem 58 = .ok (.iconst 0, 1) := by decide +kernel
theorem dX5_isItem_59 : decode cX5_isItem 59 = .ok (.ireturn, 1) := by decide +kernel
theorem dX5_formAt_0 : decode cX5_formAt 0 = .ok (.iload_n 1, 1) := by decide +kernel
theorem dX5_formAt_1 : decode cX5_formAt 1 = .ok (.ifCond .lt 25, 3) := by decide +kernel
theorem dX5_formAt_4 : decode cX5_formAt 4 = .ok (.iload_n 1, 1) := by decide +kernel
theorem dX5_formAt_5 : decode cX5_formAt 5 = .ok (.aload_n 0, 1) := by decide +kernel
theorem dX5_formAt_6 : decode cX5_formAt 6 = .ok (.getfield 15, 3) := by decide +kernel
theorem dX5_formAt_9 : decode cX5_formAt 9 = .ok (.if_icmp .ge 17, 3) := by decide +kernel
theorem dX5_formAt_12 : decode cX5_formAt 12 = .ok (.iload_n 1, 1) := by decide +kernel
theorem dX5_formAt_13 : decode cX5_formAt 13 = .ok (.iconst 3, 1) := by decide +kernel
theorem dX5_formAt_14 : decode cX5_formAt 14 = .ok (.if_icmp .ge 12, 3) := by decide +kernel
theorem dX5_formAt_17 : decode cX5_formAt 17 = .ok (.aload_n 0, 1) := by decide +kernel
theorem dX5_formAt_18 : decode cX5_formAt 18 = .ok (.getfield 11, 3) := by decide +kernel
theorem dX5_formAt_21 : decode cX5_formAt 21 = .ok (.iload_n 1, 1) := by decide +kernel
theorem dX5_formAt_22 : decode cX5_formAt 22 = .ok (.aaload, 1) := by decide +kernel
theorem dX5_formAt_23 : decode cX5_formAt 23 = .ok (.goto 4, 3) := by decide +kernel
theorem dX5_formAt_26 : decode cX5_formAt 26 = .ok (.aconst_null, 1) := by decide +kernel
theorem dX5_formAt_27 : decode cX5_formAt 27 = .ok (.areturn, 1) := by decide +kernel
theorem dX5_isInTalk_0 : decode cX5_isInTalk 0 = .ok (.iconst 0, 1) := by decide +kernel
theorem dX5_isInTalk_1 : decode cX5_isInTalk 1 = .ok (.istore_n 2, 1) := by decide +kernel
theorem dX5_isInTalk_2 : decode cX5_isInTalk 2 = .ok (.iload_n 2, 1) := by decide +kernel
theorem dX5_isInTalk_3 : decode cX5_isInTalk 3 = .ok (.aload_n 0, 1) := by decide +kernel
theorem dX5_isInTalk_4 : decode cX5_isInTalk 4 = .ok (.getfield 30, 3) := by decide +kernel
theorem dX5_isInTalk_7 : decode cX5_isInTalk 7 = .ok (.if_icmp .ge 21, 3) := by decide +kernel
theorem dX5_isInTalk_10 : decode cX5_isInTalk 10 = .ok (.aload_n 0, 1) := by decide +kernel
theorem dX5_isInTalk_11 : decode cX5_isInTalk 11 = .ok (.getfield 26, 3) := by decide +kernel
theorem dX5_isInTalk_14 : decode cX5_isInTalk 14 = .ok (.iload_n 2, 1) := by decide +kernel
theorem dX5_isInTalk_15 : decode cX5_isInTalk 15 = .ok (.iaload, 1) := by decide +kernel
theorem dX5_isInTalk_16 : decode cX5_isInTalk 16 = .ok (.iload_n 1, 1) := by decide +kernel
theorem dX5_isInTalk_17 : decode cX5_isInTalk 17 = .ok (.if_icmp .ne 5, 3) := by decide +kernel
theorem dX5_isInTalk_20 : decode cX5_isInTalk 20 = .ok (.iconst 1, 1) := by decide +kernel
theorem dX5_isInTalk_21 : decode cX5_isInTalk 21 = .ok (.ireturn, 1) := by decide +kernel
theorem dX5_isInTalk_22 : decode cX5_isInTalk 22 = .ok (.iinc 2 1, 3) := by decide +kernel
theorem dX5_isInTalk_25 : decode cX5_isInTalk 25 = .ok (.goto (-23), 3) := by decide +kernel
theorem dX5_isInTalk_28 : decode cX5_isInTalk 28 = .ok (.iconst 0, 1) := by decide +kernel
theorem dX5_isInTalk_29 : decode cX5_isInTalk 29 = .ok (.ireturn, 1) := by decide +kernel
theorem dX5_uppermost_0 : decode cX5_uppermost 0 = .ok (.aload_n 0, 1) := by decide +kernel
theorem dX5_uppermost_1 : decode cX5_uppermost 1 = .ok (.getfield 30, 3) := by decide +kernel
theorem dX5_uppermost_4 : decode cX5_uppermost 4 = .ok (.ifCond .le 17, 3) := by decide +kernel
theorem dX5_uppermost_7 : decode cX5_uppermost 7 = .ok (.aload_n 0, 1) := by decide +kernel
theorem dX5_uppermost_8 : decode cX5_uppermost 8 = .ok (.getfield 26, 3) := by decide +kernel
theorem dX5_uppermost_11 : decode cX5_uppermost 11 = .ok (.aload_n 0, 1) := by decide +kernel
theorem dX5_uppermost_12 : decode cX5_uppermost 12 = .ok (.getfield 30, 3) := by decide +kernel
theorem dX5_uppermost_15 : decode cX5_uppermost 15 = .ok (.iconst 1, 1) := by decide +kernel
theorem dX5_uppermost_16 : decode cX5_uppermost 16 = .ok (.isub, 1) := by decide +kernel
theorem dX5_uppermost_17 : decode cX5_uppermost 17 = .ok (.iaload, 1) := by decide +kernel
theorem dX5_uppermost_18 : decode cX5_uppermost 18 = .ok (.goto 4, 3) := by decide +kernel
theorem dX5_uppermost_21 : decode cX5_uppermost 21 = .ok (.iconst (-1), 1) := by decide +kernel
theorem dX5_uppermost_22 : decode cX5_uppermost 22 = .ok (.ireturn, 1) := by decide +kernel
theorem dX5_turnPage_0 : decode cX5_turnPage 0 = .ok (.aload_n 0, 1) := by decide +kernel
theorem dX5_turnPage_1 : decode cX5_turnPage 1 = .ok (.getfield 56, 3) := by decide +kernel
theorem dX5_turnPage_4 : decode cX5_turnPage 4 = .ok (.invokevirtual 226, 3) := by decide +kernel
theorem dX5_turnPage_7 : decode cX5_turnPage 7 = .ok (.aload_n 0, 1) := by decide +kernel
theorem dX5_turnPage_8 : decode cX5_turnPage 8 = .ok (.invokevirtual 168, 3) := by decide +kernel
theorem dX5_turnPage_11 : decode cX5_turnPage 11 = .ok (.return_, 1) := by decide +kernel
theorem dX5_forgetConfirm_0 : decode cX5_forgetConfirm 0 = .ok (.aload_n 0, 1) := by decide +kernel
theorem dX5_forgetConfirm_1 : decode cX5_forgetConfirm 1 = .ok (.iconst (-1), 1) := by decide +kernel
theorem dX5_forgetConfirm_2 : decode cX5_forgetConfirm 2 = .ok (.putfield 66, 3) := by decide +kernel
theorem dX5_forgetConfirm_5 : decode cX5_forgetConfirm 5 = .ok (.aload_n 0, 1) := by decide +kernel
theorem dX5_forgetConfirm_6 : decode cX5_forgetConfirm 6 = .ok (.iconst (-1), 1) := by decide +kernel
theorem dX5_forgetConfirm_7 : decode cX5_forgetConfirm 7 = .ok (.putfield 69, 3) := by decide +kernel
theorem dX5_forgetConfirm_10 : decode cX5_forgetConfirm 10 = .ok (.return_, 1) := by decide +kernel
theorem dX5_takeLine_0 : decode cX5_takeLine 0 = .ok (.aload_n 0, 1) := by decide +kernel
theorem dX5_takeLine_1 : decode cX5_takeLine 1 = .ok (.getfield 42, 3) := by decide +kernel
theorem dX5_takeLine_4 : decode cX5_takeLine 4 = .ok (.invokevirtual 229, 3) := by decide +kernel
theorem dX5_takeLine_7 : decode cX5_takeLine 7 = .ok (.istore_n 2, 1) := by decide +kernel
theorem dX5_takeLine_8 : decode cX5_takeLine 8 = .ok (.aload_n 0, 1) := by decide +kernel
theorem dX5_takeLine_9 : decode cX5_takeLine 9 = .ok (.getfield 66, 3) := by decide +kernel
theorem dX5_takeLine_12 : decode cX5_takeLine 12 = .ok (.iconst (-1), 1) := by decide +kernel
theorem dX5_takeLine_13 : decode cX5_takeLine 13 = .ok (.if_icmp .eq 13, 3) := by decide +kernel
theorem dX5_takeLine_16 : decode cX5_takeLine 16 = .ok (.iload_n 2, 1) := by decide +kernel
theorem dX5_takeLine_17 : decode cX5_takeLine 17 = .ok (.iconst 1, 1) := by decide +kernel
theorem dX5_takeLine_18 : decode cX5_takeLine 18 = .ok (.if_icmp .eq 14, 3) := by decide +kernel
theorem dX5_takeLine_21 : decode cX5_takeLine 21 = .ok (.iload_n 2, 1) := by decide +kernel
theorem dX5_takeLine_22 : decode cX5_takeLine 22 = .ok (.iconst 2, 1) := by decide +kernel
theorem dX5_takeLine_23 : decode cX5_takeLine 23 = .ok (.if_icmp .eq 9, 3) := by decide +kernel
theorem dX5_takeLine_26 : decode cX5_takeLine 26 = .ok (.aload_n 0, 1) := by decide +kernel
theorem dX5_takeLine_27 : decode cX5_takeLine 27 = .ok (.aload_n 1, 1) := by decide +kernel
theorem dX5_takeLine_28 : decode cX5_takeLine 28 = .ok (.invokevirtual 232, 3) := by decide +kernel
theorem dX5_takeLine_31 : decode cX5_takeLine 31 = .ok (.ireturn, 1) := by decide +kernel
theorem dX5_takeLine_32 : decode cX5_takeLine 32 = .ok (.iload_n 2, 1) := by decide +kernel
theorem dX5_takeLine_33 : decode cX5_takeLine 33 = .ok (.iconst 1, 1) := by decide +kernel
theorem dX5_takeLine_34 : decode cX5_takeLine 34 = .ok (.if_icmp .ne 22, 3) := by decide +kernel
theorem dX5_takeLine_37 : decode cX5_takeLine 37 = .ok (.aload_n 1, 1) := by decide +kernel
theorem dX5_takeLine_38 : decode cX5_takeLine 38 = .ok (.aload_n 0, 1) := by decide +kernel
theorem dX5_takeLine_39 : decode cX5_takeLine 39 = .ok (.getfield 66, 3) := by decide +kernel
theorem dX5_takeLine_42 : decode cX5_takeLine 42 = .ok (.iconst 1, 1) := by decide +kernel
theorem dX5_takeLine_43 : decode cX5_takeLine 43 = .ok (.aload_n 0, 1) := by decide +kernel
theorem dX5_takeLine_44 : decode cX5_takeLine 44 = .ok (.getfield 69, 3) := by decide +kernel
theorem dX5_takeLine_47 : decode cX5_takeLine 47 = .ok (.ishl, 1) := by decide +kernel
theorem dX5_takeLine_48 : decode cX5_takeLine 48 = .ok (.aload_n 0, 1) := by decide +kernel
theorem dX5_takeLine_49 : decode cX5_takeLine 49 = .ok (.getfield 69, 3) := by decide +kernel
theorem dX5_takeLine_52 : decode cX5_takeLine 52 = .ok (.invokevirtual 235, 3) := by decide +kernel
theorem dX5_takeLine_55 : decode cX5_takeLine 55 = .ok (.ireturn, 1) := by decide +kernel
theorem dX5_takeLine_56 : decode cX5_takeLine 56 = .ok (.aload_n 1, 1) := by decide +kernel
theorem dX5_takeLine_57 : decode cX5_takeLine 57 = .ok (.aload_n 0, 1) := by decide +kernel
theorem dX5_takeLine_58 : decode cX5_takeLine 58 = .ok (.getfield 66, 3) := by decide +kernel
theorem dX5_takeLine_61 : decode cX5_takeLine 61 = .ok (.aload_n 0, 1) := by decide +kernel
theorem dX5_takeLine_62 : decode cX5_takeLine 62 = .ok (.getfield 69, 3) := by decide +kernel
theorem dX5_takeLine_65 : decode cX5_takeLine 65 = .ok (.invokevirtual 238, 3) := by decide +kernel
theorem dX5_takeLine_68 : decode cX5_takeLine 68 = .ok (.iconst (-1), 1) := by decide +kernel
theorem dX5_takeLine_69 : decode cX5_takeLine 69 = .ok (.ireturn, 1) := by decide +kernel
theorem dX5_fillPlaces_0 : decode cX5_fillPlaces 0 = .ok (.iconst (-1), 1) := by decide +kernel
theorem dX5_fillPlaces_1 : decode cX5_fillPlaces 1 = .ok (.istore_n 2, 1) := by decide +kernel
theorem dX5_fillPlaces_2 : decode cX5_fillPlaces 2 = .ok (.iconst 0, 1) := by decide +kernel
theorem dX5_fillPlaces_3 : decode cX5_fillPlaces 3 = .ok (.istore_n 3, 1) := by decide +kernel
theorem dX5_fillPlaces_4 : decode cX5_fillPlaces 4 = .ok (.iload_n 3, 1) := by decide +kernel
theorem dX5_fillPlaces_5 : decode cX5_fillPlaces 5 = .ok (.aload_n 1, 1) := by decide +kernel
theorem dX5_fillPlaces_6 : decode cX5_fillPlaces 6 = .ok (.invokevirtual 242, 3) := by decide +kernel
theorem dX5_fillPlaces_9 : decode cX5_fillPlaces 9 = .ok (.if_icmp .ge 25, 3) := by decide +kernel
theorem dX5_fillPlaces_12 : decode cX5_fillPlaces 12 = .ok (.aload_n 0, 1) := by decide +kernel
theorem dX5_fillPlaces_13 : decode cX5_fillPlaces 13 = .ok (.aload_n 1, 1) := by decide +kernel
theorem dX5_fillPlaces_14 : decode cX5_fillPlaces 14 = .ok (.iload_n 3, 1) := by decide +kernel
theorem dX5_fillPlaces_15 : decode cX5_fillPlaces 15 = .ok (.invokevirtual 245, 3) := by decide +kernel
theorem dX5_fillPlaces_18 : decode cX5_fillPlaces 18 = .ok (.istore 4, 2) := by decide +kernel
theorem dX5_fillPlaces_20 : decode cX5_fillPlaces 20 = .ok (.iload_n 2, 1) := by decide +kernel
theorem dX5_fillPlaces_21 : decode cX5_fillPlaces 21 = .ok (.iconst (-1), 1) := by decide +kernel
theorem dX5_fillPlaces_22 : decode cX5_fillPlaces 22 = .ok (.if_icmp .ne 6, 3) := by decide +kernel
theorem dX5_fillPlaces_25 : decode cX5_fillPlaces 25 = .ok (.iload 4, 2) := by decide +kernel
theorem dX5_fillPlaces_27 : decode cX5_fillPlaces 27 = .ok (.istore_n 2, 1) := by decide +kernel
theorem dX5_fillPlaces_28 : decode cX5_fillPlaces 28 = .ok (.iinc 3 1, 3) := by decide +kernel
theorem dX5_fillPlaces_31 : decode cX5_fillPlaces 31 = .ok (.goto (-27), 3) := by decide +kernel
theorem dX5_fillPlaces_34 : decode cX5_fillPlaces 34 = .ok (.iload_n 2, 1) := by decide +kernel
theorem dX5_fillPlaces_35 : decode cX5_fillPlaces 35 = .ok (.ireturn, 1) := by decide +kernel
theorem dX5_fillPlace_0 : decode cX5_fillPlace 0 = .ok (.aload_n 0, 1) := by decide +kernel
theorem dX5_fillPlace_1 : decode cX5_fillPlace 1 = .ok (.getfield 42, 3) := by decide +kernel
theorem dX5_fillPlace_4 : decode cX5_fillPlace 4 = .ok (.iload_n 2, 1) := by decide +kernel
theorem dX5_fillPlace_5 : decode cX5_fillPlace 5 = .ok (.invokevirtual 249, 3) := by decide +kernel
theorem dX5_fillPlace_8 : decode cX5_fillPlace 8 = .ok (.istore_n 3, 1) := by decide +kernel
theorem dX5_fillPlace_9 : decode cX5_fillPlace 9 = .ok (.aload_n 1, 1) := by decide +kernel
theorem dX5_fillPlace_10 : decode cX5_fillPlace 10 = .ok (.iload_n 2, 1) := by decide +kernel
theorem dX5_fillPlace_11 : decode cX5_fillPlace 11 = .ok (.invokevirtual 91, 3) := by decide +kernel
theorem dX5_fillPlace_14 : decode cX5_fillPlace 14 = .ok (.ifCond .ne 7, 3) := by decide +kernel
theorem dX5_fillPlace_17 : decode cX5_fillPlace 17 = .ok (.iload_n 3, 1) := by decide +kernel
theorem dX5_fillPlace_18 : decode cX5_fillPlace 18 = .ok (.ifCond .ne 5, 3) := by decide +kernel
theorem dX5_fillPlace_21 : decode cX5_fillPlace 21 = .ok (.iconst (-1), 1) := by decide +kernel
theorem dX5_fillPlace_22 : decode cX5_fillPlace 22 = .ok (.ireturn, 1) := by decide +kernel
theorem dX5_fillPlace_23 : decode cX5_fillPlace 23 = .ok (.aload_n 0, 1) := by decide +kernel
theorem dX5_fillPlace_24 : decode cX5_fillPlace 24 = .ok (.getfield 42, 3) := by decide +kernel
theorem dX5_fillPlace_27 : decode cX5_fillPlace 27 = .ok (.iload_n 2, 1) := by decide +kernel
theorem dX5_fillPlace_28 : decode cX5_fillPlace 28 = .ok (.invokevirtual 252, 3) := by decide +kernel
theorem dX5_fillPlace_31 : decode cX5_fillPlace 31 = .ok (.ifCond .eq 17, 3) := by decide +kernel
theorem dX5_fillPlace_34 : decode cX5_fillPlace 34 = .ok (.aload_n 1, 1) := by decide +kernel
theorem dX5_fillPlace_35 : decode cX5_fillPlace 35 = .ok (.iload_n 2, 1) := by decide +kernel
theorem dX5_fillPlace_36 : decode cX5_fillPlace 36 = .ok (.iload_n 3, 1) := by decide +kernel
theorem dX5_fillPlace_37 : decode cX5_fillPlace 37 = .ok (.aload_n 1, 1) := by decide +kernel
theorem dX5_fillPlace_38 : decode cX5_fillPlace 38 = .ok (.iload_n 2, 1) := by decide +kernel
theorem dX5_fillPlace_39 : decode cX5_fillPlace 39 = .ok (.invokevirtual 192, 3) := by decide +kernel
theorem dX5_fillPlace_42 : decode cX5_fillPlace 42 = .ok (.ior, 1) := by decide +kernel
theorem dX5_fillPlace_43 : decode cX5_fillPlace 43 = .ok (.iconst (-1), 1) := by decide +kernel
theorem dX5_fillPlace_44 : decode cX5_fillPlace 44 = .ok (.invokevirtual 235, 3) := by decide +kernel
theorem dX5_fillPlace_47 : decode cX5_fillPlace 47 = .ok (.ireturn, 1) := by decide +kernel
theorem dX5_fillPlace_48 : decode cX5_fillPlace 48 = .ok (.aload_n 1, 1) := by decide +kernel
theorem dX5_fillPlace_49 : decode cX5_fillPlace 49 = .ok (.iload_n 2, 1) := by decide +kernel
theorem dX5_fillPlace_50 : decode cX5_fillPlace 50 = .ok (.iload_n 3, 1) := by decide +kernel
theorem dX5_fillPlace_51 : decode cX5_fillPlace 51 = .ok (.iload_n 3, 1) := by decide +kernel
theorem dX5_fillPlace_52 : decode cX5_fillPlace 52 = .ok (.invokestatic 255, 3) := by decide +kernel
theorem dX5_fillPlace_55 : decode cX5_fillPlace 55 = .ok (.invokevirtual 235, 3) := by decide +kernel
theorem dX5_fillPlace_58 : decode cX5_fillPlace 58 = .ok (.ireturn, 1) := by decide +kernel
theorem dX5_onlyValue_0 : decode cX5_onlyValue 0 = .ok (.iconst 0, 1) := by decide +kernel
theorem dX5_onlyValue_1 : decode cX5_onlyValue 1 = .ok (.istore_n 1, 1) := by decide +kernel
theorem dX5_onlyValue_2 : decode cX5_onlyValue 2 = .ok (.iload_n 1, 1) := by decide +kernel
theorem dX5_onlyValue_3 : decode cX5_onlyValue 3 = .ok (.iconst 4, 1) := by decide +kernel
theorem dX5_onlyValue_4 : decode cX5_onlyValue 4 = .ok (.if_icmp .ge 18, 3) := by decide +kernel
theorem dX5_onlyValue_7 : decode cX5_onlyValue 7 = .ok (.iload_n 0, 1) := by decide +kernel
theorem dX5_onlyValue_8 : decode cX5_onlyValue 8 = .ok (.iconst 1, 1) := by decide +kernel
theorem dX5_onlyValue_9 : decode cX5_onlyValue 9 = .ok (.iload_n 1, 1) := by decide +kernel
theorem dX5_onlyValue_10 : decode cX5_onlyValue 10 = .ok (.ishl, 1) := by decide +kernel
theorem dX5_onlyValue_11 : decode cX5_onlyValue 11 = .ok (.if_icmp .ne 5, 3) := by decide +kernel
theorem dX5_onlyValue_14 : decode cX5_onlyValue 14 = .ok (.iload_n 1, 1) := by decide +kernel
theorem dX5_onlyValue_15 : decode cX5_onlyValue 15 = .ok (.ireturn, 1) := by decide +kernel
theorem dX5_onlyValue_16 : decode cX5_onlyValue 16 = .ok (.iinc 1 1, 3) := by decide +kernel
theorem dX5_onlyValue_19 : decode cX5_onlyValue 19 = .ok (.goto (-17), 3) := by decide +kernel
theorem dX5_onlyValue_22 : decode cX5_onlyValue 22 = .ok (.iconst (-1), 1) := by decide +kernel
theorem dX5_onlyValue_23 : decode cX5_onlyValue 23 = .ok (.ireturn, 1) := by decide +kernel
theorem dL_law_0 : decode cL_law 0 = .ok (.new 7, 3) := by decide +kernel
theorem dL_law_3 : decode cL_law 3 = .ok (.dup, 1) := by decide +kernel
theorem dL_law_4 : decode cL_law 4 = .ok (.invokespecial 9, 3) := by decide +kernel
theorem dL_law_7 : decode cL_law 7 = .ok (.astore_n 1, 1) := by decide +kernel
theorem dL_law_8 : decode cL_law 8 = .ok (.new 10, 3) := by decide +kernel
theorem dL_law_11 : decode cL_law 11 = .ok (.dup, 1) := by decide +kernel
theorem dL_law_12 : decode cL_law 12 = .ok (.invokespecial 12, 3) := by decide +kernel
theorem dL_law_15 : decode cL_law 15 = .ok (.astore_n 2, 1) := by decide +kernel
theorem dL_law_16 : decode cL_law 16 = .ok (.iconst 0, 1) := by decide +kernel
theorem dL_law_17 : decode cL_law 17 = .ok (.istore_n 3, 1) := by decide +kernel
theorem dL_law_18 : decode cL_law 18 = .ok (.iload_n 3, 1) := by decide +kernel
theorem dL_law_19 : decode cL_law 19 = .ok (.aload_n 0, 1) := by decide +kernel
theorem dL_law_20 : decode cL_law 20 = .ok (.arraylength, 1) := by decide +kernel
theorem dL_law_21 : decode cL_law 21 = .ok (.bipush 6, 2) := by decide +kernel
theorem dL_law_23 : decode cL_law 23 = .ok (.isub, 1) := by decide +kernel
theorem dL_law_24 : decode cL_law 24 = .ok (.if_icmp .gt 703, 3) := by decide +kernel
theorem dL_law_27 : decode cL_law 27 = .ok (.aload_n 0, 1) := by decide +kernel
theorem dL_law_28 : decode cL_law 28 = .ok (.iload_n 3, 1) := by decide +kernel
theorem dL_law_29 : decode cL_law 29 = .ok (.iaload, 1) := by decide +kernel
theorem dL_law_30 : decode cL_law 30 = .ok (.bipush 31, 2) := by decide +kernel
theorem dL_law_32 : decode cL_law 32 = .ok (.iand, 1) := by decide +kernel
theorem dL_law_33 : decode cL_law 33 = .ok (.tableswitch 688 0 18 #[91, 104, 147, 200, 263, 316, 369, 402, 445, 468, 481, 504, 517, 530, 543, 556, 599, 642, 665], 91) := by decide +kernel
theorem dL_law_124 : decode cL_law 124 = .ok (.aload_n 1, 1) := by decide +kernel
theorem dL_law_125 : decode cL_law 125 = .ok (.invokevirtual 13, 3) := by decide +kernel
theorem dL_law_128 : decode cL_law 128 = .ok (.aload_n 2, 1) := by decide +kernel
theorem dL_law_129 : decode cL_law 129 = .ok (.invokevirtual 17, 3) := by decide +kernel
theorem dL_law_132 : decode cL_law 132 = .ok (.if_icmp .eq 589, 3) := by decide +kernel
theorem dL_law_135 : decode cL_law 135 = .ok (.iconst 0, 1) := by decide +kernel
theorem dL_law_136 : decode cL_law 136 = .ok (.ireturn, 1) := by decide +kernel
theorem dL_law_137 : decode cL_law 137 = .ok (.aload_n 1, 1) := by decide +kernel
theorem dL_law_138 : decode cL_law 138 = .ok (.aload_n 0, 1) := by decide +kernel
theorem dL_law_139 : decode cL_law 139 = .ok (.iload_n 3, 1) := by decide +kernel
theorem dL_law_140 : decode cL_law 140 = .ok (.iconst 1, 1) := by decide +kernel
theorem dL_law_141 : decode cL_law 141 = .ok (.iadd, 1) := by decide +kernel
theorem dL_law_142 : decode cL_law 142 = .ok (.iaload, 1) := by decide +kernel
theorem dL_law_143 : decode cL_law 143 = .ok (.aload_n 0, 1) := by decide +kernel
theorem dL_law_144 : decode cL_law 144 = .ok (.iload_n 3, 1) := by decide +kernel
theorem dL_law_145 : decode cL_law 145 = .ok (.iconst 2, 1) := by decide +kernel
theorem dL_law_146 : decode cL_law 146 = .ok (.iadd, 1) := by decide +kernel
theorem dL_law_147 : decode cL_law 147 = .ok (.iaload, 1) := by decide +kernel
theorem dL_law_148 : decode cL_law 148 = .ok (.aload_n 0, 1) := by decide +kernel
theorem dL_law_149 : decode cL_law 149 = .ok (.iload_n 3, 1) := by decide +kernel
theorem dL_law_150 : decode cL_law 150 = .ok (.iconst 3, 1) := by decide +kernel
theorem dL_law_151 : decode cL_law 151 = .ok (.iadd, 1) := by decide +kernel
theorem dL_law_152 : decode cL_law 152 = .ok (.iaload, 1) := by decide +kernel
theorem dL_law_153 : decode cL_law 153 = .ok (.invokevirtual 18, 3) := by decide +kernel
theorem dL_law_156 : decode cL_law 156 = .ok (.aload_n 2, 1) := by decide +kernel
theorem dL_law_157 : decode cL_law 157 = .ok (.aload_n 0, 1) := by decide +kernel
theorem dL_law_158 : decode cL_law 158 = .ok (.iload_n 3, 1) := by decide +kernel
theorem dL_law_159 : decode cL_law 159 = .ok (.iconst 1, 1) := by decide +kernel
theorem dL_law_160 : decode cL_law 160 = .ok (.iadd, 1) := by decide +kernel
theorem dL_law_161 : decode cL_law 161 = .ok (.iaload, 1) := by decide +kernel
theorem dL_law_162 : decode cL_law 162 = .ok (.aload_n 0, 1) := by decide +kernel
theorem dL_law_163 : decode cL_law 163 = .ok (.iload_n 3, 1) := by decide +kernel
theorem dL_law_164 : decode cL_law 164 = .ok (.iconst 2, 1) := by decide +kernel
theorem dL_law_165 : decode cL_law 165 = .ok (.iadd, 1) := by decide +kernel
theorem dL_law_166 : decode cL_law 166 = .ok (.iaload, 1) := by decide +kernel
theorem dL_law_167 : decode cL_law 167 = .ok (.aload_n 0, 1) := by decide +kernel
theorem dL_law_168 : decode cL_law 168 = .ok (.iload_n 3, 1) := by decide +kernel
theorem dL_law_169 : decode cL_law 169 = .ok (.iconst 3, 1) := by decide +kernel
theorem dL_law_170 : decode cL_law 170 = .ok (.iadd, 1) := by decide +kernel
theorem dL_law_171 : decode cL_law 171 = .ok (.iaload, 1) := by decide +kernel
theorem dL_law_172 : decode cL_law 172 = .ok (.invokevirtual 22, 3) := by decide +kernel
theorem dL_law_175 : decode cL_law 175 = .ok (.if_icmp .eq 546, 3) := by decide +kernel
theorem dL_law_178 : decode cL_law 178 = .ok (.iconst 0, 1) := by decide +kernel
theorem dL_law_179 : decode cL_law 179 = .ok (.ireturn, 1) := by decide +kernel
theorem dL_law_180 : decode cL_law 180 = .ok (.aload_n 1, 1) := by decide +kernel
theorem dL_law_181 : decode cL_law 181 = .ok (.aload_n 0, 1) := by decide +kernel
theorem dL_law_182 : decode cL_law 182 = .ok (.iload_n 3, 1) := by decide +kernel
theorem dL_law_183 : decode cL_law 183 = .ok (.iconst 1, 1) := by decide +kernel
theorem dL_law_184 : decode cL_law 184 = .ok (.iadd, 1) := by decide +kernel
theorem dL_law_185 : decode cL_law 185 = .ok (.iaload, 1) := by decide +kernel
theorem dL_law_186 : decode cL_law 186 = .ok (.aload_n 0, 1) := by decide +kernel
theorem dL_law_187 : decode cL_law 187 = .ok (.iload_n 3, 1) := by decide +kernel
theorem dL_law_188 : decode cL_law 188 = .ok (.iconst 2, 1) := by decide +kernel
theorem dL_law_189 : decode cL_law 189 = .ok (.iadd, 1) := by decide +kernel
theorem dL_law_190 : decode cL_law 190 = .ok (.iaload, 1) := by decide +kernel
theorem dL_law_191 : decode cL_law 191 = .ok (.aload_n 0, 1) := by decide +kernel
theorem dL_law_192 : decode cL_law 192 = .ok (.iload_n 3, 1) := by decide +kernel
theorem dL_law_193 : decode cL_law 193 = .ok (.iconst 3, 1) := by decide +kernel
theorem dL_law_194 : decode cL_law 194 = .ok (.iadd, 1) := by decide +kernel
theorem dL_law_195 : decode cL_law 195 = .ok (.iaload, 1) := by decide +kernel
theorem dL_law_196 : decode cL_law 196 = .ok (.aload_n 0, 1) := by decide +kernel
theorem dL_law_197 : decode cL_law 197 = .ok (.iload_n 3, 1) := by decide +kernel
theorem dL_law_198 : decode cL_law 198 = .ok (.iconst 4, 1) := by decide +kernel
theorem dL_law_199 : decode cL_law 199 = .ok (.iadd, 1) := by decide +kernel
theorem dL_law_200 : decode cL_law 200 = .ok (.iaload, 1) := by decide +kernel
theorem dL_law_201 : decode cL_law 201 = .ok (.invokevirtual 23, 3) := by decide +kernel
theorem dL_law_204 : decode cL_law 204 = .ok (.aload_n 2, 1) := by decide +kernel
theorem dL_law_205 : decode cL_law 205 = .ok (.aload_n 0, 1) := by decide +kernel
theorem dL_law_206 : decode cL_law 206 = .ok (.iload_n 3, 1) := by decide +kernel
theorem dL_law_207 : decode cL_law 207 = .ok (.iconst 1, 1) := by decide +kernel
theorem dL_law_208 : decode cL_law 208 = .ok (.iadd, 1) := by decide +kernel
theorem dL_law_209 : decode cL_law 209 = .ok (.iaload, 1) := by decide +kernel
theorem dL_law_210 : decode cL_law 210 = .ok (.aload_n 0, 1) := by decide +kernel
theorem dL_law_211 : decode cL_law 211 = .ok (.iload_n 3, 1) := by decide +kernel
theorem dL_law_212 : decode cL_law 212 = .ok (.iconst 2, 1) := by decide +kernel
theorem dL_law_213 : decode cL_law 213 = .ok (.iadd, 1) := by decide +kernel
theorem dL_law_214 : decode cL_law 214 = .ok (.iaload, 1) := by decide +kernel
theorem dL_law_215 : decode cL_law 215 = .ok (.aload_n 0, 1) := by decide +kernel
theorem dL_law_216 : decode cL_law 216 = .ok (.iload_n 3, 1) := by decide +kernel
theorem dL_law_217 : decode cL_law 217 = .ok (.iconst 3, 1) := by decide +kernel
theorem dL_law_218 : decode cL_law 218 = .ok (.iadd, 1) := by decide +kernel
theorem dL_law_219 : decode cL_law 219 = .ok (.iaload, 1) := by decide +kernel
theorem dL_law_220 : decode cL_law 220 = .ok (.aload_n 0, 1) := by decide +kernel
theorem dL_law_221 : decode cL_law 221 = .ok (.iload_n 3, 1) := by decide +kernel
theorem dL_law_222 : decode cL_law 222 = .ok (.iconst 4, 1) := by decide +kernel
theorem dL_law_223 : decode cL_law 223 = .ok (.iadd, 1) := by decide +kernel
theorem dL_law_224 : decode cL_law 224 = .ok (.iaload, 1) := by decide +kernel
theorem dL_law_225 : decode cL_law 225 = .ok (.invokevirtual 27, 3) := by decide +kernel
theorem dL_law_228 : decode cL_law 228 = .ok (.if_icmp .eq 493, 3) := by decide +kernel
theorem dL_law_231 : decode cL_law 231 = .ok (.iconst 0, 1) := by decide +kernel
theorem dL_law_232 : decode cL_law 232 = .ok (.ireturn, 1) := by decide +kernel
theorem dL_law_233 : decode cL_law 233 = .ok (.aload_n 1, 1) := by decide +kernel
theorem dL_law_234 : decode cL_law 234 = .ok (.aload_n 0, 1) := by decide +kernel
theorem dL_law_235 : decode cL_law 235 = .ok (.iload_n 3, 1) := by decide +kernel
theorem dL_law_236 : decode cL_law 236 = .ok (.iconst 1, 1) := by decide +kernel
theorem dL_law_237 : decode cL_law 237 = .ok (.iadd, 1) := by decide +kernel
theorem dL_law_238 : decode cL_law 238 = .ok (.iaload, 1) := by decide +kernel
theorem dL_law_239 : decode cL_law 239 = .ok (.aload_n 0, 1) := by decide +kernel
theorem dL_law_240 : decode cL_law 240 = .ok (.iload_n 3, 1) := by decide +kernel
theorem dL_law_241 : decode cL_law 241 = .ok (.iconst 2, 1) := by decide +kernel
theorem dL_law_242 : decode cL_law 242 = .ok (.iadd, 1) := by decide +kernel
theorem dL_law_243 : decode cL_law 243 = .ok (.iaload, 1) := by decide +kernel
theorem dL_law_244 : decode cL_law 244 = .ok (.aload_n 0, 1) := by decide +kernel
theorem dL_law_245 : decode cL_law 245 = .ok (.iload_n 3, 1) := by decide +kernel
theorem dL_law_246 : decode cL_law 246 = .ok (.iconst 3, 1) := by decide +kernel
theorem dL_law_247 : decode cL_law 247 = .ok (.iadd, 1) := by decide +kernel
theorem dL_law_248 : decode cL_law 248 = .ok (.iaload, 1) := by decide +kernel
theorem dL_law_249 : decode cL_law 249 = .ok (.aload_n 0, 1) := by decide +kernel
theorem dL_law_250 : decode cL_law 250 = .ok (.iload_n 3, 1) := by decide +kernel
theorem dL_law_251 : decode cL_law 251 = .ok (.iconst 4, 1) := by decide +kernel
theorem dL_law_252 : decode cL_law 252 = .ok (.iadd, 1) := by decide +kernel
theorem dL_law_253 : decode cL_law 253 = .ok (.iaload, 1) := by decide +kernel
theorem dL_law_254 : decode cL_law 254 = .ok (.aload_n 0, 1) := by decide +kernel
theorem dL_law_255 : decode cL_law 255 = .ok (.iload_n 3, 1) := by decide +kernel
theorem dL_law_256 : decode cL_law 256 = .ok (.iconst 5, 1) := by decide +kernel
theorem dL_law_257 : decode cL_law 257 = .ok (.iadd, 1) := by decide +kernel
theorem dL_law_258 : decode cL_law 258 = .ok (.iaload, 1) := by decide +kernel
theorem dL_law_259 : decode cL_law 259 = .ok (.invokevirtual 28, 3) := by decide +kernel
theorem dL_law_262 : decode cL_law 262 = .ok (.aload_n 2, 1) := by decide +kernel
theorem dL_law_263 : decode cL_law 263 = .ok (.aload_n 0, 1) := by decide +kernel
theorem dL_law_264 : decode cL_law 264 = .ok (.iload_n 3, 1) := by decide +kernel
theorem dL_law_265 : decode cL_law 265 = .ok (.iconst 1, 1) := by decide +kernel
theorem dL_law_266 : decode cL_law 266 = .ok (.iadd, 1) := by decide +kernel
theorem dL_law_267 : decode cL_law 267 = .ok (.iaload, 1) := by decide +kernel
theorem dL_law_268 : decode cL_law 268 = .ok (.aload_n 0, 1) := by decide +kernel
theorem dL_law_269 : decode cL_law 269 = .ok (.iload_n 3, 1) := by decide +kernel
theorem dL_law_270 : decode cL_law 270 = .ok (.iconst 2, 1) := by decide +kernel
theorem dL_law_271 : decode cL_law 271 = .ok (.iadd, 1) := by decide +kernel
theorem dL_law_272 : decode cL_law 272 = .ok (.iaload, 1) := by decide +kernel
theorem dL_law_273 : decode cL_law 273 = .ok (.aload_n 0, 1) := by decide +kernel
theorem dL_law_274 : decode cL_law 274 = .ok (.iload_n 3, 1) := by decide +kernel
theorem dL_law_275 : decode cL_law 275 = .ok (.iconst 3, 1) := by decide +kernel
theorem dL_law_276 : decode cL_law 276 = .ok (.iadd, 1) := by decide +kernel
theorem dL_law_277 : decode cL_law 277 = .ok (.iaload, 1) := by decide +kernel
theorem dL_law_278 : decode cL_law 278 = .ok (.aload_n 0, 1) := by decide +kernel
theorem dL_law_279 : decode cL_law 279 = .ok (.iload_n 3, 1) := by decide +kernel
theorem dL_law_280 : decode cL_law 280 = .ok (.iconst 4, 1) := by decide +kernel
theorem dL_law_281 : decode cL_law 281 = .ok (.iadd, 1) := by decide +kernel
theorem dL_law_282 : decode cL_law 282 = .ok (.iaload, 1) := by decide +kernel
theorem dL_law_283 : decode cL_law 283 = .ok (.aload_n 0, 1) := by decide +kernel
theorem dL_law_284 : decode cL_law 284 = .ok (.iload_n 3, 1) := by decide +kernel
theorem dL_law_285 : decode cL_law 285 = .ok (.iconst 5, 1) := by decide +kernel
theorem dL_law_286 : decode cL_law 286 = .ok (.iadd, 1) := by decide +kernel
theorem dL_law_287 : decode cL_law 287 = .ok (.iaload, 1) := by decide +kernel
theorem dL_law_288 : decode cL_law 288 = .ok (.invokevirtual 32, 3) := by decide +kernel
theorem dL_law_291 : decode cL_law 291 = .ok (.if_icmp .eq 430, 3) := by decide +kernel
theorem dL_law_294 : decode cL_law 294 = .ok (.iconst 0, 1) := by decide +kernel
theorem dL_law_295 : decode cL_law 295 = .ok (.ireturn, 1) := by decide +kernel
theorem dL_law_296 : decode cL_law 296 = .ok (.aload_n 1, 1) := by decide +kernel
theorem dL_law_297 : decode cL_law 297 = .ok (.aload_n 0, 1) := by decide +kernel
theorem dL_law_298 : decode cL_law 298 = .ok (.iload_n 3, 1) := by decide +kernel
theorem dL_law_299 : decode cL_law 299 = .ok (.iconst 1, 1) := by decide +kernel
theorem dL_law_300 : decode cL_law 300 = .ok (.iadd, 1) := by decide +kernel
theorem dL_law_301 : decode cL_law 301 = .ok (.iaload, 1) := by decide +kernel
theorem dL_law_302 : decode cL_law 302 = .ok (.aload_n 0, 1) := by decide +kernel
theorem dL_law_303 : decode cL_law 303 = .ok (.iload_n 3, 1) := by decide +kernel
theorem dL_law_304 : decode cL_law 304 = .ok (.iconst 2, 1) := by decide +kernel
theorem dL_law_305 : decode cL_law 305 = .ok (.iadd, 1) := by decide +kernel
theorem dL_law_306 : decode cL_law 306 = .ok (.iaload, 1) := by decide +kernel
theorem dL_law_307 : decode cL_law 307 = .ok (.aload_n 0, 1) := by decide +kernel
theorem dL_law_308 : decode cL_law 308 = .ok (.iload_n 3, 1) := by decide +kernel
theorem dL_law_309 : decode cL_law 309 = .ok (.iconst 3, 1) := by decide +kernel
theorem dL_law_310 : decode cL_law 310 = .ok (.iadd, 1) := by decide +kernel
theorem dL_law_311 : decode cL_law 311 = .ok (.iaload, 1) := by decide +kernel
theorem dL_law_312 : decode cL_law 312 = .ok (.aload_n 0, 1) := by decide +kernel
theorem dL_law_313 : decode cL_law 313 = .ok (.iload_n 3, 1) := by decide +kernel
theorem dL_law_314 : decode cL_law 314 = .ok (.iconst 4, 1) := by decide +kernel
theorem dL_law_315 : decode cL_law 315 = .ok (.iadd, 1) := by decide +kernel
theorem dL_law_316 : decode cL_law 316 = .ok (.iaload, 1) := by decide +kernel
theorem dL_law_317 : decode cL_law 317 = .ok (.invokevirtual 33, 3) := by decide +kernel
theorem dL_law_320 : decode cL_law 320 = .ok (.aload_n 2, 1) := by decide +kernel
theorem dL_law_321 : decode cL_law 321 = .ok (.aload_n 0, 1) := by decide +kernel
theorem dL_law_322 : decode cL_law 322 = .ok (.iload_n 3, 1) := by decide +kernel
theorem dL_law_323 : decode cL_law 323 = .ok (.iconst 1, 1) := by decide +kernel
theorem dL_law_324 : decode cL_law 324 = .ok (.iadd, 1) := by decide +kernel
theorem dL_law_325 : decode cL_law 325 = .ok (.iaload, 1) := by decide +kernel
theorem dL_law_326 : decode cL_law 326 = .ok (.aload_n 0, 1) := by decide +kernel
theorem dL_law_327 : decode cL_law 327 = .ok (.iload_n 3, 1) := by decide +kernel
theorem dL_law_328 : decode cL_law 328 = .ok (.iconst 2, 1) := by decide +kernel
theorem dL_law_329 : decode cL_law 329 = .ok (.iadd, 1) := by decide +kernel
theorem dL_law_330 : decode cL_law 330 = .ok (.iaload, 1) := by decide +kernel
theorem dL_law_331 : decode cL_law 331 = .ok (.aload_n 0, 1) := by decide +kernel
theorem dL_law_332 : decode cL_law 332 = .ok (.iload_n 3, 1) := by decide +kernel
theorem dL_law_333 : decode cL_law 333 = .ok (.iconst 3, 1) := by decide +kernel
theorem dL_law_334 : decode cL_law 334 = .ok (.iadd, 1) := by decide +kernel
theorem dL_law_335 : decode cL_law 335 = .ok (.iaload, 1) := by decide +kernel
theorem dL_law_336 : decode cL_law 336 = .ok (.aload_n 0, 1) := by decide +kernel
theorem dL_law_337 : decode cL_law 337 = .ok (.iload_n 3, 1) := by decide +kernel
theorem dL_law_338 : decode cL_law 338 = .ok (.iconst 4, 1) := by decide +kernel
theorem dL_law_339 : decode cL_law 339 = .ok (.iadd, 1) := by decide +kernel
theorem dL_law_340 : decode cL_law 340 = .ok (.iaload, 1) := by decide +kernel
theorem dL_law_341 : decode cL_law 341 = .ok (.invokevirtual 36, 3) := by decide +kernel
theorem dL_law_344 : decode cL_law 344 = .ok (.if_icmp .eq 377, 3) := by decide +kernel
theorem dL_law_347 : decode cL_law 347 = .ok (.iconst 0, 1) := by decide +kernel
theorem dL_law_348 : decode cL_law 348 = .ok (.ireturn, 1) := by decide +kernel
theorem dL_law_349 : decode cL_law 349 = .ok (.aload_n 1, 1) := by decide +kernel
theorem dL_law_350 : decode cL_law 350 = .ok (.aload_n 0, 1) := by decide +kernel
theorem dL_law_351 : decode cL_law 351 = .ok (.iload_n 3, 1) := by decide +kernel
theorem dL_law_352 : decode cL_law 352 = .ok (.iconst 1, 1) := by decide +kernel
theorem dL_law_353 : decode cL_law 353 = .ok (.iadd, 1) := by decide +kernel
theorem dL_law_354 : decode cL_law 354 = .ok (.iaload, 1) := by decide +kernel
theorem dL_law_355 : decode cL_law 355 = .ok (.aload_n 0, 1) := by decide +kernel
theorem dL_law_356 : decode cL_law 356 = .ok (.iload_n 3, 1) := by decide +kernel
theorem dL_law_357 : decode cL_law 357 = .ok (.iconst 2, 1) := by decide +kernel
theorem dL_law_358 : decode cL_law 358 = .ok (.iadd, 1) := by decide +kernel
theorem dL_law_359 : decode cL_law 359 = .ok (.iaload, 1) := by decide +kernel
theorem dL_law_360 : decode cL_law 360 = .ok (.aload_n 0, 1) := by decide +kernel
theorem dL_law_361 : decode cL_law 361 = .ok (.iload_n 3, 1) := by decide +kernel
theorem dL_law_362 : decode cL_law 362 = .ok (.iconst 3, 1) := by decide +kernel
theorem dL_law_363 : decode cL_law 363 = .ok (.iadd, 1) := by decide +kernel
theorem dL_law_364 : decode cL_law 364 = .ok (.iaload, 1) := by decide +kernel
theorem dL_law_365 : decode cL_law 365 = .ok (.aload_n 0, 1) := by decide +kernel
theorem dL_law_366 : decode cL_law 366 = .ok (.iload_n 3, 1) := by decide +kernel
theorem dL_law_367 : decode cL_law 367 = .ok (.iconst 4, 1) := by decide +kernel
theorem dL_law_368 : decode cL_law 368 = .ok (.iadd, 1) := by decide +kernel
theorem dL_law_369 : decode cL_law 369 = .ok (.iaload, 1) := by decide +kernel
theorem dL_law_370 : decode cL_law 370 = .ok (.invokevirtual 37, 3) := by decide +kernel
theorem dL_law_373 : decode cL_law 373 = .ok (.aload_n 2, 1) := by decide +kernel
theorem dL_law_374 : decode cL_law 374 = .ok (.aload_n 0, 1) := by decide +kernel
theorem dL_law_375 : decode cL_law 375 = .ok (.iload_n 3, 1) := by decide +kernel
theorem dL_law_376 : decode cL_law 376 = .ok (.iconst 1, 1) := by decide +kernel
theorem dL_law_377 : decode cL_law 377 = .ok (.iadd, 1) := by decide +kernel
theorem dL_law_378 : decode cL_law 378 = .ok (.iaload, 1) := by decide +kernel
theorem dL_law_379 : decode cL_law 379 = .ok (.aload_n 0, 1) := by decide +kernel
theorem dL_law_380 : decode cL_law 380 = .ok (.iload_n 3, 1) := by decide +kernel
theorem dL_law_381 : decode cL_law 381 = .ok (.iconst 2, 1) := by decide +kernel
theorem dL_law_382 : decode cL_law 382 = .ok (.iadd, 1) := by decide +kernel
theorem dL_law_383 : decode cL_law 383 = .ok (.iaload, 1) := by decide +kernel
theorem dL_law_384 : decode cL_law 384 = .ok (.aload_n 0, 1) := by decide +kernel
theorem dL_law_385 : decode cL_law 385 = .ok (.iload_n 3, 1) := by decide +kernel
theorem dL_law_386 : decode cL_law 386 = .ok (.iconst 3, 1) := by decide +kernel
theorem dL_law_387 : decode cL_law 387 = .ok (.iadd, 1) := by decide +kernel
theorem dL_law_388 : decode cL_law 388 = .ok (.iaload, 1) := by decide +kernel
theorem dL_law_389 : decode cL_law 389 = .ok (.aload_n 0, 1) := by decide +kernel
theorem dL_law_390 : decode cL_law 390 = .ok (.iload_n 3, 1) := by decide +kernel
theorem dL_law_391 : decode cL_law 391 = .ok (.iconst 4, 1) := by decide +kernel
theorem dL_law_392 : decode cL_law 392 = .ok (.iadd, 1) := by decide +kernel
theorem dL_law_393 : decode cL_law 393 = .ok (.iaload, 1) := by decide +kernel
theorem dL_law_394 : decode cL_law 394 = .ok (.invokevirtual 40, 3) := by decide +kernel
theorem dL_law_397 : decode cL_law 397 = .ok (.if_icmp .eq 324, 3) := by decide +kernel
theorem dL_law_400 : decode cL_law 400 = .ok (.iconst 0, 1) := by decide +kernel
theorem dL_law_401 : decode cL_law 401 = .ok (.ireturn, 1) := by decide +kernel
theorem dL_law_402 : decode cL_law 402 = .ok (.aload_n 1, 1) := by decide +kernel
theorem dL_law_403 : decode cL_law 403 = .ok (.aload_n 0, 1) := by decide +kernel
theorem dL_law_404 : decode cL_law 404 = .ok (.iload_n 3, 1) := by decide +kernel
theorem dL_law_405 : decode cL_law 405 = .ok (.iconst 1, 1) := by decide +kernel
theorem dL_law_406 : decode cL_law 406 = .ok (.iadd, 1) := by decide +kernel
theorem dL_law_407 : decode cL_law 407 = .ok (.iaload, 1) := by decide +kernel
theorem dL_law_408 : decode cL_law 408 = .ok (.aload_n 0, 1) := by decide +kernel
theorem dL_law_409 : decode cL_law 409 = .ok (.iload_n 3, 1) := by decide +kernel
theorem dL_law_410 : decode cL_law 410 = .ok (.iconst 2, 1) := by decide +kernel
theorem dL_law_411 : decode cL_law 411 = .ok (.iadd, 1) := by decide +kernel
theorem dL_law_412 : decode cL_law 412 = .ok (.iaload, 1) := by decide +kernel
theorem dL_law_413 : decode cL_law 413 = .ok (.invokevirtual 41, 3) := by decide +kernel
theorem dL_law_416 : decode cL_law 416 = .ok (.aload_n 2, 1) := by decide +kernel
theorem dL_law_417 : decode cL_law 417 = .ok (.aload_n 0, 1) := by decide +kernel
theorem dL_law_418 : decode cL_law 418 = .ok (.iload_n 3, 1) := by decide +kernel
theorem dL_law_419 : decode cL_law 419 = .ok (.iconst 1, 1) := by decide +kernel
theorem dL_law_420 : decode cL_law 420 = .ok (.iadd, 1) := by decide +kernel
theorem dL_law_421 : decode cL_law 421 = .ok (.iaload, 1) := by decide +kernel
theorem dL_law_422 : decode cL_law 422 = .ok (.aload_n 0, 1) := by decide +kernel
theorem dL_law_423 : decode cL_law 423 = .ok (.iload_n 3, 1) := by decide +kernel
theorem dL_law_424 : decode cL_law 424 = .ok (.iconst 2, 1) := by decide +kernel
theorem dL_law_425 : decode cL_law 425 = .ok (.iadd, 1) := by decide +kernel
theorem dL_law_426 : decode cL_law 426 = .ok (.iaload, 1) := by decide +kernel
theorem dL_law_427 : decode cL_law 427 = .ok (.invokevirtual 45, 3) := by decide +kernel
theorem dL_law_430 : decode cL_law 430 = .ok (.if_icmp .eq 291, 3) := by decide +kernel
theorem dL_law_433 : decode cL_law 433 = .ok (.iconst 0, 1) := by decide +kernel
theorem dL_law_434 : decode cL_law 434 = .ok (.ireturn, 1) := by decide +kernel
theorem dL_law_435 : decode cL_law 435 = .ok (.aload_n 1, 1) := by decide +kernel
theorem dL_law_436 : decode cL_law 436 = .ok (.aload_n 0, 1) := by decide +kernel
theorem dL_law_437 : decode cL_law 437 = .ok (.iload_n 3, 1) := by decide +kernel
theorem dL_law_438 : decode cL_law 438 = .ok (.iconst 1, 1) := by decide +kernel
theorem dL_law_439 : decode cL_law 439 = .ok (.iadd, 1) := by decide +kernel
theorem dL_law_440 : decode cL_law 440 = .ok (.iaload, 1) := by decide +kernel
theorem dL_law_441 : decode cL_law 441 = .ok (.aload_n 0, 1) := by decide +kernel
theorem dL_law_442 : decode cL_law 442 = .ok (.iload_n 3, 1) := by decide +kernel
theorem dL_law_443 : decode cL_law 443 = .ok (.iconst 2, 1) := by decide +kernel
theorem dL_law_444 : decode cL_law 444 = .ok (.iadd, 1) := by decide +kernel
theorem dL_law_445 : decode cL_law 445 = .ok (.iaload, 1) := by decide +kernel
theorem dL_law_446 : decode cL_law 446 = .ok (.aload_n 0, 1) := by decide +kernel
theorem dL_law_447 : decode cL_law 447 = .ok (.iload_n 3, 1) := by decide +kernel
theorem dL_law_448 : decode cL_law 448 = .ok (.iconst 3, 1) := by decide +kernel
theorem dL_law_449 : decode cL_law 449 = .ok (.iadd, 1) := by decide +kernel
theorem dL_law_450 : decode cL_law 450 = .ok (.iaload, 1) := by decide +kernel
theorem dL_law_451 : decode cL_law 451 = .ok (.invokevirtual 46, 3) := by decide +kernel
theorem dL_law_454 : decode cL_law 454 = .ok (.aload_n 2, 1) := by decide +kernel
theorem dL_law_455 : decode cL_law 455 = .ok (.aload_n 0, 1) := by decide +kernel
theorem dL_law_456 : decode cL_law 456 = .ok (.iload_n 3, 1) := by decide +kernel
theorem dL_law_457 : decode cL_law 457 = .ok (.iconst 1, 1) := by decide +kernel
theorem dL_law_458 : decode cL_law 458 = .ok (.iadd, 1) := by decide +kernel
theorem dL_law_459 : decode cL_law 459 = .ok (.iaload, 1) := by decide +kernel
theorem dL_law_460 : decode cL_law 460 = .ok (.aload_n 0, 1) := by decide +kernel
theorem dL_law_461 : decode cL_law 461 = .ok (.iload_n 3, 1) := by decide +kernel
theorem dL_law_462 : decode cL_law 462 = .ok (.iconst 2, 1) := by decide +kernel
theorem dL_law_463 : decode cL_law 463 = .ok (.iadd, 1) := by decide +kernel
theorem dL_law_464 : decode cL_law 464 = .ok (.iaload, 1) := by decide +kernel
theorem dL_law_465 : decode cL_law 465 = .ok (.aload_n 0, 1) := by decide +kernel
theorem dL_law_466 : decode cL_law 466 = .ok (.iload_n 3, 1) := by decide +kernel
theorem dL_law_467 : decode cL_law 467 = .ok (.iconst 3, 1) := by decide +kernel
theorem dL_law_468 : decode cL_law 468 = .ok (.iadd, 1) := by decide +kernel
theorem dL_law_469 : decode cL_law 469 = .ok (.iaload, 1) := by decide +kernel
theorem dL_law_470 : decode cL_law 470 = .ok (.invokevirtual 49, 3) := by decide +kernel
theorem dL_law_473 : decode cL_law 473 = .ok (.if_icmp .eq 248, 3) := by decide +kernel
theorem dL_law_476 : decode cL_law 476 = .ok (.iconst 0, 1) := by decide +kernel
theorem dL_law_477 : decode cL_law 477 = .ok (.ireturn, 1) := by decide +kernel
theorem dL_law_478 : decode cL_law 478 = .ok (.aload_n 1, 1) := by decide +kernel
theorem dL_law_479 : decode cL_law 479 = .ok (.aload_n 0, 1) := by decide +kernel
theorem dL_law_480 : decode cL_law 480 = .ok (.iload_n 3, 1) := by decide +kernel
theorem dL_law_481 : decode cL_law 481 = .ok (.iconst 1, 1) := by decide +kernel
theorem dL_law_482 : decode cL_law 482 = .ok (.iadd, 1) := by decide +kernel
theorem dL_law_483 : decode cL_law 483 = .ok (.iaload, 1) := by decide +kernel
theorem dL_law_484 : decode cL_law 484 = .ok (.invokevirtual 50, 3) := by decide +kernel
theorem dL_law_487 : decode cL_law 487 = .ok (.aload_n 2, 1) := by decide +kernel
theorem dL_law_488 : decode cL_law 488 = .ok (.aload_n 0, 1) := by decide +kernel
theorem dL_law_489 : decode cL_law 489 = .ok (.iload_n 3, 1) := by decide +kernel
theorem dL_law_490 : decode cL_law 490 = .ok (.iconst 1, 1) := by decide +kernel
theorem dL_law_491 : decode cL_law 491 = .ok (.iadd, 1) := by decide +kernel
theorem dL_law_492 : decode cL_law 492 = .ok (.iaload, 1) := by decide +kernel
theorem dL_law_493 : decode cL_law 493 = .ok (.invokevirtual 54, 3) := by decide +kernel
theorem dL_law_496 : decode cL_law 496 = .ok (.if_icmp .eq 225, 3) := by decide +kernel
theorem dL_law_499 : decode cL_law 499 = .ok (.iconst 0, 1) := by decide +kernel
theorem dL_law_500 : decode cL_law 500 = .ok (.ireturn, 1) := by decide +kernel
theorem dL_law_501 : decode cL_law 501 = .ok (.aload_n 1, 1) := by decide +kernel
theorem dL_law_502 : decode cL_law 502 = .ok (.invokevirtual 55, 3) := by decide +kernel
theorem dL_law_505 : decode cL_law 505 = .ok (.aload_n 2, 1) := by decide +kernel
theorem dL_law_506 : decode cL_law 506 = .ok (.invokevirtual 58, 3) := by decide +kernel
theorem dL_law_509 : decode cL_law 509 = .ok (.if_icmp .eq 212, 3) := by decide +kernel
theorem dL_law_512 : decode cL_law 512 = .ok (.iconst 0, 1) := by decide +kernel
theorem dL_law_513 : decode cL_law 513 = .ok (.ireturn, 1) := by decide +kernel
theorem dL_law_514 : decode cL_law 514 = .ok (.aload_n 1, 1) := by decide +kernel
theorem dL_law_515 : decode cL_law 515 = .ok (.aload_n 0, 1) := by decide +kernel
theorem dL_law_516 : decode cL_law 516 = .ok (.iload_n 3, 1) := by decide +kernel
theorem dL_law_517 : decode cL_law 517 = .ok (.iconst 1, 1) := by decide +kernel
theorem dL_law_518 : decode cL_law 518 = .ok (.iadd, 1) := by decide +kernel
theorem dL_law_519 : decode cL_law 519 = .ok (.iaload, 1) := by decide +kernel
theorem dL_law_520 : decode cL_law 520 = .ok (.invokevirtual 59, 3) := by decide +kernel
theorem dL_law_523 : decode cL_law 523 = .ok (.aload_n 2, 1) := by decide +kernel
theorem dL_law_524 : decode cL_law 524 = .ok (.aload_n 0, 1) := by decide +kernel
theorem dL_law_525 : decode cL_law 525 = .ok (.iload_n 3, 1) := by decide +kernel
theorem dL_law_526 : decode cL_law 526 = .ok (.iconst 1, 1) := by decide +kernel
theorem dL_law_527 : decode cL_law 527 = .ok (.iadd, 1) := by decide +kernel
theorem dL_law_528 : decode cL_law 528 = .ok (.iaload, 1) := by decide +kernel
theorem dL_law_529 : decode cL_law 529 = .ok (.invokevirtual 62, 3) := by decide +kernel
theorem dL_law_532 : decode cL_law 532 = .ok (.if_icmp .eq 189, 3) := by decide +kernel
theorem dL_law_535 : decode cL_law 535 = .ok (.iconst 0, 1) := by decide +kernel
theorem dL_law_536 : decode cL_law 536 = .ok (.ireturn, 1) := by decide +kernel
theorem dL_law_537 : decode cL_law 537 = .ok (.aload_n 1, 1) := by decide +kernel
theorem dL_law_538 : decode cL_law 538 = .ok (.invokevirtual 63, 3) := by decide +kernel
theorem dL_law_541 : decode cL_law 541 = .ok (.aload_n 2, 1) := by decide +kernel
theorem dL_law_542 : decode cL_law 542 = .ok (.invokevirtual 66, 3) := by decide +kernel
theorem dL_law_545 : decode cL_law 545 = .ok (.if_icmp .eq 176, 3) := by decide +kernel
theorem dL_law_548 : decode cL_law 548 = .ok (.iconst 0, 1) := by decide +kernel
theorem dL_law_549 : decode cL_law 549 = .ok (.ireturn, 1) := by decide +kernel
theorem dL_law_550 : decode cL_law 550 = .ok (.aload_n 1, 1) := by decide +kernel
theorem dL_law_551 : decode cL_law 551 = .ok (.invokevirtual 67, 3) := by decide +kernel
theorem dL_law_554 : decode cL_law 554 = .ok (.aload_n 2, 1) := by decide +kernel
theorem dL_law_555 : decode cL_law 555 = .ok (.invokevirtual 70, 3) := by decide +kernel
theorem dL_law_558 : decode cL_law 558 = .ok (.if_icmp .eq 163, 3) := by decide +kernel
theorem dL_law_561 : decode cL_law 561 = .ok (.iconst 0, 1) := by decide +kernel
theorem dL_law_562 : decode cL_law 562 = .ok (.ireturn, 1) := by decide +kernel
theorem dL_law_563 : decode cL_law 563 = .ok (.aload_n 1, 1) := by decide +kernel
theorem dL_law_564 : decode cL_law 564 = .ok (.invokevirtual 71, 3) := by decide +kernel
theorem dL_law_567 : decode cL_law 567 = .ok (.aload_n 2, 1) := by decide +kernel
theorem dL_law_568 : decode cL_law 568 = .ok (.invokevirtual 74, 3) := by decide +kernel
theorem dL_law_571 : decode cL_law 571 = .ok (.if_icmp .eq 150, 3) := by decide +kernel
theorem dL_law_574 : decode cL_law 574 = .ok (.iconst 0, 1) := by decide +kernel
theorem dL_law_575 : decode cL_law 575 = .ok (.ireturn, 1) := by decide +kernel
theorem dL_law_576 : decode cL_law 576 = .ok (.aload_n 1, 1) := by decide +kernel
theorem dL_law_577 : decode cL_law 577 = .ok (.invokevirtual 75, 3) := by decide +kernel
theorem dL_law_580 : decode cL_law 580 = .ok (.aload_n 2, 1) := by decide +kernel
theorem dL_law_581 : decode cL_law 581 = .ok (.invokevirtual 78, 3) := by decide +kernel
theorem dL_law_584 : decode cL_law 584 = .ok (.if_icmp .eq 137, 3) := by decide +kernel
theorem dL_law_587 : decode cL_law 587 = .ok (.iconst 0, 1) := by decide +kernel
theorem dL_law_588 : decode cL_law 588 = .ok (.ireturn, 1) := by decide +kernel
theorem dL_law_589 : decode cL_law 589 = .ok (.aload_n 1, 1) := by decide +kernel
theorem dL_law_590 : decode cL_law 590 = .ok (.aload_n 0, 1) := by decide +kernel
theorem dL_law_591 : decode cL_law 591 = .ok (.iload_n 3, 1) := by decide +kernel
theorem dL_law_592 : decode cL_law 592 = .ok (.iconst 1, 1) := by decide +kernel
theorem dL_law_593 : decode cL_law 593 = .ok (.iadd, 1) := by decide +kernel
theorem dL_law_594 : decode cL_law 594 = .ok (.iaload, 1) := by decide +kernel
theorem dL_law_595 : decode cL_law 595 = .ok (.aload_n 0, 1) := by decide +kernel
theorem dL_law_596 : decode cL_law 596 = .ok (.iload_n 3, 1) := by decide +kernel
theorem dL_law_597 : decode cL_law 597 = .ok (.iconst 2, 1) := by decide +kernel
theorem dL_law_598 : decode cL_law 598 = .ok (.iadd, 1) := by decide +kernel
theorem dL_law_599 : decode cL_law 599 = .ok (.iaload, 1) := by decide +kernel
theorem dL_law_600 : decode cL_law 600 = .ok (.aload_n 0, 1) := by decide +kernel
theorem dL_law_601 : decode cL_law 601 = .ok (.iload_n 3, 1) := by decide +kernel
theorem dL_law_602 : decode cL_law 602 = .ok (.iconst 3, 1) := by decide +kernel
theorem dL_law_603 : decode cL_law 603 = .ok (.iadd, 1) := by decide +kernel
theorem dL_law_604 : decode cL_law 604 = .ok (.iaload, 1) := by decide +kernel
theorem dL_law_605 : decode cL_law 605 = .ok (.invokevirtual 79, 3) := by decide +kernel
theorem dL_law_608 : decode cL_law 608 = .ok (.aload_n 2, 1) := by decide +kernel
theorem dL_law_609 : decode cL_law 609 = .ok (.aload_n 0, 1) := by decide +kernel
theorem dL_law_610 : decode cL_law 610 = .ok (.iload_n 3, 1) := by decide +kernel
theorem dL_law_611 : decode cL_law 611 = .ok (.iconst 1, 1) := by decide +kernel
theorem dL_law_612 : decode cL_law 612 = .ok (.iadd, 1) := by decide +kernel
theorem dL_law_613 : decode cL_law 613 = .ok (.iaload, 1) := by decide +kernel
theorem dL_law_614 : decode cL_law 614 = .ok (.aload_n 0, 1) := by decide +kernel
theorem dL_law_615 : decode cL_law 615 = .ok (.iload_n 3, 1) := by decide +kernel
theorem dL_law_616 : decode cL_law 616 = .ok (.iconst 2, 1) := by decide +kernel
theorem dL_law_617 : decode cL_law 617 = .ok (.iadd, 1) := by decide +kernel
theorem dL_law_618 : decode cL_law 618 = .ok (.iaload, 1) := by decide +kernel
theorem dL_law_619 : decode cL_law 619 = .ok (.aload_n 0, 1) := by decide +kernel
theorem dL_law_620 : decode cL_law 620 = .ok (.iload_n 3, 1) := by decide +kernel
theorem dL_law_621 : decode cL_law 621 = .ok (.iconst 3, 1) := by decide +kernel
theorem dL_law_622 : decode cL_law 622 = .ok (.iadd, 1) := by decide +kernel
theorem dL_law_623 : decode cL_law 623 = .ok (.iaload, 1) := by decide +kernel
theorem dL_law_624 : decode cL_law 624 = .ok (.invokevirtual 82, 3) := by decide +kernel
theorem dL_law_627 : decode cL_law 627 = .ok (.if_icmp .eq 94, 3) := by decide +kernel
theorem dL_law_630 : decode cL_law 630 = .ok (.iconst 0, 1) := by decide +kernel
theorem dL_law_631 : decode cL_law 631 = .ok (.ireturn, 1) := by decide +kernel
theorem dL_law_632 : decode cL_law 632 = .ok (.aload_n 1, 1) := by decide +kernel
theorem dL_law_633 : decode cL_law 633 = .ok (.aload_n 0, 1) := by decide +kernel
theorem dL_law_634 : decode cL_law 634 = .ok (.iload_n 3, 1) := by decide +kernel
theorem dL_law_635 : decode cL_law 635 = .ok (.iconst 1, 1) := by decide +kernel
theorem dL_law_636 : decode cL_law 636 = .ok (.iadd, 1) := by decide +kernel
theorem dL_law_637 : decode cL_law 637 = .ok (.iaload, 1) := by decide +kernel
theorem dL_law_638 : decode cL_law 638 = .ok (.aload_n 0, 1) := by decide +kernel
theorem dL_law_639 : decode cL_law 639 = .ok (.iload_n 3, 1) := by decide +kernel
theorem dL_law_640 : decode cL_law 640 = .ok (.iconst 2, 1) := by decide +kernel
theorem dL_law_641 : decode cL_law 641 = .ok (.iadd, 1) := by decide +kernel
theorem dL_law_642 : decode cL_law 642 = .ok (.iaload, 1) := by decide +kernel
theorem dL_law_643 : decode cL_law 643 = .ok (.aload_n 0, 1) := by decide +kernel
theorem dL_law_644 : decode cL_law 644 = .ok (.iload_n 3, 1) := by decide +kernel
theorem dL_law_645 : decode cL_law 645 = .ok (.iconst 3, 1) := by decide +kernel
theorem dL_law_646 : decode cL_law 646 = .ok (.iadd, 1) := by decide +kernel
theorem dL_law_647 : decode cL_law 647 = .ok (.iaload, 1) := by decide +kernel
theorem dL_law_648 : decode cL_law 648 = .ok (.invokevirtual 83, 3) := by decide +kernel
theorem dL_law_651 : decode cL_law 651 = .ok (.aload_n 2, 1) := by decide +kernel
theorem dL_law_652 : decode cL_law 652 = .ok (.aload_n 0, 1) := by decide +kernel
theorem dL_law_653 : decode cL_law 653 = .ok (.iload_n 3, 1) := by decide +kernel
theorem dL_law_654 : decode cL_law 654 = .ok (.iconst 1, 1) := by decide +kernel
theorem dL_law_655 : decode cL_law 655 = .ok (.iadd, 1) := by decide +kernel
theorem dL_law_656 : decode cL_law 656 = .ok (.iaload, 1) := by decide +kernel
theorem dL_law_657 : decode cL_law 657 = .ok (.aload_n 0, 1) := by decide +kernel
theorem dL_law_658 : decode cL_law 658 = .ok (.iload_n 3, 1) := by decide +kernel
theorem dL_law_659 : decode cL_law 659 = .ok (.iconst 2, 1) := by decide +kernel
theorem dL_law_660 : decode cL_law 660 = .ok (.iadd, 1) := by decide +kernel
theorem dL_law_661 : decode cL_law 661 = .ok (.iaload, 1) := by decide +kernel
theorem dL_law_662 : decode cL_law 662 = .ok (.aload_n 0, 1) := by decide +kernel
theorem dL_law_663 : decode cL_law 663 = .ok (.iload_n 3, 1) := by decide +kernel
theorem dL_law_664 : decode cL_law 664 = .ok (.iconst 3, 1) := by decide +kernel
theorem dL_law_665 : decode cL_law 665 = .ok (.iadd, 1) := by decide +kernel
theorem dL_law_666 : decode cL_law 666 = .ok (.iaload, 1) := by decide +kernel
theorem dL_law_667 : decode cL_law 667 = .ok (.invokevirtual 86, 3) := by decide +kernel
theorem dL_law_670 : decode cL_law 670 = .ok (.if_icmp .eq 51, 3) := by decide +kernel
theorem dL_law_673 : decode cL_law 673 = .ok (.iconst 0, 1) := by decide +kernel
theorem dL_law_674 : decode cL_law 674 = .ok (.ireturn, 1) := by decide +kernel
theorem dL_law_675 : decode cL_law 675 = .ok (.aload_n 1, 1) := by decide +kernel
theorem dL_law_676 : decode cL_law 676 = .ok (.aload_n 0, 1) := by decide +kernel
theorem dL_law_677 : decode cL_law 677 = .ok (.iload_n 3, 1) := by decide +kernel
theorem dL_law_678 : decode cL_law 678 = .ok (.iconst 1, 1) := by decide +kernel
theorem dL_law_679 : decode cL_law 679 = .ok (.iadd, 1) := by decide +kernel
theorem dL_law_680 : decode cL_law 680 = .ok (.iaload, 1) := by decide +kernel
theorem dL_law_681 : decode cL_law 681 = .ok (.invokevirtual 87, 3) := by decide +kernel
theorem dL_law_684 : decode cL_law 684 = .ok (.aload_n 2, 1) := by decide +kernel
theorem dL_law_685 : decode cL_law 685 = .ok (.aload_n 0, 1) := by decide +kernel
theorem dL_law_686 : decode cL_law 686 = .ok (.iload_n 3, 1) := by decide +kernel
theorem dL_law_687 : decode cL_law 687 = .ok (.iconst 1, 1) := by decide +kernel
theorem dL_law_688 : decode cL_law 688 = .ok (.iadd, 1) := by decide +kernel
theorem dL_law_689 : decode cL_law 689 = .ok (.iaload, 1) := by decide +kernel
theorem dL_law_690 : decode cL_law 690 = .ok (.invokevirtual 90, 3) := by decide +kernel
theorem dL_law_693 : decode cL_law 693 = .ok (.if_icmp .eq 28, 3) := by decide +kernel
theorem dL_law_696 : decode cL_law 696 = .ok (.iconst 0, 1) := by decide +kernel
theorem dL_law_697 : decode cL_law 697 = .ok (.ireturn, 1) := by decide +kernel
theorem dL_law_698 : decode cL_law 698 = .ok (.aload_n 1, 1) := by decide +kernel
theorem dL_law_699 : decode cL_law 699 = .ok (.aload_n 0, 1) := by decide +kernel
theorem dL_law_700 : decode cL_law 700 = .ok (.iload_n 3, 1) := by decide +kernel
theorem dL_law_701 : decode cL_law 701 = .ok (.iconst 1, 1) := by decide +kernel
theorem dL_law_702 : decode cL_law 702 = .ok (.iadd, 1) := by decide +kernel
theorem dL_law_703 : decode cL_law 703 = .ok (.iaload, 1) := by decide +kernel
theorem dL_law_704 : decode cL_law 704 = .ok (.invokevirtual 91, 3) := by decide +kernel
theorem dL_law_707 : decode cL_law 707 = .ok (.aload_n 2, 1) := by decide +kernel
theorem dL_law_708 : decode cL_law 708 = .ok (.aload_n 0, 1) := by decide +kernel
theorem dL_law_709 : decode cL_law 709 = .ok (.iload_n 3, 1) := by decide +kernel
theorem dL_law_710 : decode cL_law 710 = .ok (.iconst 1, 1) := by decide +kernel
theorem dL_law_711 : decode cL_law 711 = .ok (.iadd, 1) := by decide +kernel
theorem dL_law_712 : decode cL_law 712 = .ok (.iaload, 1) := by decide +kernel
theorem dL_law_713 : decode cL_law 713 = .ok (.invokevirtual 94, 3) := by decide +kernel
theorem dL_law_716 : decode cL_law 716 = .ok (.if_icmp .eq 5, 3) := by decide +kernel
theorem dL_law_719 : decode cL_law 719 = .ok (.iconst 0, 1) := by decide +kernel
theorem dL_law_720 : decode cL_law 720 = .ok (.ireturn, 1) := by decide +kernel
theorem dL_law_721 : decode cL_law 721 = .ok (.iinc 3 6, 3) := by decide +kernel
theorem dL_law_724 : decode cL_law 724 = .ok (.goto (-706), 3) := by decide +kernel
theorem dL_law_727 : decode cL_law 727 = .ok (.iconst 1, 1) := by decide +kernel
theorem dL_law_728 : decode cL_law 728 = .ok (.ireturn, 1) := by decide +kernel
