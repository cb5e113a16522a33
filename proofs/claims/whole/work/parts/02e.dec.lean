theorem dX6_fits_81 : decode cX6_fits 81 = .ok (.ifCond .ne 19, 3) := by decide +kernel
theorem dX6_fits_84 : decode cX6_fits 84 = .ok (.aload_n 0, 1) := by decide +kernel
theorem dX6_fits_85 : decode cX6_fits 85 = .ok (.getfield 68, 3) := by decide +kernel
theorem dX6_fits_88 : decode cX6_fits 88 = .ok (.iconst 4, 1) := by decide +kernel
theorem dX6_fits_89 : decode cX6_fits 89 = .ok (.iload_n 1, 1) := by decide +kernel
theorem dX6_fits_90 : decode cX6_fits 90 = .ok (.imul, 1) := by decide +kernel
theorem dX6_fits_91 : decode cX6_fits 91 = .ok (.iload 4, 2) := by decide +kernel
theorem dX6_fits_93 : decode cX6_fits 93 = .ok (.iadd, 1) := by decide +kernel
theorem dX6_fits_94 : decode cX6_fits 94 = .ok (.iaload, 1) := by decide +kernel
theorem dX6_fits_95 : decode cX6_fits 95 = .ok (.iload 6, 2) := by decide +kernel
theorem dX6_fits_97 : decode cX6_fits 97 = .ok (.if_icmp .ne 33, 3) := by decide +kernel
theorem dX6_fits_100 : decode cX6_fits 100 = .ok (.iload 5, 2) := by decide +kernel
theorem dX6_fits_102 : decode cX6_fits 102 = .ok (.iconst 1, 1) := by decide +kernel
theorem dX6_fits_103 : decode cX6_fits 103 = .ok (.if_icmp .ne 29, 3) := by decide +kernel
theorem dX6_fits_106 : decode cX6_fits 106 = .ok (.iload 7, 2) := by decide +kernel
theorem dX6_fits_108 : decode cX6_fits 108 = .ok (.iconst (-1), 1) := by decide +kernel
theorem dX6_fits_109 : decode cX6_fits 109 = .ok (.if_icmp .eq 21, 3) := by decide +kernel
theorem dX6_fits_112 : decode cX6_fits 112 = .ok (.iload 7, 2) := by decide +kernel
theorem dX6_fits_114 : decode cX6_fits 114 = .ok (.iconst 4, 1) := by decide +kernel
theorem dX6_fits_115 : decode cX6_fits 115 = .ok (.idiv, 1) := by decide +kernel
theorem dX6_fits_116 : decode cX6_fits 116 = .ok (.aload_n 0, 1) := by decide +kernel
theorem dX6_fits_117 : decode cX6_fits 117 = .ok (.getfield 68, 3) := by decide +kernel
theorem dX6_fits_120 : decode cX6_fits 120 = .ok (.iconst 4, 1) := by decide +kernel
theorem dX6_fits_121 : decode cX6_fits 121 = .ok (.iload_n 1, 1) := by decide +kernel
theorem dX6_fits_122 : decode cX6_fits 122 = .ok (.imul, 1) := by decide +kernel
theorem dX6_fits_123 : decode cX6_fits 123 = .ok (.iload 4, 2) := by decide +kernel
theorem dX6_fits_125 : decode cX6_fits 125 = .ok (.iadd, 1) := by decide +kernel
theorem dX6_fits_126 : decode cX6_fits 126 = .ok (.iaload, 1) := by decide +kernel
theorem dX6_fits_127 : decode cX6_fits 127 = .ok (.if_icmp .eq 5, 3) := by decide +kernel
theorem dX6_fits_130 : decode cX6_fits 130 = .ok (.iconst 0, 1) := by decide +kernel
theorem dX6_fits_131 : decode cX6_fits 131 = .ok (.ireturn, 1) := by decide +kernel
theorem dX6_fits_132 : decode cX6_fits 132 = .ok (.iinc 4 1, 3) := by decide +kernel
theorem dX6_fits_135 : decode cX6_fits 135 = .ok (.goto (-105), 3) := by decide +kernel
theorem dX6_fits_138 : decode cX6_fits 138 = .ok (.iconst 1, 1) := by decide +kernel
theorem dX6_fits_139 : decode cX6_fits 139 = .ok (.ireturn, 1) := by decide +kernel
theorem dX6_isLeast_0 : decode cX6_isLeast 0 = .ok (.aload_n 0, 1) := by decide +kernel
theorem dX6_isLeast_1 : decode cX6_isLeast 1 = .ok (.iload_n 1, 1) := by decide +kernel
theorem dX6_isLeast_2 : decode cX6_isLeast 2 = .ok (.iload_n 2, 1) := by decide +kernel
theorem dX6_isLeast_3 : decode cX6_isLeast 3 = .ok (.iload_n 3, 1) := by decide +kernel
theorem dX6_isLeast_4 : decode cX6_isLeast 4 = .ok (.invokevirtual 162, 3) := by decide +kernel
theorem dX6_isLeast_7 : decode cX6_isLeast 7 = .ok (.ifCond .eq 36, 3) := by decide +kernel
theorem dX6_isLeast_10 : decode cX6_isLeast 10 = .ok (.aload_n 0, 1) := by decide +kernel
theorem dX6_isLeast_11 : decode cX6_isLeast 11 = .ok (.getfield 56, 3) := by decide +kernel
theorem dX6_isLeast_14 : decode cX6_isLeast 14 = .ok (.iload_n 1, 1) := by decide +kernel
theorem dX6_isLeast_15 : decode cX6_isLeast 15 = .ok (.iaload, 1) := by decide +kernel
theorem dX6_isLeast_16 : decode cX6_isLeast 16 = .ok (.aload_n 0, 1) := by decide +kernel
theorem dX6_isLeast_17 : decode cX6_isLeast 17 = .ok (.getfield 87, 3) := by decide +kernel
theorem dX6_isLeast_20 : decode cX6_isLeast 20 = .ok (.iload_n 2, 1) := by decide +kernel
theorem dX6_isLeast_21 : decode cX6_isLeast 21 = .ok (.aload_n 0, 1) := by decide +kernel
theorem dX6_isLeast_22 : decode cX6_isLeast 22 = .ok (.getfield 62, 3) := by decide +kernel
theorem dX6_isLeast_25 : decode cX6_isLeast 25 = .ok (.iload_n 1, 1) := by decide +kernel
theorem dX6_isLeast_26 : decode cX6_isLeast 26 = .ok (.iaload, 1) := by decide +kernel
theorem dX6_isLeast_27 : decode cX6_isLeast 27 = .ok (.iadd, 1) := by decide +kernel
theorem dX6_isLeast_28 : decode cX6_isLeast 28 = .ok (.iaload, 1) := by decide +kernel
theorem dX6_isLeast_29 : decode cX6_isLeast 29 = .ok (.iadd, 1) := by decide +kernel
theorem dX6_isLeast_30 : decode cX6_isLeast 30 = .ok (.aload_n 0, 1) := by decide +kernel
theorem dX6_isLeast_31 : decode cX6_isLeast 31 = .ok (.getfield 87, 3) := by decide +kernel
theorem dX6_isLeast_34 : decode cX6_isLeast 34 = .ok (.iload_n 2, 1) := by decide +kernel
theorem dX6_isLeast_35 : decode cX6_isLeast 35 = .ok (.iaload, 1) := by decide +kernel
theorem dX6_isLeast_36 : decode cX6_isLeast 36 = .ok (.if_icmp .ne 7, 3) := by decide +kernel
theorem dX6_isLeast_39 : decode cX6_isLeast 39 = .ok (.iconst 1, 1) := by decide +kernel
theorem dX6_isLeast_40 : decode cX6_isLeast 40 = .ok (.goto 4, 3) := by decide +kernel
theorem dX6_isLeast_43 : decode cX6_isLeast 43 = .ok (.iconst 0, 1) := by decide +kernel
theorem dX6_isLeast_44 : decode cX6_isLeast 44 = .ok (.ireturn, 1) := by decide +kernel
theorem dX6_mayPass_0 : decode cX6_mayPass 0 = .ok (.aload_n 0, 1) := by decide +kernel
theorem dX6_mayPass_1 : decode cX6_mayPass 1 = .ok (.getfield 87, 3) := by decide +kernel
theorem dX6_mayPass_4 : decode cX6_mayPass 4 = .ok (.iload_n 1, 1) := by decide +kernel
theorem dX6_mayPass_5 : decode cX6_mayPass 5 = .ok (.iconst 1, 1) := by decide +kernel
theorem dX6_mayPass_6 : decode cX6_mayPass 6 = .ok (.iadd, 1) := by decide +kernel
theorem dX6_mayPass_7 : decode cX6_mayPass 7 = .ok (.iaload, 1) := by decide +kernel
theorem dX6_mayPass_8 : decode cX6_mayPass 8 = .ok (.bipush 6, 2) := by decide +kernel
theorem dX6_mayPass_10 : decode cX6_mayPass 10 = .ok (.iadd, 1) := by decide +kernel
theorem dX6_mayPass_11 : decode cX6_mayPass 11 = .ok (.aload_n 0, 1) := by decide +kernel
theorem dX6_mayPass_12 : decode cX6_mayPass 12 = .ok (.getfield 87, 3) := by decide +kernel
theorem dX6_mayPass_15 : decode cX6_mayPass 15 = .ok (.iload_n 1, 1) := by decide +kernel
theorem dX6_mayPass_16 : decode cX6_mayPass 16 = .ok (.iaload, 1) := by decide +kernel
theorem dX6_mayPass_17 : decode cX6_mayPass 17 = .ok (.if_icmp .ne 7, 3) := by decide +kernel
theorem dX6_mayPass_20 : decode cX6_mayPass 20 = .ok (.iconst 1, 1) := by decide +kernel
theorem dX6_mayPass_21 : decode cX6_mayPass 21 = .ok (.goto 4, 3) := by decide +kernel
theorem dX6_mayPass_24 : decode cX6_mayPass 24 = .ok (.iconst 0, 1) := by decide +kernel
theorem dX6_mayPass_25 : decode cX6_mayPass 25 = .ok (.ireturn, 1) := by decide +kernel
theorem dX6_work_0 : decode cX6_work 0 = .ok (.aload_n 0, 1) := by decide +kernel
theorem dX6_work_1 : decode cX6_work 1 = .ok (.getfield 87, 3) := by decide +kernel
theorem dX6_work_4 : decode cX6_work 4 = .ok (.aload_n 0, 1) := by decide +kernel
theorem dX6_work_5 : decode cX6_work 5 = .ok (.getfield 159, 3) := by decide +kernel
theorem dX6_work_8 : decode cX6_work 8 = .ok (.iconst 0, 1) := by decide +kernel
theorem dX6_work_9 : decode cX6_work 9 = .ok (.iastore, 1) := by decide +kernel
theorem dX6_work_10 : decode cX6_work 10 = .ok (.aload_n 0, 1) := by decide +kernel
theorem dX6_work_11 : decode cX6_work 11 = .ok (.getfield 90, 3) := by decide +kernel
theorem dX6_work_14 : decode cX6_work 14 = .ok (.aload_n 0, 1) := by decide +kernel
theorem dX6_work_15 : decode cX6_work 15 = .ok (.getfield 159, 3) := by decide +kernel
theorem dX6_work_18 : decode cX6_work 18 = .ok (.iconst 1, 1) := by decide +kernel
theorem dX6_work_19 : decode cX6_work 19 = .ok (.iastore, 1) := by decide +kernel
theorem dX6_work_20 : decode cX6_work 20 = .ok (.aload_n 0, 1) := by decide +kernel
theorem dX6_work_21 : decode cX6_work 21 = .ok (.getfield 93, 3) := by decide +kernel
theorem dX6_work_24 : decode cX6_work 24 = .ok (.aload_n 0, 1) := by decide +kernel
theorem dX6_work_25 : decode cX6_work 25 = .ok (.getfield 159, 3) := by decide +kernel
theorem dX6_work_28 : decode cX6_work 28 = .ok (.iconst 0, 1) := by decide +kernel
theorem dX6_work_29 : decode cX6_work 29 = .ok (.iastore, 1) := by decide +kernel
theorem dX6_work_30 : decode cX6_work 30 = .ok (.aload_n 0, 1) := by decide +kernel
theorem dX6_work_31 : decode cX6_work 31 = .ok (.getfield 96, 3) := by decide +kernel
theorem dX6_work_34 : decode cX6_work 34 = .ok (.aload_n 0, 1) := by decide +kernel
theorem dX6_work_35 : decode cX6_work 35 = .ok (.getfield 159, 3) := by decide +kernel
theorem dX6_work_38 : decode cX6_work 38 = .ok (.iconst 0, 1) := by decide +kernel
theorem dX6_work_39 : decode cX6_work 39 = .ok (.bastore, 1) := by decide +kernel
theorem dX6_work_40 : decode cX6_work 40 = .ok (.aload_n 0, 1) := by decide +kernel
theorem dX6_work_41 : decode cX6_work 41 = .ok (.getfield 159, 3) := by decide +kernel
theorem dX6_work_44 : decode cX6_work 44 = .ok (.iconst 1, 1) := by decide +kernel
theorem dX6_work_45 : decode cX6_work 45 = .ok (.isub, 1) := by decide +kernel
theorem dX6_work_46 : decode cX6_work 46 = .ok (.istore_n 2, 1) := by decide +kernel
theorem dX6_work_47 : decode cX6_work 47 = .ok (.iload_n 2, 1) := by decide +kernel
theorem dX6_work_48 : decode cX6_work 48 = .ok (.ifCond .lt 319, 3) := by decide +kernel
theorem dX6_work_51 : decode cX6_work 51 = .ok (.aload_n 0, 1) := by decide +kernel
theorem dX6_work_52 : decode cX6_work 52 = .ok (.getfield 87, 3) := by decide +kernel
theorem dX6_work_55 : decode cX6_work 55 = .ok (.iload_n 2, 1) := by decide +kernel
theorem dX6_work_56 : decode cX6_work 56 = .ok (.aload_n 0, 1) := by decide +kernel
theorem dX6_work_57 : decode cX6_work 57 = .ok (.getfield 87, 3) := by decide +kernel
theorem dX6_work_60 : decode cX6_work 60 = .ok (.iload_n 2, 1) := by decide +kernel
theorem dX6_work_61 : decode cX6_work 61 = .ok (.iconst 1, 1) := by decide +kernel
theorem dX6_work_62 : decode cX6_work 62 = .ok (.iadd, 1) := by decide +kernel
theorem dX6_work_63 : decode cX6_work 63 = .ok (.iaload, 1) := by decide +kernel
theorem dX6_work_64 : decode cX6_work 64 = .ok (.bipush 6, 2) := by decide +kernel
theorem dX6_work_66 : decode cX6_work 66 = .ok (.iadd, 1) := by decide +kernel
theorem dX6_work_67 : decode cX6_work 67 = .ok (.iastore, 1) := by decide +kernel
theorem dX6_work_68 : decode cX6_work 68 = .ok (.iconst 0, 1) := by decide +kernel
theorem dX6_work_69 : decode cX6_work 69 = .ok (.istore_n 3, 1) := by decide +kernel
theorem dX6_work_70 : decode cX6_work 70 = .ok (.iload_n 3, 1) := by decide +kernel
theorem dX6_work_71 : decode cX6_work 71 = .ok (.aload_n 0, 1) := by decide +kernel
theorem dX6_work_72 : decode cX6_work 72 = .ok (.getfield 146, 3) := by decide +kernel
theorem dX6_work_75 : decode cX6_work 75 = .ok (.if_icmp .ge 74, 3) := by decide +kernel
theorem dX6_work_78 : decode cX6_work 78 = .ok (.aload_n 0, 1) := by decide +kernel
theorem dX6_work_79 : decode cX6_work 79 = .ok (.iload_n 3, 1) := by decide +kernel
theorem dX6_work_80 : decode cX6_work 80 = .ok (.iload_n 2, 1) := by decide +kernel
theorem dX6_work_81 : decode cX6_work 81 = .ok (.iload_n 1, 1) := by decide +kernel
theorem dX6_work_82 : decode cX6_work 82 = .ok (.invokevirtual 162, 3) := by decide +kernel
theorem dX6_work_85 : decode cX6_work 85 = .ok (.ifCond .eq 58, 3) := by decide +kernel
theorem dX6_work_88 : decode cX6_work 88 = .ok (.aload_n 0, 1) := by decide +kernel
theorem dX6_work_89 : decode cX6_work 89 = .ok (.getfield 56, 3) := by decide +kernel
theorem dX6_work_92 : decode cX6_work 92 = .ok (.iload_n 3, 1) := by decide +kernel
theorem dX6_work_93 : decode cX6_work 93 = .ok (.iaload, 1) := by decide +kernel
theorem dX6_work_94 : decode cX6_work 94 = .ok (.aload_n 0, 1) := by decide +kernel
theorem dX6_work_95 : decode cX6_work 95 = .ok (.getfield 87, 3) := by decide +kernel
theorem dX6_work_98 : decode cX6_work 98 = .ok (.iload_n 2, 1) := by decide +kernel
theorem dX6_work_99 : decode cX6_work 99 = .ok (.aload_n 0, 1) := by decide +kernel
theorem dX6_work_100 : decode cX6_work 100 = .ok (.getfield 62, 3) := by decide +kernel
theorem dX6_work_103 : decode cX6_work 103 = .ok (.iload_n 3, 1) := by decide +kernel
theorem dX6_work_104 : decode cX6_work 104 = .ok (.iaload, 1) := by decide +kernel
theorem dX6_work_105 : decode cX6_work 105 = .ok (.iadd, 1) := by decide +kernel
theorem dX6_work_106 : decode cX6_work 106 = .ok (.iaload, 1) := by decide +kernel
theorem dX6_work_107 : decode cX6_work 107 = .ok (.iadd, 1) := by decide +kernel
theorem dX6_work_108 : decode cX6_work 108 = .ok (.aload_n 0, 1) := by decide +kernel
theorem dX6_work_109 : decode cX6_work 109 = .ok (.getfield 87, 3) := by decide +kernel
theorem dX6_work_112 : decode cX6_work 112 = .ok (.iload_n 2, 1) := by decide +kernel
theorem dX6_work_113 : decode cX6_work 113 = .ok (.iaload, 1) := by decide +kernel
theorem dX6_work_114 : decode cX6_work 114 = .ok (.if_icmp .ge 29, 3) := by decide +kernel
theorem dX6_work_117 : decode cX6_work 117 = .ok (.aload_n 0, 1) := by decide +kernel
theorem dX6_work_118 : decode cX6_work 118 = .ok (.getfield 87, 3) := by decide +kernel
theorem dX6_work_121 : decode cX6_work 121 = .ok (.iload_n 2, 1) := by decide +kernel
theorem dX6_work_122 : decode cX6_work 122 = .ok (.aload_n 0, 1) := by decide +kernel
theorem dX6_work_123 : decode cX6_work 123 = .ok (.getfield 56, 3) := by decide +kernel
theorem dX6_work_126 : decode cX6_work 126 = .ok (.iload_n 3, 1) := by decide +kernel
theorem dX6_work_127 : decode cX6_work 127 = .ok (.iaload, 1) := by decide +kernel
theorem dX6_work_128 : decode cX6_work 128 = .ok (.aload_n 0, 1) := by decide +kernel
theorem dX6_work_129 : decode cX6_work 129 = .ok (.getfield 87, 3) := by decide +kernel
theorem dX6_work_132 : decode cX6_work 132 = .ok (.iload_n 2, 1) := by decide +kernel
theorem dX6_work_133 : decode cX6_work 133 = .ok (.aload_n 0, 1) := by decide +kernel
theorem dX6_work_134 : decode cX6_work 134 = .ok (.getfield 62, 3) := by decide +kernel
theorem dX6_work_137 : decode cX6_work 137 = .ok (.iload_n 3, 1) := by decide +kernel
theorem dX6_work_138 : decode cX6_work 138 = .ok (.iaload, 1) := by decide +kernel
theorem dX6_work_139 : decode cX6_work 139 = .ok (.iadd, 1) := by decide +kernel
theorem dX6_work_140 : decode cX6_work 140 = .ok (.iaload, 1) := by decide +kernel
theorem dX6_work_141 : decode cX6_work 141 = .ok (.iadd, 1) := by decide +kernel
theorem dX6_work_142 : decode cX6_work 142 = .ok (.iastore, 1) := by decide +kernel
theorem dX6_work_143 : decode cX6_work 143 = .ok (.iinc 3 1, 3) := by decide +kernel
theorem dX6_work_146 : decode cX6_work 146 = .ok (.goto (-76), 3) := by decide +kernel
theorem dX6_work_149 : decode cX6_work 149 = .ok (.aload_n 0, 1) := by decide +kernel
theorem dX6_work_150 : decode cX6_work 150 = .ok (.getfield 90, 3) := by decide +kernel
theorem dX6_work_153 : decode cX6_work 153 = .ok (.iload_n 2, 1) := by decide +kernel
theorem dX6_work_154 : decode cX6_work 154 = .ok (.aload_n 0, 1) := by decide +kernel
theorem dX6_work_155 : decode cX6_work 155 = .ok (.iload_n 2, 1) := by decide +kernel
theorem dX6_work_156 : decode cX6_work 156 = .ok (.invokevirtual 165, 3) := by decide +kernel
theorem dX6_work_159 : decode cX6_work 159 = .ok (.ifCond .eq 14, 3) := by decide +kernel
theorem dX6_work_162 : decode cX6_work 162 = .ok (.aload_n 0, 1) := by decide +kernel
theorem dX6_work_163 : decode cX6_work 163 = .ok (.getfield 90, 3) := by decide +kernel
theorem dX6_work_166 : decode cX6_work 166 = .ok (.iload_n 2, 1) := by decide +kernel
theorem dX6_work_167 : decode cX6_work 167 = .ok (.iconst 1, 1) := by decide +kernel
theorem dX6_work_168 : decode cX6_work 168 = .ok (.iadd, 1) := by decide +kernel
theorem dX6_work_169 : decode cX6_work 169 = .ok (.iaload, 1) := by decide +kernel
theorem dX6_work_170 : decode cX6_work 170 = .ok (.goto 4, 3) := by decide +kernel
theorem dX6_work_173 : decode cX6_work 173 = .ok (.iconst 0, 1) := by decide +kernel
theorem dX6_work_174 : decode cX6_work 174 = .ok (.iastore, 1) := by decide +kernel
theorem dX6_work_175 : decode cX6_work 175 = .ok (.aload_n 0, 1) := by decide +kernel
theorem dX6_work_176 : decode cX6_work 176 = .ok (.getfield 93, 3) := by decide +kernel
theorem dX6_work_179 : decode cX6_work 179 = .ok (.iload_n 2, 1) := by decide +kernel
theorem dX6_work_180 : decode cX6_work 180 = .ok (.aload_n 0, 1) := by decide +kernel
theorem dX6_work_181 : decode cX6_work 181 = .ok (.iload_n 2, 1) := by decide +kernel
theorem dX6_work_182 : decode cX6_work 182 = .ok (.invokevirtual 165, 3) := by decide +kernel
theorem dX6_work_185 : decode cX6_work 185 = .ok (.ifCond .eq 16, 3) := by decide +kernel
theorem dX6_work_188 : decode cX6_work 188 = .ok (.aload_n 0, 1) := by decide +kernel
theorem dX6_work_189 : decode cX6_work 189 = .ok (.getfield 93, 3) := by decide +kernel
theorem dX6_work_192 : decode cX6_work 192 = .ok (.iload_n 2, 1) := by decide +kernel
theorem dX6_work_193 : decode cX6_work 193 = .ok (.iconst 1, 1) := by decide +kernel
theorem dX6_work_194 : decode cX6_work 194 = .ok (.iadd, 1) := by decide +kernel
theorem dX6_work_195 : decode cX6_work 195 = .ok (.iaload, 1) := by decide +kernel
theorem dX6_work_196 : decode cX6_work 196 = .ok (.iconst 1, 1) := by decide +kernel
theorem dX6_work_197 : decode cX6_work 197 = .ok (.iadd, 1) := by decide +kernel
theorem dX6_work_198 : decode cX6_work 198 = .ok (.goto 4, 3) := by decide +kernel
theorem dX6_work_201 : decode cX6_work 201 = .ok (.iconst 0, 1) := by decide +kernel
theorem dX6_work_202 : decode cX6_work 202 = .ok (.iastore, 1) := by decide +kernel
theorem dX6_work_203 : decode cX6_work 203 = .ok (.aload_n 0, 1) := by decide +kernel
theorem dX6_work_204 : decode cX6_work 204 = .ok (.getfield 96, 3) := by decide +kernel
theorem dX6_work_207 : decode cX6_work 207 = .ok (.iload_n 2, 1) := by decide +kernel
theorem dX6_work_208 : decode cX6_work 208 = .ok (.aload_n 0, 1) := by decide +kernel
theorem dX6_work_209 : decode cX6_work 209 = .ok (.iload_n 2, 1) := by decide +kernel
theorem dX6_work_210 : decode cX6_work 210 = .ok (.invokevirtual 165, 3) := by decide +kernel
theorem dX6_work_213 : decode cX6_work 213 = .ok (.ifCond .eq 18, 3) := by decide +kernel
theorem dX6_work_216 : decode cX6_work 216 = .ok (.aload_n 0, 1) := by decide +kernel
theorem dX6_work_217 : decode cX6_work 217 = .ok (.getfield 96, 3) := by decide +kernel
theorem dX6_work_220 : decode cX6_work 220 = .ok (.iload_n 2, 1) := by decide +kernel
theorem dX6_work_221 : decode cX6_work 221 = .ok (.iconst 1, 1) := by decide +kernel
theorem dX6_work_222 : decode cX6_work 222 = .ok (.iadd, 1) := by decide +kernel
theorem dX6_work_223 : decode cX6_work 223 = .ok (.baload, 1) := by decide +kernel
theorem dX6_work_224 : decode cX6_work 224 = .ok (.ifCond .eq 7, 3) := by decide +kernel
theorem dX6_work_227 : decode cX6_work 227 = .ok (.iconst 1, 1) := by decide +kernel
theorem dX6_work_228 : decode cX6_work 228 = .ok (.goto 4, 3) := by decide +kernel
theorem dX6_work_231 : decode cX6_work 231 = .ok (.iconst 0, 1) := by decide +kernel
theorem dX6_work_232 : decode cX6_work 232 = .ok (.bastore, 1) := by decide +kernel
theorem dX6_work_233 : decode cX6_work 233 = .ok (.iconst 0, 1) := by decide +kernel
theorem dX6_work_234 : decode cX6_work 234 = .ok (.istore_n 3, 1) := by decide +kernel
theorem dX6_work_235 : decode cX6_work 235 = .ok (.iload_n 3, 1) := by decide +kernel
theorem dX6_work_236 : decode cX6_work 236 = .ok (.aload_n 0, 1) := by decide +kernel
theorem dX6_work_237 : decode cX6_work 237 = .ok (.getfield 146, 3) := by decide +kernel
theorem dX6_work_240 : decode cX6_work 240 = .ok (.if_icmp .ge 121, 3) := by decide +kernel
theorem dX6_work_243 : decode cX6_work 243 = .ok (.aload_n 0, 1) := by decide +kernel
theorem dX6_work_244 : decode cX6_work 244 = .ok (.iload_n 3, 1) := by decide +kernel
theorem dX6_work_245 : decode cX6_work 245 = .ok (.iload_n 2, 1) := by decide +kernel
theorem dX6_work_246 : decode cX6_work 246 = .ok (.iload_n 1, 1) := by decide +kernel
theorem dX6_work_247 : decode cX6_work 247 = .ok (.invokevirtual 168, 3) := by decide +kernel
theorem dX6_work_250 : decode cX6_work 250 = .ok (.ifCond .ne 6, 3) := by decide +kernel
theorem dX6_work_253 : decode cX6_work 253 = .ok (.goto 102, 3) := by decide +kernel
theorem dX6_work_256 : decode cX6_work 256 = .ok (.iload_n 2, 1) := by decide +kernel
theorem dX6_work_257 : decode cX6_work 257 = .ok (.aload_n 0, 1) := by decide +kernel
theorem dX6_work_258 : decode cX6_work 258 = .ok (.getfield 62, 3) := by decide +kernel
theorem dX6_work_261 : decode cX6_work 261 = .ok (.iload_n 3, 1) := by decide +kernel
theorem dX6_work_262 : decode cX6_work 262 = .ok (.iaload, 1) := by decide +kernel
theorem dX6_work_263 : decode cX6_work 263 = .ok (.iadd, 1) := by decide +kernel
theorem dX6_work_264 : decode cX6_work 264 = .ok (.istore 4, 2) := by decide +kernel
theorem dX6_work_266 : decode cX6_work 266 = .ok (.aload_n 0, 1) := by decide +kernel
theorem dX6_work_267 : decode cX6_work 267 = .ok (.getfield 90, 3) := by decide +kernel
theorem dX6_work_270 : decode cX6_work 270 = .ok (.iload_n 2, 1) := by decide +kernel
theorem dX6_work_271 : decode cX6_work 271 = .ok (.dup2, 1) := by decide +kernel
theorem dX6_work_272 : decode cX6_work 272 = .ok (.iaload, 1) := by decide +kernel
theorem dX6_work_273 : decode cX6_work 273 = .ok (.aload_n 0, 1) := by decide +kernel
theorem dX6_work_274 : decode cX6_work 274 = .ok (.getfield 90, 3) := by decide +kernel
theorem dX6_work_277 : decode cX6_work 277 = .ok (.iload 4, 2) := by decide +kernel
theorem dX6_work_279 : decode cX6_work 279 = .ok (.iaload, 1) := by decide +kernel
theorem dX6_work_280 : decode cX6_work 280 = .ok (.iadd, 1) := by decide +kernel
theorem dX6_work_281 : decode cX6_work 281 = .ok (.iastore, 1) := by decide +kernel
theorem dX6_work_282 : decode cX6_work 282 = .ok (.aload_n 0, 1) := by decide +kernel
theorem dX6_work_283 : decode cX6_work 283 = .ok (.getfield 90, 3) := by decide +kernel
theorem dX6_work_286 : decode cX6_work 286 = .ok (.iload_n 2, 1) := by decide +kernel
theorem dX6_work_287 : decode cX6_work 287 = .ok (.aload_n 0, 1) := by decide +kernel
theorem dX6_work_288 : decode cX6_work 288 = .ok (.getfield 90, 3) := by decide +kernel
theorem dX6_work_291 : decode cX6_work 291 = .ok (.iload_n 2, 1) := by decide +kernel
theorem dX6_work_292 : decode cX6_work 292 = .ok (.iaload, 1) := by decide +kernel
theorem dX6_work_293 : decode cX6_work 293 = .ok (.ldc 171, 2) := by decide +kernel
theorem dX6_work_295 : decode cX6_work 295 = .ok (.if_icmp .le 8, 3) := by decide +kernel
theorem dX6_work_298 : decode cX6_work 298 = .ok (.ldc 171, 2) := by decide +kernel
theorem dX6_work_300 : decode cX6_work 300 = .ok (.goto 9, 3) := by decide +kernel
theorem dX6_work_303 : decode cX6_work 303 = .ok (.aload_n 0, 1) := by decide +kernel
theorem dX6_work_304 : decode cX6_work 304 = .ok (.getfield 90, 3) := by decide +kernel
theorem dX6_work_307 : decode cX6_work 307 = .ok (.iload_n 2, 1) := by decide +kernel
theorem dX6_work_308 : decode cX6_work 308 = .ok (.iaload, 1) := by decide +kernel
theorem dX6_work_309 : decode cX6_work 309 = .ok (.iastore, 1) := by decide +kernel
theorem dX6_work_310 : decode cX6_work 310 = .ok (.aload_n 0, 1) := by decide +kernel
theorem dX6_work_311 : decode cX6_work 311 = .ok (.getfield 93, 3) := by decide +kernel
theorem dX6_work_314 : decode cX6_work 314 = .ok (.iload_n 2, 1) := by decide +kernel
theorem dX6_work_315 : decode cX6_work 315 = .ok (.aload_n 0, 1) := by decide +kernel
theorem dX6_work_316 : decode cX6_work 316 = .ok (.getfield 93, 3) := by decide +kernel
theorem dX6_work_319 : decode cX6_work 319 = .ok (.iload 4, 2) := by decide +kernel
theorem dX6_work_321 : decode cX6_work 321 = .ok (.iaload, 1) := by decide +kernel
theorem dX6_work_322 : decode cX6_work 322 = .ok (.aload_n 0, 1) := by decide +kernel
theorem dX6_work_323 : decode cX6_work 323 = .ok (.getfield 93, 3) := by decide +kernel
theorem dX6_work_326 : decode cX6_work 326 = .ok (.iload_n 2, 1) := by decide +kernel
theorem dX6_work_327 : decode cX6_work 327 = .ok (.iaload, 1) := by decide +kernel
theorem dX6_work_328 : decode cX6_work 328 = .ok (.if_icmp .le 13, 3) := by decide +kernel
theorem dX6_work_331 : decode cX6_work 331 = .ok (.aload_n 0, 1) := by decide +kernel
theorem dX6_work_332 : decode cX6_work 332 = .ok (.getfield 93, 3) := by decide +kernel
theorem dX6_work_335 : decode cX6_work 335 = .ok (.iload 4, 2) := by decide +kernel
theorem dX6_work_337 : decode cX6_work 337 = .ok (.iaload, 1) := by decide +kernel
theorem dX6_work_338 : decode cX6_work 338 = .ok (.goto 9, 3) := by decide +kernel
theorem dX6_work_341 : decode cX6_work 341 = .ok (.aload_n 0, 1) := by decide +kernel
theorem dX6_work_342 : decode cX6_work 342 = .ok (.getfield 93, 3) := by decide +kernel
theorem dX6_work_345 : decode cX6_work 345 = .ok (.iload_n 2, 1) := by decide +kernel
theorem dX6_work_346 : decode cX6_work 346 = .ok (.iaload, 1) := by decide +kernel
theorem dX6_work_347 : decode cX6_work 347 = .ok (.iastore, 1) := by decide +kernel
theorem dX6_work_348 : decode cX6_work 348 = .ok (.aload_n 0, 1) := by decide +kernel
theorem dX6_work_349 : decode cX6_work 349 = .ok (.getfield 96, 3) := by decide +kernel
theorem dX6_work_352 : decode cX6_work 352 = .ok (.iload_n 2, 1) := by decide +kernel
theorem dX6_work_353 : decode cX6_work 353 = .ok (.iconst 1, 1) := by decide +kernel
theorem dX6_work_354 : decode cX6_work 354 = .ok (.bastore, 1) := by decide +kernel
theorem dX6_work_355 : decode cX6_work 355 = .ok (.iinc 3 1, 3) := by decide +kernel
theorem dX6_work_358 : decode cX6_work 358 = .ok (.goto (-123), 3) := by decide +kernel
theorem dX6_work_361 : decode cX6_work 361 = .ok (.iinc 2 (-1), 3) := by decide +kernel
theorem dX6_work_364 : decode cX6_work 364 = .ok (.goto (-317), 3) := by decide +kernel
theorem dX6_work_367 : decode cX6_work 367 = .ok (.return_, 1) := by decide +kernel
theorem dX6_filled_0 : decode cX6_filled 0 = .ok (.bipush 16, 2) := by decide +kernel
theorem dX6_filled_2 : decode cX6_filled 2 = .ok (.istore 6, 2) := by decide +kernel
theorem dX6_filled_4 : decode cX6_filled 4 = .ok (.iconst 0, 1) := by decide +kernel
theorem dX6_filled_5 : decode cX6_filled 5 = .ok (.istore 7, 2) := by decide +kernel
theorem dX6_filled_7 : decode cX6_filled 7 = .ok (.iload 7, 2) := by decide +kernel
theorem dX6_filled_9 : decode cX6_filled 9 = .ok (.aload_n 0, 1) := by decide +kernel
theorem dX6_filled_10 : decode cX6_filled 10 = .ok (.getfield 62, 3) := by decide +kernel
theorem dX6_filled_13 : decode cX6_filled 13 = .ok (.iload_n 1, 1) := by decide +kernel
theorem dX6_filled_14 : decode cX6_filled 14 = .ok (.iaload, 1) := by decide +kernel
theorem dX6_filled_15 : decode cX6_filled 15 = .ok (.if_icmp .ge 65, 3) := by decide +kernel
theorem dX6_filled_18 : decode cX6_filled 18 = .ok (.aload_n 0, 1) := by decide +kernel
theorem dX6_filled_19 : decode cX6_filled 19 = .ok (.getfield 65, 3) := by decide +kernel
theorem dX6_filled_22 : decode cX6_filled 22 = .ok (.iconst 4, 1) := by decide +kernel
theorem dX6_filled_23 : decode cX6_filled 23 = .ok (.iload_n 1, 1) := by decide +kernel
theorem dX6_filled_24 : decode cX6_filled 24 = .ok (.imul, 1) := by decide +kernel
theorem dX6_filled_25 : decode cX6_filled 25 = .ok (.iload 7, 2) := by decide +kernel
theorem dX6_filled_27 : decode cX6_filled 27 = .ok (.iadd, 1) := by decide +kernel
theorem dX6_filled_28 : decode cX6_filled 28 = .ok (.iaload, 1) := by decide +kernel
theorem dX6_filled_29 : decode cX6_filled 29 = .ok (.iconst 1, 1) := by decide +kernel
theorem dX6_filled_30 : decode cX6_filled 30 = .ok (.if_icmp .ne 44, 3) := by decide +kernel
theorem dX6_filled_33 : decode cX6_filled 33 = .ok (.aload_n 0, 1) := by decide +kernel
theorem dX6_filled_34 : decode cX6_filled 34 = .ok (.getfield 68, 3) := by decide +kernel
theorem dX6_filled_37 : decode cX6_filled 37 = .ok (.iconst 4, 1) := by decide +kernel
theorem dX6_filled_38 : decode cX6_filled 38 = .ok (.iload_n 1, 1) := by decide +kernel
theorem dX6_filled_39 : decode cX6_filled 39 = .ok (.imul, 1) := by decide +kernel
theorem dX6_filled_40 : decode cX6_filled 40 = .ok (.iload 7, 2) := by decide +kernel
theorem dX6_filled_42 : decode cX6_filled 42 = .ok (.iadd, 1) := by decide +kernel
theorem dX6_filled_43 : decode cX6_filled 43 = .ok (.iaload, 1) := by decide +kernel
theorem dX6_filled_44 : decode cX6_filled 44 = .ok (.iload 4, 2) := by decide +kernel
theorem dX6_filled_46 : decode cX6_filled 46 = .ok (.if_icmp .ne 28, 3) := by decide +kernel
theorem dX6_filled_49 : decode cX6_filled 49 = .ok (.iconst 1, 1) := by decide +kernel
theorem dX6_filled_50 : decode cX6_filled 50 = .ok (.aload_n 0, 1) := by decide +kernel
theorem dX6_filled_51 : decode cX6_filled 51 = .ok (.getfield 50, 3) := by decide +kernel
theorem dX6_filled_54 : decode cX6_filled 54 = .ok (.bipush 64, 2) := by decide +kernel
theorem dX6_filled_56 : decode cX6_filled 56 = .ok (.iload_n 3, 1) := by decide +kernel
theorem dX6_filled_57 : decode cX6_filled 57 = .ok (.imul, 1) := by decide +kernel
theorem dX6_filled_58 : decode cX6_filled 58 = .ok (.aload_n 0, 1) := by decide +kernel
theorem dX6_filled_59 : decode cX6_filled 59 = .ok (.getfield 84, 3) := by decide +kernel
theorem dX6_filled_62 : decode cX6_filled 62 = .ok (.iload_n 2, 1) := by decide +kernel
theorem dX6_filled_63 : decode cX6_filled 63 = .ok (.iload 7, 2) := by decide +kernel
theorem dX6_filled_65 : decode cX6_filled 65 = .ok (.iadd, 1) := by decide +kernel
theorem dX6_filled_66 : decode cX6_filled 66 = .ok (.iaload, 1) := by decide +kernel
theorem dX6_filled_67 : decode cX6_filled 67 = .ok (.iadd, 1) := by decide +kernel
theorem dX6_filled_68 : decode cX6_filled 68 = .ok (.iaload, 1) := by decide +kernel
theorem dX6_filled_69 : decode cX6_filled 69 = .ok (.iconst 4, 1) := by decide +kernel
theorem dX6_filled_70 : decode cX6_filled 70 = .ok (.irem, 1) := by decide +kernel
theorem dX6_filled_71 : decode cX6_filled 71 = .ok (.ishl, 1) := by decide +kernel
theorem dX6_filled_72 : decode cX6_filled 72 = .ok (.istore 6, 2) := by decide +kernel
theorem dX6_filled_74 : decode cX6_filled 74 = .ok (.iinc 7 1, 3) := by decide +kernel
theorem dX6_filled_77 : decode cX6_filled 77 = .ok (.goto (-70), 3) := by decide +kernel
theorem dX6_filled_80 : decode cX6_filled 80 = .ok (.iload 5, 2) := by decide +kernel
theorem dX6_filled_82 : decode cX6_filled 82 = .ok (.bipush 16, 2) := by decide +kernel
theorem dX6_filled_84 : decode cX6_filled 84 = .ok (.iand, 1) := by decide +kernel
theorem dX6_filled_85 : decode cX6_filled 85 = .ok (.ifCond .ne 8, 3) := by decide +kernel
theorem dX6_filled_88 : decode cX6_filled 88 = .ok (.iload 5, 2) := by decide +kernel
theorem dX6_filled_90 : decode cX6_filled 90 = .ok (.goto 11, 3) := by decide +kernel
theorem dX6_filled_93 : decode cX6_filled 93 = .ok (.iload 5, 2) := by decide +kernel
theorem dX6_filled_95 : decode cX6_filled 95 = .ok (.bipush (-17), 2) := by decide +kernel
theorem dX6_filled_97 : decode cX6_filled 97 = .ok (.iand, 1) := by decide +kernel
theorem dX6_filled_98 : decode cX6_filled 98 = .ok (.iload 6, 2) := by decide +kernel
theorem dX6_filled_100 : decode cX6_filled 100 = .ok (.ior, 1) := by decide +kernel
theorem dX6_filled_101 : decode cX6_filled 101 = .ok (.ireturn, 1) := by decide +kernel
theorem dX6_outcomes_0 : decode cX6_outcomes 0 = .ok (.aload_n 0, 1) := by decide +kernel
theorem dX6_outcomes_1 : decode cX6_outcomes 1 = .ok (.getfield 99, 3) := by decide +kernel
theorem dX6_outcomes_4 : decode cX6_outcomes 4 = .ok (.aload_n 0, 1) := by decide +kernel
theorem dX6_outcomes_5 : decode cX6_outcomes 5 = .ok (.getfield 159, 3) := by decide +kernel
theorem dX6_outcomes_8 : decode cX6_outcomes 8 = .ok (.bipush 16, 2) := by decide +kernel
theorem dX6_outcomes_10 : decode cX6_outcomes 10 = .ok (.iastore, 1) := by decide +kernel
theorem dX6_outcomes_11 : decode cX6_outcomes 11 = .ok (.aload_n 0, 1) := by decide +kernel
theorem dX6_outcomes_12 : decode cX6_outcomes 12 = .ok (.getfield 159, 3) := by decide +kernel
theorem dX6_outcomes_15 : decode cX6_outcomes 15 = .ok (.iconst 1, 1) := by decide +kernel
theorem dX6_outcomes_16 : decode cX6_outcomes 16 = .ok (.isub, 1) := by decide +kernel
theorem dX6_outcomes_17 : decode cX6_outcomes 17 = .ok (.istore_n 3, 1) := by decide +kernel
theorem dX6_outcomes_18 : decode cX6_outcomes 18 = .ok (.iload_n 3, 1) := by decide +kernel
theorem dX6_outcomes_19 : decode cX6_outcomes 19 = .ok (.ifCond .lt 96, 3) := by decide +kernel
theorem dX6_outcomes_22 : decode cX6_outcomes 22 = .ok (.aload_n 0, 1) := by decide +kernel
theorem dX6_outcomes_23 : decode cX6_outcomes 23 = .ok (.getfield 99, 3) := by decide +kernel
theorem dX6_outcomes_26 : decode cX6_outcomes 26 = .ok (.iload_n 3, 1) := by decide +kernel
theorem dX6_outcomes_27 : decode cX6_outcomes 27 = .ok (.aload_n 0, 1) := by decide +kernel
theorem dX6_outcomes_28 : decode cX6_outcomes 28 = .ok (.iload_n 3, 1) := by decide +kernel
theorem dX6_outcomes_29 : decode cX6_outcomes 29 = .ok (.invokevirtual 165, 3) := by decide +kernel
theorem dX6_outcomes_32 : decode cX6_outcomes 32 = .ok (.ifCond .eq 14, 3) := by decide +kernel
theorem dX6_outcomes_35 : decode cX6_outcomes 35 = .ok (.aload_n 0, 1) := by decide +kernel
theorem dX6_outcomes_36 : decode cX6_outcomes 36 = .ok (.getfield 99, 3) := by decide +kernel
theorem dX6_outcomes_39 : decode cX6_outcomes 39 = .ok (.iload_n 3, 1) := by decide +kernel
theorem dX6_outcomes_40 : decode cX6_outcomes 40 = .ok (.iconst 1, 1) := by decide +kernel
theorem dX6_outcomes_41 : decode cX6_outcomes 41 = .ok (.iadd, 1) := by decide +kernel
theorem dX6_outcomes_42 : decode cX6_outcomes 42 = .ok (.iaload, 1) := by decide +kernel
theorem dX6_outcomes_43 : decode cX6_outcomes 43 = .ok (.goto 4, 3) := by decide +kernel
theorem dX6_outcomes_46 : decode cX6_outcomes 46 = .ok (.iconst 0, 1) := by decide +kernel
theorem dX6_outcomes_47 : decode cX6_outcomes 47 = .ok (.iastore, 1) := by decide +kernel
theorem dX6_outcomes_48 : decode cX6_outcomes 48 = .ok (.iconst 0, 1) := by decide +kernel
theorem dX6_outcomes_49 : decode cX6_outcomes 49 = .ok (.istore 4, 2) := by decide +kernel
theorem dX6_outcomes_51 : decode cX6_outcomes 51 = .ok (.iload 4, 2) := by decide +kernel
theorem dX6_outcomes_53 : decode cX6_outcomes 53 = .ok (.aload_n 0, 1) := by decide +kernel
theorem dX6_outcomes_54 : decode cX6_outcomes 54 = .ok (.getfield 146, 3) := by decide +kernel
theorem dX6_outcomes_57 : decode cX6_outcomes 57 = .ok (.if_icmp .ge 52, 3) := by decide +kernel
theorem dX6_outcomes_60 : decode cX6_outcomes 60 = .ok (.aload_n 0, 1) := by decide +kernel
theorem dX6_outcomes_61 : decode cX6_outcomes 61 = .ok (.iload 4, 2) := by decide +kernel
theorem dX6_outcomes_63 : decode cX6_outcomes 63 = .ok (.iload_n 3, 1) := by decide +kernel
theorem dX6_outcomes_64 : decode cX6_outcomes 64 = .ok (.iload_n 1, 1) := by decide +kernel
theorem dX6_outcomes_65 : decode cX6_outcomes 65 = .ok (.invokevirtual 168, 3) := by decide +kernel
theorem dX6_outcomes_68 : decode cX6_outcomes 68 = .ok (.ifCond .eq 35, 3) := by decide +kernel
theorem dX6_outcomes_71 : decode cX6_outcomes 71 = .ok (.aload_n 0, 1) := by decide +kernel
theorem dX6_outcomes_72 : decode cX6_outcomes 72 = .ok (.getfield 99, 3) := by decide +kernel
theorem dX6_outcomes_75 : decode cX6_outcomes 75 = .ok (.iload_n 3, 1) := by decide +kernel
theorem dX6_outcomes_76 : decode cX6_outcomes 76 = .ok (.dup2, 1) := by decide +kernel
theorem dX6_outcomes_77 : decode cX6_outcomes 77 = .ok (.iaload, 1) := by decide +kernel
theorem dX6_outcomes_78 : decode cX6_outcomes 78 = .ok (.aload_n 0, 1) := by decide +kernel
theorem dX6_outcomes_79 : decode cX6_outcomes 79 = .ok (.iload 4, 2) := by decide +kernel
theorem dX6_outcomes_81 : decode cX6_outcomes 81 = .ok (.iload_n 3, 1) := by decide +kernel
theorem dX6_outcomes_82 : decode cX6_outcomes 82 = .ok (.iload_n 1, 1) := by decide +kernel
theorem dX6_outcomes_83 : decode cX6_outcomes 83 = .ok (.iload_n 2, 1) := by decide +kernel
theorem dX6_outcomes_84 : decode cX6_outcomes 84 = .ok (.aload_n 0, 1) := by decide +kernel
theorem dX6_outcomes_85 : decode cX6_outcomes 85 = .ok (.getfield 99, 3) := by decide +kernel
theorem dX6_outcomes_88 : decode cX6_outcomes 88 = .ok (.iload_n 3, 1) := by decide +kernel
theorem dX6_outcomes_89 : decode cX6_outcomes 89 = .ok (.aload_n 0, 1) := by decide +kernel
theorem dX6_outcomes_90 : decode cX6_outcomes 90 = .ok (.getfield 62, 3) := by decide +kernel
theorem dX6_outcomes_93 : decode cX6_outcomes 93 = .ok (.iload 4, 2) := by decide +kernel
theorem dX6_outcomes_95 : decode cX6_outcomes 95 = .ok (.iaload, 1) := by decide +kernel
theorem dX6_outcomes_96 : decode cX6_outcomes 96 = .ok (.iadd, 1) := by decide +kernel
theorem dX6_outcomes_97 : decode cX6_outcomes 97 = .ok (.iaload, 1) := by decide +kernel
theorem dX6_outcomes_98 : decode cX6_outcomes 98 = .ok (.invokevirtual 172, 3) := by decide +kernel
theorem dX6_outcomes_101 : decode cX6_outcomes 101 = .ok (.ior, 1) := by decide +kernel
theorem dX6_outcomes_102 : decode cX6_outcomes 102 = .ok (.iastore, 1) := by decide +kernel
theorem dX6_outcomes_103 : decode cX6_outcomes 103 = .ok (.iinc 4 1, 3) := by decide +kernel
theorem dX6_outcomes_106 : decode cX6_outcomes 106 = .ok (.goto (-55), 3) := by decide +kernel
theorem dX6_outcomes_109 : decode cX6_outcomes 109 = .ok (.iinc 3 (-1), 3) := by decide +kernel
theorem dX6_outcomes_112 : decode cX6_outcomes 112 = .ok (.goto (-94), 3) := by decide +kernel
theorem dX6_outcomes_115 : decode cX6_outcomes 115 = .ok (.aload_n 0, 1) := by decide +kernel
theorem dX6_outcomes_116 : decode cX6_outcomes 116 = .ok (.getfield 99, 3) := by decide +kernel
theorem dX6_outcomes_119 : decode cX6_outcomes 119 = .ok (.iconst 0, 1) := by decide +kernel
theorem dX6_outcomes_120 : decode cX6_outcomes 120 = .ok (.iaload, 1) := by decide +kernel
theorem dX6_outcomes_121 : decode cX6_outcomes 121 = .ok (.ireturn, 1) := by decide +kernel
theorem dX6_isOne_0 : decode cX6_isOne 0 = .ok (.iload_n 0, 1) := by decide +kernel
theorem dX6_isOne_1 : decode cX6_isOne 1 = .ok (.ifCond .eq 15, 3) := by decide +kernel
theorem dX6_isOne_4 : decode cX6_isOne 4 = .ok (.iload_n 0, 1) := by decide +kernel
theorem dX6_isOne_5 : decode cX6_isOne 5 = .ok (.iload_n 0, 1) := by decide +kernel
theorem dX6_isOne_6 : decode cX6_isOne 6 = .ok (.iconst 1, 1) := by decide +kernel
theorem dX6_isOne_7 : decode cX6_isOne 7 = .ok (.isub, 1) := by decide +kernel
theorem dX6_isOne_8 : decode cX6_isOne 8 = .ok (.iand, 1) := by decide +kernel
theorem dX6_isOne_9 : decode cX6_isOne 9 = .ok (.ifCond .ne 7, 3) := by decide +kernel
theorem dX6_isOne_12 : decode cX6_isOne 12 = .ok (.iconst 1, 1) := by decide +kernel
theorem dX6_isOne_13 : decode cX6_isOne 13 = .ok (.goto 4, 3) := by decide +kernel
theorem dX6_isOne_16 : decode cX6_isOne 16 = .ok (.iconst 0, 1) := by decide +kernel
theorem dX6_isOne_17 : decode cX6_isOne 17 = .ok (.ireturn, 1) := by decide +kernel
theorem dX6_fills_0 : decode cX6_fills 0 = .ok (.iconst 0, 1) := by decide +kernel
theorem dX6_fills_1 : decode cX6_fills 1 = .ok (.istore_n 2, 1) := by decide +kernel
theorem dX6_fills_2 : decode cX6_fills 2 = .ok (.iload_n 2, 1) := by decide +kernel
theorem dX6_fills_3 : decode cX6_fills 3 = .ok (.aload_n 0, 1) := by decide +kernel
theorem dX6_fills_4 : decode cX6_fills 4 = .ok (.getfield 7, 3) := by decide +kernel
theorem dX6_fills_7 : decode cX6_fills 7 = .ok (.iload_n 1, 1) := by decide +kernel
theorem dX6_fills_8 : decode cX6_fills 8 = .ok (.iaload, 1) := by decide +kernel
theorem dX6_fills_9 : decode cX6_fills 9 = .ok (.if_icmp .ge 139, 3) := by decide +kernel
theorem dX6_fills_12 : decode cX6_fills 12 = .ok (.iconst 5, 1) := by decide +kernel
theorem dX6_fills_13 : decode cX6_fills 13 = .ok (.iload_n 1, 1) := by decide +kernel
theorem dX6_fills_14 : decode cX6_fills 14 = .ok (.imul, 1) := by decide +kernel
theorem dX6_fills_15 : decode cX6_fills 15 = .ok (.iload_n 2, 1) := by decide +kernel
theorem dX6_fills_16 : decode cX6_fills 16 = .ok (.iadd, 1) := by decide +kernel
theorem dX6_fills_17 : decode cX6_fills 17 = .ok (.istore_n 3, 1) := by decide +kernel
theorem dX6_fills_18 : decode cX6_fills 18 = .ok (.aload_n 0, 1) := by decide +kernel
theorem dX6_fills_19 : decode cX6_fills 19 = .ok (.getfield 13, 3) := by decide +kernel
theorem dX6_fills_22 : decode cX6_fills 22 = .ok (.iload_n 3, 1) := by decide +kernel
theorem dX6_fills_23 : decode cX6_fills 23 = .ok (.iaload, 1) := by decide +kernel
theorem dX6_fills_24 : decode cX6_fills 24 = .ok (.iconst 1, 1) := by decide +kernel
theorem dX6_fills_25 : decode cX6_fills 25 = .ok (.if_icmp .ne 8, 3) := by decide +kernel
theorem dX6_fills_28 : decode cX6_fills 28 = .ok (.bipush 16, 2) := by decide +kernel
theorem dX6_fills_30 : decode cX6_fills 30 = .ok (.goto 9, 3) := by decide +kernel
theorem dX6_fills_33 : decode cX6_fills 33 = .ok (.aload_n 0, 1) := by decide +kernel
theorem dX6_fills_34 : decode cX6_fills 34 = .ok (.iload_n 1, 1) := by decide +kernel
theorem dX6_fills_35 : decode cX6_fills 35 = .ok (.iload_n 2, 1) := by decide +kernel
theorem dX6_fills_36 : decode cX6_fills 36 = .ok (.invokevirtual 176, 3) := by decide +kernel
theorem dX6_fills_39 : decode cX6_fills 39 = .ok (.istore 4, 2) := by decide +kernel
theorem dX6_fills_41 : decode cX6_fills 41 = .ok (.iload 4, 2) := by decide +kernel
theorem dX6_fills_43 : decode cX6_fills 43 = .ok (.bipush 15, 2) := by decide +kernel
theorem dX6_fills_45 : decode cX6_fills 45 = .ok (.iand, 1) := by decide +kernel
theorem dX6_fills_46 : decode cX6_fills 46 = .ok (.istore 5, 2) := by decide +kernel
theorem dX6_fills_48 : decode cX6_fills 48 = .ok (.iload 5, 2) := by decide +kernel
theorem dX6_fills_50 : decode cX6_fills 50 = .ok (.ifCond .ne 6, 3) := by decide +kernel
theorem dX6_fills_53 : decode cX6_fills 53 = .ok (.goto 89, 3) := by decide +kernel
theorem dX6_fills_56 : decode cX6_fills 56 = .ok (.aload_n 0, 1) := by decide +kernel
theorem dX6_fills_57 : decode cX6_fills 57 = .ok (.getfield 25, 3) := by decide +kernel
theorem dX6_fills_60 : decode cX6_fills 60 = .ok (.iload_n 3, 1) := by decide +kernel
theorem dX6_fills_61 : decode cX6_fills 61 = .ok (.iaload, 1) := by decide +kernel
theorem dX6_fills_62 : decode cX6_fills 62 = .ok (.istore 6, 2) := by decide +kernel
theorem dX6_fills_64 : decode cX6_fills 64 = .ok (.aload_n 0, 1) := by decide +kernel
theorem dX6_fills_65 : decode cX6_fills 65 = .ok (.getfield 28, 3) := by decide +kernel
theorem dX6_fills_68 : decode cX6_fills 68 = .ok (.iload_n 3, 1) := by decide +kernel
theorem dX6_fills_69 : decode cX6_fills 69 = .ok (.baload, 1) := by decide +kernel
theorem dX6_fills_70 : decode cX6_fills 70 = .ok (.istore 7, 2) := by decide +kernel
theorem dX6_fills_72 : decode cX6_fills 72 = .ok (.aload_n 0, 1) := by decide +kernel
theorem dX6_fills_73 : decode cX6_fills 73 = .ok (.getfield 28, 3) := by decide +kernel
theorem dX6_fills_76 : decode cX6_fills 76 = .ok (.iload_n 3, 1) := by decide +kernel
theorem dX6_fills_77 : decode cX6_fills 77 = .ok (.iload 5, 2) := by decide +kernel
theorem dX6_fills_79 : decode cX6_fills 79 = .ok (.invokestatic 180, 3) := by decide +kernel
theorem dX6_fills_82 : decode cX6_fills 82 = .ok (.ifCond .eq 15, 3) := by decide +kernel
theorem dX6_fills_85 : decode cX6_fills 85 = .ok (.iload 4, 2) := by decide +kernel
theorem dX6_fills_87 : decode cX6_fills 87 = .ok (.bipush 16, 2) := by decide +kernel
theorem dX6_fills_89 : decode cX6_fills 89 = .ok (.iand, 1) := by decide +kernel
theorem dX6_fills_90 : decode cX6_fills 90 = .ok (.ifCond .ne 7, 3) := by decide +kernel
theorem dX6_fills_93 : decode cX6_fills 93 = .ok (.iconst 1, 1) := by decide +kernel
theorem dX6_fills_94 : decode cX6_fills 94 = .ok (.goto 4, 3) := by decide +kernel
theorem dX6_fills_97 : decode cX6_fills 97 = .ok (.iconst 0, 1) := by decide +kernel
theorem dX6_fills_98 : decode cX6_fills 98 = .ok (.bastore, 1) := by decide +kernel
theorem dX6_fills_99 : decode cX6_fills 99 = .ok (.aload_n 0, 1) := by decide +kernel
theorem dX6_fills_100 : decode cX6_fills 100 = .ok (.getfield 25, 3) := by decide +kernel
theorem dX6_fills_103 : decode cX6_fills 103 = .ok (.iload_n 3, 1) := by decide +kernel
theorem dX6_fills_104 : decode cX6_fills 104 = .ok (.aload_n 0, 1) := by decide +kernel
theorem dX6_fills_105 : decode cX6_fills 105 = .ok (.getfield 28, 3) := by decide +kernel
theorem dX6_fills_108 : decode cX6_fills 108 = .ok (.iload_n 3, 1) := by decide +kernel
theorem dX6_fills_109 : decode cX6_fills 109 = .ok (.baload, 1) := by decide +kernel
theorem dX6_fills_110 : decode cX6_fills 110 = .ok (.ifCond .ne 11, 3) := by decide +kernel
theorem dX6_fills_113 : decode cX6_fills 113 = .ok (.iload 4, 2) := by decide +kernel
theorem dX6_fills_115 : decode cX6_fills 115 = .ok (.bipush 16, 2) := by decide +kernel
theorem dX6_fills_117 : decode cX6_fills 117 = .ok (.iand, 1) := by decide +kernel
theorem dX6_fills_118 : decode cX6_fills 118 = .ok (.ifCond .ne 8, 3) := by decide +kernel
theorem dX6_fills_121 : decode cX6_fills 121 = .ok (.iload 5, 2) := by decide +kernel
theorem dX6_fills_123 : decode cX6_fills 123 = .ok (.goto 8, 3) := by decide +kernel
theorem dX6_fills_126 : decode cX6_fills 126 = .ok (.iload 5, 2) := by decide +kernel
theorem dX6_fills_128 : decode cX6_fills 128 = .ok (.iload 6, 2) := by decide +kernel
theorem dX6_fills_130 : decode cX6_fills 130 = .ok (.ior, 1) := by decide +kernel
theorem dX6_fills_131 : decode cX6_fills 131 = .ok (.iastore, 1) := by decide +kernel
theorem dX6_fills_132 : decode cX6_fills 132 = .ok (.aload_n 0, 1) := by decide +kernel
theorem dX6_fills_133 : decode cX6_fills 133 = .ok (.iload_n 1, 1) := by decide +kernel
theorem dX6_fills_134 : decode cX6_fills 134 = .ok (.iload_n 3, 1) := by decide +kernel
theorem dX6_fills_135 : decode cX6_fills 135 = .ok (.iload 6, 2) := by decide +kernel
theorem dX6_fills_137 : decode cX6_fills 137 = .ok (.iload 7, 2) := by decide +kernel
theorem dX6_fills_139 : decode cX6_fills 139 = .ok (.invokevirtual 183, 3) := by decide +kernel
theorem dX6_fills_142 : decode cX6_fills 142 = .ok (.iinc 2 1, 3) := by decide +kernel
theorem dX6_fills_145 : decode cX6_fills 145 = .ok (.goto (-143), 3) := by decide +kernel
theorem dX6_fills_148 : decode cX6_fills 148 = .ok (.return_, 1) := by decide +kernel
theorem dX6_reverts_0 : decode cX6_reverts 0 = .ok (.aload_n 0, 1) := by decide +kernel
theorem dX6_reverts_1 : decode cX6_reverts 1 = .ok (.iload_n 1, 1) := by decide +kernel
theorem dX6_reverts_2 : decode cX6_reverts 2 = .ok (.invokevirtual 187, 3) := by decide +kernel
theorem dX6_reverts_5 : decode cX6_reverts 5 = .ok (.istore 5, 2) := by decide +kernel
theorem dX6_reverts_7 : decode cX6_reverts 7 = .ok (.iload 5, 2) := by decide +kernel
theorem dX6_reverts_9 : decode cX6_reverts 9 = .ok (.iconst (-1), 1) := by decide +kernel
theorem dX6_reverts_10 : decode cX6_reverts 10 = .ok (.if_icmp .ne 4, 3) := by decide +kernel
theorem dX6_reverts_13 : decode cX6_reverts 13 = .ok (.return_, 1) := by decide +kernel
theorem dX6_reverts_14 : decode cX6_reverts 14 = .ok (.aload_n 0, 1) := by decide +kernel
theorem dX6_reverts_15 : decode cX6_reverts 15 = .ok (.aload_n 0, 1) := by decide +kernel
theorem dX6_reverts_16 : decode cX6_reverts 16 = .ok (.getfield 102, 3) := by decide +kernel
theorem dX6_reverts_19 : decode cX6_reverts 19 = .ok (.iconst (-1), 1) := by decide +kernel
theorem dX6_reverts_20 : decode cX6_reverts 20 = .ok (.if_icmp .ne 8, 3) := by decide +kernel
theorem dX6_reverts_23 : decode cX6_reverts 23 = .ok (.iload 5, 2) := by decide +kernel
theorem dX6_reverts_25 : decode cX6_reverts 25 = .ok (.goto 7, 3) := by decide +kernel
theorem dX6_reverts_28 : decode cX6_reverts 28 = .ok (.aload_n 0, 1) := by decide +kernel
theorem dX6_reverts_29 : decode cX6_reverts 29 = .ok (.getfield 102, 3) := by decide +kernel
theorem dX6_reverts_32 : decode cX6_reverts 32 = .ok (.putfield 102, 3) := by decide +kernel
theorem dX6_reverts_35 : decode cX6_reverts 35 = .ok (.aload_n 0, 1) := by decide +kernel
theorem dX6_reverts_36 : decode cX6_reverts 36 = .ok (.getfield 25, 3) := by decide +kernel
theorem dX6_reverts_39 : decode cX6_reverts 39 = .ok (.iload_n 2, 1) := by decide +kernel
theorem dX6_reverts_40 : decode cX6_reverts 40 = .ok (.iload_n 3, 1) := by decide +kernel
theorem dX6_reverts_41 : decode cX6_reverts 41 = .ok (.iastore, 1) := by decide +kernel
theorem dX6_reverts_42 : decode cX6_reverts 42 = .ok (.aload_n 0, 1) := by decide +kernel
theorem dX6_reverts_43 : decode cX6_reverts 43 = .ok (.getfield 28, 3) := by decide +kernel
theorem dX6_reverts_46 : decode cX6_reverts 46 = .ok (.iload_n 2, 1) := by decide +kernel
theorem dX6_reverts_47 : decode cX6_reverts 47 = .ok (.iload 4, 2) := by decide +kernel
theorem dX6_reverts_49 : decode cX6_reverts 49 = .ok (.bastore, 1) := by decide +kernel
theorem dX6_reverts_50 : decode cX6_reverts 50 = .ok (.return_, 1) := by decide +kernel
theorem dX6_isAll_0 : decode cX6_isAll 0 = .ok (.iconst 0, 1) := by decide +kernel
theorem dX6_isAll_1 : decode cX6_isAll 1 = .ok (.istore_n 3, 1) := by decide +kernel
theorem dX6_isAll_2 : decode cX6_isAll 2 = .ok (.iconst 0, 1) := by decide +kernel
theorem dX6_isAll_3 : decode cX6_isAll 3 = .ok (.istore 4, 2) := by decide +kernel
theorem dX6_isAll_5 : decode cX6_isAll 5 = .ok (.iload 4, 2) := by decide +kernel
theorem dX6_isAll_7 : decode cX6_isAll 7 = .ok (.aload_n 0, 1) := by decide +kernel
theorem dX6_isAll_8 : decode cX6_isAll 8 = .ok (.getfield 146, 3) := by decide +kernel
theorem dX6_isAll_11 : decode cX6_isAll 11 = .ok (.if_icmp .ge 53, 3) := by decide +kernel
theorem dX6_isAll_14 : decode cX6_isAll 14 = .ok (.iload_n 3, 1) := by decide +kernel
theorem dX6_isAll_15 : decode cX6_isAll 15 = .ok (.aload_n 0, 1) := by decide +kernel
theorem dX6_isAll_16 : decode cX6_isAll 16 = .ok (.getfield 62, 3) := by decide +kernel
theorem dX6_isAll_19 : decode cX6_isAll 19 = .ok (.iload 4, 2) := by decide +kernel
theorem dX6_isAll_21 : decode cX6_isAll 21 = .ok (.iaload, 1) := by decide +kernel
theorem dX6_isAll_22 : decode cX6_isAll 22 = .ok (.aload_n 0, 1) := by decide +kernel
theorem dX6_isAll_23 : decode cX6_isAll 23 = .ok (.getfield 159, 3) := by decide +kernel
theorem dX6_isAll_26 : decode cX6_isAll 26 = .ok (.if_icmp .ne 29, 3) := by decide +kernel
theorem dX6_isAll_29 : decode cX6_isAll 29 = .ok (.aload_n 0, 1) := by decide +kernel
theorem dX6_isAll_30 : decode cX6_isAll 30 = .ok (.iload 4, 2) := by decide +kernel
theorem dX6_isAll_32 : decode cX6_isAll 32 = .ok (.iconst 0, 1) := by decide +kernel
theorem dX6_isAll_33 : decode cX6_isAll 33 = .ok (.iload_n 1, 1) := by decide +kernel
theorem dX6_isAll_34 : decode cX6_isAll 34 = .ok (.invokevirtual 168, 3) := by decide +kernel
theorem dX6_isAll_37 : decode cX6_isAll 37 = .ok (.ifCond .eq 18, 3) := by decide +kernel
theorem dX6_isAll_40 : decode cX6_isAll 40 = .ok (.aload_n 0, 1) := by decide +kernel
theorem dX6_isAll_41 : decode cX6_isAll 41 = .ok (.getfield 59, 3) := by decide +kernel
theorem dX6_isAll_44 : decode cX6_isAll 44 = .ok (.iload 4, 2) := by decide +kernel
theorem dX6_isAll_46 : decode cX6_isAll 46 = .ok (.iaload, 1) := by decide +kernel
theorem dX6_isAll_47 : decode cX6_isAll 47 = .ok (.iload_n 2, 1) := by decide +kernel
theorem dX6_isAll_48 : decode cX6_isAll 48 = .ok (.if_icmp .ne 7, 3) := by decide +kernel
theorem dX6_isAll_51 : decode cX6_isAll 51 = .ok (.iconst 1, 1) := by decide +kernel
theorem dX6_isAll_52 : decode cX6_isAll 52 = .ok (.goto 4, 3) := by decide +kernel
theorem dX6_isAll_55 : decode cX6_isAll 55 = .ok (.iconst 0, 1) := by decide +kernel
theorem dX6_isAll_56 : decode cX6_isAll 56 = .ok (.iadd, 1) := by decide +kernel
theorem dX6_isAll_57 : decode cX6_isAll 57 = .ok (.istore_n 3, 1) := by decide +kernel
theorem dX6_isAll_58 : decode cX6_isAll 58 = .ok (.iinc 4 1, 3) := by decide +kernel
theorem dX6_isAll_61 : decode cX6_isAll 61 = .ok (.goto (-56), 3) := by decide +kernel
theorem dX6_isAll_64 : decode cX6_isAll 64 = .ok (.iload_n 3, 1) := by decide +kernel
theorem dX6_isAll_65 : decode cX6_isAll 65 = .ok (.ifCond .le 17, 3) := by decide +kernel
theorem dX6_isAll_68 : decode cX6_isAll 68 = .ok (.iload_n 3, 1) := by decide +kernel
theorem dX6_isAll_69 : decode cX6_isAll 69 = .ok (.aload_n 0, 1) := by decide +kernel
theorem dX6_isAll_70 : decode cX6_isAll 70 = .ok (.getfield 90, 3) := by decide +kernel
theorem dX6_isAll_73 : decode cX6_isAll 73 = .ok (.iconst 0, 1) := by decide +kernel
theorem dX6_isAll_74 : decode cX6_isAll 74 = .ok (.iaload, 1) := by decide +kernel
theorem dX6_isAll_75 : decode cX6_isAll 75 = .ok (.if_icmp .ne 7, 3) := by decide +kernel
theorem dX6_isAll_78 : decode cX6_isAll 78 = .ok (.iconst 1, 1) := by decide +kernel
theorem dX6_isAll_79 : decode cX6_isAll 79 = .ok (.goto 4, 3) := by decide +kernel
theorem dX6_isAll_82 : decode cX6_isAll 82 = .ok (.iconst 0, 1) := by decide +kernel
theorem dX6_isAll_83 : decode cX6_isAll 83 = .ok (.ireturn, 1) := by decide +kernel
theorem dX6_answers_0 : decode cX6_answers 0 = .ok (.iconst 5, 1) := by decide +kernel
theorem dX6_answers_1 : decode cX6_answers 1 = .ok (.iload_n 1, 1) := by decide +kernel
theorem dX6_answers_2 : decode cX6_answers 2 = .ok (.imul, 1) := by decide +kernel
theorem dX6_answers_3 : decode cX6_answers 3 = .ok (.aload_n 0, 1) := by decide +kernel
theorem dX6_answers_4 : decode cX6_answers 4 = .ok (.getfield 80, 3) := by decide +kernel
theorem dX6_answers_7 : decode cX6_answers 7 = .ok (.iadd, 1) := by decide +kernel
theorem dX6_answers_8 : decode cX6_answers 8 = .ok (.istore_n 2, 1) := by decide +kernel
theorem dX6_answers_9 : decode cX6_answers 9 = .ok (.aload_n 0, 1) := by decide +kernel
theorem dX6_answers_10 : decode cX6_answers 10 = .ok (.getfield 25, 3) := by decide +kernel
theorem dX6_answers_13 : decode cX6_answers 13 = .ok (.iload_n 2, 1) := by decide +kernel
theorem dX6_answers_14 : decode cX6_answers 14 = .ok (.iaload, 1) := by decide +kernel
theorem dX6_answers_15 : decode cX6_answers 15 = .ok (.istore_n 3, 1) := by decide +kernel
theorem dX6_answers_16 : decode cX6_answers 16 = .ok (.aload_n 0, 1) := by decide +kernel
theorem dX6_answers_17 : decode cX6_answers 17 = .ok (.iload_n 1, 1) := by decide +kernel
theorem dX6_answers_18 : decode cX6_answers 18 = .ok (.iconst 1, 1) := by decide +kernel
theorem dX6_answers_19 : decode cX6_answers 19 = .ok (.invokevirtual 190, 3) := by decide +kernel
theorem dX6_answers_22 : decode cX6_answers 22 = .ok (.ifCond .eq 33, 3) := by decide +kernel
theorem dX6_answers_25 : decode cX6_answers 25 = .ok (.aload_n 0, 1) := by decide +kernel
theorem dX6_answers_26 : decode cX6_answers 26 = .ok (.getfield 25, 3) := by decide +kernel
theorem dX6_answers_29 : decode cX6_answers 29 = .ok (.iload_n 2, 1) := by decide +kernel
theorem dX6_answers_30 : decode cX6_answers 30 = .ok (.iconst 1, 1) := by decide +kernel
theorem dX6_answers_31 : decode cX6_answers 31 = .ok (.aload_n 0, 1) := by decide +kernel
theorem dX6_answers_32 : decode cX6_answers 32 = .ok (.getfield 193, 3) := by decide +kernel
theorem dX6_answers_35 : decode cX6_answers 35 = .ok (.ishl, 1) := by decide +kernel
theorem dX6_answers_36 : decode cX6_answers 36 = .ok (.iastore, 1) := by decide +kernel
theorem dX6_answers_37 : decode cX6_answers 37 = .ok (.aload_n 0, 1) := by decide +kernel
theorem dX6_answers_38 : decode cX6_answers 38 = .ok (.getfield 28, 3) := by decide +kernel
theorem dX6_answers_41 : decode cX6_answers 41 = .ok (.iload_n 2, 1) := by decide +kernel
theorem dX6_answers_42 : decode cX6_answers 42 = .ok (.iconst 1, 1) := by decide +kernel
theorem dX6_answers_43 : decode cX6_answers 43 = .ok (.bastore, 1) := by decide +kernel
theorem dX6_answers_44 : decode cX6_answers 44 = .ok (.aload_n 0, 1) := by decide +kernel
theorem dX6_answers_45 : decode cX6_answers 45 = .ok (.iload_n 1, 1) := by decide +kernel
theorem dX6_answers_46 : decode cX6_answers 46 = .ok (.iload_n 2, 1) := by decide +kernel
theorem dX6_answers_47 : decode cX6_answers 47 = .ok (.iload_n 3, 1) := by decide +kernel
theorem dX6_answers_48 : decode cX6_answers 48 = .ok (.iconst 0, 1) := by decide +kernel
theorem dX6_answers_49 : decode cX6_answers 49 = .ok (.invokevirtual 183, 3) := by decide +kernel
theorem dX6_answers_52 : decode cX6_answers 52 = .ok (.goto 29, 3) := by decide +kernel
theorem dX6_answers_55 : decode cX6_answers 55 = .ok (.aload_n 0, 1) := by decide +kernel
theorem dX6_answers_56 : decode cX6_answers 56 = .ok (.iload_n 1, 1) := by decide +kernel
theorem dX6_answers_57 : decode cX6_answers 57 = .ok (.iconst 2, 1) := by decide +kernel
theorem dX6_answers_58 : decode cX6_answers 58 = .ok (.invokevirtual 190, 3) := by decide +kernel
theorem dX6_answers_61 : decode cX6_answers 61 = .ok (.ifCond .eq 20, 3) := by decide +kernel
theorem dX6_answers_64 : decode cX6_answers 64 = .ok (.aload_n 0, 1) := by decide +kernel
theorem dX6_answers_65 : decode cX6_answers 65 = .ok (.getfield 25, 3) := by decide +kernel
theorem dX6_answers_68 : decode cX6_answers 68 = .ok (.iload_n 2, 1) := by decide +kernel
theorem dX6_answers_69 : decode cX6_answers 69 = .ok (.dup2, 1) := by decide +kernel
theorem dX6_answers_70 : decode cX6_answers 70 = .ok (.iaload, 1) := by decide +kernel
theorem dX6_answers_71 : decode cX6_answers 71 = .ok (.iconst 1, 1) := by decide +kernel
theorem dX6_answers_72 : decode cX6_answers 72 = .ok (.aload_n 0, 1) := by decide +kernel
theorem dX6_answers_73 : decode cX6_answers 73 = .ok (.getfield 193, 3) := by decide +kernel
theorem dX6_answers_76 : decode cX6_answers 76 = .ok (.ishl, 1) := by decide +kernel
theorem dX6_answers_77 : decode cX6_answers 77 = .ok (.iconst (-1), 1) := by decide +kernel
theorem dX6_answers_78 : decode cX6_answers 78 = .ok (.ixor, 1) := by decide +kernel
theorem dX6_answers_79 : decode cX6_answers 79 = .ok (.iand, 1) := by decide +kernel
theorem dX6_answers_80 : decode cX6_answers 80 = .ok (.iastore, 1) := by decide +kernel
theorem dX6_answers_81 : decode cX6_answers 81 = .ok (.return_, 1) := by decide +kernel
theorem dX6_hear_0 : decode cX6_hear 0 = .ok (.aload_n 0, 1) := by decide +kernel
theorem dX6_hear_1 : decode cX6_hear 1 = .ok (.getfield 159, 3) := by decide +kernel
theorem dX6_hear_4 : decode cX6_hear 4 = .ok (.ifCond .eq 10, 3) := by decide +kernel
theorem dX6_hear_7 : decode cX6_hear 7 = .ok (.aload_n 0, 1) := by decide +kernel
theorem dX6_hear_8 : decode cX6_hear 8 = .ok (.getfield 126, 3) := by decide +kernel
theorem dX6_hear_11 : decode cX6_hear 11 = .ok (.ifCond .ne 6, 3) := by decide +kernel
theorem dX6_hear_14 : decode cX6_hear 14 = .ok (.bipush (-3), 2) := by decide +kernel
theorem dX6_hear_16 : decode cX6_hear 16 = .ok (.ireturn, 1) := by decide +kernel
theorem dX6_hear_17 : decode cX6_hear 17 = .ok (.aload_n 0, 1) := by decide +kernel
theorem dX6_hear_18 : decode cX6_hear 18 = .ok (.getfield 71, 3) := by decide +kernel
theorem dX6_hear_21 : decode cX6_hear 21 = .ok (.aload_n 0, 1) := by decide +kernel
theorem dX6_hear_22 : decode cX6_hear 22 = .ok (.getfield 126, 3) := by decide +kernel
theorem dX6_hear_25 : decode cX6_hear 25 = .ok (.iconst 1, 1) := by decide +kernel
theorem dX6_hear_26 : decode cX6_hear 26 = .ok (.isub, 1) := by decide +kernel
theorem dX6_hear_27 : decode cX6_hear 27 = .ok (.iaload, 1) := by decide +kernel
theorem dX6_hear_28 : decode cX6_hear 28 = .ok (.istore_n 1, 1) := by decide +kernel
theorem dX6_hear_29 : decode cX6_hear 29 = .ok (.aload_n 0, 1) := by decide +kernel
theorem dX6_hear_30 : decode cX6_hear 30 = .ok (.iload_n 1, 1) := by decide +kernel
theorem dX6_hear_31 : decode cX6_hear 31 = .ok (.invokevirtual 196, 3) := by decide +kernel
theorem dX6_hear_34 : decode cX6_hear 34 = .ok (.aload_n 0, 1) := by decide +kernel
theorem dX6_hear_35 : decode cX6_hear 35 = .ok (.aload_n 0, 1) := by decide +kernel
theorem dX6_hear_36 : decode cX6_hear 36 = .ok (.getfield 87, 3) := by decide +kernel
theorem dX6_hear_39 : decode cX6_hear 39 = .ok (.iconst 0, 1) := by decide +kernel
theorem dX6_hear_40 : decode cX6_hear 40 = .ok (.iaload, 1) := by decide +kernel
theorem dX6_hear_41 : decode cX6_hear 41 = .ok (.putfield 200, 3) := by decide +kernel
theorem dX6_hear_44 : decode cX6_hear 44 = .ok (.aload_n 0, 1) := by decide +kernel
theorem dX6_hear_45 : decode cX6_hear 45 = .ok (.aload_n 0, 1) := by decide +kernel
theorem dX6_hear_46 : decode cX6_hear 46 = .ok (.getfield 96, 3) := by decide +kernel
theorem dX6_hear_49 : decode cX6_hear 49 = .ok (.iconst 0, 1) := by decide +kernel
theorem dX6_hear_50 : decode cX6_hear 50 = .ok (.baload, 1) := by decide +kernel
theorem dX6_hear_51 : decode cX6_hear 51 = .ok (.ifCond .eq 7, 3) := by decide +kernel
theorem dX6_hear_54 : decode cX6_hear 54 = .ok (.iconst 1, 1) := by decide +kernel
theorem dX6_hear_55 : decode cX6_hear 55 = .ok (.goto 4, 3) := by decide +kernel
theorem dX6_hear_58 : decode cX6_hear 58 = .ok (.iconst 0, 1) := by decide +kernel
theorem dX6_hear_59 : decode cX6_hear 59 = .ok (.putfield 203, 3) := by decide +kernel
theorem dX6_hear_62 : decode cX6_hear 62 = .ok (.aload_n 0, 1) := by decide +kernel
theorem dX6_hear_63 : decode cX6_hear 63 = .ok (.aload_n 0, 1) := by decide +kernel
theorem dX6_hear_64 : decode cX6_hear 64 = .ok (.getfield 93, 3) := by decide +kernel
theorem dX6_hear_67 : decode cX6_hear 67 = .ok (.iconst 0, 1) := by decide +kernel
theorem dX6_hear_68 : decode cX6_hear 68 = .ok (.iaload, 1) := by decide +kernel
theorem dX6_hear_69 : decode cX6_hear 69 = .ok (.putfield 206, 3) := by decide +kernel
theorem dX6_hear_72 : decode cX6_hear 72 = .ok (.aload_n 0, 1) := by decide +kernel
theorem dX6_hear_73 : decode cX6_hear 73 = .ok (.aload_n 0, 1) := by decide +kernel
theorem dX6_hear_74 : decode cX6_hear 74 = .ok (.getfield 90, 3) := by decide +kernel
theorem dX6_hear_77 : decode cX6_hear 77 = .ok (.iconst 0, 1) := by decide +kernel
theorem dX6_hear_78 : decode cX6_hear 78 = .ok (.iaload, 1) := by decide +kernel
theorem dX6_hear_79 : decode cX6_hear 79 = .ok (.putfield 209, 3) := by decide +kernel
theorem dX6_hear_82 : decode cX6_hear 82 = .ok (.aload_n 0, 1) := by decide +kernel
theorem dX6_hear_83 : decode cX6_hear 83 = .ok (.iconst (-1), 1) := by decide +kernel
theorem dX6_hear_84 : decode cX6_hear 84 = .ok (.putfield 102, 3) := by decide +kernel
theorem dX6_hear_87 : decode cX6_hear 87 = .ok (.aload_n 0, 1) := by decide +kernel
theorem dX6_hear_88 : decode cX6_hear 88 = .ok (.getfield 96, 3) := by decide +kernel
theorem dX6_hear_91 : decode cX6_hear 91 = .ok (.iconst 0, 1) := by decide +kernel
theorem dX6_hear_92 : decode cX6_hear 92 = .ok (.baload, 1) := by decide +kernel
theorem dX6_hear_93 : decode cX6_hear 93 = .ok (.ifCond .eq 38, 3) := by decide +kernel
theorem dX6_hear_96 : decode cX6_hear 96 = .ok (.aload_n 0, 1) := by decide +kernel
theorem dX6_hear_97 : decode cX6_hear 97 = .ok (.invokevirtual 212, 3) := by decide +kernel
theorem dX6_hear_100 : decode cX6_hear 100 = .ok (.aload_n 0, 1) := by decide +kernel
theorem dX6_hear_101 : decode cX6_hear 101 = .ok (.iconst 0, 1) := by decide +kernel
theorem dX6_hear_102 : decode cX6_hear 102 = .ok (.putfield 215, 3) := by decide +kernel
theorem dX6_hear_105 : decode cX6_hear 105 = .ok (.aload_n 0, 1) := by decide +kernel
theorem dX6_hear_106 : decode cX6_hear 106 = .ok (.iload_n 1, 1) := by decide +kernel
theorem dX6_hear_107 : decode cX6_hear 107 = .ok (.invokevirtual 218, 3) := by decide +kernel
theorem dX6_hear_110 : decode cX6_hear 110 = .ok (.aload_n 0, 1) := by decide +kernel
theorem dX6_hear_111 : decode cX6_hear 111 = .ok (.getfield 80, 3) := by decide +kernel
theorem dX6_hear_114 : decode cX6_hear 114 = .ok (.iconst (-1), 1) := by decide +kernel
theorem dX6_hear_115 : decode cX6_hear 115 = .ok (.if_icmp .eq 8, 3) := by decide +kernel
theorem dX6_hear_118 : decode cX6_hear 118 = .ok (.aload_n 0, 1) := by decide +kernel
theorem dX6_hear_119 : decode cX6_hear 119 = .ok (.iload_n 1, 1) := by decide +kernel
theorem dX6_hear_120 : decode cX6_hear 120 = .ok (.invokevirtual 221, 3) := by decide +kernel
theorem dX6_hear_123 : decode cX6_hear 123 = .ok (.aload_n 0, 1) := by decide +kernel
theorem dX6_hear_124 : decode cX6_hear 124 = .ok (.iconst (-1), 1) := by decide +kernel
theorem dX6_hear_125 : decode cX6_hear 125 = .ok (.putfield 80, 3) := by decide +kernel
theorem dX6_hear_128 : decode cX6_hear 128 = .ok (.goto 13, 3) := by decide +kernel
theorem dX6_hear_131 : decode cX6_hear 131 = .ok (.aload_n 0, 1) := by decide +kernel
theorem dX6_hear_132 : decode cX6_hear 132 = .ok (.dup, 1) := by decide +kernel
theorem dX6_hear_133 : decode cX6_hear 133 = .ok (.getfield 215, 3) := by decide +kernel
theorem dX6_hear_136 : decode cX6_hear 136 = .ok (.iconst 1, 1) := by decide +kernel
theorem dX6_hear_137 : decode cX6_hear 137 = .ok (.iadd, 1) := by decide +kernel
theorem dX6_hear_138 : decode cX6_hear 138 = .ok (.putfield 215, 3) := by decide +kernel
theorem dX6_hear_141 : decode cX6_hear 141 = .ok (.aload_n 0, 1) := by decide +kernel
theorem dX6_hear_142 : decode cX6_hear 142 = .ok (.iconst 0, 1) := by decide +kernel
theorem dX6_hear_143 : decode cX6_hear 143 = .ok (.putfield 159, 3) := by decide +kernel
theorem dX6_hear_146 : decode cX6_hear 146 = .ok (.aload_n 0, 1) := by decide +kernel
theorem dX6_hear_147 : decode cX6_hear 147 = .ok (.getfield 96, 3) := by decide +kernel
theorem dX6_hear_150 : decode cX6_hear 150 = .ok (.iconst 0, 1) := by decide +kernel
theorem dX6_hear_151 : decode cX6_hear 151 = .ok (.baload, 1) := by decide +kernel
theorem dX6_hear_152 : decode cX6_hear 152 = .ok (.ifCond .eq 10, 3) := by decide +kernel
theorem dX6_hear_155 : decode cX6_hear 155 = .ok (.aload_n 0, 1) := by decide +kernel
theorem dX6_hear_156 : decode cX6_hear 156 = .ok (.getfield 200, 3) := by decide +kernel
theorem dX6_hear_159 : decode cX6_hear 159 = .ok (.goto 10, 3) := by decide +kernel
theorem dX6_hear_162 : decode cX6_hear 162 = .ok (.bipush 100, 2) := by decide +kernel
theorem dX6_hear_164 : decode cX6_hear 164 = .ok (.aload_n 0, 1) := by decide +kernel
theorem dX6_hear_165 : decode cX6_hear 165 = .ok (.getfield 200, 3) := by decide +kernel
theorem dX6_hear_168 : decode cX6_hear 168 = .ok (.iadd, 1) := by decide +kernel
theorem dX6_hear_169 : decode cX6_hear 169 = .ok (.ireturn, 1) := by decide +kernel
theorem dX6_state_0 : decode cX6_state 0 = .ok (.iconst 0, 1) := by decide +kernel
theorem dX6_state_1 : decode cX6_state 1 = .ok (.istore_n 2, 1) := by decide +kernel
theorem dX6_state_2 : decode cX6_state 2 = .ok (.iconst 4, 1) := by decide +kernel
theorem dX6_state_3 : decode cX6_state 3 = .ok (.istore_n 3, 1) := by decide +kernel
theorem dX6_state_4 : decode cX6_state 4 = .ok (.iload_n 3, 1) := by decide +kernel
theorem dX6_state_5 : decode cX6_state 5 = .ok (.ifCond .lt 57, 3) := by decide +kernel
theorem dX6_state_8 : decode cX6_state 8 = .ok (.iload_n 3, 1) := by decide +kernel
theorem dX6_state_9 : decode cX6_state 9 = .ok (.aload_n 0, 1) := by decide +kernel
theorem dX6_state_10 : decode cX6_state 10 = .ok (.getfield 7, 3) := by decide +kernel
theorem dX6_state_13 : decode cX6_state 13 = .ok (.iload_n 1, 1) := by decide +kernel
theorem dX6_state_14 : decode cX6_state 14 = .ok (.iaload, 1) := by decide +kernel
theorem dX6_state_15 : decode cX6_state 15 = .ok (.if_icmp .ge 29, 3) := by decide +kernel
theorem dX6_state_18 : decode cX6_state 18 = .ok (.aload_n 0, 1) := by decide +kernel
theorem dX6_state_19 : decode cX6_state 19 = .ok (.getfield 13, 3) := by decide +kernel
theorem dX6_state_22 : decode cX6_state 22 = .ok (.iconst 5, 1) := by decide +kernel
theorem dX6_state_23 : decode cX6_state 23 = .ok (.iload_n 1, 1) := by decide +kernel
theorem dX6_state_24 : decode cX6_state 24 = .ok (.imul, 1) := by decide +kernel
theorem dX6_state_25 : decode cX6_state 25 = .ok (.iload_n 3, 1) := by decide +kernel
theorem dX6_state_26 : decode cX6_state 26 = .ok (.iadd, 1) := by decide +kernel
theorem dX6_state_27 : decode cX6_state 27 = .ok (.iaload, 1) := by decide +kernel
theorem dX6_state_28 : decode cX6_state 28 = .ok (.iconst 1, 1) := by decide +kernel
theorem dX6_state_29 : decode cX6_state 29 = .ok (.if_icmp .eq 15, 3) := by decide +kernel
theorem dX6_state_32 : decode cX6_state 32 = .ok (.aload_n 0, 1) := by decide +kernel
theorem dX6_state_33 : decode cX6_state 33 = .ok (.iconst 5, 1) := by decide +kernel
theorem dX6_state_34 : decode cX6_state 34 = .ok (.iload_n 1, 1) := by decide +kernel
theorem dX6_state_35 : decode cX6_state 35 = .ok (.imul, 1) := by decide +kernel
theorem dX6_state_36 : decode cX6_state 36 = .ok (.iload_n 3, 1) := by decide +kernel
theorem dX6_state_37 : decode cX6_state 37 = .ok (.iadd, 1) := by decide +kernel
theorem dX6_state_38 : decode cX6_state 38 = .ok (.invokevirtual 153, 3) := by decide +kernel
theorem dX6_state_41 : decode cX6_state 41 = .ok (.goto 4, 3) := by decide +kernel
theorem dX6_state_44 : decode cX6_state 44 = .ok (.iconst (-1), 1) := by decide +kernel
theorem dX6_state_45 : decode cX6_state 45 = .ok (.istore 4, 2) := by decide +kernel
theorem dX6_state_47 : decode cX6_state 47 = .ok (.iconst 5, 1) := by decide +kernel
theorem dX6_state_48 : decode cX6_state 48 = .ok (.iload_n 2, 1) := by decide +kernel
theorem dX6_state_49 : decode cX6_state 49 = .ok (.imul, 1) := by decide +kernel
theorem dX6_state_50 : decode cX6_state 50 = .ok (.iload 4, 2) := by decide +kernel
theorem dX6_state_52 : decode cX6_state 52 = .ok (.iadd, 1) := by decide +kernel
theorem dX6_state_53 : decode cX6_state 53 = .ok (.iconst 1, 1) := by decide +kernel
theorem dX6_state_54 : decode cX6_state 54 = .ok (.iadd, 1) := by decide +kernel
theorem dX6_state_55 : decode cX6_state 55 = .ok (.istore_n 2, 1) := by decide +kernel
theorem dX6_state_56 : decode cX6_state 56 = .ok (.iinc 3 (-1), 3) := by decide +kernel
theorem dX6_state_59 : decode cX6_state 59 = .ok (.goto (-55), 3) := by decide +kernel
theorem dX6_state_62 : decode cX6_state 62 = .ok (.iload_n 2, 1) := by decide +kernel
theorem dX6_state_63 : decode cX6_state 63 = .ok (.ireturn, 1) := by decide +kernel
theorem dX6_worstBy_0 : decode cX6_worstBy 0 = .ok (.iconst 5, 1) := by decide +kernel
theorem dX6_worstBy_1 : decode cX6_worstBy 1 = .ok (.iload_n 1, 1) := by decide +kernel
theorem dX6_worstBy_2 : decode cX6_worstBy 2 = .ok (.imul, 1) := by decide +kernel
theorem dX6_worstBy_3 : decode cX6_worstBy 3 = .ok (.iload_n 2, 1) := by decide +kernel
theorem dX6_worstBy_4 : decode cX6_worstBy 4 = .ok (.iadd, 1) := by decide +kernel
theorem dX6_worstBy_5 : decode cX6_worstBy 5 = .ok (.istore_n 3, 1) := by decide +kernel
theorem dX6_worstBy_6 : decode cX6_worstBy 6 = .ok (.aload_n 0, 1) := by decide +kernel
theorem dX6_worstBy_7 : decode cX6_worstBy 7 = .ok (.getfield 25, 3) := by decide +kernel
theorem dX6_worstBy_10 : decode cX6_worstBy 10 = .ok (.iload_n 3, 1) := by decide +kernel
theorem dX6_worstBy_11 : decode cX6_worstBy 11 = .ok (.iaload, 1) := by decide +kernel
theorem dX6_worstBy_12 : decode cX6_worstBy 12 = .ok (.istore 4, 2) := by decide +kernel
theorem dX6_worstBy_14 : decode cX6_worstBy 14 = .ok (.iconst (-1), 1) := by decide +kernel
theorem dX6_worstBy_15 : decode cX6_worstBy 15 = .ok (.istore 5, 2) := by decide +kernel
theorem dX6_worstBy_17 : decode cX6_worstBy 17 = .ok (.iconst 0, 1) := by decide +kernel
theorem dX6_worstBy_18 : decode cX6_worstBy 18 = .ok (.istore 6, 2) := by decide +kernel
theorem dX6_worstBy_20 : decode cX6_worstBy 20 = .ok (.iload 6, 2) := by decide +kernel
theorem dX6_worstBy_22 : decode cX6_worstBy 22 = .ok (.aload_n 0, 1) := by decide +kernel
theorem dX6_worstBy_23 : decode cX6_worstBy 23 = .ok (.getfield 16, 3) := by decide +kernel
theorem dX6_worstBy_26 : decode cX6_worstBy 26 = .ok (.iload_n 3, 1) := by decide +kernel
theorem dX6_worstBy_27 : decode cX6_worstBy 27 = .ok (.iaload, 1) := by decide +kernel
theorem dX6_worstBy_28 : decode cX6_worstBy 28 = .ok (.if_icmp .ge 60, 3) := by decide +kernel
theorem dX6_worstBy_31 : decode cX6_worstBy 31 = .ok (.aload_n 0, 1) := by decide +kernel
theorem dX6_worstBy_32 : decode cX6_worstBy 32 = .ok (.getfield 25, 3) := by decide +kernel
theorem dX6_worstBy_35 : decode cX6_worstBy 35 = .ok (.iload_n 3, 1) := by decide +kernel
theorem dX6_worstBy_36 : decode cX6_worstBy 36 = .ok (.iconst 1, 1) := by decide +kernel
theorem dX6_worstBy_37 : decode cX6_worstBy 37 = .ok (.iload 6, 2) := by decide +kernel
theorem dX6_worstBy_39 : decode cX6_worstBy 39 = .ok (.ishl, 1) := by decide +kernel
theorem dX6_worstBy_40 : decode cX6_worstBy 40 = .ok (.iastore, 1) := by decide +kernel
theorem dX6_worstBy_41 : decode cX6_worstBy 41 = .ok (.aload_n 0, 1) := by decide +kernel
theorem dX6_worstBy_42 : decode cX6_worstBy 42 = .ok (.getfield 28, 3) := by decide +kernel
theorem dX6_worstBy_45 : decode cX6_worstBy 45 = .ok (.iload_n 3, 1) := by decide +kernel
theorem dX6_worstBy_46 : decode cX6_worstBy 46 = .ok (.iconst 1, 1) := by decide +kernel
theorem dX6_worstBy_47 : decode cX6_worstBy 47 = .ok (.bastore, 1) := by decide +kernel
theorem dX6_worstBy_48 : decode cX6_worstBy 48 = .ok (.aload_n 0, 1) := by decide +kernel
theorem dX6_worstBy_49 : decode cX6_worstBy 49 = .ok (.iload_n 1, 1) := by decide +kernel
theorem dX6_worstBy_50 : decode cX6_worstBy 50 = .ok (.invokevirtual 187, 3) := by decide +kernel
theorem dX6_worstBy_53 : decode cX6_worstBy 53 = .ok (.iconst (-1), 1) := by decide +kernel
theorem dX6_worstBy_54 : decode cX6_worstBy 54 = .ok (.if_icmp .ne 28, 3) := by decide +kernel
theorem dX6_worstBy_57 : decode cX6_worstBy 57 = .ok (.iconst 1, 1) := by decide +kernel
theorem dX6_worstBy_58 : decode cX6_worstBy 58 = .ok (.aload_n 0, 1) := by decide +kernel
theorem dX6_worstBy_59 : decode cX6_worstBy 59 = .ok (.iload_n 1, 1) := by decide +kernel
theorem dX6_worstBy_60 : decode cX6_worstBy 60 = .ok (.invokevirtual 224, 3) := by decide +kernel
theorem dX6_worstBy_63 : decode cX6_worstBy 63 = .ok (.iadd, 1) := by decide +kernel
theorem dX6_worstBy_64 : decode cX6_worstBy 64 = .ok (.istore 7, 2) := by decide +kernel
theorem dX6_worstBy_66 : decode cX6_worstBy 66 = .ok (.iload 7, 2) := by decide +kernel
theorem dX6_worstBy_68 : decode cX6_worstBy 68 = .ok (.iload 5, 2) := by decide +kernel
theorem dX6_worstBy_70 : decode cX6_worstBy 70 = .ok (.if_icmp .le 8, 3) := by decide +kernel
theorem dX6_worstBy_73 : decode cX6_worstBy 73 = .ok (.iload 7, 2) := by decide +kernel
theorem dX6_worstBy_75 : decode cX6_worstBy 75 = .ok (.goto 5, 3) := by decide +kernel
theorem dX6_worstBy_78 : decode cX6_worstBy 78 = .ok (.iload 5, 2) := by decide +kernel
theorem dX6_worstBy_80 : decode cX6_worstBy 80 = .ok (.istore 5, 2) := by decide +kernel
theorem dX6_worstBy_82 : decode cX6_worstBy 82 = .ok (.iinc 6 1, 3) := by decide +kernel
theorem dX6_worstBy_85 : decode cX6_worstBy 85 = .ok (.goto (-65), 3) := by decide +kernel
theorem dX6_worstBy_88 : decode cX6_worstBy 88 = .ok (.aload_n 0, 1) := by decide +kernel
theorem dX6_worstBy_89 : decode cX6_worstBy 89 = .ok (.getfield 25, 3) := by decide +kernel
theorem dX6_worstBy_92 : decode cX6_worstBy 92 = .ok (.iload_n 3, 1) := by decide +kernel
theorem dX6_worstBy_93 : decode cX6_worstBy 93 = .ok (.iload 4, 2) := by decide +kernel
theorem dX6_worstBy_95 : decode cX6_worstBy 95 = .ok (.iastore, 1) := by decide +kernel
theorem dX6_worstBy_96 : decode cX6_worstBy 96 = .ok (.aload_n 0, 1) := by decide +kernel
theorem dX6_worstBy_97 : decode cX6_worstBy 97 = .ok (.getfield 28, 3) := by decide +kernel
theorem dX6_worstBy_100 : decode cX6_worstBy 100 = .ok (.iload_n 3, 1) := by decide +kernel
theorem dX6_worstBy_101 : decode cX6_worstBy 101 = .ok (.iconst 0, 1) := by decide +kernel
theorem dX6_worstBy_102 : decode cX6_worstBy 102 = .ok (.bastore, 1) := by decide +kernel
theorem dX6_worstBy_103 : decode cX6_worstBy 103 = .ok (.iload 5, 2) := by decide +kernel
theorem dX6_worstBy_105 : decode cX6_worstBy 105 = .ok (.iconst (-1), 1) := by decide +kernel
theorem dX6_worstBy_106 : decode cX6_worstBy 106 = .ok (.if_icmp .eq 10, 3) := by decide +kernel
theorem dX6_worstBy_109 : decode cX6_worstBy 109 = .ok (.iload 5, 2) := by decide +kernel
theorem dX6_worstBy_111 : decode cX6_worstBy 111 = .ok (.bipush 100, 2) := by decide +kernel
theorem dX6_worstBy_113 : decode cX6_worstBy 113 = .ok (.if_icmp .le 8, 3) := by decide +kernel
theorem dX6_worstBy_116 : decode cX6_worstBy 116 = .ok (.bipush 100, 2) := by decide +kernel
theorem dX6_worstBy_118 : decode cX6_worstBy 118 = .ok (.goto 5, 3) := by decide +kernel
theorem dX6_worstBy_121 : decode cX6_worstBy 121 = .ok (.iload 5, 2) := by decide +kernel
theorem dX6_worstBy_123 : decode cX6_worstBy 123 = .ok (.ireturn, 1) := by decide +kernel
theorem dX6_worstOf_0 : decode cX6_worstOf 0 = .ok (.aload_n 0, 1) := by decide +kernel
theorem dX6_worstOf_1 : decode cX6_worstOf 1 = .ok (.iload_n 1, 1) := by decide +kernel
theorem dX6_worstOf_2 : decode cX6_worstOf 2 = .ok (.invokevirtual 227, 3) := by decide +kernel
theorem dX6_worstOf_5 : decode cX6_worstOf 5 = .ok (.istore_n 2, 1) := by decide +kernel
theorem dX6_worstOf_6 : decode cX6_worstOf 6 = .ok (.aload_n 0, 1) := by decide +kernel
theorem dX6_worstOf_7 : decode cX6_worstOf 7 = .ok (.getfield 105, 3) := by decide +kernel
theorem dX6_worstOf_10 : decode cX6_worstOf 10 = .ok (.iload_n 2, 1) := by decide +kernel
theorem dX6_worstOf_11 : decode cX6_worstOf 11 = .ok (.iaload, 1) := by decide +kernel
theorem dX6_worstOf_12 : decode cX6_worstOf 12 = .ok (.iconst (-1), 1) := by decide +kernel
theorem dX6_worstOf_13 : decode cX6_worstOf 13 = .ok (.if_icmp .eq 10, 3) := by decide +kernel
theorem dX6_worstOf_16 : decode cX6_worstOf 16 = .ok (.aload_n 0, 1) := by decide +kernel
theorem dX6_worstOf_17 : decode cX6_worstOf 17 = .ok (.getfield 105, 3) := by decide +kernel
theorem dX6_worstOf_20 : decode cX6_worstOf 20 = .ok (.iload_n 2, 1) := by decide +kernel
theorem dX6_worstOf_21 : decode cX6_worstOf 21 = .ok (.iaload, 1) := by decide +kernel
theorem dX6_worstOf_22 : decode cX6_worstOf 22 = .ok (.ireturn, 1) := by decide +kernel
theorem dX6_worstOf_23 : decode cX6_worstOf 23 = .ok (.bipush 100, 2) := by decide +kernel
theorem dX6_worstOf_25 : decode cX6_worstOf 25 = .ok (.istore_n 3, 1) := by decide +kernel
theorem dX6_worstOf_26 : decode cX6_worstOf 26 = .ok (.iconst 0, 1) := by decide +kernel
theorem dX6_worstOf_27 : decode cX6_worstOf 27 = .ok (.istore 4, 2) := by decide +kernel
theorem dX6_worstOf_29 : decode cX6_worstOf 29 = .ok (.iconst 0, 1) := by decide +kernel
theorem dX6_worstOf_30 : decode cX6_worstOf 30 = .ok (.istore 5, 2) := by decide +kernel
theorem dX6_worstOf_32 : decode cX6_worstOf 32 = .ok (.iload 5, 2) := by decide +kernel
theorem dX6_worstOf_34 : decode cX6_worstOf 34 = .ok (.aload_n 0, 1) := by decide +kernel
theorem dX6_worstOf_35 : decode cX6_worstOf 35 = .ok (.getfield 7, 3) := by decide +kernel
theorem dX6_worstOf_38 : decode cX6_worstOf 38 = .ok (.iload_n 1, 1) := by decide +kernel
theorem dX6_worstOf_39 : decode cX6_worstOf 39 = .ok (.iaload, 1) := by decide +kernel
theorem dX6_worstOf_40 : decode cX6_worstOf 40 = .ok (.if_icmp .ge 61, 3) := by decide +kernel
theorem dX6_worstOf_43 : decode cX6_worstOf 43 = .ok (.aload_n 0, 1) := by decide +kernel
theorem dX6_worstOf_44 : decode cX6_worstOf 44 = .ok (.iload_n 1, 1) := by decide +kernel
theorem dX6_worstOf_45 : decode cX6_worstOf 45 = .ok (.iload 5, 2) := by decide +kernel
theorem dX6_worstOf_47 : decode cX6_worstOf 47 = .ok (.invokevirtual 230, 3) := by decide +kernel
theorem dX6_worstOf_50 : decode cX6_worstOf 50 = .ok (.ifCond .eq 45, 3) := by decide +kernel
theorem dX6_worstOf_53 : decode cX6_worstOf 53 = .ok (.aload_n 0, 1) := by decide +kernel
theorem dX6_worstOf_54 : decode cX6_worstOf 54 = .ok (.getfield 28, 3) := by decide +kernel
theorem dX6_worstOf_57 : decode cX6_worstOf 57 = .ok (.iconst 5, 1) := by decide +kernel
theorem dX6_worstOf_58 : decode cX6_worstOf 58 = .ok (.iload_n 1, 1) := by decide +kernel
theorem dX6_worstOf_59 : decode cX6_worstOf 59 = .ok (.imul, 1) := by decide +kernel
theorem dX6_worstOf_60 : decode cX6_worstOf 60 = .ok (.iload 5, 2) := by decide +kernel
theorem dX6_worstOf_62 : decode cX6_worstOf 62 = .ok (.iadd, 1) := by decide +kernel
theorem dX6_worstOf_63 : decode cX6_worstOf 63 = .ok (.baload, 1) := by decide +kernel
theorem dX6_worstOf_64 : decode cX6_worstOf 64 = .ok (.ifCond .eq 6, 3) := by decide +kernel
theorem dX6_worstOf_67 : decode cX6_worstOf 67 = .ok (.goto 28, 3) := by decide +kernel
theorem dX6_worstOf_70 : decode cX6_worstOf 70 = .ok (.iconst 1, 1) := by decide +kernel
theorem dX6_worstOf_71 : decode cX6_worstOf 71 = .ok (.istore 4, 2) := by decide +kernel
theorem dX6_worstOf_73 : decode cX6_worstOf 73 = .ok (.aload_n 0, 1) := by decide +kernel
theorem dX6_worstOf_74 : decode cX6_worstOf 74 = .ok (.iload_n 1, 1) := by decide +kernel
theorem dX6_worstOf_75 : decode cX6_worstOf 75 = .ok (.iload 5, 2) := by decide +kernel
theorem dX6_worstOf_77 : decode cX6_worstOf 77 = .ok (.invokevirtual 233, 3) := by decide +kernel
theorem dX6_worstOf_80 : decode cX6_worstOf 80 = .ok (.istore 6, 2) := by decide +kernel
theorem dX6_worstOf_82 : decode cX6_worstOf 82 = .ok (.iload 6, 2) := by decide +kernel
theorem dX6_worstOf_84 : decode cX6_worstOf 84 = .ok (.iload_n 3, 1) := by decide +kernel
theorem dX6_worstOf_85 : decode cX6_worstOf 85 = .ok (.if_icmp .ge 8, 3) := by decide +kernel
theorem dX6_worstOf_88 : decode cX6_worstOf 88 = .ok (.iload 6, 2) := by decide +kernel
theorem dX6_worstOf_90 : decode cX6_worstOf 90 = .ok (.goto 4, 3) := by decide +kernel
theorem dX6_worstOf_93 : decode cX6_worstOf 93 = .ok (.iload_n 3, 1) := by decide +kernel
theorem dX6_worstOf_94 : decode cX6_worstOf 94 = .ok (.istore_n 3, 1) := by decide +kernel
theorem dX6_worstOf_95 : decode cX6_worstOf 95 = .ok (.iinc 5 1, 3) := by decide +kernel
theorem dX6_worstOf_98 : decode cX6_worstOf 98 = .ok (.goto (-66), 3) := by decide +kernel
theorem dX6_worstOf_101 : decode cX6_worstOf 101 = .ok (.aload_n 0, 1) := by decide +kernel
theorem dX6_worstOf_102 : decode cX6_worstOf 102 = .ok (.getfield 105, 3) := by decide +kernel
theorem dX6_worstOf_105 : decode cX6_worstOf 105 = .ok (.iload_n 2, 1) := by decide +kernel
theorem dX6_worstOf_106 : decode cX6_worstOf 106 = .ok (.iload 4, 2) := by decide +kernel
theorem dX6_worstOf_108 : decode cX6_worstOf 108 = .ok (.ifCond .eq 7, 3) := by decide +kernel
theorem dX6_worstOf_111 : decode cX6_worstOf 111 = .ok (.iload_n 3, 1) := by decide +kernel
theorem dX6_worstOf_112 : decode cX6_worstOf 112 = .ok (.goto 4, 3) := by decide +kernel
theorem dX6_worstOf_115 : decode cX6_worstOf 115 = .ok (.iconst 0, 1) := by decide +kernel
theorem dX6_worstOf_116 : decode cX6_worstOf 116 = .ok (.iastore, 1) := by decide +kernel
theorem dX6_worstOf_117 : decode cX6_worstOf 117 = .ok (.aload_n 0, 1) := by decide +kernel
theorem dX6_worstOf_118 : decode cX6_worstOf 118 = .ok (.getfield 105, 3) := by decide +kernel
theorem dX6_worstOf_121 : decode cX6_worstOf 121 = .ok (.iload_n 2, 1) := by decide +kernel
theorem dX6_worstOf_122 : decode cX6_worstOf 122 = .ok (.iaload, 1) := by decide +kernel
theorem dX6_worstOf_123 : decode cX6_worstOf 123 = .ok (.ireturn, 1) := by decide +kernel
theorem dX6_forget_0 : decode cX6_forget 0 = .ok (.iconst 0, 1) := by decide +kernel
theorem dX6_forget_1 : decode cX6_forget 1 = .ok (.istore_n 1, 1) := by decide +kernel
theorem dX6_forget_2 : decode cX6_forget 2 = .ok (.iload_n 1, 1) := by decide +kernel
theorem dX6_forget_3 : decode cX6_forget 3 = .ok (.sipush 3125, 3) := by decide +kernel
theorem dX6_forget_6 : decode cX6_forget 6 = .ok (.if_icmp .ge 16, 3) := by decide +kernel
theorem dX6_forget_9 : decode cX6_forget 9 = .ok (.aload_n 0, 1) := by decide +kernel
theorem dX6_forget_10 : decode cX6_forget 10 = .ok (.getfield 105, 3) := by decide +kernel
theorem dX6_forget_13 : decode cX6_forget 13 = .ok (.iload_n 1, 1) := by decide +kernel
theorem dX6_forget_14 : decode cX6_forget 14 = .ok (.iconst (-1), 1) := by decide +kernel
theorem dX6_forget_15 : decode cX6_forget 15 = .ok (.iastore, 1) := by decide +kernel
theorem dX6_forget_16 : decode cX6_forget 16 = .ok (.iinc 1 1, 3) := by decide +kernel
theorem dX6_forget_19 : decode cX6_forget 19 = .ok (.goto (-17), 3) := by decide +kernel
theorem dX6_forget_22 : decode cX6_forget 22 = .ok (.return_, 1) := by decide +kernel
theorem dX6_worst_0 : decode cX6_worst 0 = .ok (.aload_n 0, 1) := by decide +kernel
theorem dX6_worst_1 : decode cX6_worst 1 = .ok (.getfield 126, 3) := by decide +kernel
theorem dX6_worst_4 : decode cX6_worst 4 = .ok (.ifCond .ne 6, 3) := by decide +kernel
theorem dX6_worst_7 : decode cX6_worst 7 = .ok (.bipush (-3), 2) := by decide +kernel
theorem dX6_worst_9 : decode cX6_worst 9 = .ok (.ireturn, 1) := by decide +kernel
theorem dX6_worst_10 : decode cX6_worst 10 = .ok (.aload_n 0, 1) := by decide +kernel
theorem dX6_worst_11 : decode cX6_worst 11 = .ok (.invokevirtual 236, 3) := by decide +kernel
theorem dX6_worst_14 : decode cX6_worst 14 = .ok (.aload_n 0, 1) := by decide +kernel
theorem dX6_worst_15 : decode cX6_worst 15 = .ok (.aload_n 0, 1) := by decide +kernel
theorem dX6_worst_16 : decode cX6_worst 16 = .ok (.getfield 71, 3) := by decide +kernel
theorem dX6_worst_19 : decode cX6_worst 19 = .ok (.aload_n 0, 1) := by decide +kernel
theorem dX6_worst_20 : decode cX6_worst 20 = .ok (.getfield 126, 3) := by decide +kernel
theorem dX6_worst_23 : decode cX6_worst 23 = .ok (.iconst 1, 1) := by decide +kernel
theorem dX6_worst_24 : decode cX6_worst 24 = .ok (.isub, 1) := by decide +kernel
theorem dX6_worst_25 : decode cX6_worst 25 = .ok (.iaload, 1) := by decide +kernel
theorem dX6_worst_26 : decode cX6_worst 26 = .ok (.invokevirtual 224, 3) := by decide +kernel
theorem dX6_worst_29 : decode cX6_worst 29 = .ok (.ireturn, 1) := by decide +kernel
theorem dX6_act_0 : decode cX6_act 0 = .ok (.aload_n 0, 1) := by decide +kernel
theorem dX6_act_1 : decode cX6_act 1 = .ok (.getfield 126, 3) := by decide +kernel
theorem dX6_act_4 : decode cX6_act 4 = .ok (.ifCond .ne 6, 3) := by decide +kernel
theorem dX6_act_7 : decode cX6_act 7 = .ok (.bipush (-3), 2) := by decide +kernel
theorem dX6_act_9 : decode cX6_act 9 = .ok (.ireturn, 1) := by decide +kernel
theorem dX6_act_10 : decode cX6_act 10 = .ok (.aload_n 0, 1) := by decide +kernel
theorem dX6_act_11 : decode cX6_act 11 = .ok (.getfield 71, 3) := by decide +kernel
theorem dX6_act_14 : decode cX6_act 14 = .ok (.aload_n 0, 1) := by decide +kernel
theorem dX6_act_15 : decode cX6_act 15 = .ok (.getfield 126, 3) := by decide +kernel
theorem dX6_act_18 : decode cX6_act 18 = .ok (.iconst 1, 1) := by decide +kernel
theorem dX6_act_19 : decode cX6_act 19 = .ok (.isub, 1) := by decide +kernel
theorem dX6_act_20 : decode cX6_act 20 = .ok (.iaload, 1) := by decide +kernel
theorem dX6_act_21 : decode cX6_act 21 = .ok (.istore_n 1, 1) := by decide +kernel
theorem dX6_act_22 : decode cX6_act 22 = .ok (.aload_n 0, 1) := by decide +kernel
theorem dX6_act_23 : decode cX6_act 23 = .ok (.iconst (-1), 1) := by decide +kernel
theorem dX6_act_24 : decode cX6_act 24 = .ok (.putfield 80, 3) := by decide +kernel
theorem dX6_act_27 : decode cX6_act 27 = .ok (.iconst 1, 1) := by decide +kernel
theorem dX6_act_28 : decode cX6_act 28 = .ok (.istore_n 2, 1) := by decide +kernel
theorem dX6_act_29 : decode cX6_act 29 = .ok (.iconst 0, 1) := by decide +kernel
theorem dX6_act_30 : decode cX6_act 30 = .ok (.istore_n 3, 1) := by decide +kernel
theorem dX6_act_31 : decode cX6_act 31 = .ok (.iload_n 3, 1) := by decide +kernel
theorem dX6_act_32 : decode cX6_act 32 = .ok (.aload_n 0, 1) := by decide +kernel
theorem dX6_act_33 : decode cX6_act 33 = .ok (.getfield 7, 3) := by decide +kernel
theorem dX6_act_36 : decode cX6_act 36 = .ok (.iload_n 1, 1) := by decide +kernel
theorem dX6_act_37 : decode cX6_act 37 = .ok (.iaload, 1) := by decide +kernel
theorem dX6_act_38 : decode cX6_act 38 = .ok (.if_icmp .ge 101, 3) := by decide +kernel
theorem dX6_act_41 : decode cX6_act 41 = .ok (.aload_n 0, 1) := by decide +kernel
theorem dX6_act_42 : decode cX6_act 42 = .ok (.iload_n 1, 1) := by decide +kernel
theorem dX6_act_43 : decode cX6_act 43 = .ok (.iload_n 3, 1) := by decide +kernel
theorem dX6_act_44 : decode cX6_act 44 = .ok (.invokevirtual 230, 3) := by decide +kernel
theorem dX6_act_47 : decode cX6_act 47 = .ok (.ifCond .eq 86, 3) := by decide +kernel
theorem dX6_act_50 : decode cX6_act 50 = .ok (.aload_n 0, 1) := by decide +kernel
theorem dX6_act_51 : decode cX6_act 51 = .ok (.getfield 28, 3) := by decide +kernel
theorem dX6_act_54 : decode cX6_act 54 = .ok (.iconst 5, 1) := by decide +kernel
theorem dX6_act_55 : decode cX6_act 55 = .ok (.iload_n 1, 1) := by decide +kernel
theorem dX6_act_56 : decode cX6_act 56 = .ok (.imul, 1) := by decide +kernel
theorem dX6_act_57 : decode cX6_act 57 = .ok (.iload_n 3, 1) := by decide +kernel
theorem dX6_act_58 : decode cX6_act 58 = .ok (.iadd, 1) := by decide +kernel
theorem dX6_act_59 : decode cX6_act 59 = .ok (.baload, 1) := by decide +kernel
theorem dX6_act_60 : decode cX6_act 60 = .ok (.ifCond .eq 6, 3) := by decide +kernel
theorem dX6_act_63 : decode cX6_act 63 = .ok (.goto 70, 3) := by decide +kernel
theorem dX6_act_66 : decode cX6_act 66 = .ok (.iconst 0, 1) := by decide +kernel
theorem dX6_act_67 : decode cX6_act 67 = .ok (.istore_n 2, 1) := by decide +kernel
theorem dX6_act_68 : decode cX6_act 68 = .ok (.aload_n 0, 1) := by decide +kernel
theorem dX6_act_69 : decode cX6_act 69 = .ok (.getfield 25, 3) := by decide +kernel
theorem dX6_act_72 : decode cX6_act 72 = .ok (.iconst 5, 1) := by decide +kernel
theorem dX6_act_73 : decode cX6_act 73 = .ok (.iload_n 1, 1) := by decide +kernel
theorem dX6_act_74 : decode cX6_act 74 = .ok (.imul, 1) := by decide +kernel
theorem dX6_act_75 : decode cX6_act 75 = .ok (.iload_n 3, 1) := by decide +kernel
theorem dX6_act_76 : decode cX6_act 76 = .ok (.iadd, 1) := by decide +kernel
theorem dX6_act_77 : decode cX6_act 77 = .ok (.iaload, 1) := by decide +kernel
theorem dX6_act_78 : decode cX6_act 78 = .ok (.ifCond .eq 55, 3) := by decide +kernel
theorem dX6_act_81 : decode cX6_act 81 = .ok (.aload_n 0, 1) := by decide +kernel
theorem dX6_act_82 : decode cX6_act 82 = .ok (.getfield 13, 3) := by decide +kernel
theorem dX6_act_85 : decode cX6_act 85 = .ok (.iconst 5, 1) := by decide +kernel
theorem dX6_act_86 : decode cX6_act 86 = .ok (.iload_n 1, 1) := by decide +kernel
theorem dX6_act_87 : decode cX6_act 87 = .ok (.imul, 1) := by decide +kernel
theorem dX6_act_88 : decode cX6_act 88 = .ok (.iload_n 3, 1) := by decide +kernel
theorem dX6_act_89 : decode cX6_act 89 = .ok (.iadd, 1) := by decide +kernel
theorem dX6_act_90 : decode cX6_act 90 = .ok (.iaload, 1) := by decide +kernel
theorem dX6_act_91 : decode cX6_act 91 = .ok (.iconst 2, 1) := by decide +kernel
theorem dX6_act_92 : decode cX6_act 92 = .ok (.if_icmp .ne 6, 3) := by decide +kernel
theorem dX6_act_95 : decode cX6_act 95 = .ok (.goto 38, 3) := by decide +kernel
theorem dX6_act_98 : decode cX6_act 98 = .ok (.aload_n 0, 1) := by decide +kernel
theorem dX6_act_99 : decode cX6_act 99 = .ok (.iload_n 3, 1) := by decide +kernel
theorem dX6_act_100 : decode cX6_act 100 = .ok (.putfield 80, 3) := by decide +kernel
theorem dX6_act_103 : decode cX6_act 103 = .ok (.aload_n 0, 1) := by decide +kernel
theorem dX6_act_104 : decode cX6_act 104 = .ok (.aload_n 0, 1) := by decide +kernel
theorem dX6_act_105 : decode cX6_act 105 = .ok (.getfield 25, 3) := by decide +kernel
theorem dX6_act_108 : decode cX6_act 108 = .ok (.iconst 5, 1) := by decide +kernel
theorem dX6_act_109 : decode cX6_act 109 = .ok (.iload_n 1, 1) := by decide +kernel
theorem dX6_act_110 : decode cX6_act 110 = .ok (.imul, 1) := by decide +kernel
theorem dX6_act_111 : decode cX6_act 111 = .ok (.iload_n 3, 1) := by decide +kernel
theorem dX6_act_112 : decode cX6_act 112 = .ok (.iadd, 1) := by decide +kernel
theorem dX6_act_113 : decode cX6_act 113 = .ok (.iaload, 1) := by decide +kernel
theorem dX6_act_114 : decode cX6_act 114 = .ok (.invokestatic 149, 3) := by decide +kernel
theorem dX6_act_117 : decode cX6_act 117 = .ok (.putfield 193, 3) := by decide +kernel
theorem dX6_act_120 : decode cX6_act 120 = .ok (.bipush 100, 2) := by decide +kernel
theorem dX6_act_122 : decode cX6_act 122 = .ok (.bipush 10, 2) := by decide +kernel
theorem dX6_act_124 : decode cX6_act 124 = .ok (.iload_n 3, 1) := by decide +kernel
theorem dX6_act_125 : decode cX6_act 125 = .ok (.imul, 1) := by decide +kernel
theorem dX6_act_126 : decode cX6_act 126 = .ok (.iadd, 1) := by decide +kernel
theorem dX6_act_127 : decode cX6_act 127 = .ok (.aload_n 0, 1) := by decide +kernel
theorem dX6_act_128 : decode cX6_act 128 = .ok (.getfield 193, 3) := by decide +kernel
theorem dX6_act_131 : decode cX6_act 131 = .ok (.iadd, 1) := by decide +kernel
theorem dX6_act_132 : decode cX6_act 132 = .ok (.ireturn, 1) := by decide +kernel
theorem dX6_act_133 : decode cX6_act 133 = .ok (.iinc 3 1, 3) := by decide +kernel
theorem dX6_act_136 : decode cX6_act 136 = .ok (.goto (-105), 3) := by decide +kernel
theorem dX6_act_139 : decode cX6_act 139 = .ok (.iload_n 2, 1) := by decide +kernel
theorem dX6_act_140 : decode cX6_act 140 = .ok (.ifCond .eq 5, 3) := by decide +kernel
theorem dX6_act_143 : decode cX6_act 143 = .ok (.iconst 0, 1) := by decide +kernel
theorem dX6_act_144 : decode cX6_act 144 = .ok (.ireturn, 1) := by decide +kernel
theorem dX6_act_145 : decode cX6_act 145 = .ok (.aload_n 0, 1) := by decide +kernel
theorem dX6_act_146 : decode cX6_act 146 = .ok (.invokevirtual 236, 3) := by decide +kernel
theorem dX6_act_149 : decode cX6_act 149 = .ok (.iconst (-1), 1) := by decide +kernel
theorem dX6_act_150 : decode cX6_act 150 = .ok (.istore_n 3, 1) := by decide +kernel
theorem dX6_act_151 : decode cX6_act 151 = .ok (.sipush 10000, 3) := by decide +kernel
theorem dX6_act_154 : decode cX6_act 154 = .ok (.istore 4, 2) := by decide +kernel
theorem dX6_act_156 : decode cX6_act 156 = .ok (.iconst 0, 1) := by decide +kernel
theorem dX6_act_157 : decode cX6_act 157 = .ok (.istore 5, 2) := by decide +kernel
theorem dX6_act_159 : decode cX6_act 159 = .ok (.iload 5, 2) := by decide +kernel
theorem dX6_act_161 : decode cX6_act 161 = .ok (.aload_n 0, 1) := by decide +kernel
theorem dX6_act_162 : decode cX6_act 162 = .ok (.getfield 7, 3) := by decide +kernel
theorem dX6_act_165 : decode cX6_act 165 = .ok (.iload_n 1, 1) := by decide +kernel
theorem dX6_act_166 : decode cX6_act 166 = .ok (.iaload, 1) := by decide +kernel
theorem dX6_act_167 : decode cX6_act 167 = .ok (.if_icmp .ge 62, 3) := by decide +kernel
theorem dX6_act_170 : decode cX6_act 170 = .ok (.aload_n 0, 1) := by decide +kernel
theorem dX6_act_171 : decode cX6_act 171 = .ok (.iload_n 1, 1) := by decide +kernel
theorem dX6_act_172 : decode cX6_act 172 = .ok (.iload 5, 2) := by decide +kernel
theorem dX6_act_174 : decode cX6_act 174 = .ok (.invokevirtual 230, 3) := by decide +kernel
theorem dX6_act_177 : decode cX6_act 177 = .ok (.ifCond .eq 46, 3) := by decide +kernel
theorem dX6_act_180 : decode cX6_act 180 = .ok (.aload_n 0, 1) := by decide +kernel
theorem dX6_act_181 : decode cX6_act 181 = .ok (.getfield 28, 3) := by decide +kernel
theorem dX6_act_184 : decode cX6_act 184 = .ok (.iconst 5, 1) := by decide +kernel
theorem dX6_act_185 : decode cX6_act 185 = .ok (.iload_n 1, 1) := by decide +kernel
theorem dX6_act_186 : decode cX6_act 186 = .ok (.imul, 1) := by decide +kernel
theorem dX6_act_187 : decode cX6_act 187 = .ok (.iload 5, 2) := by decide +kernel
theorem dX6_act_189 : decode cX6_act 189 = .ok (.iadd, 1) := by decide +kernel
theorem dX6_act_190 : decode cX6_act 190 = .ok (.baload, 1) := by decide +kernel
theorem dX6_act_191 : decode cX6_act 191 = .ok (.ifCond .eq 6, 3) := by decide +kernel
theorem dX6_act_194 : decode cX6_act 194 = .ok (.goto 29, 3) := by decide +kernel
theorem dX6_act_197 : decode cX6_act 197 = .ok (.aload_n 0, 1) := by decide +kernel
theorem dX6_act_198 : decode cX6_act 198 = .ok (.iload_n 1, 1) := by decide +kernel
theorem dX6_act_199 : decode cX6_act 199 = .ok (.iload 5, 2) := by decide +kernel
theorem dX6_act_201 : decode cX6_act 201 = .ok (.invokevirtual 233, 3) := by decide +kernel
theorem dX6_act_204 : decode cX6_act 204 = .ok (.istore 6, 2) := by decide +kernel
theorem dX6_act_206 : decode cX6_act 206 = .ok (.iload 6, 2) := by decide +kernel
theorem dX6_act_208 : decode cX6_act 208 = .ok (.iload 4, 2) := by decide +kernel
theorem dX6_act_210 : decode cX6_act 210 = .ok (.if_icmp .lt 6, 3) := by decide +kernel
theorem dX6_act_213 : decode cX6_act 213 = .ok (.goto 10, 3) := by decide +kernel
theorem dX6_act_216 : decode cX6_act 216 = .ok (.iload 5, 2) := by decide +kernel
theorem dX6_act_218 : decode cX6_act 218 = .ok (.istore_n 3, 1) := by decide +kernel
theorem dX6_act_219 : decode cX6_act 219 = .ok (.iload 6, 2) := by decide +kernel
theorem dX6_act_221 : decode cX6_act 221 = .ok (.istore 4, 2) := by decide +kernel
theorem dX6_act_223 : decode cX6_act 223 = .ok (.iinc 5 1, 3) := by decide +kernel
theorem dX6_act_226 : decode cX6_act 226 = .ok (.goto (-67), 3) := by decide +kernel
theorem dX6_act_229 : decode cX6_act 229 = .ok (.sipush 200, 3) := by decide +kernel
theorem dX6_act_232 : decode cX6_act 232 = .ok (.bipush 10, 2) := by decide +kernel
theorem dX6_act_234 : decode cX6_act 234 = .ok (.iload_n 3, 1) := by decide +kernel
theorem dX6_act_235 : decode cX6_act 235 = .ok (.imul, 1) := by decide +kernel
theorem dX6_act_236 : decode cX6_act 236 = .ok (.iadd, 1) := by decide +kernel
theorem dX6_act_237 : decode cX6_act 237 = .ok (.ireturn, 1) := by decide +kernel
theorem dX6_about_0 : decode cX6_about 0 = .ok (.aload_n 0, 1) := by decide +kernel
theorem dX6_about_1 : decode cX6_about 1 = .ok (.iload_n 1, 1) := by decide +kernel
theorem dX6_about_2 : decode cX6_about 2 = .ok (.iload_n 2, 1) := by decide +kernel
theorem dX6_about_3 : decode cX6_about 3 = .ok (.invokevirtual 122, 3) := by decide +kernel
theorem dX6_about_6 : decode cX6_about 6 = .ok (.ifCond .ne 5, 3) := by decide +kernel
theorem dX6_about_9 : decode cX6_about 9 = .ok (.iconst (-1), 1) := by decide +kernel
theorem dX6_about_10 : decode cX6_about 10 = .ok (.ireturn, 1) := by decide +kernel
theorem dX6_about_11 : decode cX6_about 11 = .ok (.iconst 5, 1) := by decide +kernel
theorem dX6_about_12 : decode cX6_about 12 = .ok (.iload_n 1, 1) := by decide +kernel
theorem dX6_about_13 : decode cX6_about 13 = .ok (.imul, 1) := by decide +kernel
theorem dX6_about_14 : decode cX6_about 14 = .ok (.iload_n 2, 1) := by decide +kernel
theorem dX6_about_15 : decode cX6_about 15 = .ok (.iadd, 1) := by decide +kernel
theorem dX6_about_16 : decode cX6_about 16 = .ok (.istore 4, 2) := by decide +kernel
theorem dX6_about_18 : decode cX6_about 18 = .ok (.aload_n 0, 1) := by decide +kernel
theorem dX6_about_19 : decode cX6_about 19 = .ok (.iload 4, 2) := by decide +kernel
theorem dX6_about_21 : decode cX6_about 21 = .ok (.invokevirtual 153, 3) := by decide +kernel
theorem dX6_about_24 : decode cX6_about 24 = .ok (.istore 5, 2) := by decide +kernel
theorem dX6_about_26 : decode cX6_about 26 = .ok (.iload_n 3, 1) := by decide +kernel
theorem dX6_about_27 : decode cX6_about 27 = .ok (.tableswitch 112 0 4 #[33, 69, 81, 96, 104], 33) := by decide +kernel
theorem dX6_about_60 : decode cX6_about 60 = .ok (.aload_n 0, 1) := by decide +kernel
theorem dX6_about_61 : decode cX6_about 61 = .ok (.getfield 13, 3) := by decide +kernel
theorem dX6_about_64 : decode cX6_about 64 = .ok (.iload 4, 2) := by decide +kernel
theorem dX6_about_66 : decode cX6_about 66 = .ok (.iaload, 1) := by decide +kernel
theorem dX6_about_67 : decode cX6_about 67 = .ok (.iconst 1, 1) := by decide +kernel
theorem dX6_about_68 : decode cX6_about 68 = .ok (.if_icmp .eq 13, 3) := by decide +kernel
theorem dX6_about_71 : decode cX6_about 71 = .ok (.aload_n 0, 1) := by decide +kernel
theorem dX6_about_72 : decode cX6_about 72 = .ok (.getfield 25, 3) := by decide +kernel
theorem dX6_about_75 : decode cX6_about 75 = .ok (.iload 4, 2) := by decide +kernel
theorem dX6_about_77 : decode cX6_about 77 = .ok (.iaload, 1) := by decide +kernel
theorem dX6_about_78 : decode cX6_about 78 = .ok (.goto 17, 3) := by decide +kernel
theorem dX6_about_81 : decode cX6_about 81 = .ok (.iload 5, 2) := by decide +kernel
theorem dX6_about_83 : decode cX6_about 83 = .ok (.iconst (-1), 1) := by decide +kernel
theorem dX6_about_84 : decode cX6_about 84 = .ok (.if_icmp .ne 7, 3) := by decide +kernel
theorem dX6_about_87 : decode cX6_about 87 = .ok (.iconst 0, 1) := by decide +kernel
theorem dX6_about_88 : decode cX6_about 88 = .ok (.goto 7, 3) := by decide +kernel
theorem dX6_about_91 : decode cX6_about 91 = .ok (.iconst 1, 1) := by decide +kernel
theorem dX6_about_92 : decode cX6_about 92 = .ok (.iload 5, 2) := by decide +kernel
theorem dX6_about_94 : decode cX6_about 94 = .ok (.ishl, 1) := by decide +kernel
theorem dX6_about_95 : decode cX6_about 95 = .ok (.ireturn, 1) := by decide +kernel
theorem dX6_about_96 : decode cX6_about 96 = .ok (.iload 5, 2) := by decide +kernel
theorem dX6_about_98 : decode cX6_about 98 = .ok (.iconst (-1), 1) := by decide +kernel
theorem dX6_about_99 : decode cX6_about 99 = .ok (.if_icmp .ne 7, 3) := by decide +kernel
theorem dX6_about_102 : decode cX6_about 102 = .ok (.iconst 0, 1) := by decide +kernel
theorem dX6_about_103 : decode cX6_about 103 = .ok (.goto 4, 3) := by decide +kernel
theorem dX6_about_106 : decode cX6_about 106 = .ok (.iconst 1, 1) := by decide +kernel
theorem dX6_about_107 : decode cX6_about 107 = .ok (.ireturn, 1) := by decide +kernel
theorem dX6_about_108 : decode cX6_about 108 = .ok (.aload_n 0, 1) := by decide +kernel
theorem dX6_about_109 : decode cX6_about 109 = .ok (.iload_n 1, 1) := by decide +kernel
theorem dX6_about_110 : decode cX6_about 110 = .ok (.iload_n 2, 1) := by decide +kernel
theorem dX6_about_111 : decode cX6_about 111 = .ok (.invokevirtual 230, 3) := by decide +kernel
theorem dX6_about_114 : decode cX6_about 114 = .ok (.ifCond .eq 7, 3) := by decide +kernel
theorem dX6_about_117 : decode cX6_about 117 = .ok (.iconst 1, 1) := by decide +kernel
theorem dX6_about_118 : decode cX6_about 118 = .ok (.goto 4, 3) := by decide +kernel
theorem dX6_about_121 : decode cX6_about 121 = .ok (.iconst 0, 1) := by decide +kernel
theorem dX6_about_122 : decode cX6_about 122 = .ok (.ireturn, 1) := by decide +kernel
theorem dX6_about_123 : decode cX6_about 123 = .ok (.aload_n 0, 1) := by decide +kernel
theorem dX6_about_124 : decode cX6_about 124 = .ok (.getfield 13, 3) := by decide +kernel
theorem dX6_about_127 : decode cX6_about 127 = .ok (.iload 4, 2) := by decide +kernel
theorem dX6_about_129 : decode cX6_about 129 = .ok (.iaload, 1) := by decide +kernel
theorem dX6_about_130 : decode cX6_about 130 = .ok (.ireturn, 1) := by decide +kernel
theorem dX6_about_131 : decode cX6_about 131 = .ok (.aload_n 0, 1) := by decide +kernel
theorem dX6_about_132 : decode cX6_about 132 = .ok (.getfield 16, 3) := by decide +kernel
theorem dX6_about_135 : decode cX6_about 135 = .ok (.iload 4, 2) := by decide +kernel
theorem dX6_about_137 : decode cX6_about 137 = .ok (.iaload, 1) := by decide +kernel
theorem dX6_about_138 : decode cX6_about 138 = .ok (.ireturn, 1) := by decide +kernel
theorem dX6_about_139 : decode cX6_about 139 = .ok (.iconst (-1), 1) := by decide +kernel
theorem dX6_about_140 : decode cX6_about 140 = .ok (.ireturn, 1) := by decide +kernel
theorem dX6_said_0 : decode cX6_said 0 = .ok (.aload_n 0, 1) := by decide +kernel
theorem dX6_said_1 : decode cX6_said 1 = .ok (.iload_n 1, 1) := by decide +kernel
theorem dX6_said_2 : decode cX6_said 2 = .ok (.iload_n 2, 1) := by decide +kernel
theorem dX6_said_3 : decode cX6_said 3 = .ok (.iload_n 3, 1) := by decide +kernel
theorem dX6_said_4 : decode cX6_said 4 = .ok (.invokevirtual 136, 3) := by decide +kernel
theorem dX6_said_7 : decode cX6_said 7 = .ok (.ifCond .ne 5, 3) := by decide +kernel
theorem dX6_said_10 : decode cX6_said 10 = .ok (.iconst (-1), 1) := by decide +kernel
theorem dX6_said_11 : decode cX6_said 11 = .ok (.ireturn, 1) := by decide +kernel
theorem dX6_said_12 : decode cX6_said 12 = .ok (.iconst 0, 1) := by decide +kernel
theorem dX6_said_13 : decode cX6_said 13 = .ok (.istore 4, 2) := by decide +kernel
theorem dX6_said_15 : decode cX6_said 15 = .ok (.iload 4, 2) := by decide +kernel
theorem dX6_said_17 : decode cX6_said 17 = .ok (.bipush 64, 2) := by decide +kernel
theorem dX6_said_19 : decode cX6_said 19 = .ok (.if_icmp .ge 32, 3) := by decide +kernel
theorem dX6_said_22 : decode cX6_said 22 = .ok (.aload_n 0, 1) := by decide +kernel
theorem dX6_said_23 : decode cX6_said 23 = .ok (.getfield 50, 3) := by decide +kernel
theorem dX6_said_26 : decode cX6_said 26 = .ok (.bipush 64, 2) := by decide +kernel
theorem dX6_said_28 : decode cX6_said 28 = .ok (.iload_n 1, 1) := by decide +kernel
theorem dX6_said_29 : decode cX6_said 29 = .ok (.imul, 1) := by decide +kernel
theorem dX6_said_30 : decode cX6_said 30 = .ok (.iload 4, 2) := by decide +kernel
theorem dX6_said_32 : decode cX6_said 32 = .ok (.iadd, 1) := by decide +kernel
theorem dX6_said_33 : decode cX6_said 33 = .ok (.iaload, 1) := by decide +kernel
theorem dX6_said_34 : decode cX6_said 34 = .ok (.iconst 4, 1) := by decide +kernel
theorem dX6_said_35 : decode cX6_said 35 = .ok (.iload_n 2, 1) := by decide +kernel
theorem dX6_said_36 : decode cX6_said 36 = .ok (.imul, 1) := by decide +kernel
theorem dX6_said_37 : decode cX6_said 37 = .ok (.iload_n 3, 1) := by decide +kernel
theorem dX6_said_38 : decode cX6_said 38 = .ok (.iadd, 1) := by decide +kernel
theorem dX6_said_39 : decode cX6_said 39 = .ok (.if_icmp .ne 6, 3) := by decide +kernel
theorem dX6_said_42 : decode cX6_said 42 = .ok (.iload 4, 2) := by decide +kernel
theorem dX6_said_44 : decode cX6_said 44 = .ok (.ireturn, 1) := by decide +kernel
theorem dX6_said_45 : decode cX6_said 45 = .ok (.iinc 4 1, 3) := by decide +kernel
theorem dX6_said_48 : decode cX6_said 48 = .ok (.goto (-33), 3) := by decide +kernel
theorem dX6_said_51 : decode cX6_said 51 = .ok (.iconst (-1), 1) := by decide +kernel
theorem dX6_said_52 : decode cX6_said 52 = .ok (.ireturn, 1) := by decide +kernel
theorem dX6_heard_0 : decode cX6_heard 0 = .ok (.iload_n 1, 1) := by decide +kernel
theorem dX6_heard_1 : decode cX6_heard 1 = .ok (.tableswitch 60 0 4 #[35, 40, 45, 50, 55], 35) := by decide +kernel
theorem dX6_heard_36 : decode cX6_heard 36 = .ok (.aload_n 0, 1) := by decide +kernel
theorem dX6_heard_37 : decode cX6_heard 37 = .ok (.getfield 200, 3) := by decide +kernel
theorem dX6_heard_40 : decode cX6_heard 40 = .ok (.ireturn, 1) := by decide +kernel
theorem dX6_heard_41 : decode cX6_heard 41 = .ok (.aload_n 0, 1) := by decide +kernel
theorem dX6_heard_42 : decode cX6_heard 42 = .ok (.getfield 203, 3) := by decide +kernel
theorem dX6_heard_45 : decode cX6_heard 45 = .ok (.ireturn, 1) := by decide +kernel
theorem dX6_heard_46 : decode cX6_heard 46 = .ok (.aload_n 0, 1) := by decide +kernel
theorem dX6_heard_47 : decode cX6_heard 47 = .ok (.getfield 206, 3) := by decide +kernel
theorem dX6_heard_50 : decode cX6_heard 50 = .ok (.ireturn, 1) := by decide +kernel
theorem dX6_heard_51 : decode cX6_heard 51 = .ok (.aload_n 0, 1) := by decide +kernel
theorem dX6_heard_52 : decode cX6_heard 52 = .ok (.getfield 209, 3) := by decide +kernel
theorem dX6_heard_55 : decode cX6_heard 55 = .ok (.ireturn, 1) := by decide +kernel
theorem dX6_heard_56 : decode cX6_heard 56 = .ok (.aload_n 0, 1) := by decide +kernel
theorem dX6_heard_57 : decode cX6_heard 57 = .ok (.getfield 102, 3) := by decide +kernel
theorem dX6_heard_60 : decode cX6_heard 60 = .ok (.ireturn, 1) := by decide +kernel
theorem dX6_heard_61 : decode cX6_heard 61 = .ok (.iconst (-1), 1) := by decide +kernel
theorem dX6_heard_62 : decode cX6_heard 62 = .ok (.ireturn, 1) := by decide +kernel
theorem dX6_count_0 : decode cX6_count 0 = .ok (.iload_n 1, 1) := by decide +kernel
theorem dX6_count_1 : decode cX6_count 1 = .ok (.tableswitch 114 0 7 #[47, 52, 75, 89, 94, 99, 104, 109], 47) := by decide +kernel
theorem dX6_count_48 : decode cX6_count 48 = .ok (.aload_n 0, 1) := by decide +kernel
theorem dX6_count_49 : decode cX6_count 49 = .ok (.getfield 126, 3) := by decide +kernel
theorem dX6_count_52 : decode cX6_count 52 = .ok (.ireturn, 1) := by decide +kernel
theorem dX6_count_53 : decode cX6_count 53 = .ok (.aload_n 0, 1) := by decide +kernel
theorem dX6_count_54 : decode cX6_count 54 = .ok (.getfield 126, 3) := by decide +kernel
theorem dX6_count_57 : decode cX6_count 57 = .ok (.ifCond .ne 7, 3) := by decide +kernel
theorem dX6_count_60 : decode cX6_count 60 = .ok (.iconst (-1), 1) := by decide +kernel
theorem dX6_count_61 : decode cX6_count 61 = .ok (.goto 14, 3) := by decide +kernel
theorem dX6_count_64 : decode cX6_count 64 = .ok (.aload_n 0, 1) := by decide +kernel
theorem dX6_count_65 : decode cX6_count 65 = .ok (.getfield 71, 3) := by decide +kernel
theorem dX6_count_68 : decode cX6_count 68 = .ok (.aload_n 0, 1) := by decide +kernel
theorem dX6_count_69 : decode cX6_count 69 = .ok (.getfield 126, 3) := by decide +kernel
theorem dX6_count_72 : decode cX6_count 72 = .ok (.iconst 1, 1) := by decide +kernel
theorem dX6_count_73 : decode cX6_count 73 = .ok (.isub, 1) := by decide +kernel
theorem dX6_count_74 : decode cX6_count 74 = .ok (.iaload, 1) := by decide +kernel
theorem dX6_count_75 : decode cX6_count 75 = .ok (.ireturn, 1) := by decide +kernel
theorem dX6_count_76 : decode cX6_count 76 = .ok (.aload_n 0, 1) := by decide +kernel
theorem dX6_count_77 : decode cX6_count 77 = .ok (.getfield 215, 3) := by decide +kernel
theorem dX6_count_80 : decode cX6_count 80 = .ok (.iconst 3, 1) := by decide +kernel
theorem dX6_count_81 : decode cX6_count 81 = .ok (.if_icmp .lt 7, 3) := by decide +kernel
theorem dX6_count_84 : decode cX6_count 84 = .ok (.iconst 1, 1) := by decide +kernel
theorem dX6_count_85 : decode cX6_count 85 = .ok (.goto 4, 3) := by decide +kernel
theorem dX6_count_88 : decode cX6_count 88 = .ok (.iconst 0, 1) := by decide +kernel
theorem dX6_count_89 : decode cX6_count 89 = .ok (.ireturn, 1) := by decide +kernel
theorem dX6_count_90 : decode cX6_count 90 = .ok (.aload_n 0, 1) := by decide +kernel
theorem dX6_count_91 : decode cX6_count 91 = .ok (.getfield 156, 3) := by decide +kernel
theorem dX6_count_94 : decode cX6_count 94 = .ok (.ireturn, 1) := by decide +kernel
theorem dX6_count_95 : decode cX6_count 95 = .ok (.aload_n 0, 1) := by decide +kernel
theorem dX6_count_96 : decode cX6_count 96 = .ok (.getfield 159, 3) := by decide +kernel
theorem dX6_count_99 : decode cX6_count 99 = .ok (.ireturn, 1) := by decide +kernel
theorem dX6_count_100 : decode cX6_count 100 = .ok (.aload_n 0, 1) := by decide +kernel
theorem dX6_count_101 : decode cX6_count 101 = .ok (.getfield 143, 3) := by decide +kernel
theorem dX6_count_104 : decode cX6_count 104 = .ok (.ireturn, 1) := by decide +kernel
theorem dX6_count_105 : decode cX6_count 105 = .ok (.aload_n 0, 1) := by decide +kernel
theorem dX6_count_106 : decode cX6_count 106 = .ok (.getfield 111, 3) := by decide +kernel
theorem dX6_count_109 : decode cX6_count 109 = .ok (.ireturn, 1) := by decide +kernel
theorem dX6_count_110 : decode cX6_count 110 = .ok (.aload_n 0, 1) := by decide +kernel
theorem dX6_count_111 : decode cX6_count 111 = .ok (.getfield 146, 3) := by decide +kernel
theorem dX6_count_114 : decode cX6_count 114 = .ok (.ireturn, 1) := by decide +kernel
theorem dX6_count_115 : decode cX6_count 115 = .ok (.iconst (-1), 1) := by decide +kernel
theorem dX6_count_116 : decode cX6_count 116 = .ok (.ireturn, 1) := by decide +kernel
