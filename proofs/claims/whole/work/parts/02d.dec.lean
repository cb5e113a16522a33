theorem dX6_init_0 : decode cX6_init 0 = .ok (.aload_n 0, 1) := by decide +kernel
theorem dX6_init_1 : decode cX6_init 1 = .ok (.invokespecial 1, 3) := by decide +kernel
theorem dX6_init_4 : decode cX6_init 4 = .ok (.aload_n 0, 1) := by decide +kernel
theorem dX6_init_5 : decode cX6_init 5 = .ok (.iconst 3, 1) := by decide +kernel
theorem dX6_init_6 : decode cX6_init 6 = .ok (.newarray .int, 2) := by decide +kernel
theorem dX6_init_8 : decode cX6_init 8 = .ok (.putfield 7, 3) := by decide +kernel
theorem dX6_init_11 : decode cX6_init 11 = .ok (.aload_n 0, 1) := by decide +kernel
theorem dX6_init_12 : decode cX6_init 12 = .ok (.bipush 15, 2) := by decide +kernel
theorem dX6_init_14 : decode cX6_init 14 = .ok (.newarray .int, 2) := by decide +kernel
theorem dX6_init_16 : decode cX6_init 16 = .ok (.putfield 13, 3) := by decide +kernel
theorem dX6_init_19 : decode cX6_init 19 = .ok (.aload_n 0, 1) := by decide +kernel
theorem dX6_init_20 : decode cX6_init 20 = .ok (.bipush 15, 2) := by decide +kernel
theorem dX6_init_22 : decode cX6_init 22 = .ok (.newarray .int, 2) := by decide +kernel
theorem dX6_init_24 : decode cX6_init 24 = .ok (.putfield 16, 3) := by decide +kernel
theorem dX6_init_27 : decode cX6_init 27 = .ok (.aload_n 0, 1) := by decide +kernel
theorem dX6_init_28 : decode cX6_init 28 = .ok (.bipush 15, 2) := by decide +kernel
theorem dX6_init_30 : decode cX6_init 30 = .ok (.newarray .int, 2) := by decide +kernel
theorem dX6_init_32 : decode cX6_init 32 = .ok (.putfield 19, 3) := by decide +kernel
theorem dX6_init_35 : decode cX6_init 35 = .ok (.aload_n 0, 1) := by decide +kernel
theorem dX6_init_36 : decode cX6_init 36 = .ok (.bipush 15, 2) := by decide +kernel
theorem dX6_init_38 : decode cX6_init 38 = .ok (.newarray .int, 2) := by decide +kernel
theorem dX6_init_40 : decode cX6_init 40 = .ok (.putfield 22, 3) := by decide +kernel
theorem dX6_init_43 : decode cX6_init 43 = .ok (.aload_n 0, 1) := by decide +kernel
theorem dX6_init_44 : decode cX6_init 44 = .ok (.bipush 15, 2) := by decide +kernel
theorem dX6_init_46 : decode cX6_init 46 = .ok (.newarray .int, 2) := by decide +kernel
theorem dX6_init_48 : decode cX6_init 48 = .ok (.putfield 25, 3) := by decide +kernel
theorem dX6_init_51 : decode cX6_init 51 = .ok (.aload_n 0, 1) := by decide +kernel
theorem dX6_init_52 : decode cX6_init 52 = .ok (.bipush 15, 2) := by decide +kernel
theorem dX6_init_54 : decode cX6_init 54 = .ok (.newarray .boolean, 2) := by decide +kernel
theorem dX6_init_56 : decode cX6_init 56 = .ok (.putfield 28, 3) := by decide +kernel
theorem dX6_init_59 : decode cX6_init 59 = .ok (.aload_n 0, 1) := by decide +kernel
theorem dX6_init_60 : decode cX6_init 60 = .ok (.iconst 3, 1) := by decide +kernel
theorem dX6_init_61 : decode cX6_init 61 = .ok (.newarray .int, 2) := by decide +kernel
theorem dX6_init_63 : decode cX6_init 63 = .ok (.putfield 32, 3) := by decide +kernel
theorem dX6_init_66 : decode cX6_init 66 = .ok (.aload_n 0, 1) := by decide +kernel
theorem dX6_init_67 : decode cX6_init 67 = .ok (.bipush 18, 2) := by decide +kernel
theorem dX6_init_69 : decode cX6_init 69 = .ok (.newarray .boolean, 2) := by decide +kernel
theorem dX6_init_71 : decode cX6_init 71 = .ok (.putfield 35, 3) := by decide +kernel
theorem dX6_init_74 : decode cX6_init 74 = .ok (.aload_n 0, 1) := by decide +kernel
theorem dX6_init_75 : decode cX6_init 75 = .ok (.bipush 18, 2) := by decide +kernel
theorem dX6_init_77 : decode cX6_init 77 = .ok (.newarray .int, 2) := by decide +kernel
theorem dX6_init_79 : decode cX6_init 79 = .ok (.putfield 38, 3) := by decide +kernel
theorem dX6_init_82 : decode cX6_init 82 = .ok (.aload_n 0, 1) := by decide +kernel
theorem dX6_init_83 : decode cX6_init 83 = .ok (.bipush 18, 2) := by decide +kernel
theorem dX6_init_85 : decode cX6_init 85 = .ok (.newarray .int, 2) := by decide +kernel
theorem dX6_init_87 : decode cX6_init 87 = .ok (.putfield 41, 3) := by decide +kernel
theorem dX6_init_90 : decode cX6_init 90 = .ok (.aload_n 0, 1) := by decide +kernel
theorem dX6_init_91 : decode cX6_init 91 = .ok (.bipush 18, 2) := by decide +kernel
theorem dX6_init_93 : decode cX6_init 93 = .ok (.newarray .int, 2) := by decide +kernel
theorem dX6_init_95 : decode cX6_init 95 = .ok (.putfield 44, 3) := by decide +kernel
theorem dX6_init_98 : decode cX6_init 98 = .ok (.aload_n 0, 1) := by decide +kernel
theorem dX6_init_99 : decode cX6_init 99 = .ok (.bipush 18, 2) := by decide +kernel
theorem dX6_init_101 : decode cX6_init 101 = .ok (.newarray .int, 2) := by decide +kernel
theorem dX6_init_103 : decode cX6_init 103 = .ok (.putfield 47, 3) := by decide +kernel
theorem dX6_init_106 : decode cX6_init 106 = .ok (.aload_n 0, 1) := by decide +kernel
theorem dX6_init_107 : decode cX6_init 107 = .ok (.sipush 192, 3) := by decide +kernel
theorem dX6_init_110 : decode cX6_init 110 = .ok (.newarray .int, 2) := by decide +kernel
theorem dX6_init_112 : decode cX6_init 112 = .ok (.putfield 50, 3) := by decide +kernel
theorem dX6_init_115 : decode cX6_init 115 = .ok (.aload_n 0, 1) := by decide +kernel
theorem dX6_init_116 : decode cX6_init 116 = .ok (.bipush 20, 2) := by decide +kernel
theorem dX6_init_118 : decode cX6_init 118 = .ok (.newarray .int, 2) := by decide +kernel
theorem dX6_init_120 : decode cX6_init 120 = .ok (.putfield 53, 3) := by decide +kernel
theorem dX6_init_123 : decode cX6_init 123 = .ok (.aload_n 0, 1) := by decide +kernel
theorem dX6_init_124 : decode cX6_init 124 = .ok (.bipush 20, 2) := by decide +kernel
theorem dX6_init_126 : decode cX6_init 126 = .ok (.newarray .int, 2) := by decide +kernel
theorem dX6_init_128 : decode cX6_init 128 = .ok (.putfield 56, 3) := by decide +kernel
theorem dX6_init_131 : decode cX6_init 131 = .ok (.aload_n 0, 1) := by decide +kernel
theorem dX6_init_132 : decode cX6_init 132 = .ok (.bipush 20, 2) := by decide +kernel
theorem dX6_init_134 : decode cX6_init 134 = .ok (.newarray .int, 2) := by decide +kernel
theorem dX6_init_136 : decode cX6_init 136 = .ok (.putfield 59, 3) := by decide +kernel
theorem dX6_init_139 : decode cX6_init 139 = .ok (.aload_n 0, 1) := by decide +kernel
theorem dX6_init_140 : decode cX6_init 140 = .ok (.bipush 20, 2) := by decide +kernel
theorem dX6_init_142 : decode cX6_init 142 = .ok (.newarray .int, 2) := by decide +kernel
theorem dX6_init_144 : decode cX6_init 144 = .ok (.putfield 62, 3) := by decide +kernel
theorem dX6_init_147 : decode cX6_init 147 = .ok (.aload_n 0, 1) := by decide +kernel
theorem dX6_init_148 : decode cX6_init 148 = .ok (.bipush 84, 2) := by decide +kernel
theorem dX6_init_150 : decode cX6_init 150 = .ok (.newarray .int, 2) := by decide +kernel
theorem dX6_init_152 : decode cX6_init 152 = .ok (.putfield 65, 3) := by decide +kernel
theorem dX6_init_155 : decode cX6_init 155 = .ok (.aload_n 0, 1) := by decide +kernel
theorem dX6_init_156 : decode cX6_init 156 = .ok (.bipush 84, 2) := by decide +kernel
theorem dX6_init_158 : decode cX6_init 158 = .ok (.newarray .int, 2) := by decide +kernel
theorem dX6_init_160 : decode cX6_init 160 = .ok (.putfield 68, 3) := by decide +kernel
theorem dX6_init_163 : decode cX6_init 163 = .ok (.aload_n 0, 1) := by decide +kernel
theorem dX6_init_164 : decode cX6_init 164 = .ok (.iconst 3, 1) := by decide +kernel
theorem dX6_init_165 : decode cX6_init 165 = .ok (.newarray .int, 2) := by decide +kernel
theorem dX6_init_167 : decode cX6_init 167 = .ok (.putfield 71, 3) := by decide +kernel
theorem dX6_init_170 : decode cX6_init 170 = .ok (.aload_n 0, 1) := by decide +kernel
theorem dX6_init_171 : decode cX6_init 171 = .ok (.sipush 150, 3) := by decide +kernel
theorem dX6_init_174 : decode cX6_init 174 = .ok (.newarray .int, 2) := by decide +kernel
theorem dX6_init_176 : decode cX6_init 176 = .ok (.putfield 74, 3) := by decide +kernel
theorem dX6_init_179 : decode cX6_init 179 = .ok (.aload_n 0, 1) := by decide +kernel
theorem dX6_init_180 : decode cX6_init 180 = .ok (.sipush 150, 3) := by decide +kernel
theorem dX6_init_183 : decode cX6_init 183 = .ok (.newarray .boolean, 2) := by decide +kernel
theorem dX6_init_185 : decode cX6_init 185 = .ok (.putfield 77, 3) := by decide +kernel
theorem dX6_init_188 : decode cX6_init 188 = .ok (.aload_n 0, 1) := by decide +kernel
theorem dX6_init_189 : decode cX6_init 189 = .ok (.iconst (-1), 1) := by decide +kernel
theorem dX6_init_190 : decode cX6_init 190 = .ok (.putfield 80, 3) := by decide +kernel
theorem dX6_init_193 : decode cX6_init 193 = .ok (.aload_n 0, 1) := by decide +kernel
theorem dX6_init_194 : decode cX6_init 194 = .ok (.bipush 8, 2) := by decide +kernel
theorem dX6_init_196 : decode cX6_init 196 = .ok (.newarray .int, 2) := by decide +kernel
theorem dX6_init_198 : decode cX6_init 198 = .ok (.putfield 84, 3) := by decide +kernel
theorem dX6_init_201 : decode cX6_init 201 = .ok (.aload_n 0, 1) := by decide +kernel
theorem dX6_init_202 : decode cX6_init 202 = .ok (.bipush 9, 2) := by decide +kernel
theorem dX6_init_204 : decode cX6_init 204 = .ok (.newarray .int, 2) := by decide +kernel
theorem dX6_init_206 : decode cX6_init 206 = .ok (.putfield 87, 3) := by decide +kernel
theorem dX6_init_209 : decode cX6_init 209 = .ok (.aload_n 0, 1) := by decide +kernel
theorem dX6_init_210 : decode cX6_init 210 = .ok (.bipush 9, 2) := by decide +kernel
theorem dX6_init_212 : decode cX6_init 212 = .ok (.newarray .int, 2) := by decide +kernel
theorem dX6_init_214 : decode cX6_init 214 = .ok (.putfield 90, 3) := by decide +kernel
theorem dX6_init_217 : decode cX6_init 217 = .ok (.aload_n 0, 1) := by decide +kernel
theorem dX6_init_218 : decode cX6_init 218 = .ok (.bipush 9, 2) := by decide +kernel
theorem dX6_init_220 : decode cX6_init 220 = .ok (.newarray .int, 2) := by decide +kernel
theorem dX6_init_222 : decode cX6_init 222 = .ok (.putfield 93, 3) := by decide +kernel
theorem dX6_init_225 : decode cX6_init 225 = .ok (.aload_n 0, 1) := by decide +kernel
theorem dX6_init_226 : decode cX6_init 226 = .ok (.bipush 9, 2) := by decide +kernel
theorem dX6_init_228 : decode cX6_init 228 = .ok (.newarray .boolean, 2) := by decide +kernel
theorem dX6_init_230 : decode cX6_init 230 = .ok (.putfield 96, 3) := by decide +kernel
theorem dX6_init_233 : decode cX6_init 233 = .ok (.aload_n 0, 1) := by decide +kernel
theorem dX6_init_234 : decode cX6_init 234 = .ok (.bipush 9, 2) := by decide +kernel
theorem dX6_init_236 : decode cX6_init 236 = .ok (.newarray .int, 2) := by decide +kernel
theorem dX6_init_238 : decode cX6_init 238 = .ok (.putfield 99, 3) := by decide +kernel
theorem dX6_init_241 : decode cX6_init 241 = .ok (.aload_n 0, 1) := by decide +kernel
theorem dX6_init_242 : decode cX6_init 242 = .ok (.iconst (-1), 1) := by decide +kernel
theorem dX6_init_243 : decode cX6_init 243 = .ok (.putfield 102, 3) := by decide +kernel
theorem dX6_init_246 : decode cX6_init 246 = .ok (.aload_n 0, 1) := by decide +kernel
theorem dX6_init_247 : decode cX6_init 247 = .ok (.sipush 3125, 3) := by decide +kernel
theorem dX6_init_250 : decode cX6_init 250 = .ok (.newarray .int, 2) := by decide +kernel
theorem dX6_init_252 : decode cX6_init 252 = .ok (.putfield 105, 3) := by decide +kernel
theorem dX6_init_255 : decode cX6_init 255 = .ok (.return_, 1) := by decide +kernel
theorem dX6_in_0 : decode cX6_in 0 = .ok (.iload_n 0, 1) := by decide +kernel
theorem dX6_in_1 : decode cX6_in 1 = .ok (.iload_n 1, 1) := by decide +kernel
theorem dX6_in_2 : decode cX6_in 2 = .ok (.if_icmp .lt 12, 3) := by decide +kernel
theorem dX6_in_5 : decode cX6_in 5 = .ok (.iload_n 0, 1) := by decide +kernel
theorem dX6_in_6 : decode cX6_in 6 = .ok (.iload_n 2, 1) := by decide +kernel
theorem dX6_in_7 : decode cX6_in 7 = .ok (.if_icmp .gt 7, 3) := by decide +kernel
theorem dX6_in_10 : decode cX6_in 10 = .ok (.iconst 1, 1) := by decide +kernel
theorem dX6_in_11 : decode cX6_in 11 = .ok (.goto 4, 3) := by decide +kernel
theorem dX6_in_14 : decode cX6_in 14 = .ok (.iconst 0, 1) := by decide +kernel
theorem dX6_in_15 : decode cX6_in 15 = .ok (.ireturn, 1) := by decide +kernel
theorem dX6_isForm_0 : decode cX6_isForm 0 = .ok (.iload_n 1, 1) := by decide +kernel
theorem dX6_isForm_1 : decode cX6_isForm 1 = .ok (.iconst 0, 1) := by decide +kernel
theorem dX6_isForm_2 : decode cX6_isForm 2 = .ok (.aload_n 0, 1) := by decide +kernel
theorem dX6_isForm_3 : decode cX6_isForm 3 = .ok (.getfield 111, 3) := by decide +kernel
theorem dX6_isForm_6 : decode cX6_isForm 6 = .ok (.iconst 1, 1) := by decide +kernel
theorem dX6_isForm_7 : decode cX6_isForm 7 = .ok (.isub, 1) := by decide +kernel
theorem dX6_isForm_8 : decode cX6_isForm 8 = .ok (.invokestatic 114, 3) := by decide +kernel
theorem dX6_isForm_11 : decode cX6_isForm 11 = .ok (.ireturn, 1) := by decide +kernel
theorem dX6_isPlace_0 : decode cX6_isPlace 0 = .ok (.aload_n 0, 1) := by decide +kernel
theorem dX6_isPlace_1 : decode cX6_isPlace 1 = .ok (.iload_n 1, 1) := by decide +kernel
theorem dX6_isPlace_2 : decode cX6_isPlace 2 = .ok (.invokevirtual 118, 3) := by decide +kernel
theorem dX6_isPlace_5 : decode cX6_isPlace 5 = .ok (.ifCond .eq 23, 3) := by decide +kernel
theorem dX6_isPlace_8 : decode cX6_isPlace 8 = .ok (.iload_n 2, 1) := by decide +kernel
theorem dX6_isPlace_9 : decode cX6_isPlace 9 = .ok (.iconst 0, 1) := by decide +kernel
theorem dX6_isPlace_10 : decode cX6_isPlace 10 = .ok (.aload_n 0, 1) := by decide +kernel
theorem dX6_isPlace_11 : decode cX6_isPlace 11 = .ok (.getfield 7, 3) := by decide +kernel
theorem dX6_isPlace_14 : decode cX6_isPlace 14 = .ok (.iload_n 1, 1) := by decide +kernel
theorem dX6_isPlace_15 : decode cX6_isPlace 15 = .ok (.iaload, 1) := by decide +kernel
theorem dX6_isPlace_16 : decode cX6_isPlace 16 = .ok (.iconst 1, 1) := by decide +kernel
theorem dX6_isPlace_17 : decode cX6_isPlace 17 = .ok (.isub, 1) := by decide +kernel
theorem dX6_isPlace_18 : decode cX6_isPlace 18 = .ok (.invokestatic 114, 3) := by decide +kernel
theorem dX6_isPlace_21 : decode cX6_isPlace 21 = .ok (.ifCond .eq 7, 3) := by decide +kernel
theorem dX6_isPlace_24 : decode cX6_isPlace 24 = .ok (.iconst 1, 1) := by decide +kernel
theorem dX6_isPlace_25 : decode cX6_isPlace 25 = .ok (.goto 4, 3) := by decide +kernel
theorem dX6_isPlace_28 : decode cX6_isPlace 28 = .ok (.iconst 0, 1) := by decide +kernel
theorem dX6_isPlace_29 : decode cX6_isPlace 29 = .ok (.ireturn, 1) := by decide +kernel
theorem dX6_isValue_0 : decode cX6_isValue 0 = .ok (.aload_n 0, 1) := by decide +kernel
theorem dX6_isValue_1 : decode cX6_isValue 1 = .ok (.iload_n 1, 1) := by decide +kernel
theorem dX6_isValue_2 : decode cX6_isValue 2 = .ok (.iload_n 2, 1) := by decide +kernel
theorem dX6_isValue_3 : decode cX6_isValue 3 = .ok (.invokevirtual 122, 3) := by decide +kernel
theorem dX6_isValue_6 : decode cX6_isValue 6 = .ok (.ifCond .eq 27, 3) := by decide +kernel
theorem dX6_isValue_9 : decode cX6_isValue 9 = .ok (.iload_n 3, 1) := by decide +kernel
theorem dX6_isValue_10 : decode cX6_isValue 10 = .ok (.iconst 0, 1) := by decide +kernel
theorem dX6_isValue_11 : decode cX6_isValue 11 = .ok (.aload_n 0, 1) := by decide +kernel
theorem dX6_isValue_12 : decode cX6_isValue 12 = .ok (.getfield 16, 3) := by decide +kernel
theorem dX6_isValue_15 : decode cX6_isValue 15 = .ok (.iconst 5, 1) := by decide +kernel
theorem dX6_isValue_16 : decode cX6_isValue 16 = .ok (.iload_n 1, 1) := by decide +kernel
theorem dX6_isValue_17 : decode cX6_isValue 17 = .ok (.imul, 1) := by decide +kernel
theorem dX6_isValue_18 : decode cX6_isValue 18 = .ok (.iload_n 2, 1) := by decide +kernel
theorem dX6_isValue_19 : decode cX6_isValue 19 = .ok (.iadd, 1) := by decide +kernel
theorem dX6_isValue_20 : decode cX6_isValue 20 = .ok (.iaload, 1) := by decide +kernel
theorem dX6_isValue_21 : decode cX6_isValue 21 = .ok (.iconst 1, 1) := by decide +kernel
theorem dX6_isValue_22 : decode cX6_isValue 22 = .ok (.isub, 1) := by decide +kernel
theorem dX6_isValue_23 : decode cX6_isValue 23 = .ok (.invokestatic 114, 3) := by decide +kernel
theorem dX6_isValue_26 : decode cX6_isValue 26 = .ok (.ifCond .eq 7, 3) := by decide +kernel
theorem dX6_isValue_29 : decode cX6_isValue 29 = .ok (.iconst 1, 1) := by decide +kernel
theorem dX6_isValue_30 : decode cX6_isValue 30 = .ok (.goto 4, 3) := by decide +kernel
theorem dX6_isValue_33 : decode cX6_isValue 33 = .ok (.iconst 0, 1) := by decide +kernel
theorem dX6_isValue_34 : decode cX6_isValue 34 = .ok (.ireturn, 1) := by decide +kernel
theorem dX6_isOpen_0 : decode cX6_isOpen 0 = .ok (.iconst 0, 1) := by decide +kernel
theorem dX6_isOpen_1 : decode cX6_isOpen 1 = .ok (.istore_n 2, 1) := by decide +kernel
theorem dX6_isOpen_2 : decode cX6_isOpen 2 = .ok (.iconst 0, 1) := by decide +kernel
theorem dX6_isOpen_3 : decode cX6_isOpen 3 = .ok (.istore_n 3, 1) := by decide +kernel
theorem dX6_isOpen_4 : decode cX6_isOpen 4 = .ok (.iload_n 3, 1) := by decide +kernel
theorem dX6_isOpen_5 : decode cX6_isOpen 5 = .ok (.aload_n 0, 1) := by decide +kernel
theorem dX6_isOpen_6 : decode cX6_isOpen 6 = .ok (.getfield 126, 3) := by decide +kernel
theorem dX6_isOpen_9 : decode cX6_isOpen 9 = .ok (.if_icmp .ge 29, 3) := by decide +kernel
theorem dX6_isOpen_12 : decode cX6_isOpen 12 = .ok (.iload_n 2, 1) := by decide +kernel
theorem dX6_isOpen_13 : decode cX6_isOpen 13 = .ok (.ifCond .ne 13, 3) := by decide +kernel
theorem dX6_isOpen_16 : decode cX6_isOpen 16 = .ok (.aload_n 0, 1) := by decide +kernel
theorem dX6_isOpen_17 : decode cX6_isOpen 17 = .ok (.getfield 71, 3) := by decide +kernel
theorem dX6_isOpen_20 : decode cX6_isOpen 20 = .ok (.iload_n 3, 1) := by decide +kernel
theorem dX6_isOpen_21 : decode cX6_isOpen 21 = .ok (.iaload, 1) := by decide +kernel
theorem dX6_isOpen_22 : decode cX6_isOpen 22 = .ok (.iload_n 1, 1) := by decide +kernel
theorem dX6_isOpen_23 : decode cX6_isOpen 23 = .ok (.if_icmp .ne 7, 3) := by decide +kernel
theorem dX6_isOpen_26 : decode cX6_isOpen 26 = .ok (.iconst 1, 1) := by decide +kernel
theorem dX6_isOpen_27 : decode cX6_isOpen 27 = .ok (.goto 4, 3) := by decide +kernel
theorem dX6_isOpen_30 : decode cX6_isOpen 30 = .ok (.iconst 0, 1) := by decide +kernel
theorem dX6_isOpen_31 : decode cX6_isOpen 31 = .ok (.istore_n 2, 1) := by decide +kernel
theorem dX6_isOpen_32 : decode cX6_isOpen 32 = .ok (.iinc 3 1, 3) := by decide +kernel
theorem dX6_isOpen_35 : decode cX6_isOpen 35 = .ok (.goto (-31), 3) := by decide +kernel
theorem dX6_isOpen_38 : decode cX6_isOpen 38 = .ok (.iload_n 2, 1) := by decide +kernel
theorem dX6_isOpen_39 : decode cX6_isOpen 39 = .ok (.ireturn, 1) := by decide +kernel
theorem dX6_form_0 : decode cX6_form 0 = .ok (.aload_n 0, 1) := by decide +kernel
theorem dX6_form_1 : decode cX6_form 1 = .ok (.getfield 111, 3) := by decide +kernel
theorem dX6_form_4 : decode cX6_form 4 = .ok (.iconst 3, 1) := by decide +kernel
theorem dX6_form_5 : decode cX6_form 5 = .ok (.if_icmp .ne 6, 3) := by decide +kernel
theorem dX6_form_8 : decode cX6_form 8 = .ok (.bipush (-4), 2) := by decide +kernel
theorem dX6_form_10 : decode cX6_form 10 = .ok (.ireturn, 1) := by decide +kernel
theorem dX6_form_11 : decode cX6_form 11 = .ok (.iconst 0, 1) := by decide +kernel
theorem dX6_form_12 : decode cX6_form 12 = .ok (.istore_n 1, 1) := by decide +kernel
theorem dX6_form_13 : decode cX6_form 13 = .ok (.iload_n 1, 1) := by decide +kernel
theorem dX6_form_14 : decode cX6_form 14 = .ok (.bipush 64, 2) := by decide +kernel
theorem dX6_form_16 : decode cX6_form 16 = .ok (.if_icmp .ge 24, 3) := by decide +kernel
theorem dX6_form_19 : decode cX6_form 19 = .ok (.aload_n 0, 1) := by decide +kernel
theorem dX6_form_20 : decode cX6_form 20 = .ok (.getfield 50, 3) := by decide +kernel
theorem dX6_form_23 : decode cX6_form 23 = .ok (.bipush 64, 2) := by decide +kernel
theorem dX6_form_25 : decode cX6_form 25 = .ok (.aload_n 0, 1) := by decide +kernel
theorem dX6_form_26 : decode cX6_form 26 = .ok (.getfield 111, 3) := by decide +kernel
theorem dX6_form_29 : decode cX6_form 29 = .ok (.imul, 1) := by decide +kernel
theorem dX6_form_30 : decode cX6_form 30 = .ok (.iload_n 1, 1) := by decide +kernel
theorem dX6_form_31 : decode cX6_form 31 = .ok (.iadd, 1) := by decide +kernel
theorem dX6_form_32 : decode cX6_form 32 = .ok (.iconst (-1), 1) := by decide +kernel
theorem dX6_form_33 : decode cX6_form 33 = .ok (.iastore, 1) := by decide +kernel
theorem dX6_form_34 : decode cX6_form 34 = .ok (.iinc 1 1, 3) := by decide +kernel
theorem dX6_form_37 : decode cX6_form 37 = .ok (.goto (-24), 3) := by decide +kernel
theorem dX6_form_40 : decode cX6_form 40 = .ok (.aload_n 0, 1) := by decide +kernel
theorem dX6_form_41 : decode cX6_form 41 = .ok (.dup, 1) := by decide +kernel
theorem dX6_form_42 : decode cX6_form 42 = .ok (.getfield 111, 3) := by decide +kernel
theorem dX6_form_45 : decode cX6_form 45 = .ok (.iconst 1, 1) := by decide +kernel
theorem dX6_form_46 : decode cX6_form 46 = .ok (.iadd, 1) := by decide +kernel
theorem dX6_form_47 : decode cX6_form 47 = .ok (.putfield 111, 3) := by decide +kernel
theorem dX6_form_50 : decode cX6_form 50 = .ok (.aload_n 0, 1) := by decide +kernel
theorem dX6_form_51 : decode cX6_form 51 = .ok (.getfield 111, 3) := by decide +kernel
theorem dX6_form_54 : decode cX6_form 54 = .ok (.iconst 1, 1) := by decide +kernel
theorem dX6_form_55 : decode cX6_form 55 = .ok (.isub, 1) := by decide +kernel
theorem dX6_form_56 : decode cX6_form 56 = .ok (.ireturn, 1) := by decide +kernel
theorem dX6_comes_0 : decode cX6_comes 0 = .ok (.iconst 5, 1) := by decide +kernel
theorem dX6_comes_1 : decode cX6_comes 1 = .ok (.iload_n 1, 1) := by decide +kernel
theorem dX6_comes_2 : decode cX6_comes 2 = .ok (.imul, 1) := by decide +kernel
theorem dX6_comes_3 : decode cX6_comes 3 = .ok (.aload_n 0, 1) := by decide +kernel
theorem dX6_comes_4 : decode cX6_comes 4 = .ok (.getfield 7, 3) := by decide +kernel
theorem dX6_comes_7 : decode cX6_comes 7 = .ok (.iload_n 1, 1) := by decide +kernel
theorem dX6_comes_8 : decode cX6_comes 8 = .ok (.iaload, 1) := by decide +kernel
theorem dX6_comes_9 : decode cX6_comes 9 = .ok (.iadd, 1) := by decide +kernel
theorem dX6_comes_10 : decode cX6_comes 10 = .ok (.istore 4, 2) := by decide +kernel
theorem dX6_comes_12 : decode cX6_comes 12 = .ok (.aload_n 0, 1) := by decide +kernel
theorem dX6_comes_13 : decode cX6_comes 13 = .ok (.getfield 13, 3) := by decide +kernel
theorem dX6_comes_16 : decode cX6_comes 16 = .ok (.iload 4, 2) := by decide +kernel
theorem dX6_comes_18 : decode cX6_comes 18 = .ok (.iload_n 2, 1) := by decide +kernel
theorem dX6_comes_19 : decode cX6_comes 19 = .ok (.iastore, 1) := by decide +kernel
theorem dX6_comes_20 : decode cX6_comes 20 = .ok (.aload_n 0, 1) := by decide +kernel
theorem dX6_comes_21 : decode cX6_comes 21 = .ok (.getfield 16, 3) := by decide +kernel
theorem dX6_comes_24 : decode cX6_comes 24 = .ok (.iload 4, 2) := by decide +kernel
theorem dX6_comes_26 : decode cX6_comes 26 = .ok (.iload_n 3, 1) := by decide +kernel
theorem dX6_comes_27 : decode cX6_comes 27 = .ok (.iastore, 1) := by decide +kernel
theorem dX6_comes_28 : decode cX6_comes 28 = .ok (.aload_n 0, 1) := by decide +kernel
theorem dX6_comes_29 : decode cX6_comes 29 = .ok (.getfield 25, 3) := by decide +kernel
theorem dX6_comes_32 : decode cX6_comes 32 = .ok (.iload 4, 2) := by decide +kernel
theorem dX6_comes_34 : decode cX6_comes 34 = .ok (.iconst 0, 1) := by decide +kernel
theorem dX6_comes_35 : decode cX6_comes 35 = .ok (.iastore, 1) := by decide +kernel
theorem dX6_comes_36 : decode cX6_comes 36 = .ok (.aload_n 0, 1) := by decide +kernel
theorem dX6_comes_37 : decode cX6_comes 37 = .ok (.getfield 28, 3) := by decide +kernel
theorem dX6_comes_40 : decode cX6_comes 40 = .ok (.iload 4, 2) := by decide +kernel
theorem dX6_comes_42 : decode cX6_comes 42 = .ok (.iconst 0, 1) := by decide +kernel
theorem dX6_comes_43 : decode cX6_comes 43 = .ok (.bastore, 1) := by decide +kernel
theorem dX6_comes_44 : decode cX6_comes 44 = .ok (.aload_n 0, 1) := by decide +kernel
theorem dX6_comes_45 : decode cX6_comes 45 = .ok (.getfield 7, 3) := by decide +kernel
theorem dX6_comes_48 : decode cX6_comes 48 = .ok (.iload_n 1, 1) := by decide +kernel
theorem dX6_comes_49 : decode cX6_comes 49 = .ok (.dup2, 1) := by decide +kernel
theorem dX6_comes_50 : decode cX6_comes 50 = .ok (.iaload, 1) := by decide +kernel
theorem dX6_comes_51 : decode cX6_comes 51 = .ok (.iconst 1, 1) := by decide +kernel
theorem dX6_comes_52 : decode cX6_comes 52 = .ok (.iadd, 1) := by decide +kernel
theorem dX6_comes_53 : decode cX6_comes 53 = .ok (.iastore, 1) := by decide +kernel
theorem dX6_comes_54 : decode cX6_comes 54 = .ok (.aload_n 0, 1) := by decide +kernel
theorem dX6_comes_55 : decode cX6_comes 55 = .ok (.getfield 7, 3) := by decide +kernel
theorem dX6_comes_58 : decode cX6_comes 58 = .ok (.iload_n 1, 1) := by decide +kernel
theorem dX6_comes_59 : decode cX6_comes 59 = .ok (.iaload, 1) := by decide +kernel
theorem dX6_comes_60 : decode cX6_comes 60 = .ok (.iconst 1, 1) := by decide +kernel
theorem dX6_comes_61 : decode cX6_comes 61 = .ok (.isub, 1) := by decide +kernel
theorem dX6_comes_62 : decode cX6_comes 62 = .ok (.ireturn, 1) := by decide +kernel
theorem dX6_place_0 : decode cX6_place 0 = .ok (.aload_n 0, 1) := by decide +kernel
theorem dX6_place_1 : decode cX6_place 1 = .ok (.iload_n 1, 1) := by decide +kernel
theorem dX6_place_2 : decode cX6_place 2 = .ok (.invokevirtual 118, 3) := by decide +kernel
theorem dX6_place_5 : decode cX6_place 5 = .ok (.ifCond .ne 5, 3) := by decide +kernel
theorem dX6_place_8 : decode cX6_place 8 = .ok (.iconst (-1), 1) := by decide +kernel
theorem dX6_place_9 : decode cX6_place 9 = .ok (.ireturn, 1) := by decide +kernel
theorem dX6_place_10 : decode cX6_place 10 = .ok (.iload_n 2, 1) := by decide +kernel
theorem dX6_place_11 : decode cX6_place 11 = .ok (.ifCond .eq 8, 3) := by decide +kernel
theorem dX6_place_14 : decode cX6_place 14 = .ok (.iload_n 2, 1) := by decide +kernel
theorem dX6_place_15 : decode cX6_place 15 = .ok (.iconst 2, 1) := by decide +kernel
theorem dX6_place_16 : decode cX6_place 16 = .ok (.if_icmp .ne 12, 3) := by decide +kernel
theorem dX6_place_19 : decode cX6_place 19 = .ok (.iload_n 3, 1) := by decide +kernel
theorem dX6_place_20 : decode cX6_place 20 = .ok (.iconst 2, 1) := by decide +kernel
theorem dX6_place_21 : decode cX6_place 21 = .ok (.iconst 4, 1) := by decide +kernel
theorem dX6_place_22 : decode cX6_place 22 = .ok (.invokestatic 114, 3) := by decide +kernel
theorem dX6_place_25 : decode cX6_place 25 = .ok (.ifCond .ne 6, 3) := by decide +kernel
theorem dX6_place_28 : decode cX6_place 28 = .ok (.bipush (-2), 2) := by decide +kernel
theorem dX6_place_30 : decode cX6_place 30 = .ok (.ireturn, 1) := by decide +kernel
theorem dX6_place_31 : decode cX6_place 31 = .ok (.aload_n 0, 1) := by decide +kernel
theorem dX6_place_32 : decode cX6_place 32 = .ok (.iload_n 1, 1) := by decide +kernel
theorem dX6_place_33 : decode cX6_place 33 = .ok (.invokevirtual 129, 3) := by decide +kernel
theorem dX6_place_36 : decode cX6_place 36 = .ok (.ifCond .eq 6, 3) := by decide +kernel
theorem dX6_place_39 : decode cX6_place 39 = .ok (.bipush (-3), 2) := by decide +kernel
theorem dX6_place_41 : decode cX6_place 41 = .ok (.ireturn, 1) := by decide +kernel
theorem dX6_place_42 : decode cX6_place 42 = .ok (.aload_n 0, 1) := by decide +kernel
theorem dX6_place_43 : decode cX6_place 43 = .ok (.getfield 7, 3) := by decide +kernel
theorem dX6_place_46 : decode cX6_place 46 = .ok (.iload_n 1, 1) := by decide +kernel
theorem dX6_place_47 : decode cX6_place 47 = .ok (.iaload, 1) := by decide +kernel
theorem dX6_place_48 : decode cX6_place 48 = .ok (.iconst 5, 1) := by decide +kernel
theorem dX6_place_49 : decode cX6_place 49 = .ok (.if_icmp .ne 8, 3) := by decide +kernel
theorem dX6_place_52 : decode cX6_place 52 = .ok (.bipush (-4), 2) := by decide +kernel
theorem dX6_place_54 : decode cX6_place 54 = .ok (.goto 10, 3) := by decide +kernel
theorem dX6_place_57 : decode cX6_place 57 = .ok (.aload_n 0, 1) := by decide +kernel
theorem dX6_place_58 : decode cX6_place 58 = .ok (.iload_n 1, 1) := by decide +kernel
theorem dX6_place_59 : decode cX6_place 59 = .ok (.iload_n 2, 1) := by decide +kernel
theorem dX6_place_60 : decode cX6_place 60 = .ok (.iload_n 3, 1) := by decide +kernel
theorem dX6_place_61 : decode cX6_place 61 = .ok (.invokevirtual 132, 3) := by decide +kernel
theorem dX6_place_64 : decode cX6_place 64 = .ok (.ireturn, 1) := by decide +kernel
theorem dX6_worked_0 : decode cX6_worked 0 = .ok (.aload_n 0, 1) := by decide +kernel
theorem dX6_worked_1 : decode cX6_worked 1 = .ok (.iload_n 1, 1) := by decide +kernel
theorem dX6_worked_2 : decode cX6_worked 2 = .ok (.iload_n 3, 1) := by decide +kernel
theorem dX6_worked_3 : decode cX6_worked 3 = .ok (.invokevirtual 122, 3) := by decide +kernel
theorem dX6_worked_6 : decode cX6_worked 6 = .ok (.ifCond .eq 13, 3) := by decide +kernel
theorem dX6_worked_9 : decode cX6_worked 9 = .ok (.aload_n 0, 1) := by decide +kernel
theorem dX6_worked_10 : decode cX6_worked 10 = .ok (.iload_n 1, 1) := by decide +kernel
theorem dX6_worked_11 : decode cX6_worked 11 = .ok (.iload 4, 2) := by decide +kernel
theorem dX6_worked_13 : decode cX6_worked 13 = .ok (.invokevirtual 122, 3) := by decide +kernel
theorem dX6_worked_16 : decode cX6_worked 16 = .ok (.ifCond .ne 5, 3) := by decide +kernel
theorem dX6_worked_19 : decode cX6_worked 19 = .ok (.iconst (-1), 1) := by decide +kernel
theorem dX6_worked_20 : decode cX6_worked 20 = .ok (.ireturn, 1) := by decide +kernel
theorem dX6_worked_21 : decode cX6_worked 21 = .ok (.iload_n 2, 1) := by decide +kernel
theorem dX6_worked_22 : decode cX6_worked 22 = .ok (.iconst 2, 1) := by decide +kernel
theorem dX6_worked_23 : decode cX6_worked 23 = .ok (.iconst 4, 1) := by decide +kernel
theorem dX6_worked_24 : decode cX6_worked 24 = .ok (.invokestatic 114, 3) := by decide +kernel
theorem dX6_worked_27 : decode cX6_worked 27 = .ok (.ifCond .eq 32, 3) := by decide +kernel
theorem dX6_worked_30 : decode cX6_worked 30 = .ok (.aload_n 0, 1) := by decide +kernel
theorem dX6_worked_31 : decode cX6_worked 31 = .ok (.getfield 13, 3) := by decide +kernel
theorem dX6_worked_34 : decode cX6_worked 34 = .ok (.iconst 5, 1) := by decide +kernel
theorem dX6_worked_35 : decode cX6_worked 35 = .ok (.iload_n 1, 1) := by decide +kernel
theorem dX6_worked_36 : decode cX6_worked 36 = .ok (.imul, 1) := by decide +kernel
theorem dX6_worked_37 : decode cX6_worked 37 = .ok (.iload_n 3, 1) := by decide +kernel
theorem dX6_worked_38 : decode cX6_worked 38 = .ok (.iadd, 1) := by decide +kernel
theorem dX6_worked_39 : decode cX6_worked 39 = .ok (.iaload, 1) := by decide +kernel
theorem dX6_worked_40 : decode cX6_worked 40 = .ok (.iconst 1, 1) := by decide +kernel
theorem dX6_worked_41 : decode cX6_worked 41 = .ok (.if_icmp .eq 18, 3) := by decide +kernel
theorem dX6_worked_44 : decode cX6_worked 44 = .ok (.aload_n 0, 1) := by decide +kernel
theorem dX6_worked_45 : decode cX6_worked 45 = .ok (.getfield 13, 3) := by decide +kernel
theorem dX6_worked_48 : decode cX6_worked 48 = .ok (.iconst 5, 1) := by decide +kernel
theorem dX6_worked_49 : decode cX6_worked 49 = .ok (.iload_n 1, 1) := by decide +kernel
theorem dX6_worked_50 : decode cX6_worked 50 = .ok (.imul, 1) := by decide +kernel
theorem dX6_worked_51 : decode cX6_worked 51 = .ok (.iload 4, 2) := by decide +kernel
theorem dX6_worked_53 : decode cX6_worked 53 = .ok (.iadd, 1) := by decide +kernel
theorem dX6_worked_54 : decode cX6_worked 54 = .ok (.iaload, 1) := by decide +kernel
theorem dX6_worked_55 : decode cX6_worked 55 = .ok (.iconst 1, 1) := by decide +kernel
theorem dX6_worked_56 : decode cX6_worked 56 = .ok (.if_icmp .ne 6, 3) := by decide +kernel
theorem dX6_worked_59 : decode cX6_worked 59 = .ok (.bipush (-2), 2) := by decide +kernel
theorem dX6_worked_61 : decode cX6_worked 61 = .ok (.ireturn, 1) := by decide +kernel
theorem dX6_worked_62 : decode cX6_worked 62 = .ok (.aload_n 0, 1) := by decide +kernel
theorem dX6_worked_63 : decode cX6_worked 63 = .ok (.iload_n 1, 1) := by decide +kernel
theorem dX6_worked_64 : decode cX6_worked 64 = .ok (.invokevirtual 129, 3) := by decide +kernel
theorem dX6_worked_67 : decode cX6_worked 67 = .ok (.ifCond .eq 6, 3) := by decide +kernel
theorem dX6_worked_70 : decode cX6_worked 70 = .ok (.bipush (-3), 2) := by decide +kernel
theorem dX6_worked_72 : decode cX6_worked 72 = .ok (.ireturn, 1) := by decide +kernel
theorem dX6_worked_73 : decode cX6_worked 73 = .ok (.aload_n 0, 1) := by decide +kernel
theorem dX6_worked_74 : decode cX6_worked 74 = .ok (.getfield 7, 3) := by decide +kernel
theorem dX6_worked_77 : decode cX6_worked 77 = .ok (.iload_n 1, 1) := by decide +kernel
theorem dX6_worked_78 : decode cX6_worked 78 = .ok (.iaload, 1) := by decide +kernel
theorem dX6_worked_79 : decode cX6_worked 79 = .ok (.iconst 5, 1) := by decide +kernel
theorem dX6_worked_80 : decode cX6_worked 80 = .ok (.if_icmp .ne 6, 3) := by decide +kernel
theorem dX6_worked_83 : decode cX6_worked 83 = .ok (.bipush (-4), 2) := by decide +kernel
theorem dX6_worked_85 : decode cX6_worked 85 = .ok (.ireturn, 1) := by decide +kernel
theorem dX6_worked_86 : decode cX6_worked 86 = .ok (.aload_n 0, 1) := by decide +kernel
theorem dX6_worked_87 : decode cX6_worked 87 = .ok (.iload_n 1, 1) := by decide +kernel
theorem dX6_worked_88 : decode cX6_worked 88 = .ok (.iconst 1, 1) := by decide +kernel
theorem dX6_worked_89 : decode cX6_worked 89 = .ok (.iload_n 2, 1) := by decide +kernel
theorem dX6_worked_90 : decode cX6_worked 90 = .ok (.invokevirtual 132, 3) := by decide +kernel
theorem dX6_worked_93 : decode cX6_worked 93 = .ok (.istore 5, 2) := by decide +kernel
theorem dX6_worked_95 : decode cX6_worked 95 = .ok (.aload_n 0, 1) := by decide +kernel
theorem dX6_worked_96 : decode cX6_worked 96 = .ok (.getfield 19, 3) := by decide +kernel
theorem dX6_worked_99 : decode cX6_worked 99 = .ok (.iconst 5, 1) := by decide +kernel
theorem dX6_worked_100 : decode cX6_worked 100 = .ok (.iload_n 1, 1) := by decide +kernel
theorem dX6_worked_101 : decode cX6_worked 101 = .ok (.imul, 1) := by decide +kernel
theorem dX6_worked_102 : decode cX6_worked 102 = .ok (.iload 5, 2) := by decide +kernel
theorem dX6_worked_104 : decode cX6_worked 104 = .ok (.iadd, 1) := by decide +kernel
theorem dX6_worked_105 : decode cX6_worked 105 = .ok (.iconst 5, 1) := by decide +kernel
theorem dX6_worked_106 : decode cX6_worked 106 = .ok (.iload_n 1, 1) := by decide +kernel
theorem dX6_worked_107 : decode cX6_worked 107 = .ok (.imul, 1) := by decide +kernel
theorem dX6_worked_108 : decode cX6_worked 108 = .ok (.iload_n 3, 1) := by decide +kernel
theorem dX6_worked_109 : decode cX6_worked 109 = .ok (.iadd, 1) := by decide +kernel
theorem dX6_worked_110 : decode cX6_worked 110 = .ok (.iastore, 1) := by decide +kernel
theorem dX6_worked_111 : decode cX6_worked 111 = .ok (.aload_n 0, 1) := by decide +kernel
theorem dX6_worked_112 : decode cX6_worked 112 = .ok (.getfield 22, 3) := by decide +kernel
theorem dX6_worked_115 : decode cX6_worked 115 = .ok (.iconst 5, 1) := by decide +kernel
theorem dX6_worked_116 : decode cX6_worked 116 = .ok (.iload_n 1, 1) := by decide +kernel
theorem dX6_worked_117 : decode cX6_worked 117 = .ok (.imul, 1) := by decide +kernel
theorem dX6_worked_118 : decode cX6_worked 118 = .ok (.iload 5, 2) := by decide +kernel
theorem dX6_worked_120 : decode cX6_worked 120 = .ok (.iadd, 1) := by decide +kernel
theorem dX6_worked_121 : decode cX6_worked 121 = .ok (.iconst 5, 1) := by decide +kernel
theorem dX6_worked_122 : decode cX6_worked 122 = .ok (.iload_n 1, 1) := by decide +kernel
theorem dX6_worked_123 : decode cX6_worked 123 = .ok (.imul, 1) := by decide +kernel
theorem dX6_worked_124 : decode cX6_worked 124 = .ok (.iload 4, 2) := by decide +kernel
theorem dX6_worked_126 : decode cX6_worked 126 = .ok (.iadd, 1) := by decide +kernel
theorem dX6_worked_127 : decode cX6_worked 127 = .ok (.iastore, 1) := by decide +kernel
theorem dX6_worked_128 : decode cX6_worked 128 = .ok (.iload 5, 2) := by decide +kernel
theorem dX6_worked_130 : decode cX6_worked 130 = .ok (.ireturn, 1) := by decide +kernel
theorem dX6_rule_0 : decode cX6_rule 0 = .ok (.aload_n 0, 1) := by decide +kernel
theorem dX6_rule_1 : decode cX6_rule 1 = .ok (.iload_n 1, 1) := by decide +kernel
theorem dX6_rule_2 : decode cX6_rule 2 = .ok (.invokevirtual 129, 3) := by decide +kernel
theorem dX6_rule_5 : decode cX6_rule 5 = .ok (.ifCond .eq 6, 3) := by decide +kernel
theorem dX6_rule_8 : decode cX6_rule 8 = .ok (.bipush (-3), 2) := by decide +kernel
theorem dX6_rule_10 : decode cX6_rule 10 = .ok (.ireturn, 1) := by decide +kernel
theorem dX6_rule_11 : decode cX6_rule 11 = .ok (.aload_n 0, 1) := by decide +kernel
theorem dX6_rule_12 : decode cX6_rule 12 = .ok (.getfield 32, 3) := by decide +kernel
theorem dX6_rule_15 : decode cX6_rule 15 = .ok (.iload_n 1, 1) := by decide +kernel
theorem dX6_rule_16 : decode cX6_rule 16 = .ok (.iaload, 1) := by decide +kernel
theorem dX6_rule_17 : decode cX6_rule 17 = .ok (.bipush 6, 2) := by decide +kernel
theorem dX6_rule_19 : decode cX6_rule 19 = .ok (.if_icmp .ne 6, 3) := by decide +kernel
theorem dX6_rule_22 : decode cX6_rule 22 = .ok (.bipush (-4), 2) := by decide +kernel
theorem dX6_rule_24 : decode cX6_rule 24 = .ok (.ireturn, 1) := by decide +kernel
theorem dX6_rule_25 : decode cX6_rule 25 = .ok (.bipush 6, 2) := by decide +kernel
theorem dX6_rule_27 : decode cX6_rule 27 = .ok (.iload_n 1, 1) := by decide +kernel
theorem dX6_rule_28 : decode cX6_rule 28 = .ok (.imul, 1) := by decide +kernel
theorem dX6_rule_29 : decode cX6_rule 29 = .ok (.aload_n 0, 1) := by decide +kernel
theorem dX6_rule_30 : decode cX6_rule 30 = .ok (.getfield 32, 3) := by decide +kernel
theorem dX6_rule_33 : decode cX6_rule 33 = .ok (.iload_n 1, 1) := by decide +kernel
theorem dX6_rule_34 : decode cX6_rule 34 = .ok (.iaload, 1) := by decide +kernel
theorem dX6_rule_35 : decode cX6_rule 35 = .ok (.iadd, 1) := by decide +kernel
theorem dX6_rule_36 : decode cX6_rule 36 = .ok (.istore 7, 2) := by decide +kernel
theorem dX6_rule_38 : decode cX6_rule 38 = .ok (.aload_n 0, 1) := by decide +kernel
theorem dX6_rule_39 : decode cX6_rule 39 = .ok (.getfield 35, 3) := by decide +kernel
theorem dX6_rule_42 : decode cX6_rule 42 = .ok (.iload 7, 2) := by decide +kernel
theorem dX6_rule_44 : decode cX6_rule 44 = .ok (.iload_n 2, 1) := by decide +kernel
theorem dX6_rule_45 : decode cX6_rule 45 = .ok (.bastore, 1) := by decide +kernel
theorem dX6_rule_46 : decode cX6_rule 46 = .ok (.aload_n 0, 1) := by decide +kernel
theorem dX6_rule_47 : decode cX6_rule 47 = .ok (.getfield 38, 3) := by decide +kernel
theorem dX6_rule_50 : decode cX6_rule 50 = .ok (.iload 7, 2) := by decide +kernel
theorem dX6_rule_52 : decode cX6_rule 52 = .ok (.iconst 5, 1) := by decide +kernel
theorem dX6_rule_53 : decode cX6_rule 53 = .ok (.iload_n 1, 1) := by decide +kernel
theorem dX6_rule_54 : decode cX6_rule 54 = .ok (.imul, 1) := by decide +kernel
theorem dX6_rule_55 : decode cX6_rule 55 = .ok (.iload_n 3, 1) := by decide +kernel
theorem dX6_rule_56 : decode cX6_rule 56 = .ok (.iadd, 1) := by decide +kernel
theorem dX6_rule_57 : decode cX6_rule 57 = .ok (.iastore, 1) := by decide +kernel
theorem dX6_rule_58 : decode cX6_rule 58 = .ok (.aload_n 0, 1) := by decide +kernel
theorem dX6_rule_59 : decode cX6_rule 59 = .ok (.getfield 41, 3) := by decide +kernel
theorem dX6_rule_62 : decode cX6_rule 62 = .ok (.iload 7, 2) := by decide +kernel
theorem dX6_rule_64 : decode cX6_rule 64 = .ok (.iload 4, 2) := by decide +kernel
theorem dX6_rule_66 : decode cX6_rule 66 = .ok (.iastore, 1) := by decide +kernel
theorem dX6_rule_67 : decode cX6_rule 67 = .ok (.aload_n 0, 1) := by decide +kernel
theorem dX6_rule_68 : decode cX6_rule 68 = .ok (.getfield 44, 3) := by decide +kernel
theorem dX6_rule_71 : decode cX6_rule 71 = .ok (.iload 7, 2) := by decide +kernel
theorem dX6_rule_73 : decode cX6_rule 73 = .ok (.iconst 5, 1) := by decide +kernel
theorem dX6_rule_74 : decode cX6_rule 74 = .ok (.iload_n 1, 1) := by decide +kernel
theorem dX6_rule_75 : decode cX6_rule 75 = .ok (.imul, 1) := by decide +kernel
theorem dX6_rule_76 : decode cX6_rule 76 = .ok (.iload 5, 2) := by decide +kernel
theorem dX6_rule_78 : decode cX6_rule 78 = .ok (.iadd, 1) := by decide +kernel
theorem dX6_rule_79 : decode cX6_rule 79 = .ok (.iastore, 1) := by decide +kernel
theorem dX6_rule_80 : decode cX6_rule 80 = .ok (.aload_n 0, 1) := by decide +kernel
theorem dX6_rule_81 : decode cX6_rule 81 = .ok (.getfield 47, 3) := by decide +kernel
theorem dX6_rule_84 : decode cX6_rule 84 = .ok (.iload 7, 2) := by decide +kernel
theorem dX6_rule_86 : decode cX6_rule 86 = .ok (.iload 6, 2) := by decide +kernel
theorem dX6_rule_88 : decode cX6_rule 88 = .ok (.iastore, 1) := by decide +kernel
theorem dX6_rule_89 : decode cX6_rule 89 = .ok (.aload_n 0, 1) := by decide +kernel
theorem dX6_rule_90 : decode cX6_rule 90 = .ok (.getfield 32, 3) := by decide +kernel
theorem dX6_rule_93 : decode cX6_rule 93 = .ok (.iload_n 1, 1) := by decide +kernel
theorem dX6_rule_94 : decode cX6_rule 94 = .ok (.dup2, 1) := by decide +kernel
theorem dX6_rule_95 : decode cX6_rule 95 = .ok (.iaload, 1) := by decide +kernel
theorem dX6_rule_96 : decode cX6_rule 96 = .ok (.iconst 1, 1) := by decide +kernel
theorem dX6_rule_97 : decode cX6_rule 97 = .ok (.iadd, 1) := by decide +kernel
theorem dX6_rule_98 : decode cX6_rule 98 = .ok (.iastore, 1) := by decide +kernel
theorem dX6_rule_99 : decode cX6_rule 99 = .ok (.aload_n 0, 1) := by decide +kernel
theorem dX6_rule_100 : decode cX6_rule 100 = .ok (.getfield 32, 3) := by decide +kernel
theorem dX6_rule_103 : decode cX6_rule 103 = .ok (.iload_n 1, 1) := by decide +kernel
theorem dX6_rule_104 : decode cX6_rule 104 = .ok (.iaload, 1) := by decide +kernel
theorem dX6_rule_105 : decode cX6_rule 105 = .ok (.iconst 1, 1) := by decide +kernel
theorem dX6_rule_106 : decode cX6_rule 106 = .ok (.isub, 1) := by decide +kernel
theorem dX6_rule_107 : decode cX6_rule 107 = .ok (.ireturn, 1) := by decide +kernel
theorem dX6_bar_0 : decode cX6_bar 0 = .ok (.aload_n 0, 1) := by decide +kernel
theorem dX6_bar_1 : decode cX6_bar 1 = .ok (.iload_n 1, 1) := by decide +kernel
theorem dX6_bar_2 : decode cX6_bar 2 = .ok (.iload_n 2, 1) := by decide +kernel
theorem dX6_bar_3 : decode cX6_bar 3 = .ok (.iload_n 3, 1) := by decide +kernel
theorem dX6_bar_4 : decode cX6_bar 4 = .ok (.invokevirtual 136, 3) := by decide +kernel
theorem dX6_bar_7 : decode cX6_bar 7 = .ok (.ifCond .eq 15, 3) := by decide +kernel
theorem dX6_bar_10 : decode cX6_bar 10 = .ok (.aload_n 0, 1) := by decide +kernel
theorem dX6_bar_11 : decode cX6_bar 11 = .ok (.iload_n 1, 1) := by decide +kernel
theorem dX6_bar_12 : decode cX6_bar 12 = .ok (.iload 4, 2) := by decide +kernel
theorem dX6_bar_14 : decode cX6_bar 14 = .ok (.iload 5, 2) := by decide +kernel
theorem dX6_bar_16 : decode cX6_bar 16 = .ok (.invokevirtual 136, 3) := by decide +kernel
theorem dX6_bar_19 : decode cX6_bar 19 = .ok (.ifCond .ne 5, 3) := by decide +kernel
theorem dX6_bar_22 : decode cX6_bar 22 = .ok (.iconst (-1), 1) := by decide +kernel
theorem dX6_bar_23 : decode cX6_bar 23 = .ok (.ireturn, 1) := by decide +kernel
theorem dX6_bar_24 : decode cX6_bar 24 = .ok (.iload_n 2, 1) := by decide +kernel
theorem dX6_bar_25 : decode cX6_bar 25 = .ok (.iload 4, 2) := by decide +kernel
theorem dX6_bar_27 : decode cX6_bar 27 = .ok (.if_icmp .ne 8, 3) := by decide +kernel
theorem dX6_bar_30 : decode cX6_bar 30 = .ok (.bipush (-2), 2) := by decide +kernel
theorem dX6_bar_32 : decode cX6_bar 32 = .ok (.goto 15, 3) := by decide +kernel
theorem dX6_bar_35 : decode cX6_bar 35 = .ok (.aload_n 0, 1) := by decide +kernel
theorem dX6_bar_36 : decode cX6_bar 36 = .ok (.iload_n 1, 1) := by decide +kernel
theorem dX6_bar_37 : decode cX6_bar 37 = .ok (.iconst 1, 1) := by decide +kernel
theorem dX6_bar_38 : decode cX6_bar 38 = .ok (.iload_n 2, 1) := by decide +kernel
theorem dX6_bar_39 : decode cX6_bar 39 = .ok (.iload_n 3, 1) := by decide +kernel
theorem dX6_bar_40 : decode cX6_bar 40 = .ok (.iload 4, 2) := by decide +kernel
theorem dX6_bar_42 : decode cX6_bar 42 = .ok (.iload 5, 2) := by decide +kernel
theorem dX6_bar_44 : decode cX6_bar 44 = .ok (.invokevirtual 139, 3) := by decide +kernel
theorem dX6_bar_47 : decode cX6_bar 47 = .ok (.ireturn, 1) := by decide +kernel
theorem dX6_need_0 : decode cX6_need 0 = .ok (.aload_n 0, 1) := by decide +kernel
theorem dX6_need_1 : decode cX6_need 1 = .ok (.iload_n 1, 1) := by decide +kernel
theorem dX6_need_2 : decode cX6_need 2 = .ok (.iload_n 2, 1) := by decide +kernel
theorem dX6_need_3 : decode cX6_need 3 = .ok (.iload_n 3, 1) := by decide +kernel
theorem dX6_need_4 : decode cX6_need 4 = .ok (.invokevirtual 136, 3) := by decide +kernel
theorem dX6_need_7 : decode cX6_need 7 = .ok (.ifCond .eq 13, 3) := by decide +kernel
theorem dX6_need_10 : decode cX6_need 10 = .ok (.aload_n 0, 1) := by decide +kernel
theorem dX6_need_11 : decode cX6_need 11 = .ok (.iload_n 1, 1) := by decide +kernel
theorem dX6_need_12 : decode cX6_need 12 = .ok (.iload 4, 2) := by decide +kernel
theorem dX6_need_14 : decode cX6_need 14 = .ok (.invokevirtual 122, 3) := by decide +kernel
theorem dX6_need_17 : decode cX6_need 17 = .ok (.ifCond .ne 5, 3) := by decide +kernel
theorem dX6_need_20 : decode cX6_need 20 = .ok (.iconst (-1), 1) := by decide +kernel
theorem dX6_need_21 : decode cX6_need 21 = .ok (.ireturn, 1) := by decide +kernel
theorem dX6_need_22 : decode cX6_need 22 = .ok (.iload_n 2, 1) := by decide +kernel
theorem dX6_need_23 : decode cX6_need 23 = .ok (.iload 4, 2) := by decide +kernel
theorem dX6_need_25 : decode cX6_need 25 = .ok (.if_icmp .eq 18, 3) := by decide +kernel
theorem dX6_need_28 : decode cX6_need 28 = .ok (.aload_n 0, 1) := by decide +kernel
theorem dX6_need_29 : decode cX6_need 29 = .ok (.getfield 13, 3) := by decide +kernel
theorem dX6_need_32 : decode cX6_need 32 = .ok (.iconst 5, 1) := by decide +kernel
theorem dX6_need_33 : decode cX6_need 33 = .ok (.iload_n 1, 1) := by decide +kernel
theorem dX6_need_34 : decode cX6_need 34 = .ok (.imul, 1) := by decide +kernel
theorem dX6_need_35 : decode cX6_need 35 = .ok (.iload 4, 2) := by decide +kernel
theorem dX6_need_37 : decode cX6_need 37 = .ok (.iadd, 1) := by decide +kernel
theorem dX6_need_38 : decode cX6_need 38 = .ok (.iaload, 1) := by decide +kernel
theorem dX6_need_39 : decode cX6_need 39 = .ok (.iconst 1, 1) := by decide +kernel
theorem dX6_need_40 : decode cX6_need 40 = .ok (.if_icmp .ne 8, 3) := by decide +kernel
theorem dX6_need_43 : decode cX6_need 43 = .ok (.bipush (-2), 2) := by decide +kernel
theorem dX6_need_45 : decode cX6_need 45 = .ok (.goto 14, 3) := by decide +kernel
theorem dX6_need_48 : decode cX6_need 48 = .ok (.aload_n 0, 1) := by decide +kernel
theorem dX6_need_49 : decode cX6_need 49 = .ok (.iload_n 1, 1) := by decide +kernel
theorem dX6_need_50 : decode cX6_need 50 = .ok (.iconst 0, 1) := by decide +kernel
theorem dX6_need_51 : decode cX6_need 51 = .ok (.iload_n 2, 1) := by decide +kernel
theorem dX6_need_52 : decode cX6_need 52 = .ok (.iload_n 3, 1) := by decide +kernel
theorem dX6_need_53 : decode cX6_need 53 = .ok (.iload 4, 2) := by decide +kernel
theorem dX6_need_55 : decode cX6_need 55 = .ok (.iconst 0, 1) := by decide +kernel
theorem dX6_need_56 : decode cX6_need 56 = .ok (.invokevirtual 139, 3) := by decide +kernel
theorem dX6_need_59 : decode cX6_need 59 = .ok (.ireturn, 1) := by decide +kernel
theorem dX6_word_0 : decode cX6_word 0 = .ok (.aload_n 0, 1) := by decide +kernel
theorem dX6_word_1 : decode cX6_word 1 = .ok (.iload_n 1, 1) := by decide +kernel
theorem dX6_word_2 : decode cX6_word 2 = .ok (.iload_n 2, 1) := by decide +kernel
theorem dX6_word_3 : decode cX6_word 3 = .ok (.iload_n 3, 1) := by decide +kernel
theorem dX6_word_4 : decode cX6_word 4 = .ok (.invokevirtual 136, 3) := by decide +kernel
theorem dX6_word_7 : decode cX6_word 7 = .ok (.ifCond .eq 14, 3) := by decide +kernel
theorem dX6_word_10 : decode cX6_word 10 = .ok (.iload 4, 2) := by decide +kernel
theorem dX6_word_12 : decode cX6_word 12 = .ok (.iconst 0, 1) := by decide +kernel
theorem dX6_word_13 : decode cX6_word 13 = .ok (.bipush 63, 2) := by decide +kernel
theorem dX6_word_15 : decode cX6_word 15 = .ok (.invokestatic 114, 3) := by decide +kernel
theorem dX6_word_18 : decode cX6_word 18 = .ok (.ifCond .ne 5, 3) := by decide +kernel
theorem dX6_word_21 : decode cX6_word 21 = .ok (.iconst (-1), 1) := by decide +kernel
theorem dX6_word_22 : decode cX6_word 22 = .ok (.ireturn, 1) := by decide +kernel
theorem dX6_word_23 : decode cX6_word 23 = .ok (.aload_n 0, 1) := by decide +kernel
theorem dX6_word_24 : decode cX6_word 24 = .ok (.getfield 13, 3) := by decide +kernel
theorem dX6_word_27 : decode cX6_word 27 = .ok (.iconst 5, 1) := by decide +kernel
theorem dX6_word_28 : decode cX6_word 28 = .ok (.iload_n 1, 1) := by decide +kernel
theorem dX6_word_29 : decode cX6_word 29 = .ok (.imul, 1) := by decide +kernel
theorem dX6_word_30 : decode cX6_word 30 = .ok (.iload_n 2, 1) := by decide +kernel
theorem dX6_word_31 : decode cX6_word 31 = .ok (.iadd, 1) := by decide +kernel
theorem dX6_word_32 : decode cX6_word 32 = .ok (.iaload, 1) := by decide +kernel
theorem dX6_word_33 : decode cX6_word 33 = .ok (.iconst 1, 1) := by decide +kernel
theorem dX6_word_34 : decode cX6_word 34 = .ok (.if_icmp .ne 6, 3) := by decide +kernel
theorem dX6_word_37 : decode cX6_word 37 = .ok (.bipush (-2), 2) := by decide +kernel
theorem dX6_word_39 : decode cX6_word 39 = .ok (.ireturn, 1) := by decide +kernel
theorem dX6_word_40 : decode cX6_word 40 = .ok (.aload_n 0, 1) := by decide +kernel
theorem dX6_word_41 : decode cX6_word 41 = .ok (.getfield 50, 3) := by decide +kernel
theorem dX6_word_44 : decode cX6_word 44 = .ok (.bipush 64, 2) := by decide +kernel
theorem dX6_word_46 : decode cX6_word 46 = .ok (.iload_n 1, 1) := by decide +kernel
theorem dX6_word_47 : decode cX6_word 47 = .ok (.imul, 1) := by decide +kernel
theorem dX6_word_48 : decode cX6_word 48 = .ok (.iload 4, 2) := by decide +kernel
theorem dX6_word_50 : decode cX6_word 50 = .ok (.iadd, 1) := by decide +kernel
theorem dX6_word_51 : decode cX6_word 51 = .ok (.iaload, 1) := by decide +kernel
theorem dX6_word_52 : decode cX6_word 52 = .ok (.iconst (-1), 1) := by decide +kernel
theorem dX6_word_53 : decode cX6_word 53 = .ok (.if_icmp .eq 6, 3) := by decide +kernel
theorem dX6_word_56 : decode cX6_word 56 = .ok (.bipush (-3), 2) := by decide +kernel
theorem dX6_word_58 : decode cX6_word 58 = .ok (.ireturn, 1) := by decide +kernel
theorem dX6_word_59 : decode cX6_word 59 = .ok (.aload_n 0, 1) := by decide +kernel
theorem dX6_word_60 : decode cX6_word 60 = .ok (.getfield 50, 3) := by decide +kernel
theorem dX6_word_63 : decode cX6_word 63 = .ok (.bipush 64, 2) := by decide +kernel
theorem dX6_word_65 : decode cX6_word 65 = .ok (.iload_n 1, 1) := by decide +kernel
theorem dX6_word_66 : decode cX6_word 66 = .ok (.imul, 1) := by decide +kernel
theorem dX6_word_67 : decode cX6_word 67 = .ok (.iload 4, 2) := by decide +kernel
theorem dX6_word_69 : decode cX6_word 69 = .ok (.iadd, 1) := by decide +kernel
theorem dX6_word_70 : decode cX6_word 70 = .ok (.iconst 4, 1) := by decide +kernel
theorem dX6_word_71 : decode cX6_word 71 = .ok (.iload_n 2, 1) := by decide +kernel
theorem dX6_word_72 : decode cX6_word 72 = .ok (.imul, 1) := by decide +kernel
theorem dX6_word_73 : decode cX6_word 73 = .ok (.iload_n 3, 1) := by decide +kernel
theorem dX6_word_74 : decode cX6_word 74 = .ok (.iadd, 1) := by decide +kernel
theorem dX6_word_75 : decode cX6_word 75 = .ok (.iastore, 1) := by decide +kernel
theorem dX6_word_76 : decode cX6_word 76 = .ok (.iconst 0, 1) := by decide +kernel
theorem dX6_word_77 : decode cX6_word 77 = .ok (.ireturn, 1) := by decide +kernel
theorem dX6_item_0 : decode cX6_item 0 = .ok (.iload_n 1, 1) := by decide +kernel
theorem dX6_item_1 : decode cX6_item 1 = .ok (.iconst 0, 1) := by decide +kernel
theorem dX6_item_2 : decode cX6_item 2 = .ok (.iconst 2, 1) := by decide +kernel
theorem dX6_item_3 : decode cX6_item 3 = .ok (.invokestatic 114, 3) := by decide +kernel
theorem dX6_item_6 : decode cX6_item 6 = .ok (.ifCond .eq 30, 3) := by decide +kernel
theorem dX6_item_9 : decode cX6_item 9 = .ok (.iload_n 2, 1) := by decide +kernel
theorem dX6_item_10 : decode cX6_item 10 = .ok (.iconst 0, 1) := by decide +kernel
theorem dX6_item_11 : decode cX6_item 11 = .ok (.iload_n 1, 1) := by decide +kernel
theorem dX6_item_12 : decode cX6_item 12 = .ok (.ifCond .ne 8, 3) := by decide +kernel
theorem dX6_item_15 : decode cX6_item 15 = .ok (.bipush 63, 2) := by decide +kernel
theorem dX6_item_17 : decode cX6_item 17 = .ok (.goto 13, 3) := by decide +kernel
theorem dX6_item_20 : decode cX6_item 20 = .ok (.iload_n 1, 1) := by decide +kernel
theorem dX6_item_21 : decode cX6_item 21 = .ok (.iconst 1, 1) := by decide +kernel
theorem dX6_item_22 : decode cX6_item 22 = .ok (.if_icmp .ne 7, 3) := by decide +kernel
theorem dX6_item_25 : decode cX6_item 25 = .ok (.iconst 4, 1) := by decide +kernel
theorem dX6_item_26 : decode cX6_item 26 = .ok (.goto 4, 3) := by decide +kernel
theorem dX6_item_29 : decode cX6_item 29 = .ok (.iconst 0, 1) := by decide +kernel
theorem dX6_item_30 : decode cX6_item 30 = .ok (.invokestatic 114, 3) := by decide +kernel
theorem dX6_item_33 : decode cX6_item 33 = .ok (.ifCond .ne 6, 3) := by decide +kernel
theorem dX6_item_36 : decode cX6_item 36 = .ok (.bipush (-2), 2) := by decide +kernel
theorem dX6_item_38 : decode cX6_item 38 = .ok (.ireturn, 1) := by decide +kernel
theorem dX6_item_39 : decode cX6_item 39 = .ok (.aload_n 0, 1) := by decide +kernel
theorem dX6_item_40 : decode cX6_item 40 = .ok (.getfield 143, 3) := by decide +kernel
theorem dX6_item_43 : decode cX6_item 43 = .ok (.iconst 4, 1) := by decide +kernel
theorem dX6_item_44 : decode cX6_item 44 = .ok (.if_icmp .ne 6, 3) := by decide +kernel
theorem dX6_item_47 : decode cX6_item 47 = .ok (.bipush (-4), 2) := by decide +kernel
theorem dX6_item_49 : decode cX6_item 49 = .ok (.ireturn, 1) := by decide +kernel
theorem dX6_item_50 : decode cX6_item 50 = .ok (.aload_n 0, 1) := by decide +kernel
theorem dX6_item_51 : decode cX6_item 51 = .ok (.getfield 65, 3) := by decide +kernel
theorem dX6_item_54 : decode cX6_item 54 = .ok (.bipush 80, 2) := by decide +kernel
theorem dX6_item_56 : decode cX6_item 56 = .ok (.aload_n 0, 1) := by decide +kernel
theorem dX6_item_57 : decode cX6_item 57 = .ok (.getfield 143, 3) := by decide +kernel
theorem dX6_item_60 : decode cX6_item 60 = .ok (.iadd, 1) := by decide +kernel
theorem dX6_item_61 : decode cX6_item 61 = .ok (.iload_n 1, 1) := by decide +kernel
theorem dX6_item_62 : decode cX6_item 62 = .ok (.iastore, 1) := by decide +kernel
theorem dX6_item_63 : decode cX6_item 63 = .ok (.aload_n 0, 1) := by decide +kernel
theorem dX6_item_64 : decode cX6_item 64 = .ok (.getfield 68, 3) := by decide +kernel
theorem dX6_item_67 : decode cX6_item 67 = .ok (.bipush 80, 2) := by decide +kernel
theorem dX6_item_69 : decode cX6_item 69 = .ok (.aload_n 0, 1) := by decide +kernel
theorem dX6_item_70 : decode cX6_item 70 = .ok (.getfield 143, 3) := by decide +kernel
theorem dX6_item_73 : decode cX6_item 73 = .ok (.iadd, 1) := by decide +kernel
theorem dX6_item_74 : decode cX6_item 74 = .ok (.iload_n 2, 1) := by decide +kernel
theorem dX6_item_75 : decode cX6_item 75 = .ok (.iastore, 1) := by decide +kernel
theorem dX6_item_76 : decode cX6_item 76 = .ok (.aload_n 0, 1) := by decide +kernel
theorem dX6_item_77 : decode cX6_item 77 = .ok (.dup, 1) := by decide +kernel
theorem dX6_item_78 : decode cX6_item 78 = .ok (.getfield 143, 3) := by decide +kernel
theorem dX6_item_81 : decode cX6_item 81 = .ok (.iconst 1, 1) := by decide +kernel
theorem dX6_item_82 : decode cX6_item 82 = .ok (.iadd, 1) := by decide +kernel
theorem dX6_item_83 : decode cX6_item 83 = .ok (.putfield 143, 3) := by decide +kernel
theorem dX6_item_86 : decode cX6_item 86 = .ok (.aload_n 0, 1) := by decide +kernel
theorem dX6_item_87 : decode cX6_item 87 = .ok (.getfield 143, 3) := by decide +kernel
theorem dX6_item_90 : decode cX6_item 90 = .ok (.ireturn, 1) := by decide +kernel
theorem dX6_row_0 : decode cX6_row 0 = .ok (.aload_n 0, 1) := by decide +kernel
theorem dX6_row_1 : decode cX6_row 1 = .ok (.iload_n 1, 1) := by decide +kernel
theorem dX6_row_2 : decode cX6_row 2 = .ok (.invokevirtual 118, 3) := by decide +kernel
theorem dX6_row_5 : decode cX6_row 5 = .ok (.ifCond .ne 5, 3) := by decide +kernel
theorem dX6_row_8 : decode cX6_row 8 = .ok (.iconst (-1), 1) := by decide +kernel
theorem dX6_row_9 : decode cX6_row 9 = .ok (.ireturn, 1) := by decide +kernel
theorem dX6_row_10 : decode cX6_row 10 = .ok (.iload_n 2, 1) := by decide +kernel
theorem dX6_row_11 : decode cX6_row 11 = .ok (.iconst 1, 1) := by decide +kernel
theorem dX6_row_12 : decode cX6_row 12 = .ok (.bipush 9, 2) := by decide +kernel
theorem dX6_row_14 : decode cX6_row 14 = .ok (.invokestatic 114, 3) := by decide +kernel
theorem dX6_row_17 : decode cX6_row 17 = .ok (.ifCond .eq 12, 3) := by decide +kernel
theorem dX6_row_20 : decode cX6_row 20 = .ok (.iload_n 3, 1) := by decide +kernel
theorem dX6_row_21 : decode cX6_row 21 = .ok (.iconst 0, 1) := by decide +kernel
theorem dX6_row_22 : decode cX6_row 22 = .ok (.iconst 2, 1) := by decide +kernel
theorem dX6_row_23 : decode cX6_row 23 = .ok (.invokestatic 114, 3) := by decide +kernel
theorem dX6_row_26 : decode cX6_row 26 = .ok (.ifCond .ne 7, 3) := by decide +kernel
theorem dX6_row_29 : decode cX6_row 29 = .ok (.iconst 1, 1) := by decide +kernel
theorem dX6_row_30 : decode cX6_row 30 = .ok (.goto 4, 3) := by decide +kernel
theorem dX6_row_33 : decode cX6_row 33 = .ok (.iconst 0, 1) := by decide +kernel
theorem dX6_row_34 : decode cX6_row 34 = .ok (.istore 4, 2) := by decide +kernel
theorem dX6_row_36 : decode cX6_row 36 = .ok (.iconst 0, 1) := by decide +kernel
theorem dX6_row_37 : decode cX6_row 37 = .ok (.istore 5, 2) := by decide +kernel
theorem dX6_row_39 : decode cX6_row 39 = .ok (.iload 5, 2) := by decide +kernel
theorem dX6_row_41 : decode cX6_row 41 = .ok (.aload_n 0, 1) := by decide +kernel
theorem dX6_row_42 : decode cX6_row 42 = .ok (.getfield 143, 3) := by decide +kernel
theorem dX6_row_45 : decode cX6_row 45 = .ok (.if_icmp .ge 81, 3) := by decide +kernel
theorem dX6_row_48 : decode cX6_row 48 = .ok (.aload_n 0, 1) := by decide +kernel
theorem dX6_row_49 : decode cX6_row 49 = .ok (.getfield 65, 3) := by decide +kernel
theorem dX6_row_52 : decode cX6_row 52 = .ok (.bipush 80, 2) := by decide +kernel
theorem dX6_row_54 : decode cX6_row 54 = .ok (.iload 5, 2) := by decide +kernel
theorem dX6_row_56 : decode cX6_row 56 = .ok (.iadd, 1) := by decide +kernel
theorem dX6_row_57 : decode cX6_row 57 = .ok (.iaload, 1) := by decide +kernel
theorem dX6_row_58 : decode cX6_row 58 = .ok (.iconst 1, 1) := by decide +kernel
theorem dX6_row_59 : decode cX6_row 59 = .ok (.if_icmp .eq 6, 3) := by decide +kernel
theorem dX6_row_62 : decode cX6_row 62 = .ok (.goto 58, 3) := by decide +kernel
theorem dX6_row_65 : decode cX6_row 65 = .ok (.aload_n 0, 1) := by decide +kernel
theorem dX6_row_66 : decode cX6_row 66 = .ok (.getfield 68, 3) := by decide +kernel
theorem dX6_row_69 : decode cX6_row 69 = .ok (.bipush 80, 2) := by decide +kernel
theorem dX6_row_71 : decode cX6_row 71 = .ok (.iload 5, 2) := by decide +kernel
theorem dX6_row_73 : decode cX6_row 73 = .ok (.iadd, 1) := by decide +kernel
theorem dX6_row_74 : decode cX6_row 74 = .ok (.iaload, 1) := by decide +kernel
theorem dX6_row_75 : decode cX6_row 75 = .ok (.istore 6, 2) := by decide +kernel
theorem dX6_row_77 : decode cX6_row 77 = .ok (.aload_n 0, 1) := by decide +kernel
theorem dX6_row_78 : decode cX6_row 78 = .ok (.iload_n 1, 1) := by decide +kernel
theorem dX6_row_79 : decode cX6_row 79 = .ok (.iload 6, 2) := by decide +kernel
theorem dX6_row_81 : decode cX6_row 81 = .ok (.invokevirtual 122, 3) := by decide +kernel
theorem dX6_row_84 : decode cX6_row 84 = .ok (.ifCond .ne 5, 3) := by decide +kernel
theorem dX6_row_87 : decode cX6_row 87 = .ok (.iconst (-1), 1) := by decide +kernel
theorem dX6_row_88 : decode cX6_row 88 = .ok (.ireturn, 1) := by decide +kernel
theorem dX6_row_89 : decode cX6_row 89 = .ok (.iload 4, 2) := by decide +kernel
theorem dX6_row_91 : decode cX6_row 91 = .ok (.ifCond .ne 22, 3) := by decide +kernel
theorem dX6_row_94 : decode cX6_row 94 = .ok (.aload_n 0, 1) := by decide +kernel
theorem dX6_row_95 : decode cX6_row 95 = .ok (.getfield 13, 3) := by decide +kernel
theorem dX6_row_98 : decode cX6_row 98 = .ok (.iconst 5, 1) := by decide +kernel
theorem dX6_row_99 : decode cX6_row 99 = .ok (.iload_n 1, 1) := by decide +kernel
theorem dX6_row_100 : decode cX6_row 100 = .ok (.imul, 1) := by decide +kernel
theorem dX6_row_101 : decode cX6_row 101 = .ok (.iload 6, 2) := by decide +kernel
theorem dX6_row_103 : decode cX6_row 103 = .ok (.iadd, 1) := by decide +kernel
theorem dX6_row_104 : decode cX6_row 104 = .ok (.iaload, 1) := by decide +kernel
theorem dX6_row_105 : decode cX6_row 105 = .ok (.iconst 1, 1) := by decide +kernel
theorem dX6_row_106 : decode cX6_row 106 = .ok (.if_icmp .eq 7, 3) := by decide +kernel
theorem dX6_row_109 : decode cX6_row 109 = .ok (.iload_n 3, 1) := by decide +kernel
theorem dX6_row_110 : decode cX6_row 110 = .ok (.ifCond .eq 7, 3) := by decide +kernel
theorem dX6_row_113 : decode cX6_row 113 = .ok (.iconst 1, 1) := by decide +kernel
theorem dX6_row_114 : decode cX6_row 114 = .ok (.goto 4, 3) := by decide +kernel
theorem dX6_row_117 : decode cX6_row 117 = .ok (.iconst 0, 1) := by decide +kernel
theorem dX6_row_118 : decode cX6_row 118 = .ok (.istore 4, 2) := by decide +kernel
theorem dX6_row_120 : decode cX6_row 120 = .ok (.iinc 5 1, 3) := by decide +kernel
theorem dX6_row_123 : decode cX6_row 123 = .ok (.goto (-84), 3) := by decide +kernel
theorem dX6_row_126 : decode cX6_row 126 = .ok (.iload 4, 2) := by decide +kernel
theorem dX6_row_128 : decode cX6_row 128 = .ok (.ifCond .eq 6, 3) := by decide +kernel
theorem dX6_row_131 : decode cX6_row 131 = .ok (.bipush (-2), 2) := by decide +kernel
theorem dX6_row_133 : decode cX6_row 133 = .ok (.ireturn, 1) := by decide +kernel
theorem dX6_row_134 : decode cX6_row 134 = .ok (.aload_n 0, 1) := by decide +kernel
theorem dX6_row_135 : decode cX6_row 135 = .ok (.getfield 143, 3) := by decide +kernel
theorem dX6_row_138 : decode cX6_row 138 = .ok (.ifCond .ne 6, 3) := by decide +kernel
theorem dX6_row_141 : decode cX6_row 141 = .ok (.bipush (-3), 2) := by decide +kernel
theorem dX6_row_143 : decode cX6_row 143 = .ok (.ireturn, 1) := by decide +kernel
theorem dX6_row_144 : decode cX6_row 144 = .ok (.aload_n 0, 1) := by decide +kernel
theorem dX6_row_145 : decode cX6_row 145 = .ok (.getfield 146, 3) := by decide +kernel
theorem dX6_row_148 : decode cX6_row 148 = .ok (.bipush 20, 2) := by decide +kernel
theorem dX6_row_150 : decode cX6_row 150 = .ok (.if_icmp .ne 6, 3) := by decide +kernel
theorem dX6_row_153 : decode cX6_row 153 = .ok (.bipush (-4), 2) := by decide +kernel
theorem dX6_row_155 : decode cX6_row 155 = .ok (.ireturn, 1) := by decide +kernel
theorem dX6_row_156 : decode cX6_row 156 = .ok (.aload_n 0, 1) := by decide +kernel
theorem dX6_row_157 : decode cX6_row 157 = .ok (.getfield 53, 3) := by decide +kernel
theorem dX6_row_160 : decode cX6_row 160 = .ok (.aload_n 0, 1) := by decide +kernel
theorem dX6_row_161 : decode cX6_row 161 = .ok (.getfield 146, 3) := by decide +kernel
theorem dX6_row_164 : decode cX6_row 164 = .ok (.iload_n 1, 1) := by decide +kernel
theorem dX6_row_165 : decode cX6_row 165 = .ok (.iastore, 1) := by decide +kernel
theorem dX6_row_166 : decode cX6_row 166 = .ok (.aload_n 0, 1) := by decide +kernel
theorem dX6_row_167 : decode cX6_row 167 = .ok (.getfield 56, 3) := by decide +kernel
theorem dX6_row_170 : decode cX6_row 170 = .ok (.aload_n 0, 1) := by decide +kernel
theorem dX6_row_171 : decode cX6_row 171 = .ok (.getfield 146, 3) := by decide +kernel
theorem dX6_row_174 : decode cX6_row 174 = .ok (.iload_n 2, 1) := by decide +kernel
theorem dX6_row_175 : decode cX6_row 175 = .ok (.iastore, 1) := by decide +kernel
theorem dX6_row_176 : decode cX6_row 176 = .ok (.aload_n 0, 1) := by decide +kernel
theorem dX6_row_177 : decode cX6_row 177 = .ok (.getfield 59, 3) := by decide +kernel
theorem dX6_row_180 : decode cX6_row 180 = .ok (.aload_n 0, 1) := by decide +kernel
theorem dX6_row_181 : decode cX6_row 181 = .ok (.getfield 146, 3) := by decide +kernel
theorem dX6_row_184 : decode cX6_row 184 = .ok (.iload_n 3, 1) := by decide +kernel
theorem dX6_row_185 : decode cX6_row 185 = .ok (.iastore, 1) := by decide +kernel
theorem dX6_row_186 : decode cX6_row 186 = .ok (.aload_n 0, 1) := by decide +kernel
theorem dX6_row_187 : decode cX6_row 187 = .ok (.getfield 62, 3) := by decide +kernel
theorem dX6_row_190 : decode cX6_row 190 = .ok (.aload_n 0, 1) := by decide +kernel
theorem dX6_row_191 : decode cX6_row 191 = .ok (.getfield 146, 3) := by decide +kernel
theorem dX6_row_194 : decode cX6_row 194 = .ok (.aload_n 0, 1) := by decide +kernel
theorem dX6_row_195 : decode cX6_row 195 = .ok (.getfield 143, 3) := by decide +kernel
theorem dX6_row_198 : decode cX6_row 198 = .ok (.iastore, 1) := by decide +kernel
theorem dX6_row_199 : decode cX6_row 199 = .ok (.iconst 0, 1) := by decide +kernel
theorem dX6_row_200 : decode cX6_row 200 = .ok (.istore 5, 2) := by decide +kernel
theorem dX6_row_202 : decode cX6_row 202 = .ok (.iload 5, 2) := by decide +kernel
theorem dX6_row_204 : decode cX6_row 204 = .ok (.aload_n 0, 1) := by decide +kernel
theorem dX6_row_205 : decode cX6_row 205 = .ok (.getfield 143, 3) := by decide +kernel
theorem dX6_row_208 : decode cX6_row 208 = .ok (.if_icmp .ge 57, 3) := by decide +kernel
theorem dX6_row_211 : decode cX6_row 211 = .ok (.aload_n 0, 1) := by decide +kernel
theorem dX6_row_212 : decode cX6_row 212 = .ok (.getfield 65, 3) := by decide +kernel
theorem dX6_row_215 : decode cX6_row 215 = .ok (.iconst 4, 1) := by decide +kernel
theorem dX6_row_216 : decode cX6_row 216 = .ok (.aload_n 0, 1) := by decide +kernel
theorem dX6_row_217 : decode cX6_row 217 = .ok (.getfield 146, 3) := by decide +kernel
theorem dX6_row_220 : decode cX6_row 220 = .ok (.imul, 1) := by decide +kernel
theorem dX6_row_221 : decode cX6_row 221 = .ok (.iload 5, 2) := by decide +kernel
theorem dX6_row_223 : decode cX6_row 223 = .ok (.iadd, 1) := by decide +kernel
theorem dX6_row_224 : decode cX6_row 224 = .ok (.aload_n 0, 1) := by decide +kernel
theorem dX6_row_225 : decode cX6_row 225 = .ok (.getfield 65, 3) := by decide +kernel
theorem dX6_row_228 : decode cX6_row 228 = .ok (.bipush 80, 2) := by decide +kernel
theorem dX6_row_230 : decode cX6_row 230 = .ok (.iload 5, 2) := by decide +kernel
theorem dX6_row_232 : decode cX6_row 232 = .ok (.iadd, 1) := by decide +kernel
theorem dX6_row_233 : decode cX6_row 233 = .ok (.iaload, 1) := by decide +kernel
theorem dX6_row_234 : decode cX6_row 234 = .ok (.iastore, 1) := by decide +kernel
theorem dX6_row_235 : decode cX6_row 235 = .ok (.aload_n 0, 1) := by decide +kernel
theorem dX6_row_236 : decode cX6_row 236 = .ok (.getfield 68, 3) := by decide +kernel
theorem dX6_row_239 : decode cX6_row 239 = .ok (.iconst 4, 1) := by decide +kernel
theorem dX6_row_240 : decode cX6_row 240 = .ok (.aload_n 0, 1) := by decide +kernel
theorem dX6_row_241 : decode cX6_row 241 = .ok (.getfield 146, 3) := by decide +kernel
theorem dX6_row_244 : decode cX6_row 244 = .ok (.imul, 1) := by decide +kernel
theorem dX6_row_245 : decode cX6_row 245 = .ok (.iload 5, 2) := by decide +kernel
theorem dX6_row_247 : decode cX6_row 247 = .ok (.iadd, 1) := by decide +kernel
theorem dX6_row_248 : decode cX6_row 248 = .ok (.aload_n 0, 1) := by decide +kernel
theorem dX6_row_249 : decode cX6_row 249 = .ok (.getfield 68, 3) := by decide +kernel
theorem dX6_row_252 : decode cX6_row 252 = .ok (.bipush 80, 2) := by decide +kernel
theorem dX6_row_254 : decode cX6_row 254 = .ok (.iload 5, 2) := by decide +kernel
theorem dX6_row_256 : decode cX6_row 256 = .ok (.iadd, 1) := by decide +kernel
theorem dX6_row_257 : decode cX6_row 257 = .ok (.iaload, 1) := by decide +kernel
theorem dX6_row_258 : decode cX6_row 258 = .ok (.iastore, 1) := by decide +kernel
theorem dX6_row_259 : decode cX6_row 259 = .ok (.iinc 5 1, 3) := by decide +kernel
theorem dX6_row_262 : decode cX6_row 262 = .ok (.goto (-60), 3) := by decide +kernel
theorem dX6_row_265 : decode cX6_row 265 = .ok (.aload_n 0, 1) := by decide +kernel
theorem dX6_row_266 : decode cX6_row 266 = .ok (.iconst 0, 1) := by decide +kernel
theorem dX6_row_267 : decode cX6_row 267 = .ok (.putfield 143, 3) := by decide +kernel
theorem dX6_row_270 : decode cX6_row 270 = .ok (.aload_n 0, 1) := by decide +kernel
theorem dX6_row_271 : decode cX6_row 271 = .ok (.dup, 1) := by decide +kernel
theorem dX6_row_272 : decode cX6_row 272 = .ok (.getfield 146, 3) := by decide +kernel
theorem dX6_row_275 : decode cX6_row 275 = .ok (.iconst 1, 1) := by decide +kernel
theorem dX6_row_276 : decode cX6_row 276 = .ok (.iadd, 1) := by decide +kernel
theorem dX6_row_277 : decode cX6_row 277 = .ok (.putfield 146, 3) := by decide +kernel
theorem dX6_row_280 : decode cX6_row 280 = .ok (.aload_n 0, 1) := by decide +kernel
theorem dX6_row_281 : decode cX6_row 281 = .ok (.getfield 146, 3) := by decide +kernel
theorem dX6_row_284 : decode cX6_row 284 = .ok (.iconst 1, 1) := by decide +kernel
theorem dX6_row_285 : decode cX6_row 285 = .ok (.isub, 1) := by decide +kernel
theorem dX6_row_286 : decode cX6_row 286 = .ok (.ireturn, 1) := by decide +kernel
theorem dX6_lowest_0 : decode cX6_lowest 0 = .ok (.iconst 0, 1) := by decide +kernel
theorem dX6_lowest_1 : decode cX6_lowest 1 = .ok (.istore_n 1, 1) := by decide +kernel
theorem dX6_lowest_2 : decode cX6_lowest 2 = .ok (.iload_n 0, 1) := by decide +kernel
theorem dX6_lowest_3 : decode cX6_lowest 3 = .ok (.iload_n 1, 1) := by decide +kernel
theorem dX6_lowest_4 : decode cX6_lowest 4 = .ok (.ishr, 1) := by decide +kernel
theorem dX6_lowest_5 : decode cX6_lowest 5 = .ok (.iconst 1, 1) := by decide +kernel
theorem dX6_lowest_6 : decode cX6_lowest 6 = .ok (.iand, 1) := by decide +kernel
theorem dX6_lowest_7 : decode cX6_lowest 7 = .ok (.ifCond .ne 9, 3) := by decide +kernel
theorem dX6_lowest_10 : decode cX6_lowest 10 = .ok (.iinc 1 1, 3) := by decide +kernel
theorem dX6_lowest_13 : decode cX6_lowest 13 = .ok (.goto (-11), 3) := by decide +kernel
theorem dX6_lowest_16 : decode cX6_lowest 16 = .ok (.iload_n 1, 1) := by decide +kernel
theorem dX6_lowest_17 : decode cX6_lowest 17 = .ok (.ireturn, 1) := by decide +kernel
theorem dX6_valueOf_0 : decode cX6_valueOf 0 = .ok (.aload_n 0, 1) := by decide +kernel
theorem dX6_valueOf_1 : decode cX6_valueOf 1 = .ok (.getfield 13, 3) := by decide +kernel
theorem dX6_valueOf_4 : decode cX6_valueOf 4 = .ok (.iload_n 1, 1) := by decide +kernel
theorem dX6_valueOf_5 : decode cX6_valueOf 5 = .ok (.iaload, 1) := by decide +kernel
theorem dX6_valueOf_6 : decode cX6_valueOf 6 = .ok (.iconst 1, 1) := by decide +kernel
theorem dX6_valueOf_7 : decode cX6_valueOf 7 = .ok (.if_icmp .eq 26, 3) := by decide +kernel
theorem dX6_valueOf_10 : decode cX6_valueOf 10 = .ok (.aload_n 0, 1) := by decide +kernel
theorem dX6_valueOf_11 : decode cX6_valueOf 11 = .ok (.getfield 28, 3) := by decide +kernel
theorem dX6_valueOf_14 : decode cX6_valueOf 14 = .ok (.iload_n 1, 1) := by decide +kernel
theorem dX6_valueOf_15 : decode cX6_valueOf 15 = .ok (.baload, 1) := by decide +kernel
theorem dX6_valueOf_16 : decode cX6_valueOf 16 = .ok (.ifCond .eq 15, 3) := by decide +kernel
theorem dX6_valueOf_19 : decode cX6_valueOf 19 = .ok (.aload_n 0, 1) := by decide +kernel
theorem dX6_valueOf_20 : decode cX6_valueOf 20 = .ok (.getfield 25, 3) := by decide +kernel
theorem dX6_valueOf_23 : decode cX6_valueOf 23 = .ok (.iload_n 1, 1) := by decide +kernel
theorem dX6_valueOf_24 : decode cX6_valueOf 24 = .ok (.iaload, 1) := by decide +kernel
theorem dX6_valueOf_25 : decode cX6_valueOf 25 = .ok (.invokestatic 149, 3) := by decide +kernel
theorem dX6_valueOf_28 : decode cX6_valueOf 28 = .ok (.goto 4, 3) := by decide +kernel
theorem dX6_valueOf_31 : decode cX6_valueOf 31 = .ok (.iconst (-1), 1) := by decide +kernel
theorem dX6_valueOf_32 : decode cX6_valueOf 32 = .ok (.ireturn, 1) := by decide +kernel
theorem dX6_valueOf_33 : decode cX6_valueOf 33 = .ok (.aload_n 0, 1) := by decide +kernel
theorem dX6_valueOf_34 : decode cX6_valueOf 34 = .ok (.getfield 19, 3) := by decide +kernel
theorem dX6_valueOf_37 : decode cX6_valueOf 37 = .ok (.iload_n 1, 1) := by decide +kernel
theorem dX6_valueOf_38 : decode cX6_valueOf 38 = .ok (.iaload, 1) := by decide +kernel
theorem dX6_valueOf_39 : decode cX6_valueOf 39 = .ok (.istore_n 2, 1) := by decide +kernel
theorem dX6_valueOf_40 : decode cX6_valueOf 40 = .ok (.aload_n 0, 1) := by decide +kernel
theorem dX6_valueOf_41 : decode cX6_valueOf 41 = .ok (.getfield 22, 3) := by decide +kernel
theorem dX6_valueOf_44 : decode cX6_valueOf 44 = .ok (.iload_n 1, 1) := by decide +kernel
theorem dX6_valueOf_45 : decode cX6_valueOf 45 = .ok (.iaload, 1) := by decide +kernel
theorem dX6_valueOf_46 : decode cX6_valueOf 46 = .ok (.istore_n 3, 1) := by decide +kernel
theorem dX6_valueOf_47 : decode cX6_valueOf 47 = .ok (.aload_n 0, 1) := by decide +kernel
theorem dX6_valueOf_48 : decode cX6_valueOf 48 = .ok (.getfield 28, 3) := by decide +kernel
theorem dX6_valueOf_51 : decode cX6_valueOf 51 = .ok (.iload_n 2, 1) := by decide +kernel
theorem dX6_valueOf_52 : decode cX6_valueOf 52 = .ok (.baload, 1) := by decide +kernel
theorem dX6_valueOf_53 : decode cX6_valueOf 53 = .ok (.ifCond .eq 41, 3) := by decide +kernel
theorem dX6_valueOf_56 : decode cX6_valueOf 56 = .ok (.aload_n 0, 1) := by decide +kernel
theorem dX6_valueOf_57 : decode cX6_valueOf 57 = .ok (.getfield 28, 3) := by decide +kernel
theorem dX6_valueOf_60 : decode cX6_valueOf 60 = .ok (.iload_n 3, 1) := by decide +kernel
theorem dX6_valueOf_61 : decode cX6_valueOf 61 = .ok (.baload, 1) := by decide +kernel
theorem dX6_valueOf_62 : decode cX6_valueOf 62 = .ok (.ifCond .eq 32, 3) := by decide +kernel
theorem dX6_valueOf_65 : decode cX6_valueOf 65 = .ok (.aload_n 0, 1) := by decide +kernel
theorem dX6_valueOf_66 : decode cX6_valueOf 66 = .ok (.getfield 25, 3) := by decide +kernel
theorem dX6_valueOf_69 : decode cX6_valueOf 69 = .ok (.iload_n 2, 1) := by decide +kernel
theorem dX6_valueOf_70 : decode cX6_valueOf 70 = .ok (.iaload, 1) := by decide +kernel
theorem dX6_valueOf_71 : decode cX6_valueOf 71 = .ok (.invokestatic 149, 3) := by decide +kernel
theorem dX6_valueOf_74 : decode cX6_valueOf 74 = .ok (.aload_n 0, 1) := by decide +kernel
theorem dX6_valueOf_75 : decode cX6_valueOf 75 = .ok (.getfield 25, 3) := by decide +kernel
theorem dX6_valueOf_78 : decode cX6_valueOf 78 = .ok (.iload_n 3, 1) := by decide +kernel
theorem dX6_valueOf_79 : decode cX6_valueOf 79 = .ok (.iaload, 1) := by decide +kernel
theorem dX6_valueOf_80 : decode cX6_valueOf 80 = .ok (.invokestatic 149, 3) := by decide +kernel
theorem dX6_valueOf_83 : decode cX6_valueOf 83 = .ok (.iadd, 1) := by decide +kernel
theorem dX6_valueOf_84 : decode cX6_valueOf 84 = .ok (.aload_n 0, 1) := by decide +kernel
theorem dX6_valueOf_85 : decode cX6_valueOf 85 = .ok (.getfield 16, 3) := by decide +kernel
theorem dX6_valueOf_88 : decode cX6_valueOf 88 = .ok (.iload_n 1, 1) := by decide +kernel
theorem dX6_valueOf_89 : decode cX6_valueOf 89 = .ok (.iaload, 1) := by decide +kernel
theorem dX6_valueOf_90 : decode cX6_valueOf 90 = .ok (.irem, 1) := by decide +kernel
theorem dX6_valueOf_91 : decode cX6_valueOf 91 = .ok (.goto 4, 3) := by decide +kernel
theorem dX6_valueOf_94 : decode cX6_valueOf 94 = .ok (.iconst (-1), 1) := by decide +kernel
theorem dX6_valueOf_95 : decode cX6_valueOf 95 = .ok (.ireturn, 1) := by decide +kernel
theorem dX6_isWanted_0 : decode cX6_isWanted 0 = .ok (.iconst 5, 1) := by decide +kernel
theorem dX6_isWanted_1 : decode cX6_isWanted 1 = .ok (.iload_n 1, 1) := by decide +kernel
theorem dX6_isWanted_2 : decode cX6_isWanted 2 = .ok (.imul, 1) := by decide +kernel
theorem dX6_isWanted_3 : decode cX6_isWanted 3 = .ok (.iload_n 2, 1) := by decide +kernel
theorem dX6_isWanted_4 : decode cX6_isWanted 4 = .ok (.iadd, 1) := by decide +kernel
theorem dX6_isWanted_5 : decode cX6_isWanted 5 = .ok (.istore_n 3, 1) := by decide +kernel
theorem dX6_isWanted_6 : decode cX6_isWanted 6 = .ok (.iconst 0, 1) := by decide +kernel
theorem dX6_isWanted_7 : decode cX6_isWanted 7 = .ok (.istore 4, 2) := by decide +kernel
theorem dX6_isWanted_9 : decode cX6_isWanted 9 = .ok (.bipush 6, 2) := by decide +kernel
theorem dX6_isWanted_11 : decode cX6_isWanted 11 = .ok (.iload_n 1, 1) := by decide +kernel
theorem dX6_isWanted_12 : decode cX6_isWanted 12 = .ok (.imul, 1) := by decide +kernel
theorem dX6_isWanted_13 : decode cX6_isWanted 13 = .ok (.istore 5, 2) := by decide +kernel
theorem dX6_isWanted_15 : decode cX6_isWanted 15 = .ok (.iload 5, 2) := by decide +kernel
theorem dX6_isWanted_17 : decode cX6_isWanted 17 = .ok (.bipush 6, 2) := by decide +kernel
theorem dX6_isWanted_19 : decode cX6_isWanted 19 = .ok (.iload_n 1, 1) := by decide +kernel
theorem dX6_isWanted_20 : decode cX6_isWanted 20 = .ok (.imul, 1) := by decide +kernel
theorem dX6_isWanted_21 : decode cX6_isWanted 21 = .ok (.aload_n 0, 1) := by decide +kernel
theorem dX6_isWanted_22 : decode cX6_isWanted 22 = .ok (.getfield 32, 3) := by decide +kernel
theorem dX6_isWanted_25 : decode cX6_isWanted 25 = .ok (.iload_n 1, 1) := by decide +kernel
theorem dX6_isWanted_26 : decode cX6_isWanted 26 = .ok (.iaload, 1) := by decide +kernel
theorem dX6_isWanted_27 : decode cX6_isWanted 27 = .ok (.iadd, 1) := by decide +kernel
theorem dX6_isWanted_28 : decode cX6_isWanted 28 = .ok (.if_icmp .ge 59, 3) := by decide +kernel
theorem dX6_isWanted_31 : decode cX6_isWanted 31 = .ok (.aload_n 0, 1) := by decide +kernel
theorem dX6_isWanted_32 : decode cX6_isWanted 32 = .ok (.getfield 35, 3) := by decide +kernel
theorem dX6_isWanted_35 : decode cX6_isWanted 35 = .ok (.iload 5, 2) := by decide +kernel
theorem dX6_isWanted_37 : decode cX6_isWanted 37 = .ok (.baload, 1) := by decide +kernel
theorem dX6_isWanted_38 : decode cX6_isWanted 38 = .ok (.ifCond .ne 43, 3) := by decide +kernel
theorem dX6_isWanted_41 : decode cX6_isWanted 41 = .ok (.aload_n 0, 1) := by decide +kernel
theorem dX6_isWanted_42 : decode cX6_isWanted 42 = .ok (.getfield 44, 3) := by decide +kernel
theorem dX6_isWanted_45 : decode cX6_isWanted 45 = .ok (.iload 5, 2) := by decide +kernel
theorem dX6_isWanted_47 : decode cX6_isWanted 47 = .ok (.iaload, 1) := by decide +kernel
theorem dX6_isWanted_48 : decode cX6_isWanted 48 = .ok (.iload_n 3, 1) := by decide +kernel
theorem dX6_isWanted_49 : decode cX6_isWanted 49 = .ok (.if_icmp .eq 6, 3) := by decide +kernel
theorem dX6_isWanted_52 : decode cX6_isWanted 52 = .ok (.goto 29, 3) := by decide +kernel
theorem dX6_isWanted_55 : decode cX6_isWanted 55 = .ok (.aload_n 0, 1) := by decide +kernel
theorem dX6_isWanted_56 : decode cX6_isWanted 56 = .ok (.aload_n 0, 1) := by decide +kernel
theorem dX6_isWanted_57 : decode cX6_isWanted 57 = .ok (.getfield 38, 3) := by decide +kernel
theorem dX6_isWanted_60 : decode cX6_isWanted 60 = .ok (.iload 5, 2) := by decide +kernel
theorem dX6_isWanted_62 : decode cX6_isWanted 62 = .ok (.iaload, 1) := by decide +kernel
theorem dX6_isWanted_63 : decode cX6_isWanted 63 = .ok (.invokevirtual 153, 3) := by decide +kernel
theorem dX6_isWanted_66 : decode cX6_isWanted 66 = .ok (.aload_n 0, 1) := by decide +kernel
theorem dX6_isWanted_67 : decode cX6_isWanted 67 = .ok (.getfield 41, 3) := by decide +kernel
theorem dX6_isWanted_70 : decode cX6_isWanted 70 = .ok (.iload 5, 2) := by decide +kernel
theorem dX6_isWanted_72 : decode cX6_isWanted 72 = .ok (.iaload, 1) := by decide +kernel
theorem dX6_isWanted_73 : decode cX6_isWanted 73 = .ok (.if_icmp .ne 5, 3) := by decide +kernel
theorem dX6_isWanted_76 : decode cX6_isWanted 76 = .ok (.iconst 1, 1) := by decide +kernel
theorem dX6_isWanted_77 : decode cX6_isWanted 77 = .ok (.ireturn, 1) := by decide +kernel
theorem dX6_isWanted_78 : decode cX6_isWanted 78 = .ok (.iconst 1, 1) := by decide +kernel
theorem dX6_isWanted_79 : decode cX6_isWanted 79 = .ok (.istore 4, 2) := by decide +kernel
theorem dX6_isWanted_81 : decode cX6_isWanted 81 = .ok (.iinc 5 1, 3) := by decide +kernel
theorem dX6_isWanted_84 : decode cX6_isWanted 84 = .ok (.goto (-69), 3) := by decide +kernel
theorem dX6_isWanted_87 : decode cX6_isWanted 87 = .ok (.iload 4, 2) := by decide +kernel
theorem dX6_isWanted_89 : decode cX6_isWanted 89 = .ok (.ifCond .ne 17, 3) := by decide +kernel
theorem dX6_isWanted_92 : decode cX6_isWanted 92 = .ok (.aload_n 0, 1) := by decide +kernel
theorem dX6_isWanted_93 : decode cX6_isWanted 93 = .ok (.getfield 13, 3) := by decide +kernel
theorem dX6_isWanted_96 : decode cX6_isWanted 96 = .ok (.iload_n 3, 1) := by decide +kernel
theorem dX6_isWanted_97 : decode cX6_isWanted 97 = .ok (.iaload, 1) := by decide +kernel
theorem dX6_isWanted_98 : decode cX6_isWanted 98 = .ok (.iconst 1, 1) := by decide +kernel
theorem dX6_isWanted_99 : decode cX6_isWanted 99 = .ok (.if_icmp .eq 7, 3) := by decide +kernel
theorem dX6_isWanted_102 : decode cX6_isWanted 102 = .ok (.iconst 1, 1) := by decide +kernel
theorem dX6_isWanted_103 : decode cX6_isWanted 103 = .ok (.goto 4, 3) := by decide +kernel
theorem dX6_isWanted_106 : decode cX6_isWanted 106 = .ok (.iconst 0, 1) := by decide +kernel
theorem dX6_isWanted_107 : decode cX6_isWanted 107 = .ok (.ireturn, 1) := by decide +kernel
theorem dX6_broken_0 : decode cX6_broken 0 = .ok (.bipush 6, 2) := by decide +kernel
theorem dX6_broken_2 : decode cX6_broken 2 = .ok (.iload_n 1, 1) := by decide +kernel
theorem dX6_broken_3 : decode cX6_broken 3 = .ok (.imul, 1) := by decide +kernel
theorem dX6_broken_4 : decode cX6_broken 4 = .ok (.istore_n 2, 1) := by decide +kernel
theorem dX6_broken_5 : decode cX6_broken 5 = .ok (.iload_n 2, 1) := by decide +kernel
theorem dX6_broken_6 : decode cX6_broken 6 = .ok (.bipush 6, 2) := by decide +kernel
theorem dX6_broken_8 : decode cX6_broken 8 = .ok (.iload_n 1, 1) := by decide +kernel
theorem dX6_broken_9 : decode cX6_broken 9 = .ok (.imul, 1) := by decide +kernel
theorem dX6_broken_10 : decode cX6_broken 10 = .ok (.aload_n 0, 1) := by decide +kernel
theorem dX6_broken_11 : decode cX6_broken 11 = .ok (.getfield 32, 3) := by decide +kernel
theorem dX6_broken_14 : decode cX6_broken 14 = .ok (.iload_n 1, 1) := by decide +kernel
theorem dX6_broken_15 : decode cX6_broken 15 = .ok (.iaload, 1) := by decide +kernel
theorem dX6_broken_16 : decode cX6_broken 16 = .ok (.iadd, 1) := by decide +kernel
theorem dX6_broken_17 : decode cX6_broken 17 = .ok (.if_icmp .ge 63, 3) := by decide +kernel
theorem dX6_broken_20 : decode cX6_broken 20 = .ok (.aload_n 0, 1) := by decide +kernel
theorem dX6_broken_21 : decode cX6_broken 21 = .ok (.getfield 35, 3) := by decide +kernel
theorem dX6_broken_24 : decode cX6_broken 24 = .ok (.iload_n 2, 1) := by decide +kernel
theorem dX6_broken_25 : decode cX6_broken 25 = .ok (.baload, 1) := by decide +kernel
theorem dX6_broken_26 : decode cX6_broken 26 = .ok (.ifCond .eq 48, 3) := by decide +kernel
theorem dX6_broken_29 : decode cX6_broken 29 = .ok (.aload_n 0, 1) := by decide +kernel
theorem dX6_broken_30 : decode cX6_broken 30 = .ok (.aload_n 0, 1) := by decide +kernel
theorem dX6_broken_31 : decode cX6_broken 31 = .ok (.getfield 38, 3) := by decide +kernel
theorem dX6_broken_34 : decode cX6_broken 34 = .ok (.iload_n 2, 1) := by decide +kernel
theorem dX6_broken_35 : decode cX6_broken 35 = .ok (.iaload, 1) := by decide +kernel
theorem dX6_broken_36 : decode cX6_broken 36 = .ok (.invokevirtual 153, 3) := by decide +kernel
theorem dX6_broken_39 : decode cX6_broken 39 = .ok (.aload_n 0, 1) := by decide +kernel
theorem dX6_broken_40 : decode cX6_broken 40 = .ok (.getfield 41, 3) := by decide +kernel
theorem dX6_broken_43 : decode cX6_broken 43 = .ok (.iload_n 2, 1) := by decide +kernel
theorem dX6_broken_44 : decode cX6_broken 44 = .ok (.iaload, 1) := by decide +kernel
theorem dX6_broken_45 : decode cX6_broken 45 = .ok (.if_icmp .ne 29, 3) := by decide +kernel
theorem dX6_broken_48 : decode cX6_broken 48 = .ok (.aload_n 0, 1) := by decide +kernel
theorem dX6_broken_49 : decode cX6_broken 49 = .ok (.aload_n 0, 1) := by decide +kernel
theorem dX6_broken_50 : decode cX6_broken 50 = .ok (.getfield 44, 3) := by decide +kernel
theorem dX6_broken_53 : decode cX6_broken 53 = .ok (.iload_n 2, 1) := by decide +kernel
theorem dX6_broken_54 : decode cX6_broken 54 = .ok (.iaload, 1) := by decide +kernel
theorem dX6_broken_55 : decode cX6_broken 55 = .ok (.invokevirtual 153, 3) := by decide +kernel
theorem dX6_broken_58 : decode cX6_broken 58 = .ok (.aload_n 0, 1) := by decide +kernel
theorem dX6_broken_59 : decode cX6_broken 59 = .ok (.getfield 47, 3) := by decide +kernel
theorem dX6_broken_62 : decode cX6_broken 62 = .ok (.iload_n 2, 1) := by decide +kernel
theorem dX6_broken_63 : decode cX6_broken 63 = .ok (.iaload, 1) := by decide +kernel
theorem dX6_broken_64 : decode cX6_broken 64 = .ok (.if_icmp .ne 10, 3) := by decide +kernel
theorem dX6_broken_67 : decode cX6_broken 67 = .ok (.iload_n 2, 1) := by decide +kernel
theorem dX6_broken_68 : decode cX6_broken 68 = .ok (.bipush 6, 2) := by decide +kernel
theorem dX6_broken_70 : decode cX6_broken 70 = .ok (.iload_n 1, 1) := by decide +kernel
theorem dX6_broken_71 : decode cX6_broken 71 = .ok (.imul, 1) := by decide +kernel
theorem dX6_broken_72 : decode cX6_broken 72 = .ok (.isub, 1) := by decide +kernel
theorem dX6_broken_73 : decode cX6_broken 73 = .ok (.ireturn, 1) := by decide +kernel
theorem dX6_broken_74 : decode cX6_broken 74 = .ok (.iinc 2 1, 3) := by decide +kernel
theorem dX6_broken_77 : decode cX6_broken 77 = .ok (.goto (-72), 3) := by decide +kernel
theorem dX6_broken_80 : decode cX6_broken 80 = .ok (.iconst (-1), 1) := by decide +kernel
theorem dX6_broken_81 : decode cX6_broken 81 = .ok (.ireturn, 1) := by decide +kernel
theorem dX6_open_0 : decode cX6_open 0 = .ok (.aload_n 0, 1) := by decide +kernel
theorem dX6_open_1 : decode cX6_open 1 = .ok (.iload_n 1, 1) := by decide +kernel
theorem dX6_open_2 : decode cX6_open 2 = .ok (.invokevirtual 118, 3) := by decide +kernel
theorem dX6_open_5 : decode cX6_open 5 = .ok (.ifCond .ne 5, 3) := by decide +kernel
theorem dX6_open_8 : decode cX6_open 8 = .ok (.iconst (-1), 1) := by decide +kernel
theorem dX6_open_9 : decode cX6_open 9 = .ok (.ireturn, 1) := by decide +kernel
theorem dX6_open_10 : decode cX6_open 10 = .ok (.aload_n 0, 1) := by decide +kernel
theorem dX6_open_11 : decode cX6_open 11 = .ok (.iload_n 1, 1) := by decide +kernel
theorem dX6_open_12 : decode cX6_open 12 = .ok (.invokevirtual 129, 3) := by decide +kernel
theorem dX6_open_15 : decode cX6_open 15 = .ok (.ifCond .eq 6, 3) := by decide +kernel
theorem dX6_open_18 : decode cX6_open 18 = .ok (.bipush (-3), 2) := by decide +kernel
theorem dX6_open_20 : decode cX6_open 20 = .ok (.ireturn, 1) := by decide +kernel
theorem dX6_open_21 : decode cX6_open 21 = .ok (.aload_n 0, 1) := by decide +kernel
theorem dX6_open_22 : decode cX6_open 22 = .ok (.getfield 71, 3) := by decide +kernel
theorem dX6_open_25 : decode cX6_open 25 = .ok (.aload_n 0, 1) := by decide +kernel
theorem dX6_open_26 : decode cX6_open 26 = .ok (.getfield 126, 3) := by decide +kernel
theorem dX6_open_29 : decode cX6_open 29 = .ok (.iload_n 1, 1) := by decide +kernel
theorem dX6_open_30 : decode cX6_open 30 = .ok (.iastore, 1) := by decide +kernel
theorem dX6_open_31 : decode cX6_open 31 = .ok (.aload_n 0, 1) := by decide +kernel
theorem dX6_open_32 : decode cX6_open 32 = .ok (.dup, 1) := by decide +kernel
theorem dX6_open_33 : decode cX6_open 33 = .ok (.getfield 126, 3) := by decide +kernel
theorem dX6_open_36 : decode cX6_open 36 = .ok (.iconst 1, 1) := by decide +kernel
theorem dX6_open_37 : decode cX6_open 37 = .ok (.iadd, 1) := by decide +kernel
theorem dX6_open_38 : decode cX6_open 38 = .ok (.putfield 126, 3) := by decide +kernel
theorem dX6_open_41 : decode cX6_open 41 = .ok (.iconst 0, 1) := by decide +kernel
theorem dX6_open_42 : decode cX6_open 42 = .ok (.istore_n 2, 1) := by decide +kernel
theorem dX6_open_43 : decode cX6_open 43 = .ok (.iload_n 2, 1) := by decide +kernel
theorem dX6_open_44 : decode cX6_open 44 = .ok (.iconst 5, 1) := by decide +kernel
theorem dX6_open_45 : decode cX6_open 45 = .ok (.if_icmp .ge 31, 3) := by decide +kernel
theorem dX6_open_48 : decode cX6_open 48 = .ok (.aload_n 0, 1) := by decide +kernel
theorem dX6_open_49 : decode cX6_open 49 = .ok (.getfield 25, 3) := by decide +kernel
theorem dX6_open_52 : decode cX6_open 52 = .ok (.iconst 5, 1) := by decide +kernel
theorem dX6_open_53 : decode cX6_open 53 = .ok (.iload_n 1, 1) := by decide +kernel
theorem dX6_open_54 : decode cX6_open 54 = .ok (.imul, 1) := by decide +kernel
theorem dX6_open_55 : decode cX6_open 55 = .ok (.iload_n 2, 1) := by decide +kernel
theorem dX6_open_56 : decode cX6_open 56 = .ok (.iadd, 1) := by decide +kernel
theorem dX6_open_57 : decode cX6_open 57 = .ok (.iconst 0, 1) := by decide +kernel
theorem dX6_open_58 : decode cX6_open 58 = .ok (.iastore, 1) := by decide +kernel
theorem dX6_open_59 : decode cX6_open 59 = .ok (.aload_n 0, 1) := by decide +kernel
theorem dX6_open_60 : decode cX6_open 60 = .ok (.getfield 28, 3) := by decide +kernel
theorem dX6_open_63 : decode cX6_open 63 = .ok (.iconst 5, 1) := by decide +kernel
theorem dX6_open_64 : decode cX6_open 64 = .ok (.iload_n 1, 1) := by decide +kernel
theorem dX6_open_65 : decode cX6_open 65 = .ok (.imul, 1) := by decide +kernel
theorem dX6_open_66 : decode cX6_open 66 = .ok (.iload_n 2, 1) := by decide +kernel
theorem dX6_open_67 : decode cX6_open 67 = .ok (.iadd, 1) := by decide +kernel
theorem dX6_open_68 : decode cX6_open 68 = .ok (.iconst 0, 1) := by decide +kernel
theorem dX6_open_69 : decode cX6_open 69 = .ok (.bastore, 1) := by decide +kernel
theorem dX6_open_70 : decode cX6_open 70 = .ok (.iinc 2 1, 3) := by decide +kernel
theorem dX6_open_73 : decode cX6_open 73 = .ok (.goto (-30), 3) := by decide +kernel
theorem dX6_open_76 : decode cX6_open 76 = .ok (.aload_n 0, 1) := by decide +kernel
theorem dX6_open_77 : decode cX6_open 77 = .ok (.iconst 0, 1) := by decide +kernel
theorem dX6_open_78 : decode cX6_open 78 = .ok (.putfield 156, 3) := by decide +kernel
theorem dX6_open_81 : decode cX6_open 81 = .ok (.aload_n 0, 1) := by decide +kernel
theorem dX6_open_82 : decode cX6_open 82 = .ok (.iconst (-1), 1) := by decide +kernel
theorem dX6_open_83 : decode cX6_open 83 = .ok (.putfield 80, 3) := by decide +kernel
theorem dX6_open_86 : decode cX6_open 86 = .ok (.aload_n 0, 1) := by decide +kernel
theorem dX6_open_87 : decode cX6_open 87 = .ok (.getfield 126, 3) := by decide +kernel
theorem dX6_open_90 : decode cX6_open 90 = .ok (.ireturn, 1) := by decide +kernel
theorem dX6_close_0 : decode cX6_close 0 = .ok (.aload_n 0, 1) := by decide +kernel
theorem dX6_close_1 : decode cX6_close 1 = .ok (.getfield 126, 3) := by decide +kernel
theorem dX6_close_4 : decode cX6_close 4 = .ok (.ifCond .ne 6, 3) := by decide +kernel
theorem dX6_close_7 : decode cX6_close 7 = .ok (.bipush (-3), 2) := by decide +kernel
theorem dX6_close_9 : decode cX6_close 9 = .ok (.ireturn, 1) := by decide +kernel
theorem dX6_close_10 : decode cX6_close 10 = .ok (.aload_n 0, 1) := by decide +kernel
theorem dX6_close_11 : decode cX6_close 11 = .ok (.dup, 1) := by decide +kernel
theorem dX6_close_12 : decode cX6_close 12 = .ok (.getfield 126, 3) := by decide +kernel
theorem dX6_close_15 : decode cX6_close 15 = .ok (.iconst 1, 1) := by decide +kernel
theorem dX6_close_16 : decode cX6_close 16 = .ok (.isub, 1) := by decide +kernel
theorem dX6_close_17 : decode cX6_close 17 = .ok (.putfield 126, 3) := by decide +kernel
theorem dX6_close_20 : decode cX6_close 20 = .ok (.aload_n 0, 1) := by decide +kernel
theorem dX6_close_21 : decode cX6_close 21 = .ok (.iconst 0, 1) := by decide +kernel
theorem dX6_close_22 : decode cX6_close 22 = .ok (.putfield 156, 3) := by decide +kernel
theorem dX6_close_25 : decode cX6_close 25 = .ok (.aload_n 0, 1) := by decide +kernel
theorem dX6_close_26 : decode cX6_close 26 = .ok (.iconst (-1), 1) := by decide +kernel
theorem dX6_close_27 : decode cX6_close 27 = .ok (.putfield 80, 3) := by decide +kernel
theorem dX6_close_30 : decode cX6_close 30 = .ok (.aload_n 0, 1) := by decide +kernel
theorem dX6_close_31 : decode cX6_close 31 = .ok (.getfield 71, 3) := by decide +kernel
theorem dX6_close_34 : decode cX6_close 34 = .ok (.aload_n 0, 1) := by decide +kernel
theorem dX6_close_35 : decode cX6_close 35 = .ok (.getfield 126, 3) := by decide +kernel
theorem dX6_close_38 : decode cX6_close 38 = .ok (.iaload, 1) := by decide +kernel
theorem dX6_close_39 : decode cX6_close 39 = .ok (.ireturn, 1) := by decide +kernel
theorem dX6_keep_0 : decode cX6_keep 0 = .ok (.aload_n 0, 1) := by decide +kernel
theorem dX6_keep_1 : decode cX6_keep 1 = .ok (.getfield 156, 3) := by decide +kernel
theorem dX6_keep_4 : decode cX6_keep 4 = .ok (.bipush 10, 2) := by decide +kernel
theorem dX6_keep_6 : decode cX6_keep 6 = .ok (.if_icmp .ne 58, 3) := by decide +kernel
theorem dX6_keep_9 : decode cX6_keep 9 = .ok (.iconst 0, 1) := by decide +kernel
theorem dX6_keep_10 : decode cX6_keep 10 = .ok (.istore_n 1, 1) := by decide +kernel
theorem dX6_keep_11 : decode cX6_keep 11 = .ok (.iload_n 1, 1) := by decide +kernel
theorem dX6_keep_12 : decode cX6_keep 12 = .ok (.sipush 135, 3) := by decide +kernel
theorem dX6_keep_15 : decode cX6_keep 15 = .ok (.if_icmp .ge 39, 3) := by decide +kernel
theorem dX6_keep_18 : decode cX6_keep 18 = .ok (.aload_n 0, 1) := by decide +kernel
theorem dX6_keep_19 : decode cX6_keep 19 = .ok (.getfield 74, 3) := by decide +kernel
theorem dX6_keep_22 : decode cX6_keep 22 = .ok (.iload_n 1, 1) := by decide +kernel
theorem dX6_keep_23 : decode cX6_keep 23 = .ok (.aload_n 0, 1) := by decide +kernel
theorem dX6_keep_24 : decode cX6_keep 24 = .ok (.getfield 74, 3) := by decide +kernel
theorem dX6_keep_27 : decode cX6_keep 27 = .ok (.iload_n 1, 1) := by decide +kernel
theorem dX6_keep_28 : decode cX6_keep 28 = .ok (.bipush 15, 2) := by decide +kernel
theorem dX6_keep_30 : decode cX6_keep 30 = .ok (.iadd, 1) := by decide +kernel
theorem dX6_keep_31 : decode cX6_keep 31 = .ok (.iaload, 1) := by decide +kernel
theorem dX6_keep_32 : decode cX6_keep 32 = .ok (.iastore, 1) := by decide +kernel
theorem dX6_keep_33 : decode cX6_keep 33 = .ok (.aload_n 0, 1) := by decide +kernel
theorem dX6_keep_34 : decode cX6_keep 34 = .ok (.getfield 77, 3) := by decide +kernel
theorem dX6_keep_37 : decode cX6_keep 37 = .ok (.iload_n 1, 1) := by decide +kernel
theorem dX6_keep_38 : decode cX6_keep 38 = .ok (.aload_n 0, 1) := by decide +kernel
theorem dX6_keep_39 : decode cX6_keep 39 = .ok (.getfield 77, 3) := by decide +kernel
theorem dX6_keep_42 : decode cX6_keep 42 = .ok (.iload_n 1, 1) := by decide +kernel
theorem dX6_keep_43 : decode cX6_keep 43 = .ok (.bipush 15, 2) := by decide +kernel
theorem dX6_keep_45 : decode cX6_keep 45 = .ok (.iadd, 1) := by decide +kernel
theorem dX6_keep_46 : decode cX6_keep 46 = .ok (.baload, 1) := by decide +kernel
theorem dX6_keep_47 : decode cX6_keep 47 = .ok (.bastore, 1) := by decide +kernel
theorem dX6_keep_48 : decode cX6_keep 48 = .ok (.iinc 1 1, 3) := by decide +kernel
theorem dX6_keep_51 : decode cX6_keep 51 = .ok (.goto (-40), 3) := by decide +kernel
theorem dX6_keep_54 : decode cX6_keep 54 = .ok (.aload_n 0, 1) := by decide +kernel
theorem dX6_keep_55 : decode cX6_keep 55 = .ok (.dup, 1) := by decide +kernel
theorem dX6_keep_56 : decode cX6_keep 56 = .ok (.getfield 156, 3) := by decide +kernel
theorem dX6_keep_59 : decode cX6_keep 59 = .ok (.iconst 1, 1) := by decide +kernel
theorem dX6_keep_60 : decode cX6_keep 60 = .ok (.isub, 1) := by decide +kernel
theorem dX6_keep_61 : decode cX6_keep 61 = .ok (.putfield 156, 3) := by decide +kernel
theorem dX6_keep_64 : decode cX6_keep 64 = .ok (.iconst 0, 1) := by decide +kernel
theorem dX6_keep_65 : decode cX6_keep 65 = .ok (.istore_n 1, 1) := by decide +kernel
theorem dX6_keep_66 : decode cX6_keep 66 = .ok (.iload_n 1, 1) := by decide +kernel
theorem dX6_keep_67 : decode cX6_keep 67 = .ok (.bipush 15, 2) := by decide +kernel
theorem dX6_keep_69 : decode cX6_keep 69 = .ok (.if_icmp .ge 49, 3) := by decide +kernel
theorem dX6_keep_72 : decode cX6_keep 72 = .ok (.aload_n 0, 1) := by decide +kernel
theorem dX6_keep_73 : decode cX6_keep 73 = .ok (.getfield 74, 3) := by decide +kernel
theorem dX6_keep_76 : decode cX6_keep 76 = .ok (.bipush 15, 2) := by decide +kernel
theorem dX6_keep_78 : decode cX6_keep 78 = .ok (.aload_n 0, 1) := by decide +kernel
theorem dX6_keep_79 : decode cX6_keep 79 = .ok (.getfield 156, 3) := by decide +kernel
theorem dX6_keep_82 : decode cX6_keep 82 = .ok (.imul, 1) := by decide +kernel
theorem dX6_keep_83 : decode cX6_keep 83 = .ok (.iload_n 1, 1) := by decide +kernel
theorem dX6_keep_84 : decode cX6_keep 84 = .ok (.iadd, 1) := by decide +kernel
theorem dX6_keep_85 : decode cX6_keep 85 = .ok (.aload_n 0, 1) := by decide +kernel
theorem dX6_keep_86 : decode cX6_keep 86 = .ok (.getfield 25, 3) := by decide +kernel
theorem dX6_keep_89 : decode cX6_keep 89 = .ok (.iload_n 1, 1) := by decide +kernel
theorem dX6_keep_90 : decode cX6_keep 90 = .ok (.iaload, 1) := by decide +kernel
theorem dX6_keep_91 : decode cX6_keep 91 = .ok (.iastore, 1) := by decide +kernel
theorem dX6_keep_92 : decode cX6_keep 92 = .ok (.aload_n 0, 1) := by decide +kernel
theorem dX6_keep_93 : decode cX6_keep 93 = .ok (.getfield 77, 3) := by decide +kernel
theorem dX6_keep_96 : decode cX6_keep 96 = .ok (.bipush 15, 2) := by decide +kernel
theorem dX6_keep_98 : decode cX6_keep 98 = .ok (.aload_n 0, 1) := by decide +kernel
theorem dX6_keep_99 : decode cX6_keep 99 = .ok (.getfield 156, 3) := by decide +kernel
theorem dX6_keep_102 : decode cX6_keep 102 = .ok (.imul, 1) := by decide +kernel
theorem dX6_keep_103 : decode cX6_keep 103 = .ok (.iload_n 1, 1) := by decide +kernel
theorem dX6_keep_104 : decode cX6_keep 104 = .ok (.iadd, 1) := by decide +kernel
theorem dX6_keep_105 : decode cX6_keep 105 = .ok (.aload_n 0, 1) := by decide +kernel
theorem dX6_keep_106 : decode cX6_keep 106 = .ok (.getfield 28, 3) := by decide +kernel
theorem dX6_keep_109 : decode cX6_keep 109 = .ok (.iload_n 1, 1) := by decide +kernel
theorem dX6_keep_110 : decode cX6_keep 110 = .ok (.baload, 1) := by decide +kernel
theorem dX6_keep_111 : decode cX6_keep 111 = .ok (.bastore, 1) := by decide +kernel
theorem dX6_keep_112 : decode cX6_keep 112 = .ok (.iinc 1 1, 3) := by decide +kernel
theorem dX6_keep_115 : decode cX6_keep 115 = .ok (.goto (-49), 3) := by decide +kernel
theorem dX6_keep_118 : decode cX6_keep 118 = .ok (.aload_n 0, 1) := by decide +kernel
theorem dX6_keep_119 : decode cX6_keep 119 = .ok (.dup, 1) := by decide +kernel
theorem dX6_keep_120 : decode cX6_keep 120 = .ok (.getfield 156, 3) := by decide +kernel
theorem dX6_keep_123 : decode cX6_keep 123 = .ok (.iconst 1, 1) := by decide +kernel
theorem dX6_keep_124 : decode cX6_keep 124 = .ok (.iadd, 1) := by decide +kernel
theorem dX6_keep_125 : decode cX6_keep 125 = .ok (.putfield 156, 3) := by decide +kernel
theorem dX6_keep_128 : decode cX6_keep 128 = .ok (.return_, 1) := by decide +kernel
theorem dX6_back_0 : decode cX6_back 0 = .ok (.aload_n 0, 1) := by decide +kernel
theorem dX6_back_1 : decode cX6_back 1 = .ok (.getfield 156, 3) := by decide +kernel
theorem dX6_back_4 : decode cX6_back 4 = .ok (.ifCond .ne 6, 3) := by decide +kernel
theorem dX6_back_7 : decode cX6_back 7 = .ok (.bipush (-3), 2) := by decide +kernel
theorem dX6_back_9 : decode cX6_back 9 = .ok (.ireturn, 1) := by decide +kernel
theorem dX6_back_10 : decode cX6_back 10 = .ok (.aload_n 0, 1) := by decide +kernel
theorem dX6_back_11 : decode cX6_back 11 = .ok (.dup, 1) := by decide +kernel
theorem dX6_back_12 : decode cX6_back 12 = .ok (.getfield 156, 3) := by decide +kernel
theorem dX6_back_15 : decode cX6_back 15 = .ok (.iconst 1, 1) := by decide +kernel
theorem dX6_back_16 : decode cX6_back 16 = .ok (.isub, 1) := by decide +kernel
theorem dX6_back_17 : decode cX6_back 17 = .ok (.putfield 156, 3) := by decide +kernel
theorem dX6_back_20 : decode cX6_back 20 = .ok (.iconst 0, 1) := by decide +kernel
theorem dX6_back_21 : decode cX6_back 21 = .ok (.istore_n 1, 1) := by decide +kernel
theorem dX6_back_22 : decode cX6_back 22 = .ok (.iload_n 1, 1) := by decide +kernel
theorem dX6_back_23 : decode cX6_back 23 = .ok (.bipush 15, 2) := by decide +kernel
theorem dX6_back_25 : decode cX6_back 25 = .ok (.if_icmp .ge 49, 3) := by decide +kernel
theorem dX6_back_28 : decode cX6_back 28 = .ok (.aload_n 0, 1) := by decide +kernel
theorem dX6_back_29 : decode cX6_back 29 = .ok (.getfield 25, 3) := by decide +kernel
theorem dX6_back_32 : decode cX6_back 32 = .ok (.iload_n 1, 1) := by decide +kernel
theorem dX6_back_33 : decode cX6_back 33 = .ok (.aload_n 0, 1) := by decide +kernel
theorem dX6_back_34 : decode cX6_back 34 = .ok (.getfield 74, 3) := by decide +kernel
theorem dX6_back_37 : decode cX6_back 37 = .ok (.bipush 15, 2) := by decide +kernel
theorem dX6_back_39 : decode cX6_back 39 = .ok (.aload_n 0, 1) := by decide +kernel
theorem dX6_back_40 : decode cX6_back 40 = .ok (.getfield 156, 3) := by decide +kernel
theorem dX6_back_43 : decode cX6_back 43 = .ok (.imul, 1) := by decide +kernel
theorem dX6_back_44 : decode cX6_back 44 = .ok (.iload_n 1, 1) := by decide +kernel
theorem dX6_back_45 : decode cX6_back 45 = .ok (.iadd, 1) := by decide +kernel
theorem dX6_back_46 : decode cX6_back 46 = .ok (.iaload, 1) := by decide +kernel
theorem dX6_back_47 : decode cX6_back 47 = .ok (.iastore, 1) := by decide +kernel
theorem dX6_back_48 : decode cX6_back 48 = .ok (.aload_n 0, 1) := by decide +kernel
theorem dX6_back_49 : decode cX6_back 49 = .ok (.getfield 28, 3) := by decide +kernel
theorem dX6_back_52 : decode cX6_back 52 = .ok (.iload_n 1, 1) := by decide +kernel
theorem dX6_back_53 : decode cX6_back 53 = .ok (.aload_n 0, 1) := by decide +kernel
theorem dX6_back_54 : decode cX6_back 54 = .ok (.getfield 77, 3) := by decide +kernel
theorem dX6_back_57 : decode cX6_back 57 = .ok (.bipush 15, 2) := by decide +kernel
theorem dX6_back_59 : decode cX6_back 59 = .ok (.aload_n 0, 1) := by decide +kernel
theorem dX6_back_60 : decode cX6_back 60 = .ok (.getfield 156, 3) := by decide +kernel
theorem dX6_back_63 : decode cX6_back 63 = .ok (.imul, 1) := by decide +kernel
theorem dX6_back_64 : decode cX6_back 64 = .ok (.iload_n 1, 1) := by decide +kernel
theorem dX6_back_65 : decode cX6_back 65 = .ok (.iadd, 1) := by decide +kernel
theorem dX6_back_66 : decode cX6_back 66 = .ok (.baload, 1) := by decide +kernel
theorem dX6_back_67 : decode cX6_back 67 = .ok (.bastore, 1) := by decide +kernel
theorem dX6_back_68 : decode cX6_back 68 = .ok (.iinc 1 1, 3) := by decide +kernel
theorem dX6_back_71 : decode cX6_back 71 = .ok (.goto (-49), 3) := by decide +kernel
theorem dX6_back_74 : decode cX6_back 74 = .ok (.aload_n 0, 1) := by decide +kernel
theorem dX6_back_75 : decode cX6_back 75 = .ok (.iconst (-1), 1) := by decide +kernel
theorem dX6_back_76 : decode cX6_back 76 = .ok (.putfield 80, 3) := by decide +kernel
theorem dX6_back_79 : decode cX6_back 79 = .ok (.aload_n 0, 1) := by decide +kernel
theorem dX6_back_80 : decode cX6_back 80 = .ok (.getfield 156, 3) := by decide +kernel
theorem dX6_back_83 : decode cX6_back 83 = .ok (.ireturn, 1) := by decide +kernel
theorem dX6_say_0 : decode cX6_say 0 = .ok (.iload_n 1, 1) := by decide +kernel
theorem dX6_say_1 : decode cX6_say 1 = .ok (.iconst 0, 1) := by decide +kernel
theorem dX6_say_2 : decode cX6_say 2 = .ok (.bipush 63, 2) := by decide +kernel
theorem dX6_say_4 : decode cX6_say 4 = .ok (.invokestatic 114, 3) := by decide +kernel
theorem dX6_say_7 : decode cX6_say 7 = .ok (.ifCond .ne 5, 3) := by decide +kernel
theorem dX6_say_10 : decode cX6_say 10 = .ok (.iconst (-1), 1) := by decide +kernel
theorem dX6_say_11 : decode cX6_say 11 = .ok (.ireturn, 1) := by decide +kernel
theorem dX6_say_12 : decode cX6_say 12 = .ok (.aload_n 0, 1) := by decide +kernel
theorem dX6_say_13 : decode cX6_say 13 = .ok (.getfield 159, 3) := by decide +kernel
theorem dX6_say_16 : decode cX6_say 16 = .ok (.bipush 8, 2) := by decide +kernel
theorem dX6_say_18 : decode cX6_say 18 = .ok (.if_icmp .ne 6, 3) := by decide +kernel
theorem dX6_say_21 : decode cX6_say 21 = .ok (.bipush (-4), 2) := by decide +kernel
theorem dX6_say_23 : decode cX6_say 23 = .ok (.ireturn, 1) := by decide +kernel
theorem dX6_say_24 : decode cX6_say 24 = .ok (.aload_n 0, 1) := by decide +kernel
theorem dX6_say_25 : decode cX6_say 25 = .ok (.getfield 84, 3) := by decide +kernel
theorem dX6_say_28 : decode cX6_say 28 = .ok (.aload_n 0, 1) := by decide +kernel
theorem dX6_say_29 : decode cX6_say 29 = .ok (.getfield 159, 3) := by decide +kernel
theorem dX6_say_32 : decode cX6_say 32 = .ok (.iload_n 1, 1) := by decide +kernel
theorem dX6_say_33 : decode cX6_say 33 = .ok (.iastore, 1) := by decide +kernel
theorem dX6_say_34 : decode cX6_say 34 = .ok (.aload_n 0, 1) := by decide +kernel
theorem dX6_say_35 : decode cX6_say 35 = .ok (.dup, 1) := by decide +kernel
theorem dX6_say_36 : decode cX6_say 36 = .ok (.getfield 159, 3) := by decide +kernel
theorem dX6_say_39 : decode cX6_say 39 = .ok (.iconst 1, 1) := by decide +kernel
theorem dX6_say_40 : decode cX6_say 40 = .ok (.iadd, 1) := by decide +kernel
theorem dX6_say_41 : decode cX6_say 41 = .ok (.putfield 159, 3) := by decide +kernel
theorem dX6_say_44 : decode cX6_say 44 = .ok (.aload_n 0, 1) := by decide +kernel
theorem dX6_say_45 : decode cX6_say 45 = .ok (.getfield 159, 3) := by decide +kernel
theorem dX6_say_48 : decode cX6_say 48 = .ok (.ireturn, 1) := by decide +kernel
theorem dX6_fits_0 : decode cX6_fits 0 = .ok (.aload_n 0, 1) := by decide +kernel
theorem dX6_fits_1 : decode cX6_fits 1 = .ok (.getfield 53, 3) := by decide +kernel
theorem dX6_fits_4 : decode cX6_fits 4 = .ok (.iload_n 1, 1) := by decide +kernel
theorem dX6_fits_5 : decode cX6_fits 5 = .ok (.iaload, 1) := by decide +kernel
theorem dX6_fits_6 : decode cX6_fits 6 = .ok (.iload_n 3, 1) := by decide +kernel
theorem dX6_fits_7 : decode cX6_fits 7 = .ok (.if_icmp .ne 18, 3) := by decide +kernel
theorem dX6_fits_10 : decode cX6_fits 10 = .ok (.iload_n 2, 1) := by decide +kernel
theorem dX6_fits_11 : decode cX6_fits 11 = .ok (.aload_n 0, 1) := by decide +kernel
theorem dX6_fits_12 : decode cX6_fits 12 = .ok (.getfield 62, 3) := by decide +kernel
theorem dX6_fits_15 : decode cX6_fits 15 = .ok (.iload_n 1, 1) := by decide +kernel
theorem dX6_fits_16 : decode cX6_fits 16 = .ok (.iaload, 1) := by decide +kernel
theorem dX6_fits_17 : decode cX6_fits 17 = .ok (.iadd, 1) := by decide +kernel
theorem dX6_fits_18 : decode cX6_fits 18 = .ok (.aload_n 0, 1) := by decide +kernel
theorem dX6_fits_19 : decode cX6_fits 19 = .ok (.getfield 159, 3) := by decide +kernel
theorem dX6_fits_22 : decode cX6_fits 22 = .ok (.if_icmp .le 5, 3) := by decide +kernel
theorem dX6_fits_25 : decode cX6_fits 25 = .ok (.iconst 0, 1) := by decide +kernel
theorem dX6_fits_26 : decode cX6_fits 26 = .ok (.ireturn, 1) := by decide +kernel
theorem dX6_fits_27 : decode cX6_fits 27 = .ok (.iconst 0, 1) := by decide +kernel
theorem dX6_fits_28 : decode cX6_fits 28 = .ok (.istore 4, 2) := by decide +kernel
theorem dX6_fits_30 : decode cX6_fits 30 = .ok (.iload 4, 2) := by decide +kernel
theorem dX6_fits_32 : decode cX6_fits 32 = .ok (.aload_n 0, 1) := by decide +kernel
theorem dX6_fits_33 : decode cX6_fits 33 = .ok (.getfield 62, 3) := by decide +kernel
theorem dX6_fits_36 : decode cX6_fits 36 = .ok (.iload_n 1, 1) := by decide +kernel
theorem dX6_fits_37 : decode cX6_fits 37 = .ok (.iaload, 1) := by decide +kernel
theorem dX6_fits_38 : decode cX6_fits 38 = .ok (.if_icmp .ge 100, 3) := by decide +kernel
theorem dX6_fits_41 : decode cX6_fits 41 = .ok (.aload_n 0, 1) := by decide +kernel
theorem dX6_fits_42 : decode cX6_fits 42 = .ok (.getfield 65, 3) := by decide +kernel
theorem dX6_fits_45 : decode cX6_fits 45 = .ok (.iconst 4, 1) := by decide +kernel
theorem dX6_fits_46 : decode cX6_fits 46 = .ok (.iload_n 1, 1) := by decide +kernel
theorem dX6_fits_47 : decode cX6_fits 47 = .ok (.imul, 1) := by decide +kernel
theorem dX6_fits_48 : decode cX6_fits 48 = .ok (.iload 4, 2) := by decide +kernel
theorem dX6_fits_50 : decode cX6_fits 50 = .ok (.iadd, 1) := by decide +kernel
theorem dX6_fits_51 : decode cX6_fits 51 = .ok (.iaload, 1) := by decide +kernel
theorem dX6_fits_52 : decode cX6_fits 52 = .ok (.istore 5, 2) := by decide +kernel
theorem dX6_fits_54 : decode cX6_fits 54 = .ok (.aload_n 0, 1) := by decide +kernel
theorem dX6_fits_55 : decode cX6_fits 55 = .ok (.getfield 84, 3) := by decide +kernel
theorem dX6_fits_58 : decode cX6_fits 58 = .ok (.iload_n 2, 1) := by decide +kernel
theorem dX6_fits_59 : decode cX6_fits 59 = .ok (.iload 4, 2) := by decide +kernel
theorem dX6_fits_61 : decode cX6_fits 61 = .ok (.iadd, 1) := by decide +kernel
theorem dX6_fits_62 : decode cX6_fits 62 = .ok (.iaload, 1) := by decide +kernel
theorem dX6_fits_63 : decode cX6_fits 63 = .ok (.istore 6, 2) := by decide +kernel
theorem dX6_fits_65 : decode cX6_fits 65 = .ok (.aload_n 0, 1) := by decide +kernel
theorem dX6_fits_66 : decode cX6_fits 66 = .ok (.getfield 50, 3) := by decide +kernel
theorem dX6_fits_69 : decode cX6_fits 69 = .ok (.bipush 64, 2) := by decide +kernel
theorem dX6_fits_71 : decode cX6_fits 71 = .ok (.iload_n 3, 1) := by decide +kernel
theorem dX6_fits_72 : decode cX6_fits 72 = .ok (.imul, 1) := by decide +kernel
theorem dX6_fits_73 : decode cX6_fits 73 = .ok (.iload 6, 2) := by decide +kernel
theorem dX6_fits_75 : decode cX6_fits 75 = .ok (.iadd, 1) := by decide +kernel
theorem dX6_fits_76 : decode cX6_fits 76 = .ok (.iaload, 1) := by decide +kernel
theorem dX6_fits_77 : decode cX6_fits 77 = .ok (.istore 7, 2) := by decide +kernel
theorem dX6_fits_79 : decode cX6_fits 79 = .ok (.iload 5, 2) := by decide +kernel
