theorem dX11_init_0 : decode cX11_init 0 = .ok (.aload_n 0, 1) := by decide +kernel
theorem dX11_init_1 : decode cX11_init 1 = .ok (.invokespecial 1, 3) := by decide +kernel
theorem dX11_init_4 : decode cX11_init 4 = .ok (.aload_n 0, 1) := by decide +kernel
theorem dX11_init_5 : decode cX11_init 5 = .ok (.sipush 1200, 3) := by decide +kernel
theorem dX11_init_8 : decode cX11_init 8 = .ok (.newarray .byte, 2) := by decide +kernel
theorem dX11_init_10 : decode cX11_init 10 = .ok (.putfield 7, 3) := by decide +kernel
theorem dX11_init_13 : decode cX11_init 13 = .ok (.aload_n 0, 1) := by decide +kernel
theorem dX11_init_14 : decode cX11_init 14 = .ok (.bipush (-2), 2) := by decide +kernel
theorem dX11_init_16 : decode cX11_init 16 = .ok (.putfield 13, 3) := by decide +kernel
theorem dX11_init_19 : decode cX11_init 19 = .ok (.aload_n 0, 1) := by decide +kernel
theorem dX11_init_20 : decode cX11_init 20 = .ok (.iconst 3, 1) := by decide +kernel
theorem dX11_init_21 : decode cX11_init 21 = .ok (.newarray .int, 2) := by decide +kernel
theorem dX11_init_23 : decode cX11_init 23 = .ok (.dup, 1) := by decide +kernel
theorem dX11_init_24 : decode cX11_init 24 = .ok (.iconst 0, 1) := by decide +kernel
theorem dX11_init_25 : decode cX11_init 25 = .ok (.bipush 40, 2) := by decide +kernel
theorem dX11_init_27 : decode cX11_init 27 = .ok (.iastore, 1) := by decide +kernel
theorem dX11_init_28 : decode cX11_init 28 = .ok (.dup, 1) := by decide +kernel
theorem dX11_init_29 : decode cX11_init 29 = .ok (.iconst 1, 1) := by decide +kernel
theorem dX11_init_30 : decode cX11_init 30 = .ok (.bipush 40, 2) := by decide +kernel
theorem dX11_init_32 : decode cX11_init 32 = .ok (.iastore, 1) := by decide +kernel
theorem dX11_init_33 : decode cX11_init 33 = .ok (.dup, 1) := by decide +kernel
theorem dX11_init_34 : decode cX11_init 34 = .ok (.iconst 2, 1) := by decide +kernel
theorem dX11_init_35 : decode cX11_init 35 = .ok (.bipush 20, 2) := by decide +kernel
theorem dX11_init_37 : decode cX11_init 37 = .ok (.iastore, 1) := by decide +kernel
theorem dX11_init_38 : decode cX11_init 38 = .ok (.putfield 17, 3) := by decide +kernel
theorem dX11_init_41 : decode cX11_init 41 = .ok (.aload_n 0, 1) := by decide +kernel
theorem dX11_init_42 : decode cX11_init 42 = .ok (.iconst 3, 1) := by decide +kernel
theorem dX11_init_43 : decode cX11_init 43 = .ok (.newarray .int, 2) := by decide +kernel
theorem dX11_init_45 : decode cX11_init 45 = .ok (.putfield 21, 3) := by decide +kernel
theorem dX11_init_48 : decode cX11_init 48 = .ok (.aload_n 0, 1) := by decide +kernel
theorem dX11_init_49 : decode cX11_init 49 = .ok (.sipush 2880, 3) := by decide +kernel
theorem dX11_init_52 : decode cX11_init 52 = .ok (.newarray .long, 2) := by decide +kernel
theorem dX11_init_54 : decode cX11_init 54 = .ok (.putfield 24, 3) := by decide +kernel
theorem dX11_init_57 : decode cX11_init 57 = .ok (.aload_n 0, 1) := by decide +kernel
theorem dX11_init_58 : decode cX11_init 58 = .ok (.sipush 292, 3) := by decide +kernel
theorem dX11_init_61 : decode cX11_init 61 = .ok (.newarray .long, 2) := by decide +kernel
theorem dX11_init_63 : decode cX11_init 63 = .ok (.putfield 28, 3) := by decide +kernel
theorem dX11_init_66 : decode cX11_init 66 = .ok (.aload_n 0, 1) := by decide +kernel
theorem dX11_init_67 : decode cX11_init 67 = .ok (.sipush 28800, 3) := by decide +kernel
theorem dX11_init_70 : decode cX11_init 70 = .ok (.newarray .long, 2) := by decide +kernel
theorem dX11_init_72 : decode cX11_init 72 = .ok (.putfield 31, 3) := by decide +kernel
theorem dX11_init_75 : decode cX11_init 75 = .ok (.aload_n 0, 1) := by decide +kernel
theorem dX11_init_76 : decode cX11_init 76 = .ok (.sipush 12000, 3) := by decide +kernel
theorem dX11_init_79 : decode cX11_init 79 = .ok (.newarray .int, 2) := by decide +kernel
theorem dX11_init_81 : decode cX11_init 81 = .ok (.putfield 34, 3) := by decide +kernel
theorem dX11_init_84 : decode cX11_init 84 = .ok (.aload_n 0, 1) := by decide +kernel
theorem dX11_init_85 : decode cX11_init 85 = .ok (.bipush 24, 2) := by decide +kernel
theorem dX11_init_87 : decode cX11_init 87 = .ok (.newarray .int, 2) := by decide +kernel
theorem dX11_init_89 : decode cX11_init 89 = .ok (.putfield 37, 3) := by decide +kernel
theorem dX11_init_92 : decode cX11_init 92 = .ok (.aload_n 0, 1) := by decide +kernel
theorem dX11_init_93 : decode cX11_init 93 = .ok (.sipush 400, 3) := by decide +kernel
theorem dX11_init_96 : decode cX11_init 96 = .ok (.newarray .long, 2) := by decide +kernel
theorem dX11_init_98 : decode cX11_init 98 = .ok (.putfield 40, 3) := by decide +kernel
theorem dX11_init_101 : decode cX11_init 101 = .ok (.aload_n 0, 1) := by decide +kernel
theorem dX11_init_102 : decode cX11_init 102 = .ok (.sipush 400, 3) := by decide +kernel
theorem dX11_init_105 : decode cX11_init 105 = .ok (.newarray .int, 2) := by decide +kernel
theorem dX11_init_107 : decode cX11_init 107 = .ok (.putfield 43, 3) := by decide +kernel
theorem dX11_init_110 : decode cX11_init 110 = .ok (.aload_n 0, 1) := by decide +kernel
theorem dX11_init_111 : decode cX11_init 111 = .ok (.sipush 400, 3) := by decide +kernel
theorem dX11_init_114 : decode cX11_init 114 = .ok (.newarray .int, 2) := by decide +kernel
theorem dX11_init_116 : decode cX11_init 116 = .ok (.putfield 46, 3) := by decide +kernel
theorem dX11_init_119 : decode cX11_init 119 = .ok (.aload_n 0, 1) := by decide +kernel
theorem dX11_init_120 : decode cX11_init 120 = .ok (.sipush 400, 3) := by decide +kernel
theorem dX11_init_123 : decode cX11_init 123 = .ok (.newarray .int, 2) := by decide +kernel
theorem dX11_init_125 : decode cX11_init 125 = .ok (.putfield 49, 3) := by decide +kernel
theorem dX11_init_128 : decode cX11_init 128 = .ok (.aload_n 0, 1) := by decide +kernel
theorem dX11_init_129 : decode cX11_init 129 = .ok (.sipush 600, 3) := by decide +kernel
theorem dX11_init_132 : decode cX11_init 132 = .ok (.newarray .int, 2) := by decide +kernel
theorem dX11_init_134 : decode cX11_init 134 = .ok (.putfield 52, 3) := by decide +kernel
theorem dX11_init_137 : decode cX11_init 137 = .ok (.aload_n 0, 1) := by decide +kernel
theorem dX11_init_138 : decode cX11_init 138 = .ok (.bipush 32, 2) := by decide +kernel
theorem dX11_init_140 : decode cX11_init 140 = .ok (.newarray .int, 2) := by decide +kernel
theorem dX11_init_142 : decode cX11_init 142 = .ok (.putfield 55, 3) := by decide +kernel
theorem dX11_init_145 : decode cX11_init 145 = .ok (.aload_n 0, 1) := by decide +kernel
theorem dX11_init_146 : decode cX11_init 146 = .ok (.bipush 32, 2) := by decide +kernel
theorem dX11_init_148 : decode cX11_init 148 = .ok (.newarray .boolean, 2) := by decide +kernel
theorem dX11_init_150 : decode cX11_init 150 = .ok (.putfield 58, 3) := by decide +kernel
theorem dX11_init_153 : decode cX11_init 153 = .ok (.aload_n 0, 1) := by decide +kernel
theorem dX11_init_154 : decode cX11_init 154 = .ok (.bipush 32, 2) := by decide +kernel
theorem dX11_init_156 : decode cX11_init 156 = .ok (.newarray .boolean, 2) := by decide +kernel
theorem dX11_init_158 : decode cX11_init 158 = .ok (.putfield 62, 3) := by decide +kernel
theorem dX11_init_161 : decode cX11_init 161 = .ok (.aload_n 0, 1) := by decide +kernel
theorem dX11_init_162 : decode cX11_init 162 = .ok (.bipush 24, 2) := by decide +kernel
theorem dX11_init_164 : decode cX11_init 164 = .ok (.newarray .boolean, 2) := by decide +kernel
theorem dX11_init_166 : decode cX11_init 166 = .ok (.putfield 65, 3) := by decide +kernel
theorem dX11_init_169 : decode cX11_init 169 = .ok (.aload_n 0, 1) := by decide +kernel
theorem dX11_init_170 : decode cX11_init 170 = .ok (.sipush 300, 3) := by decide +kernel
theorem dX11_init_173 : decode cX11_init 173 = .ok (.newarray .boolean, 2) := by decide +kernel
theorem dX11_init_175 : decode cX11_init 175 = .ok (.putfield 68, 3) := by decide +kernel
theorem dX11_init_178 : decode cX11_init 178 = .ok (.aload_n 0, 1) := by decide +kernel
theorem dX11_init_179 : decode cX11_init 179 = .ok (.bipush 32, 2) := by decide +kernel
theorem dX11_init_181 : decode cX11_init 181 = .ok (.newarray .boolean, 2) := by decide +kernel
theorem dX11_init_183 : decode cX11_init 183 = .ok (.putfield 71, 3) := by decide +kernel
theorem dX11_init_186 : decode cX11_init 186 = .ok (.aload_n 0, 1) := by decide +kernel
theorem dX11_init_187 : decode cX11_init 187 = .ok (.bipush 32, 2) := by decide +kernel
theorem dX11_init_189 : decode cX11_init 189 = .ok (.newarray .int, 2) := by decide +kernel
theorem dX11_init_191 : decode cX11_init 191 = .ok (.putfield 74, 3) := by decide +kernel
theorem dX11_init_194 : decode cX11_init 194 = .ok (.aload_n 0, 1) := by decide +kernel
theorem dX11_init_195 : decode cX11_init 195 = .ok (.bipush 32, 2) := by decide +kernel
theorem dX11_init_197 : decode cX11_init 197 = .ok (.newarray .int, 2) := by decide +kernel
theorem dX11_init_199 : decode cX11_init 199 = .ok (.putfield 77, 3) := by decide +kernel
theorem dX11_init_202 : decode cX11_init 202 = .ok (.aload_n 0, 1) := by decide +kernel
theorem dX11_init_203 : decode cX11_init 203 = .ok (.sipush 600, 3) := by decide +kernel
theorem dX11_init_206 : decode cX11_init 206 = .ok (.newarray .int, 2) := by decide +kernel
theorem dX11_init_208 : decode cX11_init 208 = .ok (.putfield 80, 3) := by decide +kernel
theorem dX11_init_211 : decode cX11_init 211 = .ok (.aload_n 0, 1) := by decide +kernel
theorem dX11_init_212 : decode cX11_init 212 = .ok (.sipush 600, 3) := by decide +kernel
theorem dX11_init_215 : decode cX11_init 215 = .ok (.newarray .int, 2) := by decide +kernel
theorem dX11_init_217 : decode cX11_init 217 = .ok (.putfield 83, 3) := by decide +kernel
theorem dX11_init_220 : decode cX11_init 220 = .ok (.aload_n 0, 1) := by decide +kernel
theorem dX11_init_221 : decode cX11_init 221 = .ok (.sipush 600, 3) := by decide +kernel
theorem dX11_init_224 : decode cX11_init 224 = .ok (.newarray .int, 2) := by decide +kernel
theorem dX11_init_226 : decode cX11_init 226 = .ok (.putfield 86, 3) := by decide +kernel
theorem dX11_init_229 : decode cX11_init 229 = .ok (.aload_n 0, 1) := by decide +kernel
theorem dX11_init_230 : decode cX11_init 230 = .ok (.iconst 0, 1) := by decide +kernel
theorem dX11_init_231 : decode cX11_init 231 = .ok (.invokevirtual 89, 3) := by decide +kernel
theorem dX11_init_234 : decode cX11_init 234 = .ok (.iconst 0, 1) := by decide +kernel
theorem dX11_init_235 : decode cX11_init 235 = .ok (.istore_n 1, 1) := by decide +kernel
theorem dX11_init_236 : decode cX11_init 236 = .ok (.iload_n 1, 1) := by decide +kernel
theorem dX11_init_237 : decode cX11_init 237 = .ok (.sipush 292, 3) := by decide +kernel
theorem dX11_init_240 : decode cX11_init 240 = .ok (.if_icmp .ge 21, 3) := by decide +kernel
theorem dX11_init_243 : decode cX11_init 243 = .ok (.aload_n 0, 1) := by decide +kernel
theorem dX11_init_244 : decode cX11_init 244 = .ok (.getfield 24, 3) := by decide +kernel
theorem dX11_init_247 : decode cX11_init 247 = .ok (.iload_n 1, 1) := by decide +kernel
theorem dX11_init_248 : decode cX11_init 248 = .ok (.aload_n 0, 1) := by decide +kernel
theorem dX11_init_249 : decode cX11_init 249 = .ok (.getfield 28, 3) := by decide +kernel
theorem dX11_init_252 : decode cX11_init 252 = .ok (.iload_n 1, 1) := by decide +kernel
theorem dX11_init_253 : decode cX11_init 253 = .ok (.laload, 1) := by decide +kernel
theorem dX11_init_254 : decode cX11_init 254 = .ok (.lastore, 1) := by decide +kernel
theorem dX11_init_255 : decode cX11_init 255 = .ok (.iinc 1 1, 3) := by decide +kernel
theorem dX11_init_258 : decode cX11_init 258 = .ok (.goto (-22), 3) := by decide +kernel
theorem dX11_init_261 : decode cX11_init 261 = .ok (.return_, 1) := by decide +kernel
theorem dX11_in_0 : decode cX11_in 0 = .ok (.iload_n 0, 1) := by decide +kernel
theorem dX11_in_1 : decode cX11_in 1 = .ok (.iload_n 1, 1) := by decide +kernel
theorem dX11_in_2 : decode cX11_in 2 = .ok (.if_icmp .lt 12, 3) := by decide +kernel
theorem dX11_in_5 : decode cX11_in 5 = .ok (.iload_n 0, 1) := by decide +kernel
theorem dX11_in_6 : decode cX11_in 6 = .ok (.iload_n 2, 1) := by decide +kernel
theorem dX11_in_7 : decode cX11_in 7 = .ok (.if_icmp .gt 7, 3) := by decide +kernel
theorem dX11_in_10 : decode cX11_in 10 = .ok (.iconst 1, 1) := by decide +kernel
theorem dX11_in_11 : decode cX11_in 11 = .ok (.goto 4, 3) := by decide +kernel
theorem dX11_in_14 : decode cX11_in 14 = .ok (.iconst 0, 1) := by decide +kernel
theorem dX11_in_15 : decode cX11_in 15 = .ok (.ireturn, 1) := by decide +kernel
theorem dX11_most_0 : decode cX11_most 0 = .ok (.iload_n 0, 1) := by decide +kernel
theorem dX11_most_1 : decode cX11_most 1 = .ok (.iload_n 1, 1) := by decide +kernel
theorem dX11_most_2 : decode cX11_most 2 = .ok (.if_icmp .le 7, 3) := by decide +kernel
theorem dX11_most_5 : decode cX11_most 5 = .ok (.iload_n 0, 1) := by decide +kernel
theorem dX11_most_6 : decode cX11_most 6 = .ok (.goto 4, 3) := by decide +kernel
theorem dX11_most_9 : decode cX11_most 9 = .ok (.iload_n 1, 1) := by decide +kernel
theorem dX11_most_10 : decode cX11_most 10 = .ok (.ireturn, 1) := by decide +kernel
theorem dX11_clearForm_0 : decode cX11_clearForm 0 = .ok (.iconst 0, 1) := by decide +kernel
theorem dX11_clearForm_1 : decode cX11_clearForm 1 = .ok (.istore_n 2, 1) := by decide +kernel
theorem dX11_clearForm_2 : decode cX11_clearForm 2 = .ok (.iload_n 2, 1) := by decide +kernel
theorem dX11_clearForm_3 : decode cX11_clearForm 3 = .ok (.sipush 292, 3) := by decide +kernel
theorem dX11_clearForm_6 : decode cX11_clearForm 6 = .ok (.if_icmp .ge 30, 3) := by decide +kernel
theorem dX11_clearForm_9 : decode cX11_clearForm 9 = .ok (.aload_n 0, 1) := by decide +kernel
theorem dX11_clearForm_10 : decode cX11_clearForm 10 = .ok (.getfield 28, 3) := by decide +kernel
theorem dX11_clearForm_13 : decode cX11_clearForm 13 = .ok (.iload_n 1, 1) := by decide +kernel
theorem dX11_clearForm_14 : decode cX11_clearForm 14 = .ok (.iload_n 2, 1) := by decide +kernel
theorem dX11_clearForm_15 : decode cX11_clearForm 15 = .ok (.iadd, 1) := by decide +kernel
theorem dX11_clearForm_16 : decode cX11_clearForm 16 = .ok (.iload_n 2, 1) := by decide +kernel
theorem dX11_clearForm_17 : decode cX11_clearForm 17 = .ok (.bipush 32, 2) := by decide +kernel
theorem dX11_clearForm_19 : decode cX11_clearForm 19 = .ok (.if_icmp .ge 9, 3) := by decide +kernel
theorem dX11_clearForm_22 : decode cX11_clearForm 22 = .ok (.ldc2_w 93, 3) := by decide +kernel
theorem dX11_clearForm_25 : decode cX11_clearForm 25 = .ok (.goto 4, 3) := by decide +kernel
theorem dX11_clearForm_28 : decode cX11_clearForm 28 = .ok (.lconst 0, 1) := by decide +kernel
theorem dX11_clearForm_29 : decode cX11_clearForm 29 = .ok (.lastore, 1) := by decide +kernel
theorem dX11_clearForm_30 : decode cX11_clearForm 30 = .ok (.iinc 2 1, 3) := by decide +kernel
theorem dX11_clearForm_33 : decode cX11_clearForm 33 = .ok (.goto (-31), 3) := by decide +kernel
theorem dX11_clearForm_36 : decode cX11_clearForm 36 = .ok (.return_, 1) := by decide +kernel
theorem dX11_of_0 : decode cX11_of 0 = .ok (.aload_n 0, 1) := by decide +kernel
theorem dX11_of_1 : decode cX11_of 1 = .ok (.getfield 24, 3) := by decide +kernel
theorem dX11_of_4 : decode cX11_of 4 = .ok (.iload_n 1, 1) := by decide +kernel
theorem dX11_of_5 : decode cX11_of 5 = .ok (.iload_n 2, 1) := by decide +kernel
theorem dX11_of_6 : decode cX11_of 6 = .ok (.iadd, 1) := by decide +kernel
theorem dX11_of_7 : decode cX11_of 7 = .ok (.iload_n 3, 1) := by decide +kernel
theorem dX11_of_8 : decode cX11_of 8 = .ok (.iadd, 1) := by decide +kernel
theorem dX11_of_9 : decode cX11_of 9 = .ok (.laload, 1) := by decide +kernel
theorem dX11_of_10 : decode cX11_of 10 = .ok (.l2i, 1) := by decide +kernel
theorem dX11_of_11 : decode cX11_of 11 = .ok (.ireturn, 1) := by decide +kernel
theorem dX11_formOf_0 : decode cX11_formOf 0 = .ok (.sipush 292, 3) := by decide +kernel
theorem dX11_formOf_3 : decode cX11_formOf 3 = .ok (.iconst 1, 1) := by decide +kernel
theorem dX11_formOf_4 : decode cX11_formOf 4 = .ok (.iload_n 0, 1) := by decide +kernel
theorem dX11_formOf_5 : decode cX11_formOf 5 = .ok (.iadd, 1) := by decide +kernel
theorem dX11_formOf_6 : decode cX11_formOf 6 = .ok (.imul, 1) := by decide +kernel
theorem dX11_formOf_7 : decode cX11_formOf 7 = .ok (.ireturn, 1) := by decide +kernel
theorem dX11_has_0 : decode cX11_has 0 = .ok (.iload_n 2, 1) := by decide +kernel
theorem dX11_has_1 : decode cX11_has 1 = .ok (.iconst 0, 1) := by decide +kernel
theorem dX11_has_2 : decode cX11_has 2 = .ok (.bipush 31, 2) := by decide +kernel
theorem dX11_has_4 : decode cX11_has 4 = .ok (.invokestatic 95, 3) := by decide +kernel
theorem dX11_has_7 : decode cX11_has 7 = .ok (.ifCond .eq 24, 3) := by decide +kernel
theorem dX11_has_10 : decode cX11_has 10 = .ok (.aload_n 0, 1) := by decide +kernel
theorem dX11_has_11 : decode cX11_has 11 = .ok (.getfield 24, 3) := by decide +kernel
theorem dX11_has_14 : decode cX11_has 14 = .ok (.iload_n 1, 1) := by decide +kernel
theorem dX11_has_15 : decode cX11_has 15 = .ok (.iconst 0, 1) := by decide +kernel
theorem dX11_has_16 : decode cX11_has 16 = .ok (.iadd, 1) := by decide +kernel
theorem dX11_has_17 : decode cX11_has 17 = .ok (.iload_n 2, 1) := by decide +kernel
theorem dX11_has_18 : decode cX11_has 18 = .ok (.iadd, 1) := by decide +kernel
theorem dX11_has_19 : decode cX11_has 19 = .ok (.laload, 1) := by decide +kernel
theorem dX11_has_20 : decode cX11_has 20 = .ok (.ldc2_w 93, 3) := by decide +kernel
theorem dX11_has_23 : decode cX11_has 23 = .ok (.lcmp, 1) := by decide +kernel
theorem dX11_has_24 : decode cX11_has 24 = .ok (.ifCond .eq 7, 3) := by decide +kernel
theorem dX11_has_27 : decode cX11_has 27 = .ok (.iconst 1, 1) := by decide +kernel
theorem dX11_has_28 : decode cX11_has 28 = .ok (.goto 4, 3) := by decide +kernel
theorem dX11_has_31 : decode cX11_has 31 = .ok (.iconst 0, 1) := by decide +kernel
theorem dX11_has_32 : decode cX11_has 32 = .ok (.ireturn, 1) := by decide +kernel
theorem dX11_isNode_0 : decode cX11_isNode 0 = .ok (.aload_n 0, 1) := by decide +kernel
theorem dX11_isNode_1 : decode cX11_isNode 1 = .ok (.iconst 0, 1) := by decide +kernel
theorem dX11_isNode_2 : decode cX11_isNode 2 = .ok (.iload_n 1, 1) := by decide +kernel
theorem dX11_isNode_3 : decode cX11_isNode 3 = .ok (.invokevirtual 99, 3) := by decide +kernel
theorem dX11_isNode_6 : decode cX11_isNode 6 = .ok (.ireturn, 1) := by decide +kernel
theorem dX11_isField_0 : decode cX11_isField 0 = .ok (.iload_n 0, 1) := by decide +kernel
theorem dX11_isField_1 : decode cX11_isField 1 = .ok (.bipush 24, 2) := by decide +kernel
theorem dX11_isField_3 : decode cX11_isField 3 = .ok (.if_icmp .ge 7, 3) := by decide +kernel
theorem dX11_isField_6 : decode cX11_isField 6 = .ok (.iconst 1, 1) := by decide +kernel
theorem dX11_isField_7 : decode cX11_isField 7 = .ok (.goto 4, 3) := by decide +kernel
theorem dX11_isField_10 : decode cX11_isField 10 = .ok (.iconst 0, 1) := by decide +kernel
theorem dX11_isField_11 : decode cX11_isField 11 = .ok (.ireturn, 1) := by decide +kernel
theorem dX11_isDraftField_0 : decode cX11_isDraftField 0 = .ok (.aload_n 0, 1) := by decide +kernel
theorem dX11_isDraftField_1 : decode cX11_isDraftField 1 = .ok (.iload_n 1, 1) := by decide +kernel
theorem dX11_isDraftField_2 : decode cX11_isDraftField 2 = .ok (.invokevirtual 103, 3) := by decide +kernel
theorem dX11_isDraftField_5 : decode cX11_isDraftField 5 = .ok (.ifCond .eq 14, 3) := by decide +kernel
theorem dX11_isDraftField_8 : decode cX11_isDraftField 8 = .ok (.iload_n 1, 1) := by decide +kernel
theorem dX11_isDraftField_9 : decode cX11_isDraftField 9 = .ok (.invokestatic 107, 3) := by decide +kernel
theorem dX11_isDraftField_12 : decode cX11_isDraftField 12 = .ok (.ifCond .eq 7, 3) := by decide +kernel
theorem dX11_isDraftField_15 : decode cX11_isDraftField 15 = .ok (.iconst 1, 1) := by decide +kernel
theorem dX11_isDraftField_16 : decode cX11_isDraftField 16 = .ok (.goto 4, 3) := by decide +kernel
theorem dX11_isDraftField_19 : decode cX11_isDraftField 19 = .ok (.iconst 0, 1) := by decide +kernel
theorem dX11_isDraftField_20 : decode cX11_isDraftField 20 = .ok (.ireturn, 1) := by decide +kernel
theorem dX11_many_0 : decode cX11_many 0 = .ok (.aload_n 0, 1) := by decide +kernel
theorem dX11_many_1 : decode cX11_many 1 = .ok (.getfield 24, 3) := by decide +kernel
theorem dX11_many_4 : decode cX11_many 4 = .ok (.iload_n 1, 1) := by decide +kernel
theorem dX11_many_5 : decode cX11_many 5 = .ok (.sipush 288, 3) := by decide +kernel
theorem dX11_many_8 : decode cX11_many 8 = .ok (.iadd, 1) := by decide +kernel
theorem dX11_many_9 : decode cX11_many 9 = .ok (.laload, 1) := by decide +kernel
theorem dX11_many_10 : decode cX11_many 10 = .ok (.l2i, 1) := by decide +kernel
theorem dX11_many_11 : decode cX11_many 11 = .ok (.ireturn, 1) := by decide +kernel
theorem dX11_ordered_0 : decode cX11_ordered 0 = .ok (.aload_n 0, 1) := by decide +kernel
theorem dX11_ordered_1 : decode cX11_ordered 1 = .ok (.iload_n 1, 1) := by decide +kernel
theorem dX11_ordered_2 : decode cX11_ordered 2 = .ok (.sipush 256, 3) := by decide +kernel
theorem dX11_ordered_5 : decode cX11_ordered 5 = .ok (.iload_n 2, 1) := by decide +kernel
theorem dX11_ordered_6 : decode cX11_ordered 6 = .ok (.invokevirtual 110, 3) := by decide +kernel
theorem dX11_ordered_9 : decode cX11_ordered 9 = .ok (.ireturn, 1) := by decide +kernel
theorem dX11_depth_0 : decode cX11_depth 0 = .ok (.iconst 0, 1) := by decide +kernel
theorem dX11_depth_1 : decode cX11_depth 1 = .ok (.istore_n 3, 1) := by decide +kernel
theorem dX11_depth_2 : decode cX11_depth 2 = .ok (.aload_n 0, 1) := by decide +kernel
theorem dX11_depth_3 : decode cX11_depth 3 = .ok (.iload_n 1, 1) := by decide +kernel
theorem dX11_depth_4 : decode cX11_depth 4 = .ok (.iconst 0, 1) := by decide +kernel
theorem dX11_depth_5 : decode cX11_depth 5 = .ok (.iload_n 2, 1) := by decide +kernel
theorem dX11_depth_6 : decode cX11_depth 6 = .ok (.invokevirtual 110, 3) := by decide +kernel
theorem dX11_depth_9 : decode cX11_depth 9 = .ok (.istore 4, 2) := by decide +kernel
theorem dX11_depth_11 : decode cX11_depth 11 = .ok (.iload 4, 2) := by decide +kernel
theorem dX11_depth_13 : decode cX11_depth 13 = .ok (.ifCond .lt 19, 3) := by decide +kernel
theorem dX11_depth_16 : decode cX11_depth 16 = .ok (.iinc 3 1, 3) := by decide +kernel
theorem dX11_depth_19 : decode cX11_depth 19 = .ok (.aload_n 0, 1) := by decide +kernel
theorem dX11_depth_20 : decode cX11_depth 20 = .ok (.iload_n 1, 1) := by decide +kernel
theorem dX11_depth_21 : decode cX11_depth 21 = .ok (.iconst 0, 1) := by decide +kernel
theorem dX11_depth_22 : decode cX11_depth 22 = .ok (.iload 4, 2) := by decide +kernel
theorem dX11_depth_24 : decode cX11_depth 24 = .ok (.invokevirtual 110, 3) := by decide +kernel
theorem dX11_depth_27 : decode cX11_depth 27 = .ok (.istore 4, 2) := by decide +kernel
theorem dX11_depth_29 : decode cX11_depth 29 = .ok (.goto (-18), 3) := by decide +kernel
theorem dX11_depth_32 : decode cX11_depth 32 = .ok (.iload_n 3, 1) := by decide +kernel
theorem dX11_depth_33 : decode cX11_depth 33 = .ok (.ireturn, 1) := by decide +kernel
theorem dX11_isIn_0 : decode cX11_isIn 0 = .ok (.iload_n 2, 1) := by decide +kernel
theorem dX11_isIn_1 : decode cX11_isIn 1 = .ok (.istore 4, 2) := by decide +kernel
theorem dX11_isIn_3 : decode cX11_isIn 3 = .ok (.iload 4, 2) := by decide +kernel
theorem dX11_isIn_5 : decode cX11_isIn 5 = .ok (.ifCond .lt 22, 3) := by decide +kernel
theorem dX11_isIn_8 : decode cX11_isIn 8 = .ok (.iload 4, 2) := by decide +kernel
theorem dX11_isIn_10 : decode cX11_isIn 10 = .ok (.iload_n 3, 1) := by decide +kernel
theorem dX11_isIn_11 : decode cX11_isIn 11 = .ok (.if_icmp .eq 16, 3) := by decide +kernel
theorem dX11_isIn_14 : decode cX11_isIn 14 = .ok (.aload_n 0, 1) := by decide +kernel
theorem dX11_isIn_15 : decode cX11_isIn 15 = .ok (.iload_n 1, 1) := by decide +kernel
theorem dX11_isIn_16 : decode cX11_isIn 16 = .ok (.iconst 0, 1) := by decide +kernel
theorem dX11_isIn_17 : decode cX11_isIn 17 = .ok (.iload 4, 2) := by decide +kernel
theorem dX11_isIn_19 : decode cX11_isIn 19 = .ok (.invokevirtual 110, 3) := by decide +kernel
theorem dX11_isIn_22 : decode cX11_isIn 22 = .ok (.istore 4, 2) := by decide +kernel
theorem dX11_isIn_24 : decode cX11_isIn 24 = .ok (.goto (-21), 3) := by decide +kernel
theorem dX11_isIn_27 : decode cX11_isIn 27 = .ok (.iload 4, 2) := by decide +kernel
theorem dX11_isIn_29 : decode cX11_isIn 29 = .ok (.iload_n 3, 1) := by decide +kernel
theorem dX11_isIn_30 : decode cX11_isIn 30 = .ok (.if_icmp .ne 7, 3) := by decide +kernel
theorem dX11_isIn_33 : decode cX11_isIn 33 = .ok (.iconst 1, 1) := by decide +kernel
theorem dX11_isIn_34 : decode cX11_isIn 34 = .ok (.goto 4, 3) := by decide +kernel
theorem dX11_isIn_37 : decode cX11_isIn 37 = .ok (.iconst 0, 1) := by decide +kernel
theorem dX11_isIn_38 : decode cX11_isIn 38 = .ok (.ireturn, 1) := by decide +kernel
theorem dX11_placeOf_0 : decode cX11_placeOf 0 = .ok (.iconst 0, 1) := by decide +kernel
theorem dX11_placeOf_1 : decode cX11_placeOf 1 = .ok (.istore_n 3, 1) := by decide +kernel
theorem dX11_placeOf_2 : decode cX11_placeOf 2 = .ok (.aload_n 0, 1) := by decide +kernel
theorem dX11_placeOf_3 : decode cX11_placeOf 3 = .ok (.iload_n 1, 1) := by decide +kernel
theorem dX11_placeOf_4 : decode cX11_placeOf 4 = .ok (.iload_n 3, 1) := by decide +kernel
theorem dX11_placeOf_5 : decode cX11_placeOf 5 = .ok (.invokevirtual 114, 3) := by decide +kernel
theorem dX11_placeOf_8 : decode cX11_placeOf 8 = .ok (.iload_n 2, 1) := by decide +kernel
theorem dX11_placeOf_9 : decode cX11_placeOf 9 = .ok (.if_icmp .eq 9, 3) := by decide +kernel
theorem dX11_placeOf_12 : decode cX11_placeOf 12 = .ok (.iinc 3 1, 3) := by decide +kernel
theorem dX11_placeOf_15 : decode cX11_placeOf 15 = .ok (.goto (-13), 3) := by decide +kernel
theorem dX11_placeOf_18 : decode cX11_placeOf 18 = .ok (.iload_n 3, 1) := by decide +kernel
theorem dX11_placeOf_19 : decode cX11_placeOf 19 = .ok (.ireturn, 1) := by decide +kernel
theorem dX11_behind_0 : decode cX11_behind 0 = .ok (.iload_n 2, 1) := by decide +kernel
theorem dX11_behind_1 : decode cX11_behind 1 = .ok (.ifCond .ge 9, 3) := by decide +kernel
theorem dX11_behind_4 : decode cX11_behind 4 = .ok (.aload_n 0, 1) := by decide +kernel
theorem dX11_behind_5 : decode cX11_behind 5 = .ok (.iload_n 1, 1) := by decide +kernel
theorem dX11_behind_6 : decode cX11_behind 6 = .ok (.invokevirtual 118, 3) := by decide +kernel
theorem dX11_behind_9 : decode cX11_behind 9 = .ok (.ireturn, 1) := by decide +kernel
theorem dX11_behind_10 : decode cX11_behind 10 = .ok (.aload_n 0, 1) := by decide +kernel
theorem dX11_behind_11 : decode cX11_behind 11 = .ok (.iload_n 1, 1) := by decide +kernel
theorem dX11_behind_12 : decode cX11_behind 12 = .ok (.iload_n 2, 1) := by decide +kernel
theorem dX11_behind_13 : decode cX11_behind 13 = .ok (.invokevirtual 122, 3) := by decide +kernel
theorem dX11_behind_16 : decode cX11_behind 16 = .ok (.iconst 1, 1) := by decide +kernel
theorem dX11_behind_17 : decode cX11_behind 17 = .ok (.iadd, 1) := by decide +kernel
theorem dX11_behind_18 : decode cX11_behind 18 = .ok (.istore_n 3, 1) := by decide +kernel
theorem dX11_behind_19 : decode cX11_behind 19 = .ok (.iload_n 3, 1) := by decide +kernel
theorem dX11_behind_20 : decode cX11_behind 20 = .ok (.aload_n 0, 1) := by decide +kernel
theorem dX11_behind_21 : decode cX11_behind 21 = .ok (.iload_n 1, 1) := by decide +kernel
theorem dX11_behind_22 : decode cX11_behind 22 = .ok (.invokevirtual 118, 3) := by decide +kernel
theorem dX11_behind_25 : decode cX11_behind 25 = .ok (.if_icmp .ge 24, 3) := by decide +kernel
theorem dX11_behind_28 : decode cX11_behind 28 = .ok (.aload_n 0, 1) := by decide +kernel
theorem dX11_behind_29 : decode cX11_behind 29 = .ok (.iload_n 1, 1) := by decide +kernel
theorem dX11_behind_30 : decode cX11_behind 30 = .ok (.aload_n 0, 1) := by decide +kernel
theorem dX11_behind_31 : decode cX11_behind 31 = .ok (.iload_n 1, 1) := by decide +kernel
theorem dX11_behind_32 : decode cX11_behind 32 = .ok (.iload_n 3, 1) := by decide +kernel
theorem dX11_behind_33 : decode cX11_behind 33 = .ok (.invokevirtual 114, 3) := by decide +kernel
theorem dX11_behind_36 : decode cX11_behind 36 = .ok (.iload_n 2, 1) := by decide +kernel
theorem dX11_behind_37 : decode cX11_behind 37 = .ok (.invokevirtual 125, 3) := by decide +kernel
theorem dX11_behind_40 : decode cX11_behind 40 = .ok (.ifCond .eq 9, 3) := by decide +kernel
theorem dX11_behind_43 : decode cX11_behind 43 = .ok (.iinc 3 1, 3) := by decide +kernel
theorem dX11_behind_46 : decode cX11_behind 46 = .ok (.goto (-27), 3) := by decide +kernel
theorem dX11_behind_49 : decode cX11_behind 49 = .ok (.iload_n 3, 1) := by decide +kernel
theorem dX11_behind_50 : decode cX11_behind 50 = .ok (.ireturn, 1) := by decide +kernel
theorem dX11_height_0 : decode cX11_height 0 = .ok (.iconst 0, 1) := by decide +kernel
theorem dX11_height_1 : decode cX11_height 1 = .ok (.istore_n 3, 1) := by decide +kernel
theorem dX11_height_2 : decode cX11_height 2 = .ok (.iconst 0, 1) := by decide +kernel
theorem dX11_height_3 : decode cX11_height 3 = .ok (.istore 4, 2) := by decide +kernel
theorem dX11_height_5 : decode cX11_height 5 = .ok (.iload 4, 2) := by decide +kernel
theorem dX11_height_7 : decode cX11_height 7 = .ok (.aload_n 0, 1) := by decide +kernel
theorem dX11_height_8 : decode cX11_height 8 = .ok (.iload_n 1, 1) := by decide +kernel
theorem dX11_height_9 : decode cX11_height 9 = .ok (.invokevirtual 118, 3) := by decide +kernel
theorem dX11_height_12 : decode cX11_height 12 = .ok (.if_icmp .ge 58, 3) := by decide +kernel
theorem dX11_height_15 : decode cX11_height 15 = .ok (.aload_n 0, 1) := by decide +kernel
theorem dX11_height_16 : decode cX11_height 16 = .ok (.iload_n 1, 1) := by decide +kernel
theorem dX11_height_17 : decode cX11_height 17 = .ok (.iload 4, 2) := by decide +kernel
theorem dX11_height_19 : decode cX11_height 19 = .ok (.invokevirtual 114, 3) := by decide +kernel
theorem dX11_height_22 : decode cX11_height 22 = .ok (.istore 5, 2) := by decide +kernel
theorem dX11_height_24 : decode cX11_height 24 = .ok (.iload 5, 2) := by decide +kernel
theorem dX11_height_26 : decode cX11_height 26 = .ok (.invokestatic 107, 3) := by decide +kernel
theorem dX11_height_29 : decode cX11_height 29 = .ok (.ifCond .ne 35, 3) := by decide +kernel
theorem dX11_height_32 : decode cX11_height 32 = .ok (.aload_n 0, 1) := by decide +kernel
theorem dX11_height_33 : decode cX11_height 33 = .ok (.iload_n 1, 1) := by decide +kernel
theorem dX11_height_34 : decode cX11_height 34 = .ok (.iload 5, 2) := by decide +kernel
theorem dX11_height_36 : decode cX11_height 36 = .ok (.iload_n 2, 1) := by decide +kernel
theorem dX11_height_37 : decode cX11_height 37 = .ok (.invokevirtual 125, 3) := by decide +kernel
theorem dX11_height_40 : decode cX11_height 40 = .ok (.ifCond .eq 24, 3) := by decide +kernel
theorem dX11_height_43 : decode cX11_height 43 = .ok (.iload_n 3, 1) := by decide +kernel
theorem dX11_height_44 : decode cX11_height 44 = .ok (.aload_n 0, 1) := by decide +kernel
theorem dX11_height_45 : decode cX11_height 45 = .ok (.iload_n 1, 1) := by decide +kernel
theorem dX11_height_46 : decode cX11_height 46 = .ok (.iload 5, 2) := by decide +kernel
theorem dX11_height_48 : decode cX11_height 48 = .ok (.invokevirtual 128, 3) := by decide +kernel
theorem dX11_height_51 : decode cX11_height 51 = .ok (.aload_n 0, 1) := by decide +kernel
theorem dX11_height_52 : decode cX11_height 52 = .ok (.iload_n 1, 1) := by decide +kernel
theorem dX11_height_53 : decode cX11_height 53 = .ok (.iload_n 2, 1) := by decide +kernel
theorem dX11_height_54 : decode cX11_height 54 = .ok (.invokevirtual 128, 3) := by decide +kernel
theorem dX11_height_57 : decode cX11_height 57 = .ok (.isub, 1) := by decide +kernel
theorem dX11_height_58 : decode cX11_height 58 = .ok (.iconst 1, 1) := by decide +kernel
theorem dX11_height_59 : decode cX11_height 59 = .ok (.iadd, 1) := by decide +kernel
theorem dX11_height_60 : decode cX11_height 60 = .ok (.invokestatic 131, 3) := by decide +kernel
theorem dX11_height_63 : decode cX11_height 63 = .ok (.istore_n 3, 1) := by decide +kernel
theorem dX11_height_64 : decode cX11_height 64 = .ok (.iinc 4 1, 3) := by decide +kernel
theorem dX11_height_67 : decode cX11_height 67 = .ok (.goto (-62), 3) := by decide +kernel
theorem dX11_height_70 : decode cX11_height 70 = .ok (.iload_n 3, 1) := by decide +kernel
theorem dX11_height_71 : decode cX11_height 71 = .ok (.ireturn, 1) := by decide +kernel
theorem dX11_test_0 : decode cX11_test 0 = .ok (.iconst 0, 1) := by decide +kernel
theorem dX11_test_1 : decode cX11_test 1 = .ok (.iload_n 1, 1) := by decide +kernel
theorem dX11_test_2 : decode cX11_test 2 = .ok (.iconst 3, 1) := by decide +kernel
theorem dX11_test_3 : decode cX11_test 3 = .ok (.ishl, 1) := by decide +kernel
theorem dX11_test_4 : decode cX11_test 4 = .ok (.ior, 1) := by decide +kernel
theorem dX11_test_5 : decode cX11_test 5 = .ok (.iload_n 0, 1) := by decide +kernel
theorem dX11_test_6 : decode cX11_test 6 = .ok (.iconst 5, 1) := by decide +kernel
theorem dX11_test_7 : decode cX11_test 7 = .ok (.ishl, 1) := by decide +kernel
theorem dX11_test_8 : decode cX11_test 8 = .ok (.ior, 1) := by decide +kernel
theorem dX11_test_9 : decode cX11_test 9 = .ok (.iload_n 2, 1) := by decide +kernel
theorem dX11_test_10 : decode cX11_test 10 = .ok (.bipush 10, 2) := by decide +kernel
theorem dX11_test_12 : decode cX11_test 12 = .ok (.ishl, 1) := by decide +kernel
theorem dX11_test_13 : decode cX11_test 13 = .ok (.ior, 1) := by decide +kernel
theorem dX11_test_14 : decode cX11_test 14 = .ok (.ireturn, 1) := by decide +kernel
theorem dX11_sortOf_0 : decode cX11_sortOf 0 = .ok (.iload_n 0, 1) := by decide +kernel
theorem dX11_sortOf_1 : decode cX11_sortOf 1 = .ok (.bipush 7, 2) := by decide +kernel
theorem dX11_sortOf_3 : decode cX11_sortOf 3 = .ok (.iand, 1) := by decide +kernel
theorem dX11_sortOf_4 : decode cX11_sortOf 4 = .ok (.ireturn, 1) := by decide +kernel
theorem dX11_fieldOf_0 : decode cX11_fieldOf 0 = .ok (.iload_n 0, 1) := by decide +kernel
theorem dX11_fieldOf_1 : decode cX11_fieldOf 1 = .ok (.iconst 5, 1) := by decide +kernel
theorem dX11_fieldOf_2 : decode cX11_fieldOf 2 = .ok (.ishr, 1) := by decide +kernel
theorem dX11_fieldOf_3 : decode cX11_fieldOf 3 = .ok (.bipush 31, 2) := by decide +kernel
theorem dX11_fieldOf_5 : decode cX11_fieldOf 5 = .ok (.iand, 1) := by decide +kernel
theorem dX11_fieldOf_6 : decode cX11_fieldOf 6 = .ok (.ireturn, 1) := by decide +kernel
theorem dX11_tests_0 : decode cX11_tests 0 = .ok (.iconst 0, 1) := by decide +kernel
theorem dX11_tests_1 : decode cX11_tests 1 = .ok (.istore_n 3, 1) := by decide +kernel
theorem dX11_tests_2 : decode cX11_tests 2 = .ok (.iconst 0, 1) := by decide +kernel
theorem dX11_tests_3 : decode cX11_tests 3 = .ok (.istore 4, 2) := by decide +kernel
theorem dX11_tests_5 : decode cX11_tests 5 = .ok (.iload 4, 2) := by decide +kernel
theorem dX11_tests_7 : decode cX11_tests 7 = .ok (.aload_n 0, 1) := by decide +kernel
theorem dX11_tests_8 : decode cX11_tests 8 = .ok (.iload_n 1, 1) := by decide +kernel
theorem dX11_tests_9 : decode cX11_tests 9 = .ok (.sipush 224, 3) := by decide +kernel
theorem dX11_tests_12 : decode cX11_tests 12 = .ok (.iload_n 2, 1) := by decide +kernel
theorem dX11_tests_13 : decode cX11_tests 13 = .ok (.invokevirtual 110, 3) := by decide +kernel
theorem dX11_tests_16 : decode cX11_tests 16 = .ok (.if_icmp .ge 40, 3) := by decide +kernel
theorem dX11_tests_19 : decode cX11_tests 19 = .ok (.iload_n 3, 1) := by decide +kernel
theorem dX11_tests_20 : decode cX11_tests 20 = .ok (.aload_n 0, 1) := by decide +kernel
theorem dX11_tests_21 : decode cX11_tests 21 = .ok (.getfield 34, 3) := by decide +kernel
theorem dX11_tests_24 : decode cX11_tests 24 = .ok (.aload_n 0, 1) := by decide +kernel
theorem dX11_tests_25 : decode cX11_tests 25 = .ok (.iload_n 1, 1) := by decide +kernel
theorem dX11_tests_26 : decode cX11_tests 26 = .ok (.sipush 192, 3) := by decide +kernel
theorem dX11_tests_29 : decode cX11_tests 29 = .ok (.iload_n 2, 1) := by decide +kernel
theorem dX11_tests_30 : decode cX11_tests 30 = .ok (.invokevirtual 110, 3) := by decide +kernel
theorem dX11_tests_33 : decode cX11_tests 33 = .ok (.iload 4, 2) := by decide +kernel
theorem dX11_tests_35 : decode cX11_tests 35 = .ok (.iadd, 1) := by decide +kernel
theorem dX11_tests_36 : decode cX11_tests 36 = .ok (.iaload, 1) := by decide +kernel
theorem dX11_tests_37 : decode cX11_tests 37 = .ok (.invokestatic 134, 3) := by decide +kernel
theorem dX11_tests_40 : decode cX11_tests 40 = .ok (.ifCond .ne 7, 3) := by decide +kernel
theorem dX11_tests_43 : decode cX11_tests 43 = .ok (.iconst 1, 1) := by decide +kernel
theorem dX11_tests_44 : decode cX11_tests 44 = .ok (.goto 4, 3) := by decide +kernel
theorem dX11_tests_47 : decode cX11_tests 47 = .ok (.iconst 0, 1) := by decide +kernel
theorem dX11_tests_48 : decode cX11_tests 48 = .ok (.iadd, 1) := by decide +kernel
theorem dX11_tests_49 : decode cX11_tests 49 = .ok (.istore_n 3, 1) := by decide +kernel
theorem dX11_tests_50 : decode cX11_tests 50 = .ok (.iinc 4 1, 3) := by decide +kernel
theorem dX11_tests_53 : decode cX11_tests 53 = .ok (.goto (-48), 3) := by decide +kernel
theorem dX11_tests_56 : decode cX11_tests 56 = .ok (.iload_n 3, 1) := by decide +kernel
theorem dX11_tests_57 : decode cX11_tests 57 = .ok (.ireturn, 1) := by decide +kernel
theorem dX11_asked_0 : decode cX11_asked 0 = .ok (.iconst 0, 1) := by decide +kernel
theorem dX11_asked_1 : decode cX11_asked 1 = .ok (.istore_n 3, 1) := by decide +kernel
theorem dX11_asked_2 : decode cX11_asked 2 = .ok (.iconst 0, 1) := by decide +kernel
theorem dX11_asked_3 : decode cX11_asked 3 = .ok (.istore 4, 2) := by decide +kernel
theorem dX11_asked_5 : decode cX11_asked 5 = .ok (.iload 4, 2) := by decide +kernel
theorem dX11_asked_7 : decode cX11_asked 7 = .ok (.aload_n 0, 1) := by decide +kernel
theorem dX11_asked_8 : decode cX11_asked 8 = .ok (.iload_n 1, 1) := by decide +kernel
theorem dX11_asked_9 : decode cX11_asked 9 = .ok (.sipush 224, 3) := by decide +kernel
theorem dX11_asked_12 : decode cX11_asked 12 = .ok (.iload_n 2, 1) := by decide +kernel
theorem dX11_asked_13 : decode cX11_asked 13 = .ok (.invokevirtual 110, 3) := by decide +kernel
theorem dX11_asked_16 : decode cX11_asked 16 = .ok (.if_icmp .ge 50, 3) := by decide +kernel
theorem dX11_asked_19 : decode cX11_asked 19 = .ok (.aload_n 0, 1) := by decide +kernel
theorem dX11_asked_20 : decode cX11_asked 20 = .ok (.getfield 34, 3) := by decide +kernel
theorem dX11_asked_23 : decode cX11_asked 23 = .ok (.aload_n 0, 1) := by decide +kernel
theorem dX11_asked_24 : decode cX11_asked 24 = .ok (.iload_n 1, 1) := by decide +kernel
theorem dX11_asked_25 : decode cX11_asked 25 = .ok (.sipush 192, 3) := by decide +kernel
theorem dX11_asked_28 : decode cX11_asked 28 = .ok (.iload_n 2, 1) := by decide +kernel
theorem dX11_asked_29 : decode cX11_asked 29 = .ok (.invokevirtual 110, 3) := by decide +kernel
theorem dX11_asked_32 : decode cX11_asked 32 = .ok (.iload 4, 2) := by decide +kernel
theorem dX11_asked_34 : decode cX11_asked 34 = .ok (.iadd, 1) := by decide +kernel
theorem dX11_asked_35 : decode cX11_asked 35 = .ok (.iaload, 1) := by decide +kernel
theorem dX11_asked_36 : decode cX11_asked 36 = .ok (.istore 5, 2) := by decide +kernel
theorem dX11_asked_38 : decode cX11_asked 38 = .ok (.iload_n 3, 1) := by decide +kernel
theorem dX11_asked_39 : decode cX11_asked 39 = .ok (.iload 5, 2) := by decide +kernel
theorem dX11_asked_41 : decode cX11_asked 41 = .ok (.invokestatic 134, 3) := by decide +kernel
theorem dX11_asked_44 : decode cX11_asked 44 = .ok (.ifCond .ne 13, 3) := by decide +kernel
theorem dX11_asked_47 : decode cX11_asked 47 = .ok (.iconst 1, 1) := by decide +kernel
theorem dX11_asked_48 : decode cX11_asked 48 = .ok (.iload 5, 2) := by decide +kernel
theorem dX11_asked_50 : decode cX11_asked 50 = .ok (.invokestatic 137, 3) := by decide +kernel
theorem dX11_asked_53 : decode cX11_asked 53 = .ok (.ishl, 1) := by decide +kernel
theorem dX11_asked_54 : decode cX11_asked 54 = .ok (.goto 4, 3) := by decide +kernel
theorem dX11_asked_57 : decode cX11_asked 57 = .ok (.iconst 0, 1) := by decide +kernel
theorem dX11_asked_58 : decode cX11_asked 58 = .ok (.ior, 1) := by decide +kernel
theorem dX11_asked_59 : decode cX11_asked 59 = .ok (.istore_n 3, 1) := by decide +kernel
theorem dX11_asked_60 : decode cX11_asked 60 = .ok (.iinc 4 1, 3) := by decide +kernel
theorem dX11_asked_63 : decode cX11_asked 63 = .ok (.goto (-58), 3) := by decide +kernel
theorem dX11_asked_66 : decode cX11_asked 66 = .ok (.iload_n 3, 1) := by decide +kernel
theorem dX11_asked_67 : decode cX11_asked 67 = .ok (.ireturn, 1) := by decide +kernel
theorem dX11_laysNeeds_0 : decode cX11_laysNeeds 0 = .ok (.iconst 0, 1) := by decide +kernel
theorem dX11_laysNeeds_1 : decode cX11_laysNeeds 1 = .ok (.istore_n 2, 1) := by decide +kernel
theorem dX11_laysNeeds_2 : decode cX11_laysNeeds 2 = .ok (.iload_n 2, 1) := by decide +kernel
theorem dX11_laysNeeds_3 : decode cX11_laysNeeds 3 = .ok (.bipush 24, 2) := by decide +kernel
theorem dX11_laysNeeds_5 : decode cX11_laysNeeds 5 = .ok (.if_icmp .ge 16, 3) := by decide +kernel
theorem dX11_laysNeeds_8 : decode cX11_laysNeeds 8 = .ok (.aload_n 0, 1) := by decide +kernel
theorem dX11_laysNeeds_9 : decode cX11_laysNeeds 9 = .ok (.getfield 37, 3) := by decide +kernel
theorem dX11_laysNeeds_12 : decode cX11_laysNeeds 12 = .ok (.iload_n 2, 1) := by decide +kernel
theorem dX11_laysNeeds_13 : decode cX11_laysNeeds 13 = .ok (.iconst 0, 1) := by decide +kernel
theorem dX11_laysNeeds_14 : decode cX11_laysNeeds 14 = .ok (.iastore, 1) := by decide +kernel
theorem dX11_laysNeeds_15 : decode cX11_laysNeeds 15 = .ok (.iinc 2 1, 3) := by decide +kernel
theorem dX11_laysNeeds_18 : decode cX11_laysNeeds 18 = .ok (.goto (-16), 3) := by decide +kernel
theorem dX11_laysNeeds_21 : decode cX11_laysNeeds 21 = .ok (.iconst 0, 1) := by decide +kernel
theorem dX11_laysNeeds_22 : decode cX11_laysNeeds 22 = .ok (.istore_n 2, 1) := by decide +kernel
theorem dX11_laysNeeds_23 : decode cX11_laysNeeds 23 = .ok (.iload_n 2, 1) := by decide +kernel
theorem dX11_laysNeeds_24 : decode cX11_laysNeeds 24 = .ok (.aload_n 0, 1) := by decide +kernel
theorem dX11_laysNeeds_25 : decode cX11_laysNeeds 25 = .ok (.iconst 0, 1) := by decide +kernel
theorem dX11_laysNeeds_26 : decode cX11_laysNeeds 26 = .ok (.invokevirtual 118, 3) := by decide +kernel
theorem dX11_laysNeeds_29 : decode cX11_laysNeeds 29 = .ok (.if_icmp .ge 32, 3) := by decide +kernel
theorem dX11_laysNeeds_32 : decode cX11_laysNeeds 32 = .ok (.aload_n 0, 1) := by decide +kernel
theorem dX11_laysNeeds_33 : decode cX11_laysNeeds 33 = .ok (.iconst 0, 1) := by decide +kernel
theorem dX11_laysNeeds_34 : decode cX11_laysNeeds 34 = .ok (.iload_n 2, 1) := by decide +kernel
theorem dX11_laysNeeds_35 : decode cX11_laysNeeds 35 = .ok (.invokevirtual 114, 3) := by decide +kernel
theorem dX11_laysNeeds_38 : decode cX11_laysNeeds 38 = .ok (.istore_n 3, 1) := by decide +kernel
theorem dX11_laysNeeds_39 : decode cX11_laysNeeds 39 = .ok (.iload_n 3, 1) := by decide +kernel
theorem dX11_laysNeeds_40 : decode cX11_laysNeeds 40 = .ok (.iload_n 1, 1) := by decide +kernel
theorem dX11_laysNeeds_41 : decode cX11_laysNeeds 41 = .ok (.if_icmp .eq 14, 3) := by decide +kernel
theorem dX11_laysNeeds_44 : decode cX11_laysNeeds 44 = .ok (.aload_n 0, 1) := by decide +kernel
theorem dX11_laysNeeds_45 : decode cX11_laysNeeds 45 = .ok (.iload_n 3, 1) := by decide +kernel
theorem dX11_laysNeeds_46 : decode cX11_laysNeeds 46 = .ok (.aload_n 0, 1) := by decide +kernel
theorem dX11_laysNeeds_47 : decode cX11_laysNeeds 47 = .ok (.iconst 0, 1) := by decide +kernel
theorem dX11_laysNeeds_48 : decode cX11_laysNeeds 48 = .ok (.iload_n 3, 1) := by decide +kernel
theorem dX11_laysNeeds_49 : decode cX11_laysNeeds 49 = .ok (.invokevirtual 140, 3) := by decide +kernel
theorem dX11_laysNeeds_52 : decode cX11_laysNeeds 52 = .ok (.invokevirtual 143, 3) := by decide +kernel
theorem dX11_laysNeeds_55 : decode cX11_laysNeeds 55 = .ok (.iinc 2 1, 3) := by decide +kernel
theorem dX11_laysNeeds_58 : decode cX11_laysNeeds 58 = .ok (.goto (-35), 3) := by decide +kernel
theorem dX11_laysNeeds_61 : decode cX11_laysNeeds 61 = .ok (.return_, 1) := by decide +kernel
theorem dX11_needed_0 : decode cX11_needed 0 = .ok (.iconst 0, 1) := by decide +kernel
theorem dX11_needed_1 : decode cX11_needed 1 = .ok (.istore_n 3, 1) := by decide +kernel
theorem dX11_needed_2 : decode cX11_needed 2 = .ok (.iload_n 3, 1) := by decide +kernel
theorem dX11_needed_3 : decode cX11_needed 3 = .ok (.bipush 24, 2) := by decide +kernel
theorem dX11_needed_5 : decode cX11_needed 5 = .ok (.if_icmp .ge 38, 3) := by decide +kernel
theorem dX11_needed_8 : decode cX11_needed 8 = .ok (.aload_n 0, 1) := by decide +kernel
theorem dX11_needed_9 : decode cX11_needed 9 = .ok (.iconst 0, 1) := by decide +kernel
theorem dX11_needed_10 : decode cX11_needed 10 = .ok (.iload_n 3, 1) := by decide +kernel
theorem dX11_needed_11 : decode cX11_needed 11 = .ok (.invokevirtual 99, 3) := by decide +kernel
theorem dX11_needed_14 : decode cX11_needed 14 = .ok (.ifCond .eq 23, 3) := by decide +kernel
theorem dX11_needed_17 : decode cX11_needed 17 = .ok (.aload_n 0, 1) := by decide +kernel
theorem dX11_needed_18 : decode cX11_needed 18 = .ok (.iconst 0, 1) := by decide +kernel
theorem dX11_needed_19 : decode cX11_needed 19 = .ok (.iload_n 3, 1) := by decide +kernel
theorem dX11_needed_20 : decode cX11_needed 20 = .ok (.iload_n 1, 1) := by decide +kernel
theorem dX11_needed_21 : decode cX11_needed 21 = .ok (.invokevirtual 125, 3) := by decide +kernel
theorem dX11_needed_24 : decode cX11_needed 24 = .ok (.ifCond .eq 13, 3) := by decide +kernel
theorem dX11_needed_27 : decode cX11_needed 27 = .ok (.aload_n 0, 1) := by decide +kernel
theorem dX11_needed_28 : decode cX11_needed 28 = .ok (.getfield 37, 3) := by decide +kernel
theorem dX11_needed_31 : decode cX11_needed 31 = .ok (.iload_n 3, 1) := by decide +kernel
theorem dX11_needed_32 : decode cX11_needed 32 = .ok (.dup2, 1) := by decide +kernel
theorem dX11_needed_33 : decode cX11_needed 33 = .ok (.iaload, 1) := by decide +kernel
theorem dX11_needed_34 : decode cX11_needed 34 = .ok (.iload_n 2, 1) := by decide +kernel
theorem dX11_needed_35 : decode cX11_needed 35 = .ok (.ior, 1) := by decide +kernel
theorem dX11_needed_36 : decode cX11_needed 36 = .ok (.iastore, 1) := by decide +kernel
theorem dX11_needed_37 : decode cX11_needed 37 = .ok (.iinc 3 1, 3) := by decide +kernel
theorem dX11_needed_40 : decode cX11_needed 40 = .ok (.goto (-38), 3) := by decide +kernel
theorem dX11_needed_43 : decode cX11_needed 43 = .ok (.return_, 1) := by decide +kernel
theorem dX11_reached_0 : decode cX11_reached 0 = .ok (.iconst 1, 1) := by decide +kernel
theorem dX11_reached_1 : decode cX11_reached 1 = .ok (.iload_n 1, 1) := by decide +kernel
theorem dX11_reached_2 : decode cX11_reached 2 = .ok (.ishl, 1) := by decide +kernel
theorem dX11_reached_3 : decode cX11_reached 3 = .ok (.istore_n 2, 1) := by decide +kernel
theorem dX11_reached_4 : decode cX11_reached 4 = .ok (.iconst 0, 1) := by decide +kernel
theorem dX11_reached_5 : decode cX11_reached 5 = .ok (.istore_n 3, 1) := by decide +kernel
theorem dX11_reached_6 : decode cX11_reached 6 = .ok (.iload_n 2, 1) := by decide +kernel
theorem dX11_reached_7 : decode cX11_reached 7 = .ok (.iload_n 3, 1) := by decide +kernel
theorem dX11_reached_8 : decode cX11_reached 8 = .ok (.if_icmp .eq 48, 3) := by decide +kernel
theorem dX11_reached_11 : decode cX11_reached 11 = .ok (.iload_n 2, 1) := by decide +kernel
theorem dX11_reached_12 : decode cX11_reached 12 = .ok (.istore_n 3, 1) := by decide +kernel
theorem dX11_reached_13 : decode cX11_reached 13 = .ok (.iconst 0, 1) := by decide +kernel
theorem dX11_reached_14 : decode cX11_reached 14 = .ok (.istore 4, 2) := by decide +kernel
theorem dX11_reached_16 : decode cX11_reached 16 = .ok (.iload 4, 2) := by decide +kernel
theorem dX11_reached_18 : decode cX11_reached 18 = .ok (.bipush 24, 2) := by decide +kernel
theorem dX11_reached_20 : decode cX11_reached 20 = .ok (.if_icmp .ge 33, 3) := by decide +kernel
theorem dX11_reached_23 : decode cX11_reached 23 = .ok (.iload_n 2, 1) := by decide +kernel
theorem dX11_reached_24 : decode cX11_reached 24 = .ok (.iload_n 3, 1) := by decide +kernel
theorem dX11_reached_25 : decode cX11_reached 25 = .ok (.iload 4, 2) := by decide +kernel
theorem dX11_reached_27 : decode cX11_reached 27 = .ok (.ishr, 1) := by decide +kernel
theorem dX11_reached_28 : decode cX11_reached 28 = .ok (.iconst 1, 1) := by decide +kernel
theorem dX11_reached_29 : decode cX11_reached 29 = .ok (.iand, 1) := by decide +kernel
theorem dX11_reached_30 : decode cX11_reached 30 = .ok (.iconst 1, 1) := by decide +kernel
theorem dX11_reached_31 : decode cX11_reached 31 = .ok (.if_icmp .ne 13, 3) := by decide +kernel
theorem dX11_reached_34 : decode cX11_reached 34 = .ok (.aload_n 0, 1) := by decide +kernel
theorem dX11_reached_35 : decode cX11_reached 35 = .ok (.getfield 37, 3) := by decide +kernel
theorem dX11_reached_38 : decode cX11_reached 38 = .ok (.iload 4, 2) := by decide +kernel
theorem dX11_reached_40 : decode cX11_reached 40 = .ok (.iaload, 1) := by decide +kernel
theorem dX11_reached_41 : decode cX11_reached 41 = .ok (.goto 4, 3) := by decide +kernel
theorem dX11_reached_44 : decode cX11_reached 44 = .ok (.iconst 0, 1) := by decide +kernel
theorem dX11_reached_45 : decode cX11_reached 45 = .ok (.ior, 1) := by decide +kernel
theorem dX11_reached_46 : decode cX11_reached 46 = .ok (.istore_n 2, 1) := by decide +kernel
theorem dX11_reached_47 : decode cX11_reached 47 = .ok (.iinc 4 1, 3) := by decide +kernel
theorem dX11_reached_50 : decode cX11_reached 50 = .ok (.goto (-34), 3) := by decide +kernel
theorem dX11_reached_53 : decode cX11_reached 53 = .ok (.goto (-47), 3) := by decide +kernel
theorem dX11_reached_56 : decode cX11_reached 56 = .ok (.iload_n 2, 1) := by decide +kernel
theorem dX11_reached_57 : decode cX11_reached 57 = .ok (.ireturn, 1) := by decide +kernel
theorem dX11_fieldsIn_0 : decode cX11_fieldsIn 0 = .ok (.iconst 0, 1) := by decide +kernel
theorem dX11_fieldsIn_1 : decode cX11_fieldsIn 1 = .ok (.istore_n 2, 1) := by decide +kernel
theorem dX11_fieldsIn_2 : decode cX11_fieldsIn 2 = .ok (.iconst 0, 1) := by decide +kernel
theorem dX11_fieldsIn_3 : decode cX11_fieldsIn 3 = .ok (.istore_n 3, 1) := by decide +kernel
theorem dX11_fieldsIn_4 : decode cX11_fieldsIn 4 = .ok (.iload_n 3, 1) := by decide +kernel
theorem dX11_fieldsIn_5 : decode cX11_fieldsIn 5 = .ok (.bipush 24, 2) := by decide +kernel
theorem dX11_fieldsIn_7 : decode cX11_fieldsIn 7 = .ok (.if_icmp .ge 38, 3) := by decide +kernel
theorem dX11_fieldsIn_10 : decode cX11_fieldsIn 10 = .ok (.iload_n 2, 1) := by decide +kernel
theorem dX11_fieldsIn_11 : decode cX11_fieldsIn 11 = .ok (.aload_n 0, 1) := by decide +kernel
theorem dX11_fieldsIn_12 : decode cX11_fieldsIn 12 = .ok (.iconst 0, 1) := by decide +kernel
theorem dX11_fieldsIn_13 : decode cX11_fieldsIn 13 = .ok (.iload_n 3, 1) := by decide +kernel
theorem dX11_fieldsIn_14 : decode cX11_fieldsIn 14 = .ok (.invokevirtual 99, 3) := by decide +kernel
theorem dX11_fieldsIn_17 : decode cX11_fieldsIn 17 = .ok (.ifCond .eq 19, 3) := by decide +kernel
theorem dX11_fieldsIn_20 : decode cX11_fieldsIn 20 = .ok (.aload_n 0, 1) := by decide +kernel
theorem dX11_fieldsIn_21 : decode cX11_fieldsIn 21 = .ok (.iconst 0, 1) := by decide +kernel
theorem dX11_fieldsIn_22 : decode cX11_fieldsIn 22 = .ok (.iload_n 3, 1) := by decide +kernel
theorem dX11_fieldsIn_23 : decode cX11_fieldsIn 23 = .ok (.iload_n 1, 1) := by decide +kernel
theorem dX11_fieldsIn_24 : decode cX11_fieldsIn 24 = .ok (.invokevirtual 125, 3) := by decide +kernel
theorem dX11_fieldsIn_27 : decode cX11_fieldsIn 27 = .ok (.ifCond .eq 9, 3) := by decide +kernel
theorem dX11_fieldsIn_30 : decode cX11_fieldsIn 30 = .ok (.iconst 1, 1) := by decide +kernel
theorem dX11_fieldsIn_31 : decode cX11_fieldsIn 31 = .ok (.iload_n 3, 1) := by decide +kernel
theorem dX11_fieldsIn_32 : decode cX11_fieldsIn 32 = .ok (.ishl, 1) := by decide +kernel
theorem dX11_fieldsIn_33 : decode cX11_fieldsIn 33 = .ok (.goto 4, 3) := by decide +kernel
theorem dX11_fieldsIn_36 : decode cX11_fieldsIn 36 = .ok (.iconst 0, 1) := by decide +kernel
theorem dX11_fieldsIn_37 : decode cX11_fieldsIn 37 = .ok (.ior, 1) := by decide +kernel
theorem dX11_fieldsIn_38 : decode cX11_fieldsIn 38 = .ok (.istore_n 2, 1) := by decide +kernel
theorem dX11_fieldsIn_39 : decode cX11_fieldsIn 39 = .ok (.iinc 3 1, 3) := by decide +kernel
theorem dX11_fieldsIn_42 : decode cX11_fieldsIn 42 = .ok (.goto (-38), 3) := by decide +kernel
theorem dX11_fieldsIn_45 : decode cX11_fieldsIn 45 = .ok (.iload_n 2, 1) := by decide +kernel
theorem dX11_fieldsIn_46 : decode cX11_fieldsIn 46 = .ok (.ireturn, 1) := by decide +kernel
theorem dX11_circles_0 : decode cX11_circles 0 = .ok (.aload_n 0, 1) := by decide +kernel
theorem dX11_circles_1 : decode cX11_circles 1 = .ok (.iload_n 2, 1) := by decide +kernel
theorem dX11_circles_2 : decode cX11_circles 2 = .ok (.invokevirtual 147, 3) := by decide +kernel
theorem dX11_circles_5 : decode cX11_circles 5 = .ok (.aload_n 0, 1) := by decide +kernel
theorem dX11_circles_6 : decode cX11_circles 6 = .ok (.iload_n 1, 1) := by decide +kernel
theorem dX11_circles_7 : decode cX11_circles 7 = .ok (.invokevirtual 150, 3) := by decide +kernel
theorem dX11_circles_10 : decode cX11_circles 10 = .ok (.iand, 1) := by decide +kernel
theorem dX11_circles_11 : decode cX11_circles 11 = .ok (.ifCond .eq 7, 3) := by decide +kernel
theorem dX11_circles_14 : decode cX11_circles 14 = .ok (.iconst 1, 1) := by decide +kernel
theorem dX11_circles_15 : decode cX11_circles 15 = .ok (.goto 4, 3) := by decide +kernel
theorem dX11_circles_18 : decode cX11_circles 18 = .ok (.iconst 0, 1) := by decide +kernel
theorem dX11_circles_19 : decode cX11_circles 19 = .ok (.ireturn, 1) := by decide +kernel
theorem dX11_isSound_0 : decode cX11_isSound 0 = .ok (.aload_n 0, 1) := by decide +kernel
theorem dX11_isSound_1 : decode cX11_isSound 1 = .ok (.bipush (-2), 2) := by decide +kernel
theorem dX11_isSound_3 : decode cX11_isSound 3 = .ok (.invokevirtual 153, 3) := by decide +kernel
theorem dX11_isSound_6 : decode cX11_isSound 6 = .ok (.iconst 0, 1) := by decide +kernel
theorem dX11_isSound_7 : decode cX11_isSound 7 = .ok (.istore_n 1, 1) := by decide +kernel
theorem dX11_isSound_8 : decode cX11_isSound 8 = .ok (.iload_n 1, 1) := by decide +kernel
theorem dX11_isSound_9 : decode cX11_isSound 9 = .ok (.bipush 24, 2) := by decide +kernel
theorem dX11_isSound_11 : decode cX11_isSound 11 = .ok (.if_icmp .ge 62, 3) := by decide +kernel
theorem dX11_isSound_14 : decode cX11_isSound 14 = .ok (.iconst 0, 1) := by decide +kernel
theorem dX11_isSound_15 : decode cX11_isSound 15 = .ok (.istore_n 2, 1) := by decide +kernel
theorem dX11_isSound_16 : decode cX11_isSound 16 = .ok (.iconst 0, 1) := by decide +kernel
theorem dX11_isSound_17 : decode cX11_isSound 17 = .ok (.istore_n 3, 1) := by decide +kernel
theorem dX11_isSound_18 : decode cX11_isSound 18 = .ok (.iload_n 3, 1) := by decide +kernel
theorem dX11_isSound_19 : decode cX11_isSound 19 = .ok (.bipush 24, 2) := by decide +kernel
theorem dX11_isSound_21 : decode cX11_isSound 21 = .ok (.if_icmp .ge 35, 3) := by decide +kernel
theorem dX11_isSound_24 : decode cX11_isSound 24 = .ok (.iload_n 2, 1) := by decide +kernel
theorem dX11_isSound_25 : decode cX11_isSound 25 = .ok (.aload_n 0, 1) := by decide +kernel
theorem dX11_isSound_26 : decode cX11_isSound 26 = .ok (.getfield 37, 3) := by decide +kernel
theorem dX11_isSound_29 : decode cX11_isSound 29 = .ok (.iload_n 1, 1) := by decide +kernel
theorem dX11_isSound_30 : decode cX11_isSound 30 = .ok (.iaload, 1) := by decide +kernel
theorem dX11_isSound_31 : decode cX11_isSound 31 = .ok (.iload_n 3, 1) := by decide +kernel
theorem dX11_isSound_32 : decode cX11_isSound 32 = .ok (.ishr, 1) := by decide +kernel
theorem dX11_isSound_33 : decode cX11_isSound 33 = .ok (.iconst 1, 1) := by decide +kernel
theorem dX11_isSound_34 : decode cX11_isSound 34 = .ok (.iand, 1) := by decide +kernel
theorem dX11_isSound_35 : decode cX11_isSound 35 = .ok (.iconst 1, 1) := by decide +kernel
theorem dX11_isSound_36 : decode cX11_isSound 36 = .ok (.if_icmp .ne 11, 3) := by decide +kernel
theorem dX11_isSound_39 : decode cX11_isSound 39 = .ok (.aload_n 0, 1) := by decide +kernel
theorem dX11_isSound_40 : decode cX11_isSound 40 = .ok (.iload_n 3, 1) := by decide +kernel
theorem dX11_isSound_41 : decode cX11_isSound 41 = .ok (.invokevirtual 147, 3) := by decide +kernel
theorem dX11_isSound_44 : decode cX11_isSound 44 = .ok (.goto 4, 3) := by decide +kernel
theorem dX11_isSound_47 : decode cX11_isSound 47 = .ok (.iconst 0, 1) := by decide +kernel
theorem dX11_isSound_48 : decode cX11_isSound 48 = .ok (.ior, 1) := by decide +kernel
theorem dX11_isSound_49 : decode cX11_isSound 49 = .ok (.istore_n 2, 1) := by decide +kernel
theorem dX11_isSound_50 : decode cX11_isSound 50 = .ok (.iinc 3 1, 3) := by decide +kernel
theorem dX11_isSound_53 : decode cX11_isSound 53 = .ok (.goto (-35), 3) := by decide +kernel
theorem dX11_isSound_56 : decode cX11_isSound 56 = .ok (.iload_n 2, 1) := by decide +kernel
theorem dX11_isSound_57 : decode cX11_isSound 57 = .ok (.iload_n 1, 1) := by decide +kernel
theorem dX11_isSound_58 : decode cX11_isSound 58 = .ok (.ishr, 1) := by decide +kernel
theorem dX11_isSound_59 : decode cX11_isSound 59 = .ok (.iconst 1, 1) := by decide +kernel
theorem dX11_isSound_60 : decode cX11_isSound 60 = .ok (.iand, 1) := by decide +kernel
theorem dX11_isSound_61 : decode cX11_isSound 61 = .ok (.iconst 1, 1) := by decide +kernel
theorem dX11_isSound_62 : decode cX11_isSound 62 = .ok (.if_icmp .ne 5, 3) := by decide +kernel
theorem dX11_isSound_65 : decode cX11_isSound 65 = .ok (.iconst 0, 1) := by decide +kernel
theorem dX11_isSound_66 : decode cX11_isSound 66 = .ok (.ireturn, 1) := by decide +kernel
theorem dX11_isSound_67 : decode cX11_isSound 67 = .ok (.iinc 1 1, 3) := by decide +kernel
theorem dX11_isSound_70 : decode cX11_isSound 70 = .ok (.goto (-62), 3) := by decide +kernel
theorem dX11_isSound_73 : decode cX11_isSound 73 = .ok (.iconst 1, 1) := by decide +kernel
theorem dX11_isSound_74 : decode cX11_isSound 74 = .ok (.ireturn, 1) := by decide +kernel
theorem dX11_isAt_0 : decode cX11_isAt 0 = .ok (.aload_n 0, 1) := by decide +kernel
theorem dX11_isAt_1 : decode cX11_isAt 1 = .ok (.getfield 156, 3) := by decide +kernel
theorem dX11_isAt_4 : decode cX11_isAt 4 = .ok (.aload_n 0, 1) := by decide +kernel
theorem dX11_isAt_5 : decode cX11_isAt 5 = .ok (.getfield 159, 3) := by decide +kernel
theorem dX11_isAt_8 : decode cX11_isAt 8 = .ok (.if_icmp .ge 33, 3) := by decide +kernel
theorem dX11_isAt_11 : decode cX11_isAt 11 = .ok (.aload_n 0, 1) := by decide +kernel
theorem dX11_isAt_12 : decode cX11_isAt 12 = .ok (.getfield 7, 3) := by decide +kernel
theorem dX11_isAt_15 : decode cX11_isAt 15 = .ok (.aload_n 0, 1) := by decide +kernel
theorem dX11_isAt_16 : decode cX11_isAt 16 = .ok (.getfield 156, 3) := by decide +kernel
theorem dX11_isAt_19 : decode cX11_isAt 19 = .ok (.baload, 1) := by decide +kernel
theorem dX11_isAt_20 : decode cX11_isAt 20 = .ok (.iload_n 1, 1) := by decide +kernel
theorem dX11_isAt_21 : decode cX11_isAt 21 = .ok (.if_icmp .lt 20, 3) := by decide +kernel
theorem dX11_isAt_24 : decode cX11_isAt 24 = .ok (.aload_n 0, 1) := by decide +kernel
theorem dX11_isAt_25 : decode cX11_isAt 25 = .ok (.getfield 7, 3) := by decide +kernel
theorem dX11_isAt_28 : decode cX11_isAt 28 = .ok (.aload_n 0, 1) := by decide +kernel
theorem dX11_isAt_29 : decode cX11_isAt 29 = .ok (.getfield 156, 3) := by decide +kernel
theorem dX11_isAt_32 : decode cX11_isAt 32 = .ok (.baload, 1) := by decide +kernel
theorem dX11_isAt_33 : decode cX11_isAt 33 = .ok (.iload_n 2, 1) := by decide +kernel
theorem dX11_isAt_34 : decode cX11_isAt 34 = .ok (.if_icmp .gt 7, 3) := by decide +kernel
theorem dX11_isAt_37 : decode cX11_isAt 37 = .ok (.iconst 1, 1) := by decide +kernel
theorem dX11_isAt_38 : decode cX11_isAt 38 = .ok (.goto 4, 3) := by decide +kernel
theorem dX11_isAt_41 : decode cX11_isAt 41 = .ok (.iconst 0, 1) := by decide +kernel
theorem dX11_isAt_42 : decode cX11_isAt 42 = .ok (.ireturn, 1) := by decide +kernel
theorem dX11_isKeyword_0 : decode cX11_isKeyword 0 = .ok (.lload_n 0, 1) := by decide +kernel
theorem dX11_isKeyword_1 : decode cX11_isKeyword 1 = .ok (.ldc2_w 162, 3) := by decide +kernel
theorem dX11_isKeyword_4 : decode cX11_isKeyword 4 = .ok (.lcmp, 1) := by decide +kernel
theorem dX11_isKeyword_5 : decode cX11_isKeyword 5 = .ok (.ifCond .eq 75, 3) := by decide +kernel
theorem dX11_isKeyword_8 : decode cX11_isKeyword 8 = .ok (.lload_n 0, 1) := by decide +kernel
theorem dX11_isKeyword_9 : decode cX11_isKeyword 9 = .ok (.ldc2_w 164, 3) := by decide +kernel
theorem dX11_isKeyword_12 : decode cX11_isKeyword 12 = .ok (.lcmp, 1) := by decide +kernel
theorem dX11_isKeyword_13 : decode cX11_isKeyword 13 = .ok (.ifCond .eq 67, 3) := by decide +kernel
theorem dX11_isKeyword_16 : decode cX11_isKeyword 16 = .ok (.lload_n 0, 1) := by decide +kernel
theorem dX11_isKeyword_17 : decode cX11_isKeyword 17 = .ok (.ldc2_w 166, 3) := by decide +kernel
theorem dX11_isKeyword_20 : decode cX11_isKeyword 20 = .ok (.lcmp, 1) := by decide +kernel
theorem dX11_isKeyword_21 : decode cX11_isKeyword 21 = .ok (.ifCond .eq 59, 3) := by decide +kernel
theorem dX11_isKeyword_24 : decode cX11_isKeyword 24 = .ok (.lload_n 0, 1) := by decide +kernel
theorem dX11_isKeyword_25 : decode cX11_isKeyword 25 = .ok (.ldc2_w 168, 3) := by decide +kernel
theorem dX11_isKeyword_28 : decode cX11_isKeyword 28 = .ok (.lcmp, 1) := by decide +kernel
theorem dX11_isKeyword_29 : decode cX11_isKeyword 29 = .ok (.ifCond .eq 51, 3) := by decide +kernel
theorem dX11_isKeyword_32 : decode cX11_isKeyword 32 = .ok (.lload_n 0, 1) := by decide +kernel
theorem dX11_isKeyword_33 : decode cX11_isKeyword 33 = .ok (.ldc2_w 170, 3) := by decide +kernel
theorem dX11_isKeyword_36 : decode cX11_isKeyword 36 = .ok (.lcmp, 1) := by decide +kernel
theorem dX11_isKeyword_37 : decode cX11_isKeyword 37 = .ok (.ifCond .eq 43, 3) := by decide +kernel
theorem dX11_isKeyword_40 : decode cX11_isKeyword 40 = .ok (.lload_n 0, 1) := by decide +kernel
theorem dX11_isKeyword_41 : decode cX11_isKeyword 41 = .ok (.ldc2_w 172, 3) := by decide +kernel
theorem dX11_isKeyword_44 : decode cX11_isKeyword 44 = .ok (.lcmp, 1) := by decide +kernel
theorem dX11_isKeyword_45 : decode cX11_isKeyword 45 = .ok (.ifCond .eq 35, 3) := by decide +kernel
theorem dX11_isKeyword_48 : decode cX11_isKeyword 48 = .ok (.lload_n 0, 1) := by decide +kernel
theorem dX11_isKeyword_49 : decode cX11_isKeyword 49 = .ok (.ldc2_w 174, 3) := by decide +kernel
theorem dX11_isKeyword_52 : decode cX11_isKeyword 52 = .ok (.lcmp, 1) := by decide +kernel
theorem dX11_isKeyword_53 : decode cX11_isKeyword 53 = .ok (.ifCond .eq 27, 3) := by decide +kernel
theorem dX11_isKeyword_56 : decode cX11_isKeyword 56 = .ok (.lload_n 0, 1) := by decide +kernel
theorem dX11_isKeyword_57 : decode cX11_isKeyword 57 = .ok (.ldc2_w 176, 3) := by decide +kernel
theorem dX11_isKeyword_60 : decode cX11_isKeyword 60 = .ok (.lcmp, 1) := by decide +kernel
theorem dX11_isKeyword_61 : decode cX11_isKeyword 61 = .ok (.ifCond .eq 19, 3) := by decide +kernel
theorem dX11_isKeyword_64 : decode cX11_isKeyword 64 = .ok (.lload_n 0, 1) := by decide +kernel
theorem dX11_isKeyword_65 : decode cX11_isKeyword 65 = .ok (.ldc2_w 178, 3) := by decide +kernel
theorem dX11_isKeyword_68 : decode cX11_isKeyword 68 = .ok (.lcmp, 1) := by decide +kernel
theorem dX11_isKeyword_69 : decode cX11_isKeyword 69 = .ok (.ifCond .eq 11, 3) := by decide +kernel
theorem dX11_isKeyword_72 : decode cX11_isKeyword 72 = .ok (.lload_n 0, 1) := by decide +kernel
theorem dX11_isKeyword_73 : decode cX11_isKeyword 73 = .ok (.ldc2_w 180, 3) := by decide +kernel
theorem dX11_isKeyword_76 : decode cX11_isKeyword 76 = .ok (.lcmp, 1) := by decide +kernel
theorem dX11_isKeyword_77 : decode cX11_isKeyword 77 = .ok (.ifCond .ne 7, 3) := by decide +kernel
theorem dX11_isKeyword_80 : decode cX11_isKeyword 80 = .ok (.iconst 1, 1) := by decide +kernel
theorem dX11_isKeyword_81 : decode cX11_isKeyword 81 = .ok (.goto 4, 3) := by decide +kernel
theorem dX11_isKeyword_84 : decode cX11_isKeyword 84 = .ok (.iconst 0, 1) := by decide +kernel
theorem dX11_isKeyword_85 : decode cX11_isKeyword 85 = .ok (.ireturn, 1) := by decide +kernel
theorem dX11_isSign_0 : decode cX11_isSign 0 = .ok (.iload_n 0, 1) := by decide +kernel
theorem dX11_isSign_1 : decode cX11_isSign 1 = .ok (.bipush 59, 2) := by decide +kernel
theorem dX11_isSign_3 : decode cX11_isSign 3 = .ok (.if_icmp .eq 45, 3) := by decide +kernel
theorem dX11_isSign_6 : decode cX11_isSign 6 = .ok (.iload_n 0, 1) := by decide +kernel
theorem dX11_isSign_7 : decode cX11_isSign 7 = .ok (.bipush 123, 2) := by decide +kernel
theorem dX11_isSign_9 : decode cX11_isSign 9 = .ok (.if_icmp .eq 39, 3) := by decide +kernel
theorem dX11_isSign_12 : decode cX11_isSign 12 = .ok (.iload_n 0, 1) := by decide +kernel
theorem dX11_isSign_13 : decode cX11_isSign 13 = .ok (.bipush 125, 2) := by decide +kernel
theorem dX11_isSign_15 : decode cX11_isSign 15 = .ok (.if_icmp .eq 33, 3) := by decide +kernel
theorem dX11_isSign_18 : decode cX11_isSign 18 = .ok (.iload_n 0, 1) := by decide +kernel
theorem dX11_isSign_19 : decode cX11_isSign 19 = .ok (.bipush 40, 2) := by decide +kernel
theorem dX11_isSign_21 : decode cX11_isSign 21 = .ok (.if_icmp .eq 27, 3) := by decide +kernel
theorem dX11_isSign_24 : decode cX11_isSign 24 = .ok (.iload_n 0, 1) := by decide +kernel
theorem dX11_isSign_25 : decode cX11_isSign 25 = .ok (.bipush 41, 2) := by decide +kernel
theorem dX11_isSign_27 : decode cX11_isSign 27 = .ok (.if_icmp .eq 21, 3) := by decide +kernel
theorem dX11_isSign_30 : decode cX11_isSign 30 = .ok (.iload_n 0, 1) := by decide +kernel
theorem dX11_isSign_31 : decode cX11_isSign 31 = .ok (.bipush 61, 2) := by decide +kernel
theorem dX11_isSign_33 : decode cX11_isSign 33 = .ok (.if_icmp .eq 15, 3) := by decide +kernel
theorem dX11_isSign_36 : decode cX11_isSign 36 = .ok (.iload_n 0, 1) := by decide +kernel
theorem dX11_isSign_37 : decode cX11_isSign 37 = .ok (.bipush 60, 2) := by decide +kernel
theorem dX11_isSign_39 : decode cX11_isSign 39 = .ok (.if_icmp .eq 9, 3) := by decide +kernel
theorem dX11_isSign_42 : decode cX11_isSign 42 = .ok (.iload_n 0, 1) := by decide +kernel
theorem dX11_isSign_43 : decode cX11_isSign 43 = .ok (.bipush 62, 2) := by decide +kernel
theorem dX11_isSign_45 : decode cX11_isSign 45 = .ok (.if_icmp .ne 7, 3) := by decide +kernel
theorem dX11_isSign_48 : decode cX11_isSign 48 = .ok (.iconst 1, 1) := by decide +kernel
theorem dX11_isSign_49 : decode cX11_isSign 49 = .ok (.goto 4, 3) := by decide +kernel
theorem dX11_isSign_52 : decode cX11_isSign 52 = .ok (.iconst 0, 1) := by decide +kernel
theorem dX11_isSign_53 : decode cX11_isSign 53 = .ok (.ireturn, 1) := by decide +kernel
theorem dX11_next_0 : decode cX11_next 0 = .ok (.aload_n 0, 1) := by decide +kernel
theorem dX11_next_1 : decode cX11_next 1 = .ok (.getfield 156, 3) := by decide +kernel
theorem dX11_next_4 : decode cX11_next 4 = .ok (.aload_n 0, 1) := by decide +kernel
theorem dX11_next_5 : decode cX11_next 5 = .ok (.getfield 159, 3) := by decide +kernel
theorem dX11_next_8 : decode cX11_next 8 = .ok (.if_icmp .ge 44, 3) := by decide +kernel
theorem dX11_next_11 : decode cX11_next 11 = .ok (.aload_n 0, 1) := by decide +kernel
theorem dX11_next_12 : decode cX11_next 12 = .ok (.getfield 7, 3) := by decide +kernel
theorem dX11_next_15 : decode cX11_next 15 = .ok (.aload_n 0, 1) := by decide +kernel
theorem dX11_next_16 : decode cX11_next 16 = .ok (.getfield 156, 3) := by decide +kernel
theorem dX11_next_19 : decode cX11_next 19 = .ok (.baload, 1) := by decide +kernel
theorem dX11_next_20 : decode cX11_next 20 = .ok (.bipush 32, 2) := by decide +kernel
theorem dX11_next_22 : decode cX11_next 22 = .ok (.if_icmp .eq 17, 3) := by decide +kernel
theorem dX11_next_25 : decode cX11_next 25 = .ok (.aload_n 0, 1) := by decide +kernel
theorem dX11_next_26 : decode cX11_next 26 = .ok (.getfield 7, 3) := by decide +kernel
theorem dX11_next_29 : decode cX11_next 29 = .ok (.aload_n 0, 1) := by decide +kernel
theorem dX11_next_30 : decode cX11_next 30 = .ok (.getfield 156, 3) := by decide +kernel
theorem dX11_next_33 : decode cX11_next 33 = .ok (.baload, 1) := by decide +kernel
theorem dX11_next_34 : decode cX11_next 34 = .ok (.bipush 10, 2) := by decide +kernel
theorem dX11_next_36 : decode cX11_next 36 = .ok (.if_icmp .ne 16, 3) := by decide +kernel
theorem dX11_next_39 : decode cX11_next 39 = .ok (.aload_n 0, 1) := by decide +kernel
theorem dX11_next_40 : decode cX11_next 40 = .ok (.dup, 1) := by decide +kernel
theorem dX11_next_41 : decode cX11_next 41 = .ok (.getfield 156, 3) := by decide +kernel
theorem dX11_next_44 : decode cX11_next 44 = .ok (.iconst 1, 1) := by decide +kernel
theorem dX11_next_45 : decode cX11_next 45 = .ok (.iadd, 1) := by decide +kernel
theorem dX11_next_46 : decode cX11_next 46 = .ok (.putfield 156, 3) := by decide +kernel
theorem dX11_next_49 : decode cX11_next 49 = .ok (.goto (-49), 3) := by decide +kernel
theorem dX11_next_52 : decode cX11_next 52 = .ok (.aload_n 0, 1) := by decide +kernel
theorem dX11_next_53 : decode cX11_next 53 = .ok (.aload_n 0, 1) := by decide +kernel
theorem dX11_next_54 : decode cX11_next 54 = .ok (.getfield 156, 3) := by decide +kernel
theorem dX11_next_57 : decode cX11_next 57 = .ok (.putfield 182, 3) := by decide +kernel
theorem dX11_next_60 : decode cX11_next 60 = .ok (.aload_n 0, 1) := by decide +kernel
theorem dX11_next_61 : decode cX11_next 61 = .ok (.iconst 0, 1) := by decide +kernel
theorem dX11_next_62 : decode cX11_next 62 = .ok (.putfield 185, 3) := by decide +kernel
theorem dX11_next_65 : decode cX11_next 65 = .ok (.aload_n 0, 1) := by decide +kernel
theorem dX11_next_66 : decode cX11_next 66 = .ok (.lconst 0, 1) := by decide +kernel
theorem dX11_next_67 : decode cX11_next 67 = .ok (.putfield 188, 3) := by decide +kernel
theorem dX11_next_70 : decode cX11_next 70 = .ok (.aload_n 0, 1) := by decide +kernel
theorem dX11_next_71 : decode cX11_next 71 = .ok (.getfield 156, 3) := by decide +kernel
theorem dX11_next_74 : decode cX11_next 74 = .ok (.aload_n 0, 1) := by decide +kernel
theorem dX11_next_75 : decode cX11_next 75 = .ok (.getfield 159, 3) := by decide +kernel
theorem dX11_next_78 : decode cX11_next 78 = .ok (.if_icmp .ne 11, 3) := by decide +kernel
theorem dX11_next_81 : decode cX11_next 81 = .ok (.aload_n 0, 1) := by decide +kernel
theorem dX11_next_82 : decode cX11_next 82 = .ok (.iconst 0, 1) := by decide +kernel
theorem dX11_next_83 : decode cX11_next 83 = .ok (.putfield 192, 3) := by decide +kernel
theorem dX11_next_86 : decode cX11_next 86 = .ok (.goto 269, 3) := by decide +kernel
theorem dX11_next_89 : decode cX11_next 89 = .ok (.aload_n 0, 1) := by decide +kernel
theorem dX11_next_90 : decode cX11_next 90 = .ok (.bipush 97, 2) := by decide +kernel
theorem dX11_next_92 : decode cX11_next 92 = .ok (.bipush 122, 2) := by decide +kernel
theorem dX11_next_94 : decode cX11_next 94 = .ok (.invokevirtual 195, 3) := by decide +kernel
theorem dX11_next_97 : decode cX11_next 97 = .ok (.ifCond .eq 112, 3) := by decide +kernel
theorem dX11_next_100 : decode cX11_next 100 = .ok (.aload_n 0, 1) := by decide +kernel
theorem dX11_next_101 : decode cX11_next 101 = .ok (.bipush 97, 2) := by decide +kernel
theorem dX11_next_103 : decode cX11_next 103 = .ok (.bipush 122, 2) := by decide +kernel
theorem dX11_next_105 : decode cX11_next 105 = .ok (.invokevirtual 195, 3) := by decide +kernel
theorem dX11_next_108 : decode cX11_next 108 = .ok (.ifCond .eq 61, 3) := by decide +kernel
theorem dX11_next_111 : decode cX11_next 111 = .ok (.aload_n 0, 1) := by decide +kernel
theorem dX11_next_112 : decode cX11_next 112 = .ok (.aload_n 0, 1) := by decide +kernel
theorem dX11_next_113 : decode cX11_next 113 = .ok (.getfield 156, 3) := by decide +kernel
theorem dX11_next_116 : decode cX11_next 116 = .ok (.aload_n 0, 1) := by decide +kernel
theorem dX11_next_117 : decode cX11_next 117 = .ok (.getfield 182, 3) := by decide +kernel
theorem dX11_next_120 : decode cX11_next 120 = .ok (.isub, 1) := by decide +kernel
theorem dX11_next_121 : decode cX11_next 121 = .ok (.bipush 8, 2) := by decide +kernel
theorem dX11_next_123 : decode cX11_next 123 = .ok (.if_icmp .ge 29, 3) := by decide +kernel
theorem dX11_next_126 : decode cX11_next 126 = .ok (.ldc2_w 198, 3) := by decide +kernel
theorem dX11_next_129 : decode cX11_next 129 = .ok (.aload_n 0, 1) := by decide +kernel
theorem dX11_next_130 : decode cX11_next 130 = .ok (.getfield 188, 3) := by decide +kernel
theorem dX11_next_133 : decode cX11_next 133 = .ok (.lmul, 1) := by decide +kernel
theorem dX11_next_134 : decode cX11_next 134 = .ok (.aload_n 0, 1) := by decide +kernel
theorem dX11_next_135 : decode cX11_next 135 = .ok (.getfield 7, 3) := by decide +kernel
theorem dX11_next_138 : decode cX11_next 138 = .ok (.aload_n 0, 1) := by decide +kernel
theorem dX11_next_139 : decode cX11_next 139 = .ok (.getfield 156, 3) := by decide +kernel
theorem dX11_next_142 : decode cX11_next 142 = .ok (.baload, 1) := by decide +kernel
theorem dX11_next_143 : decode cX11_next 143 = .ok (.i2l, 1) := by decide +kernel
theorem dX11_next_144 : decode cX11_next 144 = .ok (.ladd, 1) := by decide +kernel
theorem dX11_next_145 : decode cX11_next 145 = .ok (.ldc2_w 200, 3) := by decide +kernel
theorem dX11_next_148 : decode cX11_next 148 = .ok (.lsub, 1) := by decide +kernel
theorem dX11_next_149 : decode cX11_next 149 = .ok (.goto 4, 3) := by decide +kernel
theorem dX11_next_152 : decode cX11_next 152 = .ok (.lconst 0, 1) := by decide +kernel
theorem dX11_next_153 : decode cX11_next 153 = .ok (.putfield 188, 3) := by decide +kernel
theorem dX11_next_156 : decode cX11_next 156 = .ok (.aload_n 0, 1) := by decide +kernel
theorem dX11_next_157 : decode cX11_next 157 = .ok (.dup, 1) := by decide +kernel
theorem dX11_next_158 : decode cX11_next 158 = .ok (.getfield 156, 3) := by decide +kernel
theorem dX11_next_161 : decode cX11_next 161 = .ok (.iconst 1, 1) := by decide +kernel
theorem dX11_next_162 : decode cX11_next 162 = .ok (.iadd, 1) := by decide +kernel
theorem dX11_next_163 : decode cX11_next 163 = .ok (.putfield 156, 3) := by decide +kernel
theorem dX11_next_166 : decode cX11_next 166 = .ok (.goto (-66), 3) := by decide +kernel
theorem dX11_next_169 : decode cX11_next 169 = .ok (.aload_n 0, 1) := by decide +kernel
theorem dX11_next_170 : decode cX11_next 170 = .ok (.aload_n 0, 1) := by decide +kernel
theorem dX11_next_171 : decode cX11_next 171 = .ok (.getfield 156, 3) := by decide +kernel
theorem dX11_next_174 : decode cX11_next 174 = .ok (.aload_n 0, 1) := by decide +kernel
theorem dX11_next_175 : decode cX11_next 175 = .ok (.getfield 182, 3) := by decide +kernel
theorem dX11_next_178 : decode cX11_next 178 = .ok (.isub, 1) := by decide +kernel
theorem dX11_next_179 : decode cX11_next 179 = .ok (.bipush 8, 2) := by decide +kernel
theorem dX11_next_181 : decode cX11_next 181 = .ok (.if_icmp .le 7, 3) := by decide +kernel
theorem dX11_next_184 : decode cX11_next 184 = .ok (.iconst 5, 1) := by decide +kernel
theorem dX11_next_185 : decode cX11_next 185 = .ok (.goto 18, 3) := by decide +kernel
theorem dX11_next_188 : decode cX11_next 188 = .ok (.aload_n 0, 1) := by decide +kernel
theorem dX11_next_189 : decode cX11_next 189 = .ok (.getfield 188, 3) := by decide +kernel
theorem dX11_next_192 : decode cX11_next 192 = .ok (.invokestatic 202, 3) := by decide +kernel
theorem dX11_next_195 : decode cX11_next 195 = .ok (.ifCond .eq 7, 3) := by decide +kernel
theorem dX11_next_198 : decode cX11_next 198 = .ok (.iconst 2, 1) := by decide +kernel
theorem dX11_next_199 : decode cX11_next 199 = .ok (.goto 4, 3) := by decide +kernel
theorem dX11_next_202 : decode cX11_next 202 = .ok (.iconst 1, 1) := by decide +kernel
theorem dX11_next_203 : decode cX11_next 203 = .ok (.putfield 192, 3) := by decide +kernel
theorem dX11_next_206 : decode cX11_next 206 = .ok (.goto 149, 3) := by decide +kernel
theorem dX11_next_209 : decode cX11_next 209 = .ok (.aload_n 0, 1) := by decide +kernel
theorem dX11_next_210 : decode cX11_next 210 = .ok (.bipush 48, 2) := by decide +kernel
theorem dX11_next_212 : decode cX11_next 212 = .ok (.bipush 57, 2) := by decide +kernel
theorem dX11_next_214 : decode cX11_next 214 = .ok (.invokevirtual 195, 3) := by decide +kernel
theorem dX11_next_217 : decode cX11_next 217 = .ok (.ifCond .eq 96, 3) := by decide +kernel
theorem dX11_next_220 : decode cX11_next 220 = .ok (.aload_n 0, 1) := by decide +kernel
theorem dX11_next_221 : decode cX11_next 221 = .ok (.bipush 48, 2) := by decide +kernel
theorem dX11_next_223 : decode cX11_next 223 = .ok (.bipush 57, 2) := by decide +kernel
theorem dX11_next_225 : decode cX11_next 225 = .ok (.invokevirtual 195, 3) := by decide +kernel
theorem dX11_next_228 : decode cX11_next 228 = .ok (.ifCond .eq 60, 3) := by decide +kernel
theorem dX11_next_231 : decode cX11_next 231 = .ok (.aload_n 0, 1) := by decide +kernel
theorem dX11_next_232 : decode cX11_next 232 = .ok (.aload_n 0, 1) := by decide +kernel
theorem dX11_next_233 : decode cX11_next 233 = .ok (.getfield 156, 3) := by decide +kernel
theorem dX11_next_236 : decode cX11_next 236 = .ok (.aload_n 0, 1) := by decide +kernel
theorem dX11_next_237 : decode cX11_next 237 = .ok (.getfield 182, 3) := by decide +kernel
theorem dX11_next_240 : decode cX11_next 240 = .ok (.isub, 1) := by decide +kernel
theorem dX11_next_241 : decode cX11_next 241 = .ok (.iconst 4, 1) := by decide +kernel
theorem dX11_next_242 : decode cX11_next 242 = .ok (.if_icmp .ge 26, 3) := by decide +kernel
theorem dX11_next_245 : decode cX11_next 245 = .ok (.bipush 10, 2) := by decide +kernel
theorem dX11_next_247 : decode cX11_next 247 = .ok (.aload_n 0, 1) := by decide +kernel
theorem dX11_next_248 : decode cX11_next 248 = .ok (.getfield 185, 3) := by decide +kernel
theorem dX11_next_251 : decode cX11_next 251 = .ok (.imul, 1) := by decide +kernel
theorem dX11_next_252 : decode cX11_next 252 = .ok (.aload_n 0, 1) := by decide +kernel
theorem dX11_next_253 : decode cX11_next 253 = .ok (.getfield 7, 3) := by decide +kernel
theorem dX11_next_256 : decode cX11_next 256 = .ok (.aload_n 0, 1) := by decide +kernel
theorem dX11_next_257 : decode cX11_next 257 = .ok (.getfield 156, 3) := by decide +kernel
theorem dX11_next_260 : decode cX11_next 260 = .ok (.baload, 1) := by decide +kernel
theorem dX11_next_261 : decode cX11_next 261 = .ok (.iadd, 1) := by decide +kernel
theorem dX11_next_262 : decode cX11_next 262 = .ok (.bipush 48, 2) := by decide +kernel
theorem dX11_next_264 : decode cX11_next 264 = .ok (.isub, 1) := by decide +kernel
theorem dX11_next_265 : decode cX11_next 265 = .ok (.goto 7, 3) := by decide +kernel
theorem dX11_next_268 : decode cX11_next 268 = .ok (.aload_n 0, 1) := by decide +kernel
theorem dX11_next_269 : decode cX11_next 269 = .ok (.getfield 185, 3) := by decide +kernel
theorem dX11_next_272 : decode cX11_next 272 = .ok (.putfield 185, 3) := by decide +kernel
theorem dX11_next_275 : decode cX11_next 275 = .ok (.aload_n 0, 1) := by decide +kernel
theorem dX11_next_276 : decode cX11_next 276 = .ok (.dup, 1) := by decide +kernel
theorem dX11_next_277 : decode cX11_next 277 = .ok (.getfield 156, 3) := by decide +kernel
theorem dX11_next_280 : decode cX11_next 280 = .ok (.iconst 1, 1) := by decide +kernel
theorem dX11_next_281 : decode cX11_next 281 = .ok (.iadd, 1) := by decide +kernel
theorem dX11_next_282 : decode cX11_next 282 = .ok (.putfield 156, 3) := by decide +kernel
theorem dX11_next_285 : decode cX11_next 285 = .ok (.goto (-65), 3) := by decide +kernel
theorem dX11_next_288 : decode cX11_next 288 = .ok (.aload_n 0, 1) := by decide +kernel
theorem dX11_next_289 : decode cX11_next 289 = .ok (.aload_n 0, 1) := by decide +kernel
theorem dX11_next_290 : decode cX11_next 290 = .ok (.getfield 156, 3) := by decide +kernel
theorem dX11_next_293 : decode cX11_next 293 = .ok (.aload_n 0, 1) := by decide +kernel
theorem dX11_next_294 : decode cX11_next 294 = .ok (.getfield 182, 3) := by decide +kernel
theorem dX11_next_297 : decode cX11_next 297 = .ok (.isub, 1) := by decide +kernel
theorem dX11_next_298 : decode cX11_next 298 = .ok (.iconst 4, 1) := by decide +kernel
theorem dX11_next_299 : decode cX11_next 299 = .ok (.if_icmp .le 7, 3) := by decide +kernel
theorem dX11_next_302 : decode cX11_next 302 = .ok (.iconst 5, 1) := by decide +kernel
theorem dX11_next_303 : decode cX11_next 303 = .ok (.goto 4, 3) := by decide +kernel
theorem dX11_next_306 : decode cX11_next 306 = .ok (.iconst 3, 1) := by decide +kernel
theorem dX11_next_307 : decode cX11_next 307 = .ok (.putfield 192, 3) := by decide +kernel
theorem dX11_next_310 : decode cX11_next 310 = .ok (.goto 45, 3) := by decide +kernel
theorem dX11_next_313 : decode cX11_next 313 = .ok (.aload_n 0, 1) := by decide +kernel
theorem dX11_next_314 : decode cX11_next 314 = .ok (.aload_n 0, 1) := by decide +kernel
theorem dX11_next_315 : decode cX11_next 315 = .ok (.getfield 7, 3) := by decide +kernel
theorem dX11_next_318 : decode cX11_next 318 = .ok (.aload_n 0, 1) := by decide +kernel
theorem dX11_next_319 : decode cX11_next 319 = .ok (.getfield 156, 3) := by decide +kernel
theorem dX11_next_322 : decode cX11_next 322 = .ok (.baload, 1) := by decide +kernel
theorem dX11_next_323 : decode cX11_next 323 = .ok (.putfield 185, 3) := by decide +kernel
theorem dX11_next_326 : decode cX11_next 326 = .ok (.aload_n 0, 1) := by decide +kernel
theorem dX11_next_327 : decode cX11_next 327 = .ok (.aload_n 0, 1) := by decide +kernel
theorem dX11_next_328 : decode cX11_next 328 = .ok (.getfield 185, 3) := by decide +kernel
theorem dX11_next_331 : decode cX11_next 331 = .ok (.invokestatic 206, 3) := by decide +kernel
theorem dX11_next_334 : decode cX11_next 334 = .ok (.ifCond .eq 7, 3) := by decide +kernel
theorem dX11_next_337 : decode cX11_next 337 = .ok (.iconst 4, 1) := by decide +kernel
theorem dX11_next_338 : decode cX11_next 338 = .ok (.goto 4, 3) := by decide +kernel
theorem dX11_next_341 : decode cX11_next 341 = .ok (.iconst 5, 1) := by decide +kernel
theorem dX11_next_342 : decode cX11_next 342 = .ok (.putfield 192, 3) := by decide +kernel
theorem dX11_next_345 : decode cX11_next 345 = .ok (.aload_n 0, 1) := by decide +kernel
theorem dX11_next_346 : decode cX11_next 346 = .ok (.dup, 1) := by decide +kernel
theorem dX11_next_347 : decode cX11_next 347 = .ok (.getfield 156, 3) := by decide +kernel
theorem dX11_next_350 : decode cX11_next 350 = .ok (.iconst 1, 1) := by decide +kernel
theorem dX11_next_351 : decode cX11_next 351 = .ok (.iadd, 1) := by decide +kernel
theorem dX11_next_352 : decode cX11_next 352 = .ok (.putfield 156, 3) := by decide +kernel
theorem dX11_next_355 : decode cX11_next 355 = .ok (.return_, 1) := by decide +kernel
theorem dX11_takes_0 : decode cX11_takes 0 = .ok (.aload_n 0, 1) := by decide +kernel
theorem dX11_takes_1 : decode cX11_takes 1 = .ok (.getfield 209, 3) := by decide +kernel
theorem dX11_takes_4 : decode cX11_takes 4 = .ok (.ifCond .eq 20, 3) := by decide +kernel
theorem dX11_takes_7 : decode cX11_takes 7 = .ok (.iload_n 1, 1) := by decide +kernel
theorem dX11_takes_8 : decode cX11_takes 8 = .ok (.ifCond .ne 16, 3) := by decide +kernel
theorem dX11_takes_11 : decode cX11_takes 11 = .ok (.aload_n 0, 1) := by decide +kernel
theorem dX11_takes_12 : decode cX11_takes 12 = .ok (.iconst 0, 1) := by decide +kernel
theorem dX11_takes_13 : decode cX11_takes 13 = .ok (.putfield 209, 3) := by decide +kernel
theorem dX11_takes_16 : decode cX11_takes 16 = .ok (.aload_n 0, 1) := by decide +kernel
theorem dX11_takes_17 : decode cX11_takes 17 = .ok (.aload_n 0, 1) := by decide +kernel
theorem dX11_takes_18 : decode cX11_takes 18 = .ok (.getfield 182, 3) := by decide +kernel
theorem dX11_takes_21 : decode cX11_takes 21 = .ok (.putfield 13, 3) := by decide +kernel
theorem dX11_takes_24 : decode cX11_takes 24 = .ok (.aload_n 0, 1) := by decide +kernel
theorem dX11_takes_25 : decode cX11_takes 25 = .ok (.getfield 209, 3) := by decide +kernel
theorem dX11_takes_28 : decode cX11_takes 28 = .ok (.ifCond .eq 7, 3) := by decide +kernel
theorem dX11_takes_31 : decode cX11_takes 31 = .ok (.aload_n 0, 1) := by decide +kernel
theorem dX11_takes_32 : decode cX11_takes 32 = .ok (.invokevirtual 213, 3) := by decide +kernel
theorem dX11_takes_35 : decode cX11_takes 35 = .ok (.return_, 1) := by decide +kernel
theorem dX11_isWord_0 : decode cX11_isWord 0 = .ok (.aload_n 0, 1) := by decide +kernel
theorem dX11_isWord_1 : decode cX11_isWord 1 = .ok (.getfield 209, 3) := by decide +kernel
theorem dX11_isWord_4 : decode cX11_isWord 4 = .ok (.ifCond .eq 24, 3) := by decide +kernel
theorem dX11_isWord_7 : decode cX11_isWord 7 = .ok (.aload_n 0, 1) := by decide +kernel
theorem dX11_isWord_8 : decode cX11_isWord 8 = .ok (.getfield 192, 3) := by decide +kernel
theorem dX11_isWord_11 : decode cX11_isWord 11 = .ok (.iconst 2, 1) := by decide +kernel
theorem dX11_isWord_12 : decode cX11_isWord 12 = .ok (.if_icmp .ne 16, 3) := by decide +kernel
theorem dX11_isWord_15 : decode cX11_isWord 15 = .ok (.aload_n 0, 1) := by decide +kernel
theorem dX11_isWord_16 : decode cX11_isWord 16 = .ok (.getfield 188, 3) := by decide +kernel
theorem dX11_isWord_19 : decode cX11_isWord 19 = .ok (.lload_n 1, 1) := by decide +kernel
theorem dX11_isWord_20 : decode cX11_isWord 20 = .ok (.lcmp, 1) := by decide +kernel
theorem dX11_isWord_21 : decode cX11_isWord 21 = .ok (.ifCond .ne 7, 3) := by decide +kernel
theorem dX11_isWord_24 : decode cX11_isWord 24 = .ok (.iconst 1, 1) := by decide +kernel
theorem dX11_isWord_25 : decode cX11_isWord 25 = .ok (.goto 4, 3) := by decide +kernel
theorem dX11_isWord_28 : decode cX11_isWord 28 = .ok (.iconst 0, 1) := by decide +kernel
theorem dX11_isWord_29 : decode cX11_isWord 29 = .ok (.ireturn, 1) := by decide +kernel
theorem dX11_isHere_0 : decode cX11_isHere 0 = .ok (.aload_n 0, 1) := by decide +kernel
theorem dX11_isHere_1 : decode cX11_isHere 1 = .ok (.getfield 209, 3) := by decide +kernel
theorem dX11_isHere_4 : decode cX11_isHere 4 = .ok (.ifCond .eq 23, 3) := by decide +kernel
theorem dX11_isHere_7 : decode cX11_isHere 7 = .ok (.aload_n 0, 1) := by decide +kernel
theorem dX11_isHere_8 : decode cX11_isHere 8 = .ok (.getfield 192, 3) := by decide +kernel
theorem dX11_isHere_11 : decode cX11_isHere 11 = .ok (.iconst 4, 1) := by decide +kernel
theorem dX11_isHere_12 : decode cX11_isHere 12 = .ok (.if_icmp .ne 15, 3) := by decide +kernel
theorem dX11_isHere_15 : decode cX11_isHere 15 = .ok (.aload_n 0, 1) := by decide +kernel
theorem dX11_isHere_16 : decode cX11_isHere 16 = .ok (.getfield 185, 3) := by decide +kernel
theorem dX11_isHere_19 : decode cX11_isHere 19 = .ok (.iload_n 1, 1) := by decide +kernel
theorem dX11_isHere_20 : decode cX11_isHere 20 = .ok (.if_icmp .ne 7, 3) := by decide +kernel
theorem dX11_isHere_23 : decode cX11_isHere 23 = .ok (.iconst 1, 1) := by decide +kernel
theorem dX11_isHere_24 : decode cX11_isHere 24 = .ok (.goto 4, 3) := by decide +kernel
theorem dX11_isHere_27 : decode cX11_isHere 27 = .ok (.iconst 0, 1) := by decide +kernel
theorem dX11_isHere_28 : decode cX11_isHere 28 = .ok (.ireturn, 1) := by decide +kernel
theorem dX11_number_0 : decode cX11_number 0 = .ok (.aload_n 0, 1) := by decide +kernel
theorem dX11_number_1 : decode cX11_number 1 = .ok (.getfield 185, 3) := by decide +kernel
theorem dX11_number_4 : decode cX11_number 4 = .ok (.istore_n 3, 1) := by decide +kernel
theorem dX11_number_5 : decode cX11_number 5 = .ok (.aload_n 0, 1) := by decide +kernel
theorem dX11_number_6 : decode cX11_number 6 = .ok (.aload_n 0, 1) := by decide +kernel
theorem dX11_number_7 : decode cX11_number 7 = .ok (.getfield 192, 3) := by decide +kernel
theorem dX11_number_10 : decode cX11_number 10 = .ok (.iconst 3, 1) := by decide +kernel
theorem dX11_number_11 : decode cX11_number 11 = .ok (.if_icmp .ne 16, 3) := by decide +kernel
theorem dX11_number_14 : decode cX11_number 14 = .ok (.iload_n 3, 1) := by decide +kernel
theorem dX11_number_15 : decode cX11_number 15 = .ok (.iload_n 1, 1) := by decide +kernel
theorem dX11_number_16 : decode cX11_number 16 = .ok (.iload_n 2, 1) := by decide +kernel
theorem dX11_number_17 : decode cX11_number 17 = .ok (.invokestatic 95, 3) := by decide +kernel
theorem dX11_number_20 : decode cX11_number 20 = .ok (.ifCond .eq 7, 3) := by decide +kernel
theorem dX11_number_23 : decode cX11_number 23 = .ok (.iconst 1, 1) := by decide +kernel
theorem dX11_number_24 : decode cX11_number 24 = .ok (.goto 4, 3) := by decide +kernel
theorem dX11_number_27 : decode cX11_number 27 = .ok (.iconst 0, 1) := by decide +kernel
theorem dX11_number_28 : decode cX11_number 28 = .ok (.invokevirtual 216, 3) := by decide +kernel
theorem dX11_number_31 : decode cX11_number 31 = .ok (.iload_n 3, 1) := by decide +kernel
theorem dX11_number_32 : decode cX11_number 32 = .ok (.ireturn, 1) := by decide +kernel
theorem dX11_emits_0 : decode cX11_emits 0 = .ok (.aload_n 0, 1) := by decide +kernel
theorem dX11_emits_1 : decode cX11_emits 1 = .ok (.getfield 34, 3) := by decide +kernel
theorem dX11_emits_4 : decode cX11_emits 4 = .ok (.aload_n 0, 1) := by decide +kernel
theorem dX11_emits_5 : decode cX11_emits 5 = .ok (.getfield 220, 3) := by decide +kernel
theorem dX11_emits_8 : decode cX11_emits 8 = .ok (.iload_n 1, 1) := by decide +kernel
theorem dX11_emits_9 : decode cX11_emits 9 = .ok (.iastore, 1) := by decide +kernel
theorem dX11_emits_10 : decode cX11_emits 10 = .ok (.aload_n 0, 1) := by decide +kernel
theorem dX11_emits_11 : decode cX11_emits 11 = .ok (.dup, 1) := by decide +kernel
theorem dX11_emits_12 : decode cX11_emits 12 = .ok (.getfield 220, 3) := by decide +kernel
theorem dX11_emits_15 : decode cX11_emits 15 = .ok (.iconst 1, 1) := by decide +kernel
theorem dX11_emits_16 : decode cX11_emits 16 = .ok (.iadd, 1) := by decide +kernel
theorem dX11_emits_17 : decode cX11_emits 17 = .ok (.putfield 220, 3) := by decide +kernel
theorem dX11_emits_20 : decode cX11_emits 20 = .ok (.return_, 1) := by decide +kernel
theorem dX11_settles_0 : decode cX11_settles 0 = .ok (.aload_n 0, 1) := by decide +kernel
theorem dX11_settles_1 : decode cX11_settles 1 = .ok (.getfield 223, 3) := by decide +kernel
theorem dX11_settles_4 : decode cX11_settles 4 = .ok (.ifCond .le 74, 3) := by decide +kernel
theorem dX11_settles_7 : decode cX11_settles 7 = .ok (.aload_n 0, 1) := by decide +kernel
theorem dX11_settles_8 : decode cX11_settles 8 = .ok (.getfield 52, 3) := by decide +kernel
theorem dX11_settles_11 : decode cX11_settles 11 = .ok (.aload_n 0, 1) := by decide +kernel
theorem dX11_settles_12 : decode cX11_settles 12 = .ok (.getfield 223, 3) := by decide +kernel
theorem dX11_settles_15 : decode cX11_settles 15 = .ok (.iconst 1, 1) := by decide +kernel
theorem dX11_settles_16 : decode cX11_settles 16 = .ok (.isub, 1) := by decide +kernel
theorem dX11_settles_17 : decode cX11_settles 17 = .ok (.iaload, 1) := by decide +kernel
theorem dX11_settles_18 : decode cX11_settles 18 = .ok (.invokestatic 226, 3) := by decide +kernel
theorem dX11_settles_21 : decode cX11_settles 21 = .ok (.iload_n 1, 1) := by decide +kernel
theorem dX11_settles_22 : decode cX11_settles 22 = .ok (.if_icmp .lt 56, 3) := by decide +kernel
theorem dX11_settles_25 : decode cX11_settles 25 = .ok (.aload_n 0, 1) := by decide +kernel
theorem dX11_settles_26 : decode cX11_settles 26 = .ok (.dup, 1) := by decide +kernel
theorem dX11_settles_27 : decode cX11_settles 27 = .ok (.getfield 223, 3) := by decide +kernel
theorem dX11_settles_30 : decode cX11_settles 30 = .ok (.iconst 1, 1) := by decide +kernel
theorem dX11_settles_31 : decode cX11_settles 31 = .ok (.isub, 1) := by decide +kernel
theorem dX11_settles_32 : decode cX11_settles 32 = .ok (.putfield 223, 3) := by decide +kernel
theorem dX11_settles_35 : decode cX11_settles 35 = .ok (.aload_n 0, 1) := by decide +kernel
theorem dX11_settles_36 : decode cX11_settles 36 = .ok (.dup, 1) := by decide +kernel
theorem dX11_settles_37 : decode cX11_settles 37 = .ok (.getfield 229, 3) := by decide +kernel
theorem dX11_settles_40 : decode cX11_settles 40 = .ok (.aload_n 0, 1) := by decide +kernel
theorem dX11_settles_41 : decode cX11_settles 41 = .ok (.getfield 52, 3) := by decide +kernel
theorem dX11_settles_44 : decode cX11_settles 44 = .ok (.aload_n 0, 1) := by decide +kernel
theorem dX11_settles_45 : decode cX11_settles 45 = .ok (.getfield 223, 3) := by decide +kernel
theorem dX11_settles_48 : decode cX11_settles 48 = .ok (.iaload, 1) := by decide +kernel
theorem dX11_settles_49 : decode cX11_settles 49 = .ok (.iconst 3, 1) := by decide +kernel
theorem dX11_settles_50 : decode cX11_settles 50 = .ok (.if_icmp .ne 7, 3) := by decide +kernel
theorem dX11_settles_53 : decode cX11_settles 53 = .ok (.iconst 1, 1) := by decide +kernel
theorem dX11_settles_54 : decode cX11_settles 54 = .ok (.goto 4, 3) := by decide +kernel
theorem dX11_settles_57 : decode cX11_settles 57 = .ok (.iconst 0, 1) := by decide +kernel
theorem dX11_settles_58 : decode cX11_settles 58 = .ok (.isub, 1) := by decide +kernel
theorem dX11_settles_59 : decode cX11_settles 59 = .ok (.putfield 229, 3) := by decide +kernel
theorem dX11_settles_62 : decode cX11_settles 62 = .ok (.aload_n 0, 1) := by decide +kernel
theorem dX11_settles_63 : decode cX11_settles 63 = .ok (.aload_n 0, 1) := by decide +kernel
theorem dX11_settles_64 : decode cX11_settles 64 = .ok (.getfield 52, 3) := by decide +kernel
theorem dX11_settles_67 : decode cX11_settles 67 = .ok (.aload_n 0, 1) := by decide +kernel
theorem dX11_settles_68 : decode cX11_settles 68 = .ok (.getfield 223, 3) := by decide +kernel
theorem dX11_settles_71 : decode cX11_settles 71 = .ok (.iaload, 1) := by decide +kernel
theorem dX11_settles_72 : decode cX11_settles 72 = .ok (.invokevirtual 232, 3) := by decide +kernel
theorem dX11_settles_75 : decode cX11_settles 75 = .ok (.goto (-75), 3) := by decide +kernel
theorem dX11_settles_78 : decode cX11_settles 78 = .ok (.return_, 1) := by decide +kernel
theorem dX11_rankOf_0 : decode cX11_rankOf 0 = .ok (.iload_n 0, 1) := by decide +kernel
theorem dX11_rankOf_1 : decode cX11_rankOf 1 = .ok (.iconst 3, 1) := by decide +kernel
theorem dX11_rankOf_2 : decode cX11_rankOf 2 = .ok (.if_icmp .ne 7, 3) := by decide +kernel
theorem dX11_rankOf_5 : decode cX11_rankOf 5 = .ok (.iconst 3, 1) := by decide +kernel
theorem dX11_rankOf_6 : decode cX11_rankOf 6 = .ok (.goto 22, 3) := by decide +kernel
theorem dX11_rankOf_9 : decode cX11_rankOf 9 = .ok (.iload_n 0, 1) := by decide +kernel
theorem dX11_rankOf_10 : decode cX11_rankOf 10 = .ok (.iconst 1, 1) := by decide +kernel
theorem dX11_rankOf_11 : decode cX11_rankOf 11 = .ok (.if_icmp .ne 7, 3) := by decide +kernel
theorem dX11_rankOf_14 : decode cX11_rankOf 14 = .ok (.iconst 2, 1) := by decide +kernel
theorem dX11_rankOf_15 : decode cX11_rankOf 15 = .ok (.goto 13, 3) := by decide +kernel
theorem dX11_rankOf_18 : decode cX11_rankOf 18 = .ok (.iload_n 0, 1) := by decide +kernel
theorem dX11_rankOf_19 : decode cX11_rankOf 19 = .ok (.iconst 2, 1) := by decide +kernel
theorem dX11_rankOf_20 : decode cX11_rankOf 20 = .ok (.if_icmp .ne 7, 3) := by decide +kernel
theorem dX11_rankOf_23 : decode cX11_rankOf 23 = .ok (.iconst 1, 1) := by decide +kernel
theorem dX11_rankOf_24 : decode cX11_rankOf 24 = .ok (.goto 4, 3) := by decide +kernel
theorem dX11_rankOf_27 : decode cX11_rankOf 27 = .ok (.iconst 0, 1) := by decide +kernel
theorem dX11_rankOf_28 : decode cX11_rankOf 28 = .ok (.ireturn, 1) := by decide +kernel
theorem dX11_waitsFor_0 : decode cX11_waitsFor 0 = .ok (.aload_n 0, 1) := by decide +kernel
theorem dX11_waitsFor_1 : decode cX11_waitsFor 1 = .ok (.getfield 52, 3) := by decide +kernel
theorem dX11_waitsFor_4 : decode cX11_waitsFor 4 = .ok (.aload_n 0, 1) := by decide +kernel
theorem dX11_waitsFor_5 : decode cX11_waitsFor 5 = .ok (.getfield 223, 3) := by decide +kernel
theorem dX11_waitsFor_8 : decode cX11_waitsFor 8 = .ok (.iload_n 1, 1) := by decide +kernel
theorem dX11_waitsFor_9 : decode cX11_waitsFor 9 = .ok (.iastore, 1) := by decide +kernel
theorem dX11_waitsFor_10 : decode cX11_waitsFor 10 = .ok (.aload_n 0, 1) := by decide +kernel
theorem dX11_waitsFor_11 : decode cX11_waitsFor 11 = .ok (.dup, 1) := by decide +kernel
theorem dX11_waitsFor_12 : decode cX11_waitsFor 12 = .ok (.getfield 223, 3) := by decide +kernel
theorem dX11_waitsFor_15 : decode cX11_waitsFor 15 = .ok (.iconst 1, 1) := by decide +kernel
theorem dX11_waitsFor_16 : decode cX11_waitsFor 16 = .ok (.iadd, 1) := by decide +kernel
theorem dX11_waitsFor_17 : decode cX11_waitsFor 17 = .ok (.putfield 223, 3) := by decide +kernel
theorem dX11_waitsFor_20 : decode cX11_waitsFor 20 = .ok (.return_, 1) := by decide +kernel
theorem dX11_readTest_0 : decode cX11_readTest 0 = .ok (.aload_n 0, 1) := by decide +kernel
theorem dX11_readTest_1 : decode cX11_readTest 1 = .ok (.ldc2_w 180, 3) := by decide +kernel
theorem dX11_readTest_4 : decode cX11_readTest 4 = .ok (.invokevirtual 235, 3) := by decide +kernel
theorem dX11_readTest_7 : decode cX11_readTest 7 = .ok (.ifCond .ne 12, 3) := by decide +kernel
theorem dX11_readTest_10 : decode cX11_readTest 10 = .ok (.aload_n 0, 1) := by decide +kernel
theorem dX11_readTest_11 : decode cX11_readTest 11 = .ok (.bipush 40, 2) := by decide +kernel
theorem dX11_readTest_13 : decode cX11_readTest 13 = .ok (.invokevirtual 238, 3) := by decide +kernel
theorem dX11_readTest_16 : decode cX11_readTest 16 = .ok (.ifCond .eq 79, 3) := by decide +kernel
theorem dX11_readTest_19 : decode cX11_readTest 19 = .ok (.aload_n 0, 1) := by decide +kernel
theorem dX11_readTest_20 : decode cX11_readTest 20 = .ok (.getfield 192, 3) := by decide +kernel
theorem dX11_readTest_23 : decode cX11_readTest 23 = .ok (.iconst 2, 1) := by decide +kernel
theorem dX11_readTest_24 : decode cX11_readTest 24 = .ok (.if_icmp .ne 7, 3) := by decide +kernel
theorem dX11_readTest_27 : decode cX11_readTest 27 = .ok (.iconst 1, 1) := by decide +kernel
theorem dX11_readTest_28 : decode cX11_readTest 28 = .ok (.goto 4, 3) := by decide +kernel
theorem dX11_readTest_31 : decode cX11_readTest 31 = .ok (.iconst 0, 1) := by decide +kernel
theorem dX11_readTest_32 : decode cX11_readTest 32 = .ok (.istore_n 2, 1) := by decide +kernel
theorem dX11_readTest_33 : decode cX11_readTest 33 = .ok (.aload_n 0, 1) := by decide +kernel
theorem dX11_readTest_34 : decode cX11_readTest 34 = .ok (.aload_n 0, 1) := by decide +kernel
theorem dX11_readTest_35 : decode cX11_readTest 35 = .ok (.getfield 229, 3) := by decide +kernel
theorem dX11_readTest_38 : decode cX11_readTest 38 = .ok (.bipush 6, 2) := by decide +kernel
theorem dX11_readTest_40 : decode cX11_readTest 40 = .ok (.if_icmp .ge 7, 3) := by decide +kernel
theorem dX11_readTest_43 : decode cX11_readTest 43 = .ok (.iconst 1, 1) := by decide +kernel
theorem dX11_readTest_44 : decode cX11_readTest 44 = .ok (.goto 4, 3) := by decide +kernel
theorem dX11_readTest_47 : decode cX11_readTest 47 = .ok (.iconst 0, 1) := by decide +kernel
theorem dX11_readTest_48 : decode cX11_readTest 48 = .ok (.invokevirtual 216, 3) := by decide +kernel
theorem dX11_readTest_51 : decode cX11_readTest 51 = .ok (.aload_n 0, 1) := by decide +kernel
theorem dX11_readTest_52 : decode cX11_readTest 52 = .ok (.dup, 1) := by decide +kernel
theorem dX11_readTest_53 : decode cX11_readTest 53 = .ok (.getfield 229, 3) := by decide +kernel
theorem dX11_readTest_56 : decode cX11_readTest 56 = .ok (.iconst 1, 1) := by decide +kernel
theorem dX11_readTest_57 : decode cX11_readTest 57 = .ok (.iadd, 1) := by decide +kernel
theorem dX11_readTest_58 : decode cX11_readTest 58 = .ok (.putfield 229, 3) := by decide +kernel
theorem dX11_readTest_61 : decode cX11_readTest 61 = .ok (.aload_n 0, 1) := by decide +kernel
theorem dX11_readTest_62 : decode cX11_readTest 62 = .ok (.dup, 1) := by decide +kernel
theorem dX11_readTest_63 : decode cX11_readTest 63 = .ok (.getfield 241, 3) := by decide +kernel
theorem dX11_readTest_66 : decode cX11_readTest 66 = .ok (.iload_n 2, 1) := by decide +kernel
theorem dX11_readTest_67 : decode cX11_readTest 67 = .ok (.ifCond .eq 7, 3) := by decide +kernel
theorem dX11_readTest_70 : decode cX11_readTest 70 = .ok (.iconst 0, 1) := by decide +kernel
theorem dX11_readTest_71 : decode cX11_readTest 71 = .ok (.goto 4, 3) := by decide +kernel
theorem dX11_readTest_74 : decode cX11_readTest 74 = .ok (.iconst 1, 1) := by decide +kernel
theorem dX11_readTest_75 : decode cX11_readTest 75 = .ok (.iadd, 1) := by decide +kernel
theorem dX11_readTest_76 : decode cX11_readTest 76 = .ok (.putfield 241, 3) := by decide +kernel
theorem dX11_readTest_79 : decode cX11_readTest 79 = .ok (.aload_n 0, 1) := by decide +kernel
theorem dX11_readTest_80 : decode cX11_readTest 80 = .ok (.iload_n 2, 1) := by decide +kernel
theorem dX11_readTest_81 : decode cX11_readTest 81 = .ok (.ifCond .eq 7, 3) := by decide +kernel
theorem dX11_readTest_84 : decode cX11_readTest 84 = .ok (.iconst 3, 1) := by decide +kernel
theorem dX11_readTest_85 : decode cX11_readTest 85 = .ok (.goto 4, 3) := by decide +kernel
theorem dX11_readTest_88 : decode cX11_readTest 88 = .ok (.iconst 4, 1) := by decide +kernel
theorem dX11_readTest_89 : decode cX11_readTest 89 = .ok (.invokevirtual 244, 3) := by decide +kernel
theorem dX11_readTest_92 : decode cX11_readTest 92 = .ok (.goto (-92), 3) := by decide +kernel
theorem dX11_readTest_95 : decode cX11_readTest 95 = .ok (.aload_n 0, 1) := by decide +kernel
theorem dX11_readTest_96 : decode cX11_readTest 96 = .ok (.getfield 40, 3) := by decide +kernel
theorem dX11_readTest_99 : decode cX11_readTest 99 = .ok (.aload_n 0, 1) := by decide +kernel
theorem dX11_readTest_100 : decode cX11_readTest 100 = .ok (.getfield 247, 3) := by decide +kernel
theorem dX11_readTest_103 : decode cX11_readTest 103 = .ok (.aload_n 0, 1) := by decide +kernel
theorem dX11_readTest_104 : decode cX11_readTest 104 = .ok (.getfield 188, 3) := by decide +kernel
theorem dX11_readTest_107 : decode cX11_readTest 107 = .ok (.lastore, 1) := by decide +kernel
theorem dX11_readTest_108 : decode cX11_readTest 108 = .ok (.aload_n 0, 1) := by decide +kernel
theorem dX11_readTest_109 : decode cX11_readTest 109 = .ok (.getfield 43, 3) := by decide +kernel
theorem dX11_readTest_112 : decode cX11_readTest 112 = .ok (.aload_n 0, 1) := by decide +kernel
theorem dX11_readTest_113 : decode cX11_readTest 113 = .ok (.getfield 247, 3) := by decide +kernel
theorem dX11_readTest_116 : decode cX11_readTest 116 = .ok (.aload_n 0, 1) := by decide +kernel
theorem dX11_readTest_117 : decode cX11_readTest 117 = .ok (.getfield 182, 3) := by decide +kernel
theorem dX11_readTest_120 : decode cX11_readTest 120 = .ok (.iastore, 1) := by decide +kernel
theorem dX11_readTest_121 : decode cX11_readTest 121 = .ok (.aload_n 0, 1) := by decide +kernel
theorem dX11_readTest_122 : decode cX11_readTest 122 = .ok (.getfield 46, 3) := by decide +kernel
theorem dX11_readTest_125 : decode cX11_readTest 125 = .ok (.aload_n 0, 1) := by decide +kernel
theorem dX11_readTest_126 : decode cX11_readTest 126 = .ok (.getfield 247, 3) := by decide +kernel
theorem dX11_readTest_129 : decode cX11_readTest 129 = .ok (.iload_n 1, 1) := by decide +kernel
theorem dX11_readTest_130 : decode cX11_readTest 130 = .ok (.iastore, 1) := by decide +kernel
theorem dX11_readTest_131 : decode cX11_readTest 131 = .ok (.aload_n 0, 1) := by decide +kernel
theorem dX11_readTest_132 : decode cX11_readTest 132 = .ok (.getfield 49, 3) := by decide +kernel
theorem dX11_readTest_135 : decode cX11_readTest 135 = .ok (.aload_n 0, 1) := by decide +kernel
theorem dX11_readTest_136 : decode cX11_readTest 136 = .ok (.getfield 247, 3) := by decide +kernel
theorem dX11_readTest_139 : decode cX11_readTest 139 = .ok (.aload_n 0, 1) := by decide +kernel
theorem dX11_readTest_140 : decode cX11_readTest 140 = .ok (.getfield 220, 3) := by decide +kernel
theorem dX11_readTest_143 : decode cX11_readTest 143 = .ok (.iastore, 1) := by decide +kernel
theorem dX11_readTest_144 : decode cX11_readTest 144 = .ok (.aload_n 0, 1) := by decide +kernel
theorem dX11_readTest_145 : decode cX11_readTest 145 = .ok (.aload_n 0, 1) := by decide +kernel
theorem dX11_readTest_146 : decode cX11_readTest 146 = .ok (.getfield 192, 3) := by decide +kernel
theorem dX11_readTest_149 : decode cX11_readTest 149 = .ok (.iconst 1, 1) := by decide +kernel
theorem dX11_readTest_150 : decode cX11_readTest 150 = .ok (.if_icmp .ne 7, 3) := by decide +kernel
theorem dX11_readTest_153 : decode cX11_readTest 153 = .ok (.iconst 1, 1) := by decide +kernel
theorem dX11_readTest_154 : decode cX11_readTest 154 = .ok (.goto 4, 3) := by decide +kernel
theorem dX11_readTest_157 : decode cX11_readTest 157 = .ok (.iconst 0, 1) := by decide +kernel
theorem dX11_readTest_158 : decode cX11_readTest 158 = .ok (.invokevirtual 216, 3) := by decide +kernel
theorem dX11_readTest_161 : decode cX11_readTest 161 = .ok (.aload_n 0, 1) := by decide +kernel
theorem dX11_readTest_162 : decode cX11_readTest 162 = .ok (.getfield 209, 3) := by decide +kernel
theorem dX11_readTest_165 : decode cX11_readTest 165 = .ok (.ifCond .ne 4, 3) := by decide +kernel
theorem dX11_readTest_168 : decode cX11_readTest 168 = .ok (.return_, 1) := by decide +kernel
theorem dX11_readTest_169 : decode cX11_readTest 169 = .ok (.aload_n 0, 1) := by decide +kernel
theorem dX11_readTest_170 : decode cX11_readTest 170 = .ok (.dup, 1) := by decide +kernel
theorem dX11_readTest_171 : decode cX11_readTest 171 = .ok (.getfield 247, 3) := by decide +kernel
theorem dX11_readTest_174 : decode cX11_readTest 174 = .ok (.iconst 1, 1) := by decide +kernel
theorem dX11_readTest_175 : decode cX11_readTest 175 = .ok (.iadd, 1) := by decide +kernel
theorem dX11_readTest_176 : decode cX11_readTest 176 = .ok (.putfield 247, 3) := by decide +kernel
theorem dX11_readTest_179 : decode cX11_readTest 179 = .ok (.aload_n 0, 1) := by decide +kernel
theorem dX11_readTest_180 : decode cX11_readTest 180 = .ok (.bipush 61, 2) := by decide +kernel
theorem dX11_readTest_182 : decode cX11_readTest 182 = .ok (.invokevirtual 238, 3) := by decide +kernel
theorem dX11_readTest_185 : decode cX11_readTest 185 = .ok (.ifCond .eq 7, 3) := by decide +kernel
theorem dX11_readTest_188 : decode cX11_readTest 188 = .ok (.iconst 1, 1) := by decide +kernel
theorem dX11_readTest_189 : decode cX11_readTest 189 = .ok (.goto 30, 3) := by decide +kernel
theorem dX11_readTest_192 : decode cX11_readTest 192 = .ok (.aload_n 0, 1) := by decide +kernel
theorem dX11_readTest_193 : decode cX11_readTest 193 = .ok (.bipush 60, 2) := by decide +kernel
theorem dX11_readTest_195 : decode cX11_readTest 195 = .ok (.invokevirtual 238, 3) := by decide +kernel
theorem dX11_readTest_198 : decode cX11_readTest 198 = .ok (.ifCond .eq 7, 3) := by decide +kernel
theorem dX11_readTest_201 : decode cX11_readTest 201 = .ok (.iconst 2, 1) := by decide +kernel
theorem dX11_readTest_202 : decode cX11_readTest 202 = .ok (.goto 17, 3) := by decide +kernel
theorem dX11_readTest_205 : decode cX11_readTest 205 = .ok (.aload_n 0, 1) := by decide +kernel
theorem dX11_readTest_206 : decode cX11_readTest 206 = .ok (.bipush 62, 2) := by decide +kernel
theorem dX11_readTest_208 : decode cX11_readTest 208 = .ok (.invokevirtual 238, 3) := by decide +kernel
theorem dX11_readTest_211 : decode cX11_readTest 211 = .ok (.ifCond .eq 7, 3) := by decide +kernel
theorem dX11_readTest_214 : decode cX11_readTest 214 = .ok (.iconst 3, 1) := by decide +kernel
theorem dX11_readTest_215 : decode cX11_readTest 215 = .ok (.goto 4, 3) := by decide +kernel
theorem dX11_readTest_218 : decode cX11_readTest 218 = .ok (.iconst 0, 1) := by decide +kernel
theorem dX11_readTest_219 : decode cX11_readTest 219 = .ok (.istore_n 2, 1) := by decide +kernel
theorem dX11_readTest_220 : decode cX11_readTest 220 = .ok (.iconst 0, 1) := by decide +kernel
theorem dX11_readTest_221 : decode cX11_readTest 221 = .ok (.istore_n 3, 1) := by decide +kernel
theorem dX11_readTest_222 : decode cX11_readTest 222 = .ok (.iload_n 2, 1) := by decide +kernel
theorem dX11_readTest_223 : decode cX11_readTest 223 = .ok (.ifCond .eq 16, 3) := by decide +kernel
theorem dX11_readTest_226 : decode cX11_readTest 226 = .ok (.aload_n 0, 1) := by decide +kernel
theorem dX11_readTest_227 : decode cX11_readTest 227 = .ok (.invokevirtual 213, 3) := by decide +kernel
theorem dX11_readTest_230 : decode cX11_readTest 230 = .ok (.aload_n 0, 1) := by decide +kernel
theorem dX11_readTest_231 : decode cX11_readTest 231 = .ok (.iconst 0, 1) := by decide +kernel
theorem dX11_readTest_232 : decode cX11_readTest 232 = .ok (.sipush 9999, 3) := by decide +kernel
theorem dX11_readTest_235 : decode cX11_readTest 235 = .ok (.invokevirtual 250, 3) := by decide +kernel
theorem dX11_readTest_238 : decode cX11_readTest 238 = .ok (.istore_n 3, 1) := by decide +kernel
theorem dX11_readTest_239 : decode cX11_readTest 239 = .ok (.aload_n 0, 1) := by decide +kernel
theorem dX11_readTest_240 : decode cX11_readTest 240 = .ok (.iconst 0, 1) := by decide +kernel
theorem dX11_readTest_241 : decode cX11_readTest 241 = .ok (.iload_n 2, 1) := by decide +kernel
theorem dX11_readTest_242 : decode cX11_readTest 242 = .ok (.iload_n 3, 1) := by decide +kernel
theorem dX11_readTest_243 : decode cX11_readTest 243 = .ok (.invokestatic 253, 3) := by decide +kernel
theorem dX11_readTest_246 : decode cX11_readTest 246 = .ok (.invokevirtual 232, 3) := by decide +kernel
theorem dX11_readTest_249 : decode cX11_readTest 249 = .ok (.return_, 1) := by decide +kernel
theorem dX11_readCondition_0 : decode cX11_readCondition 0 = .ok (.aload_n 0, 1) := by decide +kernel
theorem dX11_readCondition_1 : decode cX11_readCondition 1 = .ok (.getfield 220, 3) := by decide +kernel
theorem dX11_readCondition_4 : decode cX11_readCondition 4 = .ok (.istore_n 2, 1) := by decide +kernel
theorem dX11_readCondition_5 : decode cX11_readCondition 5 = .ok (.aload_n 0, 1) := by decide +kernel
theorem dX11_readCondition_6 : decode cX11_readCondition 6 = .ok (.iconst 0, 1) := by decide +kernel
theorem dX11_readCondition_7 : decode cX11_readCondition 7 = .ok (.putfield 223, 3) := by decide +kernel
theorem dX11_readCondition_10 : decode cX11_readCondition 10 = .ok (.aload_n 0, 1) := by decide +kernel
theorem dX11_readCondition_11 : decode cX11_readCondition 11 = .ok (.iconst 0, 1) := by decide +kernel
theorem dX11_readCondition_12 : decode cX11_readCondition 12 = .ok (.putfield 229, 3) := by decide +kernel
theorem dX11_readCondition_15 : decode cX11_readCondition 15 = .ok (.aload_n 0, 1) := by decide +kernel
theorem dX11_readCondition_16 : decode cX11_readCondition 16 = .ok (.iconst 0, 1) := by decide +kernel
theorem dX11_readCondition_17 : decode cX11_readCondition 17 = .ok (.putfield 241, 3) := by decide +kernel
theorem dX11_readCondition_20 : decode cX11_readCondition 20 = .ok (.iconst 1, 1) := by decide +kernel
theorem dX11_readCondition_21 : decode cX11_readCondition 21 = .ok (.istore_n 3, 1) := by decide +kernel
theorem dX11_readCondition_22 : decode cX11_readCondition 22 = .ok (.iload_n 3, 1) := by decide +kernel
theorem dX11_readCondition_23 : decode cX11_readCondition 23 = .ok (.ifCond .eq 160, 3) := by decide +kernel
theorem dX11_readCondition_26 : decode cX11_readCondition 26 = .ok (.aload_n 0, 1) := by decide +kernel
theorem dX11_readCondition_27 : decode cX11_readCondition 27 = .ok (.getfield 209, 3) := by decide +kernel
theorem dX11_readCondition_30 : decode cX11_readCondition 30 = .ok (.ifCond .eq 153, 3) := by decide +kernel
theorem dX11_readCondition_33 : decode cX11_readCondition 33 = .ok (.aload_n 0, 1) := by decide +kernel
theorem dX11_readCondition_34 : decode cX11_readCondition 34 = .ok (.iload_n 1, 1) := by decide +kernel
theorem dX11_readCondition_35 : decode cX11_readCondition 35 = .ok (.invokevirtual 256, 3) := by decide +kernel
theorem dX11_readCondition_38 : decode cX11_readCondition 38 = .ok (.aload_n 0, 1) := by decide +kernel
theorem dX11_readCondition_39 : decode cX11_readCondition 39 = .ok (.iconst 3, 1) := by decide +kernel
theorem dX11_readCondition_40 : decode cX11_readCondition 40 = .ok (.invokevirtual 259, 3) := by decide +kernel
theorem dX11_readCondition_43 : decode cX11_readCondition 43 = .ok (.aload_n 0, 1) := by decide +kernel
theorem dX11_readCondition_44 : decode cX11_readCondition 44 = .ok (.getfield 209, 3) := by decide +kernel
theorem dX11_readCondition_47 : decode cX11_readCondition 47 = .ok (.ifCond .eq 66, 3) := by decide +kernel
theorem dX11_readCondition_50 : decode cX11_readCondition 50 = .ok (.aload_n 0, 1) := by decide +kernel
theorem dX11_readCondition_51 : decode cX11_readCondition 51 = .ok (.getfield 241, 3) := by decide +kernel
theorem dX11_readCondition_54 : decode cX11_readCondition 54 = .ok (.ifCond .le 59, 3) := by decide +kernel
theorem dX11_readCondition_57 : decode cX11_readCondition 57 = .ok (.aload_n 0, 1) := by decide +kernel
theorem dX11_readCondition_58 : decode cX11_readCondition 58 = .ok (.bipush 41, 2) := by decide +kernel
theorem dX11_readCondition_60 : decode cX11_readCondition 60 = .ok (.invokevirtual 238, 3) := by decide +kernel
theorem dX11_readCondition_63 : decode cX11_readCondition 63 = .ok (.ifCond .eq 50, 3) := by decide +kernel
theorem dX11_readCondition_66 : decode cX11_readCondition 66 = .ok (.aload_n 0, 1) := by decide +kernel
theorem dX11_readCondition_67 : decode cX11_readCondition 67 = .ok (.iconst 1, 1) := by decide +kernel
theorem dX11_readCondition_68 : decode cX11_readCondition 68 = .ok (.invokevirtual 259, 3) := by decide +kernel
theorem dX11_readCondition_71 : decode cX11_readCondition 71 = .ok (.aload_n 0, 1) := by decide +kernel
theorem dX11_readCondition_72 : decode cX11_readCondition 72 = .ok (.dup, 1) := by decide +kernel
theorem dX11_readCondition_73 : decode cX11_readCondition 73 = .ok (.getfield 223, 3) := by decide +kernel
theorem dX11_readCondition_76 : decode cX11_readCondition 76 = .ok (.iconst 1, 1) := by decide +kernel
theorem dX11_readCondition_77 : decode cX11_readCondition 77 = .ok (.isub, 1) := by decide +kernel
theorem dX11_readCondition_78 : decode cX11_readCondition 78 = .ok (.putfield 223, 3) := by decide +kernel
theorem dX11_readCondition_81 : decode cX11_readCondition 81 = .ok (.aload_n 0, 1) := by decide +kernel
theorem dX11_readCondition_82 : decode cX11_readCondition 82 = .ok (.dup, 1) := by decide +kernel
theorem dX11_readCondition_83 : decode cX11_readCondition 83 = .ok (.getfield 229, 3) := by decide +kernel
theorem dX11_readCondition_86 : decode cX11_readCondition 86 = .ok (.iconst 1, 1) := by decide +kernel
theorem dX11_readCondition_87 : decode cX11_readCondition 87 = .ok (.isub, 1) := by decide +kernel
theorem dX11_readCondition_88 : decode cX11_readCondition 88 = .ok (.putfield 229, 3) := by decide +kernel
theorem dX11_readCondition_91 : decode cX11_readCondition 91 = .ok (.aload_n 0, 1) := by decide +kernel
theorem dX11_readCondition_92 : decode cX11_readCondition 92 = .ok (.dup, 1) := by decide +kernel
theorem dX11_readCondition_93 : decode cX11_readCondition 93 = .ok (.getfield 241, 3) := by decide +kernel
theorem dX11_readCondition_96 : decode cX11_readCondition 96 = .ok (.iconst 1, 1) := by decide +kernel
theorem dX11_readCondition_97 : decode cX11_readCondition 97 = .ok (.isub, 1) := by decide +kernel
theorem dX11_readCondition_98 : decode cX11_readCondition 98 = .ok (.putfield 241, 3) := by decide +kernel
theorem dX11_readCondition_101 : decode cX11_readCondition 101 = .ok (.aload_n 0, 1) := by decide +kernel
theorem dX11_readCondition_102 : decode cX11_readCondition 102 = .ok (.invokevirtual 213, 3) := by decide +kernel
theorem dX11_readCondition_105 : decode cX11_readCondition 105 = .ok (.aload_n 0, 1) := by decide +kernel
theorem dX11_readCondition_106 : decode cX11_readCondition 106 = .ok (.iconst 3, 1) := by decide +kernel
theorem dX11_readCondition_107 : decode cX11_readCondition 107 = .ok (.invokevirtual 259, 3) := by decide +kernel
theorem dX11_readCondition_110 : decode cX11_readCondition 110 = .ok (.goto (-67), 3) := by decide +kernel
theorem dX11_readCondition_113 : decode cX11_readCondition 113 = .ok (.aload_n 0, 1) := by decide +kernel
theorem dX11_readCondition_114 : decode cX11_readCondition 114 = .ok (.ldc2_w 178, 3) := by decide +kernel
theorem dX11_readCondition_117 : decode cX11_readCondition 117 = .ok (.invokevirtual 235, 3) := by decide +kernel
theorem dX11_readCondition_120 : decode cX11_readCondition 120 = .ok (.ifCond .ne 13, 3) := by decide +kernel
theorem dX11_readCondition_123 : decode cX11_readCondition 123 = .ok (.aload_n 0, 1) := by decide +kernel
theorem dX11_readCondition_124 : decode cX11_readCondition 124 = .ok (.ldc2_w 176, 3) := by decide +kernel
theorem dX11_readCondition_127 : decode cX11_readCondition 127 = .ok (.invokevirtual 235, 3) := by decide +kernel
theorem dX11_readCondition_130 : decode cX11_readCondition 130 = .ok (.ifCond .eq 7, 3) := by decide +kernel
theorem dX11_readCondition_133 : decode cX11_readCondition 133 = .ok (.iconst 1, 1) := by decide +kernel
theorem dX11_readCondition_134 : decode cX11_readCondition 134 = .ok (.goto 4, 3) := by decide +kernel
theorem dX11_readCondition_137 : decode cX11_readCondition 137 = .ok (.iconst 0, 1) := by decide +kernel
theorem dX11_readCondition_138 : decode cX11_readCondition 138 = .ok (.istore_n 3, 1) := by decide +kernel
theorem dX11_readCondition_139 : decode cX11_readCondition 139 = .ok (.iload_n 3, 1) := by decide +kernel
theorem dX11_readCondition_140 : decode cX11_readCondition 140 = .ok (.ifCond .eq (-118), 3) := by decide +kernel
theorem dX11_readCondition_143 : decode cX11_readCondition 143 = .ok (.aload_n 0, 1) := by decide +kernel
theorem dX11_readCondition_144 : decode cX11_readCondition 144 = .ok (.getfield 188, 3) := by decide +kernel
theorem dX11_readCondition_147 : decode cX11_readCondition 147 = .ok (.ldc2_w 178, 3) := by decide +kernel
theorem dX11_readCondition_150 : decode cX11_readCondition 150 = .ok (.lcmp, 1) := by decide +kernel
theorem dX11_readCondition_151 : decode cX11_readCondition 151 = .ok (.ifCond .ne 7, 3) := by decide +kernel
theorem dX11_readCondition_154 : decode cX11_readCondition 154 = .ok (.iconst 1, 1) := by decide +kernel
theorem dX11_readCondition_155 : decode cX11_readCondition 155 = .ok (.goto 4, 3) := by decide +kernel
theorem dX11_readCondition_158 : decode cX11_readCondition 158 = .ok (.iconst 2, 1) := by decide +kernel
theorem dX11_readCondition_159 : decode cX11_readCondition 159 = .ok (.istore 4, 2) := by decide +kernel
theorem dX11_readCondition_161 : decode cX11_readCondition 161 = .ok (.aload_n 0, 1) := by decide +kernel
theorem dX11_readCondition_162 : decode cX11_readCondition 162 = .ok (.iload 4, 2) := by decide +kernel
theorem dX11_readCondition_164 : decode cX11_readCondition 164 = .ok (.invokestatic 226, 3) := by decide +kernel
theorem dX11_readCondition_167 : decode cX11_readCondition 167 = .ok (.invokevirtual 259, 3) := by decide +kernel
theorem dX11_readCondition_170 : decode cX11_readCondition 170 = .ok (.aload_n 0, 1) := by decide +kernel
theorem dX11_readCondition_171 : decode cX11_readCondition 171 = .ok (.iload 4, 2) := by decide +kernel
theorem dX11_readCondition_173 : decode cX11_readCondition 173 = .ok (.invokevirtual 244, 3) := by decide +kernel
theorem dX11_readCondition_176 : decode cX11_readCondition 176 = .ok (.aload_n 0, 1) := by decide +kernel
theorem dX11_readCondition_177 : decode cX11_readCondition 177 = .ok (.invokevirtual 213, 3) := by decide +kernel
theorem dX11_readCondition_180 : decode cX11_readCondition 180 = .ok (.goto (-158), 3) := by decide +kernel
theorem dX11_readCondition_183 : decode cX11_readCondition 183 = .ok (.aload_n 0, 1) := by decide +kernel
theorem dX11_readCondition_184 : decode cX11_readCondition 184 = .ok (.aload_n 0, 1) := by decide +kernel
theorem dX11_readCondition_185 : decode cX11_readCondition 185 = .ok (.getfield 241, 3) := by decide +kernel
theorem dX11_readCondition_188 : decode cX11_readCondition 188 = .ok (.ifCond .ne 7, 3) := by decide +kernel
theorem dX11_readCondition_191 : decode cX11_readCondition 191 = .ok (.iconst 1, 1) := by decide +kernel
theorem dX11_readCondition_192 : decode cX11_readCondition 192 = .ok (.goto 4, 3) := by decide +kernel
theorem dX11_readCondition_195 : decode cX11_readCondition 195 = .ok (.iconst 0, 1) := by decide +kernel
theorem dX11_readCondition_196 : decode cX11_readCondition 196 = .ok (.invokevirtual 262, 3) := by decide +kernel
theorem dX11_readCondition_199 : decode cX11_readCondition 199 = .ok (.aload_n 0, 1) := by decide +kernel
theorem dX11_readCondition_200 : decode cX11_readCondition 200 = .ok (.iconst 1, 1) := by decide +kernel
theorem dX11_readCondition_201 : decode cX11_readCondition 201 = .ok (.invokevirtual 259, 3) := by decide +kernel
theorem dX11_readCondition_204 : decode cX11_readCondition 204 = .ok (.aload_n 0, 1) := by decide +kernel
theorem dX11_readCondition_205 : decode cX11_readCondition 205 = .ok (.getfield 24, 3) := by decide +kernel
theorem dX11_readCondition_208 : decode cX11_readCondition 208 = .ok (.sipush 192, 3) := by decide +kernel
theorem dX11_readCondition_211 : decode cX11_readCondition 211 = .ok (.iload_n 1, 1) := by decide +kernel
theorem dX11_readCondition_212 : decode cX11_readCondition 212 = .ok (.iadd, 1) := by decide +kernel
theorem dX11_readCondition_213 : decode cX11_readCondition 213 = .ok (.iload_n 2, 1) := by decide +kernel
theorem dX11_readCondition_214 : decode cX11_readCondition 214 = .ok (.i2l, 1) := by decide +kernel
theorem dX11_readCondition_215 : decode cX11_readCondition 215 = .ok (.lastore, 1) := by decide +kernel
theorem dX11_readCondition_216 : decode cX11_readCondition 216 = .ok (.aload_n 0, 1) := by decide +kernel
theorem dX11_readCondition_217 : decode cX11_readCondition 217 = .ok (.getfield 24, 3) := by decide +kernel
theorem dX11_readCondition_220 : decode cX11_readCondition 220 = .ok (.sipush 224, 3) := by decide +kernel
theorem dX11_readCondition_223 : decode cX11_readCondition 223 = .ok (.iload_n 1, 1) := by decide +kernel
theorem dX11_readCondition_224 : decode cX11_readCondition 224 = .ok (.iadd, 1) := by decide +kernel
theorem dX11_readCondition_225 : decode cX11_readCondition 225 = .ok (.aload_n 0, 1) := by decide +kernel
theorem dX11_readCondition_226 : decode cX11_readCondition 226 = .ok (.getfield 220, 3) := by decide +kernel
theorem dX11_readCondition_229 : decode cX11_readCondition 229 = .ok (.iload_n 2, 1) := by decide +kernel
theorem dX11_readCondition_230 : decode cX11_readCondition 230 = .ok (.isub, 1) := by decide +kernel
theorem dX11_readCondition_231 : decode cX11_readCondition 231 = .ok (.i2l, 1) := by decide +kernel
theorem dX11_readCondition_232 : decode cX11_readCondition 232 = .ok (.lastore, 1) := by decide +kernel
theorem dX11_readCondition_233 : decode cX11_readCondition 233 = .ok (.return_, 1) := by decide +kernel
theorem dX11_takes1_0 : decode cX11_takes1 0 = .ok (.aload_n 0, 1) := by decide +kernel
theorem dX11_takes1_1 : decode cX11_takes1 1 = .ok (.getfield 209, 3) := by decide +kernel
theorem dX11_takes1_4 : decode cX11_takes1 4 = .ok (.ifCond .eq 20, 3) := by decide +kernel
theorem dX11_takes1_7 : decode cX11_takes1 7 = .ok (.iload_n 1, 1) := by decide +kernel
theorem dX11_takes1_8 : decode cX11_takes1 8 = .ok (.ifCond .ne 16, 3) := by decide +kernel
theorem dX11_takes1_11 : decode cX11_takes1 11 = .ok (.aload_n 0, 1) := by decide +kernel
theorem dX11_takes1_12 : decode cX11_takes1 12 = .ok (.iconst 0, 1) := by decide +kernel
theorem dX11_takes1_13 : decode cX11_takes1 13 = .ok (.putfield 209, 3) := by decide +kernel
theorem dX11_takes1_16 : decode cX11_takes1 16 = .ok (.aload_n 0, 1) := by decide +kernel
theorem dX11_takes1_17 : decode cX11_takes1 17 = .ok (.aload_n 0, 1) := by decide +kernel
theorem dX11_takes1_18 : decode cX11_takes1 18 = .ok (.getfield 182, 3) := by decide +kernel
theorem dX11_takes1_21 : decode cX11_takes1 21 = .ok (.putfield 13, 3) := by decide +kernel
theorem dX11_takes1_24 : decode cX11_takes1 24 = .ok (.return_, 1) := by decide +kernel
theorem dX11_nodeNamed_0 : decode cX11_nodeNamed 0 = .ok (.iconst 0, 1) := by decide +kernel
theorem dX11_nodeNamed_1 : decode cX11_nodeNamed 1 = .ok (.istore 4, 2) := by decide +kernel
theorem dX11_nodeNamed_3 : decode cX11_nodeNamed 3 = .ok (.iload 4, 2) := by decide +kernel
theorem dX11_nodeNamed_5 : decode cX11_nodeNamed 5 = .ok (.aload_n 0, 1) := by decide +kernel
theorem dX11_nodeNamed_6 : decode cX11_nodeNamed 6 = .ok (.iload_n 1, 1) := by decide +kernel
theorem dX11_nodeNamed_7 : decode cX11_nodeNamed 7 = .ok (.invokevirtual 118, 3) := by decide +kernel
theorem dX11_nodeNamed_10 : decode cX11_nodeNamed 10 = .ok (.if_icmp .ge 38, 3) := by decide +kernel
theorem dX11_nodeNamed_13 : decode cX11_nodeNamed 13 = .ok (.aload_n 0, 1) := by decide +kernel
theorem dX11_nodeNamed_14 : decode cX11_nodeNamed 14 = .ok (.iload_n 1, 1) := by decide +kernel
theorem dX11_nodeNamed_15 : decode cX11_nodeNamed 15 = .ok (.iload 4, 2) := by decide +kernel
theorem dX11_nodeNamed_17 : decode cX11_nodeNamed 17 = .ok (.invokevirtual 114, 3) := by decide +kernel
theorem dX11_nodeNamed_20 : decode cX11_nodeNamed 20 = .ok (.istore 5, 2) := by decide +kernel
theorem dX11_nodeNamed_22 : decode cX11_nodeNamed 22 = .ok (.aload_n 0, 1) := by decide +kernel
theorem dX11_nodeNamed_23 : decode cX11_nodeNamed 23 = .ok (.getfield 24, 3) := by decide +kernel
theorem dX11_nodeNamed_26 : decode cX11_nodeNamed 26 = .ok (.iload_n 1, 1) := by decide +kernel
theorem dX11_nodeNamed_27 : decode cX11_nodeNamed 27 = .ok (.bipush 32, 2) := by decide +kernel
theorem dX11_nodeNamed_29 : decode cX11_nodeNamed 29 = .ok (.iadd, 1) := by decide +kernel
theorem dX11_nodeNamed_30 : decode cX11_nodeNamed 30 = .ok (.iload 5, 2) := by decide +kernel
theorem dX11_nodeNamed_32 : decode cX11_nodeNamed 32 = .ok (.iadd, 1) := by decide +kernel
theorem dX11_nodeNamed_33 : decode cX11_nodeNamed 33 = .ok (.laload, 1) := by decide +kernel
theorem dX11_nodeNamed_34 : decode cX11_nodeNamed 34 = .ok (.lload_n 2, 1) := by decide +kernel
theorem dX11_nodeNamed_35 : decode cX11_nodeNamed 35 = .ok (.lcmp, 1) := by decide +kernel
theorem dX11_nodeNamed_36 : decode cX11_nodeNamed 36 = .ok (.ifCond .ne 6, 3) := by decide +kernel
theorem dX11_nodeNamed_39 : decode cX11_nodeNamed 39 = .ok (.iload 5, 2) := by decide +kernel
theorem dX11_nodeNamed_41 : decode cX11_nodeNamed 41 = .ok (.ireturn, 1) := by decide +kernel
theorem dX11_nodeNamed_42 : decode cX11_nodeNamed 42 = .ok (.iinc 4 1, 3) := by decide +kernel
theorem dX11_nodeNamed_45 : decode cX11_nodeNamed 45 = .ok (.goto (-42), 3) := by decide +kernel
theorem dX11_nodeNamed_48 : decode cX11_nodeNamed 48 = .ok (.bipush (-2), 2) := by decide +kernel
theorem dX11_nodeNamed_50 : decode cX11_nodeNamed 50 = .ok (.ireturn, 1) := by decide +kernel
theorem dX11_begins_0 : decode cX11_begins 0 = .ok (.aload_n 0, 1) := by decide +kernel
theorem dX11_begins_1 : decode cX11_begins 1 = .ok (.getfield 188, 3) := by decide +kernel
theorem dX11_begins_4 : decode cX11_begins 4 = .ok (.lstore 4, 2) := by decide +kernel
theorem dX11_begins_6 : decode cX11_begins 6 = .ok (.aload_n 0, 1) := by decide +kernel
theorem dX11_begins_7 : decode cX11_begins 7 = .ok (.aload_n 0, 1) := by decide +kernel
theorem dX11_begins_8 : decode cX11_begins 8 = .ok (.getfield 192, 3) := by decide +kernel
theorem dX11_begins_11 : decode cX11_begins 11 = .ok (.iconst 1, 1) := by decide +kernel
theorem dX11_begins_12 : decode cX11_begins 12 = .ok (.if_icmp .ne 17, 3) := by decide +kernel
theorem dX11_begins_15 : decode cX11_begins 15 = .ok (.aload_n 0, 1) := by decide +kernel
theorem dX11_begins_16 : decode cX11_begins 16 = .ok (.iconst 0, 1) := by decide +kernel
theorem dX11_begins_17 : decode cX11_begins 17 = .ok (.lload 4, 2) := by decide +kernel
theorem dX11_begins_19 : decode cX11_begins 19 = .ok (.invokevirtual 265, 3) := by decide +kernel
theorem dX11_begins_22 : decode cX11_begins 22 = .ok (.ifCond .ge 7, 3) := by decide +kernel
theorem dX11_begins_25 : decode cX11_begins 25 = .ok (.iconst 1, 1) := by decide +kernel
theorem dX11_begins_26 : decode cX11_begins 26 = .ok (.goto 4, 3) := by decide +kernel
theorem dX11_begins_29 : decode cX11_begins 29 = .ok (.iconst 0, 1) := by decide +kernel
theorem dX11_begins_30 : decode cX11_begins 30 = .ok (.invokevirtual 216, 3) := by decide +kernel
theorem dX11_begins_33 : decode cX11_begins 33 = .ok (.aload_n 0, 1) := by decide +kernel
theorem dX11_begins_34 : decode cX11_begins 34 = .ok (.getfield 209, 3) := by decide +kernel
theorem dX11_begins_37 : decode cX11_begins 37 = .ok (.ifCond .ne 4, 3) := by decide +kernel
theorem dX11_begins_40 : decode cX11_begins 40 = .ok (.return_, 1) := by decide +kernel
theorem dX11_begins_41 : decode cX11_begins 41 = .ok (.aload_n 0, 1) := by decide +kernel
theorem dX11_begins_42 : decode cX11_begins 42 = .ok (.iconst 0, 1) := by decide +kernel
theorem dX11_begins_43 : decode cX11_begins 43 = .ok (.invokevirtual 118, 3) := by decide +kernel
theorem dX11_begins_46 : decode cX11_begins 46 = .ok (.istore 6, 2) := by decide +kernel
theorem dX11_begins_48 : decode cX11_begins 48 = .ok (.iload 6, 2) := by decide +kernel
theorem dX11_begins_50 : decode cX11_begins 50 = .ok (.aload_n 0, 1) := by decide +kernel
theorem dX11_begins_51 : decode cX11_begins 51 = .ok (.getfield 269, 3) := by decide +kernel
theorem dX11_begins_54 : decode cX11_begins 54 = .ok (.if_icmp .le 33, 3) := by decide +kernel
theorem dX11_begins_57 : decode cX11_begins 57 = .ok (.aload_n 0, 1) := by decide +kernel
theorem dX11_begins_58 : decode cX11_begins 58 = .ok (.getfield 24, 3) := by decide +kernel
theorem dX11_begins_61 : decode cX11_begins 61 = .ok (.sipush 256, 3) := by decide +kernel
theorem dX11_begins_64 : decode cX11_begins 64 = .ok (.iload 6, 2) := by decide +kernel
theorem dX11_begins_66 : decode cX11_begins 66 = .ok (.iadd, 1) := by decide +kernel
theorem dX11_begins_67 : decode cX11_begins 67 = .ok (.aload_n 0, 1) := by decide +kernel
theorem dX11_begins_68 : decode cX11_begins 68 = .ok (.getfield 24, 3) := by decide +kernel
theorem dX11_begins_71 : decode cX11_begins 71 = .ok (.sipush 256, 3) := by decide +kernel
theorem dX11_begins_74 : decode cX11_begins 74 = .ok (.iload 6, 2) := by decide +kernel
theorem dX11_begins_76 : decode cX11_begins 76 = .ok (.iadd, 1) := by decide +kernel
theorem dX11_begins_77 : decode cX11_begins 77 = .ok (.iconst 1, 1) := by decide +kernel
theorem dX11_begins_78 : decode cX11_begins 78 = .ok (.isub, 1) := by decide +kernel
theorem dX11_begins_79 : decode cX11_begins 79 = .ok (.laload, 1) := by decide +kernel
theorem dX11_begins_80 : decode cX11_begins 80 = .ok (.lastore, 1) := by decide +kernel
theorem dX11_begins_81 : decode cX11_begins 81 = .ok (.iinc 6 (-1), 3) := by decide +kernel
theorem dX11_begins_84 : decode cX11_begins 84 = .ok (.goto (-36), 3) := by decide +kernel
theorem dX11_begins_87 : decode cX11_begins 87 = .ok (.aload_n 0, 1) := by decide +kernel
theorem dX11_begins_88 : decode cX11_begins 88 = .ok (.getfield 24, 3) := by decide +kernel
theorem dX11_begins_91 : decode cX11_begins 91 = .ok (.sipush 256, 3) := by decide +kernel
theorem dX11_begins_94 : decode cX11_begins 94 = .ok (.aload_n 0, 1) := by decide +kernel
theorem dX11_begins_95 : decode cX11_begins 95 = .ok (.getfield 269, 3) := by decide +kernel
theorem dX11_begins_98 : decode cX11_begins 98 = .ok (.iadd, 1) := by decide +kernel
theorem dX11_begins_99 : decode cX11_begins 99 = .ok (.iload_n 1, 1) := by decide +kernel
theorem dX11_begins_100 : decode cX11_begins 100 = .ok (.i2l, 1) := by decide +kernel
theorem dX11_begins_101 : decode cX11_begins 101 = .ok (.lastore, 1) := by decide +kernel
theorem dX11_begins_102 : decode cX11_begins 102 = .ok (.aload_n 0, 1) := by decide +kernel
theorem dX11_begins_103 : decode cX11_begins 103 = .ok (.dup, 1) := by decide +kernel
theorem dX11_begins_104 : decode cX11_begins 104 = .ok (.getfield 269, 3) := by decide +kernel
theorem dX11_begins_107 : decode cX11_begins 107 = .ok (.iconst 1, 1) := by decide +kernel
theorem dX11_begins_108 : decode cX11_begins 108 = .ok (.iadd, 1) := by decide +kernel
theorem dX11_begins_109 : decode cX11_begins 109 = .ok (.putfield 269, 3) := by decide +kernel
theorem dX11_begins_112 : decode cX11_begins 112 = .ok (.aload_n 0, 1) := by decide +kernel
theorem dX11_begins_113 : decode cX11_begins 113 = .ok (.getfield 24, 3) := by decide +kernel
theorem dX11_begins_116 : decode cX11_begins 116 = .ok (.sipush 288, 3) := by decide +kernel
theorem dX11_begins_119 : decode cX11_begins 119 = .ok (.dup2, 1) := by decide +kernel
theorem dX11_begins_120 : decode cX11_begins 120 = .ok (.laload, 1) := by decide +kernel
theorem dX11_begins_121 : decode cX11_begins 121 = .ok (.lconst 1, 1) := by decide +kernel
theorem dX11_begins_122 : decode cX11_begins 122 = .ok (.ladd, 1) := by decide +kernel
theorem dX11_begins_123 : decode cX11_begins 123 = .ok (.lastore, 1) := by decide +kernel
theorem dX11_begins_124 : decode cX11_begins 124 = .ok (.aload_n 0, 1) := by decide +kernel
theorem dX11_begins_125 : decode cX11_begins 125 = .ok (.getfield 24, 3) := by decide +kernel
theorem dX11_begins_128 : decode cX11_begins 128 = .ok (.iconst 0, 1) := by decide +kernel
theorem dX11_begins_129 : decode cX11_begins 129 = .ok (.iload_n 1, 1) := by decide +kernel
theorem dX11_begins_130 : decode cX11_begins 130 = .ok (.iadd, 1) := by decide +kernel
theorem dX11_begins_131 : decode cX11_begins 131 = .ok (.iload_n 2, 1) := by decide +kernel
theorem dX11_begins_132 : decode cX11_begins 132 = .ok (.i2l, 1) := by decide +kernel
theorem dX11_begins_133 : decode cX11_begins 133 = .ok (.lastore, 1) := by decide +kernel
theorem dX11_begins_134 : decode cX11_begins 134 = .ok (.aload_n 0, 1) := by decide +kernel
theorem dX11_begins_135 : decode cX11_begins 135 = .ok (.getfield 24, 3) := by decide +kernel
theorem dX11_begins_138 : decode cX11_begins 138 = .ok (.bipush 32, 2) := by decide +kernel
theorem dX11_begins_140 : decode cX11_begins 140 = .ok (.iload_n 1, 1) := by decide +kernel
theorem dX11_begins_141 : decode cX11_begins 141 = .ok (.iadd, 1) := by decide +kernel
theorem dX11_begins_142 : decode cX11_begins 142 = .ok (.lload 4, 2) := by decide +kernel
theorem dX11_begins_144 : decode cX11_begins 144 = .ok (.lastore, 1) := by decide +kernel
theorem dX11_begins_145 : decode cX11_begins 145 = .ok (.aload_n 0, 1) := by decide +kernel
theorem dX11_begins_146 : decode cX11_begins 146 = .ok (.getfield 24, 3) := by decide +kernel
theorem dX11_begins_149 : decode cX11_begins 149 = .ok (.bipush 64, 2) := by decide +kernel
theorem dX11_begins_151 : decode cX11_begins 151 = .ok (.iload_n 1, 1) := by decide +kernel
theorem dX11_begins_152 : decode cX11_begins 152 = .ok (.iadd, 1) := by decide +kernel
theorem dX11_begins_153 : decode cX11_begins 153 = .ok (.iload_n 3, 1) := by decide +kernel
theorem dX11_begins_154 : decode cX11_begins 154 = .ok (.i2l, 1) := by decide +kernel
theorem dX11_begins_155 : decode cX11_begins 155 = .ok (.lastore, 1) := by decide +kernel
theorem dX11_begins_156 : decode cX11_begins 156 = .ok (.aload_n 0, 1) := by decide +kernel
theorem dX11_begins_157 : decode cX11_begins 157 = .ok (.getfield 24, 3) := by decide +kernel
theorem dX11_begins_160 : decode cX11_begins 160 = .ok (.bipush 96, 2) := by decide +kernel
theorem dX11_begins_162 : decode cX11_begins 162 = .ok (.iload_n 1, 1) := by decide +kernel
theorem dX11_begins_163 : decode cX11_begins 163 = .ok (.iadd, 1) := by decide +kernel
theorem dX11_begins_164 : decode cX11_begins 164 = .ok (.lconst 0, 1) := by decide +kernel
theorem dX11_begins_165 : decode cX11_begins 165 = .ok (.lastore, 1) := by decide +kernel
theorem dX11_begins_166 : decode cX11_begins 166 = .ok (.aload_n 0, 1) := by decide +kernel
theorem dX11_begins_167 : decode cX11_begins 167 = .ok (.getfield 24, 3) := by decide +kernel
theorem dX11_begins_170 : decode cX11_begins 170 = .ok (.sipush 128, 3) := by decide +kernel
theorem dX11_begins_173 : decode cX11_begins 173 = .ok (.iload_n 1, 1) := by decide +kernel
theorem dX11_begins_174 : decode cX11_begins 174 = .ok (.iadd, 1) := by decide +kernel
theorem dX11_begins_175 : decode cX11_begins 175 = .ok (.lconst 0, 1) := by decide +kernel
theorem dX11_begins_176 : decode cX11_begins 176 = .ok (.lastore, 1) := by decide +kernel
theorem dX11_begins_177 : decode cX11_begins 177 = .ok (.aload_n 0, 1) := by decide +kernel
theorem dX11_begins_178 : decode cX11_begins 178 = .ok (.getfield 24, 3) := by decide +kernel
theorem dX11_begins_181 : decode cX11_begins 181 = .ok (.sipush 160, 3) := by decide +kernel
theorem dX11_begins_184 : decode cX11_begins 184 = .ok (.iload_n 1, 1) := by decide +kernel
theorem dX11_begins_185 : decode cX11_begins 185 = .ok (.iadd, 1) := by decide +kernel
theorem dX11_begins_186 : decode cX11_begins 186 = .ok (.lconst 0, 1) := by decide +kernel
theorem dX11_begins_187 : decode cX11_begins 187 = .ok (.lastore, 1) := by decide +kernel
theorem dX11_begins_188 : decode cX11_begins 188 = .ok (.aload_n 0, 1) := by decide +kernel
theorem dX11_begins_189 : decode cX11_begins 189 = .ok (.getfield 24, 3) := by decide +kernel
theorem dX11_begins_192 : decode cX11_begins 192 = .ok (.sipush 192, 3) := by decide +kernel
theorem dX11_begins_195 : decode cX11_begins 195 = .ok (.iload_n 1, 1) := by decide +kernel
theorem dX11_begins_196 : decode cX11_begins 196 = .ok (.iadd, 1) := by decide +kernel
theorem dX11_begins_197 : decode cX11_begins 197 = .ok (.lconst 0, 1) := by decide +kernel
theorem dX11_begins_198 : decode cX11_begins 198 = .ok (.lastore, 1) := by decide +kernel
theorem dX11_begins_199 : decode cX11_begins 199 = .ok (.aload_n 0, 1) := by decide +kernel
theorem dX11_begins_200 : decode cX11_begins 200 = .ok (.getfield 24, 3) := by decide +kernel
theorem dX11_begins_203 : decode cX11_begins 203 = .ok (.sipush 224, 3) := by decide +kernel
theorem dX11_begins_206 : decode cX11_begins 206 = .ok (.iload_n 1, 1) := by decide +kernel
theorem dX11_begins_207 : decode cX11_begins 207 = .ok (.iadd, 1) := by decide +kernel
theorem dX11_begins_208 : decode cX11_begins 208 = .ok (.lconst 0, 1) := by decide +kernel
theorem dX11_begins_209 : decode cX11_begins 209 = .ok (.lastore, 1) := by decide +kernel
theorem dX11_begins_210 : decode cX11_begins 210 = .ok (.return_, 1) := by decide +kernel
theorem dX11_readField_0 : decode cX11_readField 0 = .ok (.aload_n 0, 1) := by decide +kernel
theorem dX11_readField_1 : decode cX11_readField 1 = .ok (.getfield 24, 3) := by decide +kernel
theorem dX11_readField_4 : decode cX11_readField 4 = .ok (.sipush 289, 3) := by decide +kernel
theorem dX11_readField_7 : decode cX11_readField 7 = .ok (.laload, 1) := by decide +kernel
theorem dX11_readField_8 : decode cX11_readField 8 = .ok (.l2i, 1) := by decide +kernel
theorem dX11_readField_9 : decode cX11_readField 9 = .ok (.istore_n 2, 1) := by decide +kernel
theorem dX11_readField_10 : decode cX11_readField 10 = .ok (.aload_n 0, 1) := by decide +kernel
theorem dX11_readField_11 : decode cX11_readField 11 = .ok (.ldc2_w 170, 3) := by decide +kernel
theorem dX11_readField_14 : decode cX11_readField 14 = .ok (.invokevirtual 235, 3) := by decide +kernel
theorem dX11_readField_17 : decode cX11_readField 17 = .ok (.ifCond .eq 7, 3) := by decide +kernel
theorem dX11_readField_20 : decode cX11_readField 20 = .ok (.iconst 0, 1) := by decide +kernel
theorem dX11_readField_21 : decode cX11_readField 21 = .ok (.goto 18, 3) := by decide +kernel
theorem dX11_readField_24 : decode cX11_readField 24 = .ok (.aload_n 0, 1) := by decide +kernel
theorem dX11_readField_25 : decode cX11_readField 25 = .ok (.ldc2_w 172, 3) := by decide +kernel
theorem dX11_readField_28 : decode cX11_readField 28 = .ok (.invokevirtual 235, 3) := by decide +kernel
theorem dX11_readField_31 : decode cX11_readField 31 = .ok (.ifCond .eq 7, 3) := by decide +kernel
theorem dX11_readField_34 : decode cX11_readField 34 = .ok (.iconst 1, 1) := by decide +kernel
theorem dX11_readField_35 : decode cX11_readField 35 = .ok (.goto 4, 3) := by decide +kernel
theorem dX11_readField_38 : decode cX11_readField 38 = .ok (.iconst 2, 1) := by decide +kernel
theorem dX11_readField_39 : decode cX11_readField 39 = .ok (.istore_n 3, 1) := by decide +kernel
theorem dX11_readField_40 : decode cX11_readField 40 = .ok (.aload_n 0, 1) := by decide +kernel
theorem dX11_readField_41 : decode cX11_readField 41 = .ok (.iload_n 2, 1) := by decide +kernel
theorem dX11_readField_42 : decode cX11_readField 42 = .ok (.bipush 24, 2) := by decide +kernel
theorem dX11_readField_44 : decode cX11_readField 44 = .ok (.if_icmp .ge 7, 3) := by decide +kernel
theorem dX11_readField_47 : decode cX11_readField 47 = .ok (.iconst 1, 1) := by decide +kernel
theorem dX11_readField_48 : decode cX11_readField 48 = .ok (.goto 4, 3) := by decide +kernel
theorem dX11_readField_51 : decode cX11_readField 51 = .ok (.iconst 0, 1) := by decide +kernel
theorem dX11_readField_52 : decode cX11_readField 52 = .ok (.invokevirtual 216, 3) := by decide +kernel
theorem dX11_readField_55 : decode cX11_readField 55 = .ok (.iload_n 3, 1) := by decide +kernel
theorem dX11_readField_56 : decode cX11_readField 56 = .ok (.ifCond .ne 14, 3) := by decide +kernel
theorem dX11_readField_59 : decode cX11_readField 59 = .ok (.aload_n 0, 1) := by decide +kernel
theorem dX11_readField_60 : decode cX11_readField 60 = .ok (.iconst 0, 1) := by decide +kernel
theorem dX11_readField_61 : decode cX11_readField 61 = .ok (.sipush 9999, 3) := by decide +kernel
theorem dX11_readField_64 : decode cX11_readField 64 = .ok (.invokevirtual 250, 3) := by decide +kernel
theorem dX11_readField_67 : decode cX11_readField 67 = .ok (.goto 4, 3) := by decide +kernel
theorem dX11_readField_70 : decode cX11_readField 70 = .ok (.iconst 0, 1) := by decide +kernel
theorem dX11_readField_71 : decode cX11_readField 71 = .ok (.istore 4, 2) := by decide +kernel
theorem dX11_readField_73 : decode cX11_readField 73 = .ok (.iload_n 3, 1) := by decide +kernel
theorem dX11_readField_74 : decode cX11_readField 74 = .ok (.ifCond .ne 15, 3) := by decide +kernel
theorem dX11_readField_77 : decode cX11_readField 77 = .ok (.aload_n 0, 1) := by decide +kernel
theorem dX11_readField_78 : decode cX11_readField 78 = .ok (.iload 4, 2) := by decide +kernel
theorem dX11_readField_80 : decode cX11_readField 80 = .ok (.sipush 9999, 3) := by decide +kernel
theorem dX11_readField_83 : decode cX11_readField 83 = .ok (.invokevirtual 250, 3) := by decide +kernel
theorem dX11_readField_86 : decode cX11_readField 86 = .ok (.goto 21, 3) := by decide +kernel
theorem dX11_readField_89 : decode cX11_readField 89 = .ok (.iload_n 3, 1) := by decide +kernel
theorem dX11_readField_90 : decode cX11_readField 90 = .ok (.iconst 1, 1) := by decide +kernel
theorem dX11_readField_91 : decode cX11_readField 91 = .ok (.if_icmp .ne 15, 3) := by decide +kernel
theorem dX11_readField_94 : decode cX11_readField 94 = .ok (.aload_n 0, 1) := by decide +kernel
theorem dX11_readField_95 : decode cX11_readField 95 = .ok (.iconst 2, 1) := by decide +kernel
theorem dX11_readField_96 : decode cX11_readField 96 = .ok (.bipush 9, 2) := by decide +kernel
theorem dX11_readField_98 : decode cX11_readField 98 = .ok (.invokevirtual 250, 3) := by decide +kernel
theorem dX11_readField_101 : decode cX11_readField 101 = .ok (.iconst 1, 1) := by decide +kernel
theorem dX11_readField_102 : decode cX11_readField 102 = .ok (.isub, 1) := by decide +kernel
theorem dX11_readField_103 : decode cX11_readField 103 = .ok (.goto 4, 3) := by decide +kernel
theorem dX11_readField_106 : decode cX11_readField 106 = .ok (.iconst 1, 1) := by decide +kernel
theorem dX11_readField_107 : decode cX11_readField 107 = .ok (.istore 5, 2) := by decide +kernel
theorem dX11_readField_109 : decode cX11_readField 109 = .ok (.aload_n 0, 1) := by decide +kernel
theorem dX11_readField_110 : decode cX11_readField 110 = .ok (.iload_n 2, 1) := by decide +kernel
theorem dX11_readField_111 : decode cX11_readField 111 = .ok (.iload_n 1, 1) := by decide +kernel
theorem dX11_readField_112 : decode cX11_readField 112 = .ok (.iload_n 3, 1) := by decide +kernel
theorem dX11_readField_113 : decode cX11_readField 113 = .ok (.invokevirtual 272, 3) := by decide +kernel
theorem dX11_readField_116 : decode cX11_readField 116 = .ok (.aload_n 0, 1) := by decide +kernel
theorem dX11_readField_117 : decode cX11_readField 117 = .ok (.getfield 209, 3) := by decide +kernel
theorem dX11_readField_120 : decode cX11_readField 120 = .ok (.ifCond .ne 4, 3) := by decide +kernel
theorem dX11_readField_123 : decode cX11_readField 123 = .ok (.return_, 1) := by decide +kernel
theorem dX11_readField_124 : decode cX11_readField 124 = .ok (.aload_n 0, 1) := by decide +kernel
theorem dX11_readField_125 : decode cX11_readField 125 = .ok (.getfield 24, 3) := by decide +kernel
theorem dX11_readField_128 : decode cX11_readField 128 = .ok (.sipush 289, 3) := by decide +kernel
theorem dX11_readField_131 : decode cX11_readField 131 = .ok (.dup2, 1) := by decide +kernel
theorem dX11_readField_132 : decode cX11_readField 132 = .ok (.laload, 1) := by decide +kernel
theorem dX11_readField_133 : decode cX11_readField 133 = .ok (.lconst 1, 1) := by decide +kernel
theorem dX11_readField_134 : decode cX11_readField 134 = .ok (.ladd, 1) := by decide +kernel
theorem dX11_readField_135 : decode cX11_readField 135 = .ok (.lastore, 1) := by decide +kernel
theorem dX11_readField_136 : decode cX11_readField 136 = .ok (.aload_n 0, 1) := by decide +kernel
theorem dX11_readField_137 : decode cX11_readField 137 = .ok (.getfield 24, 3) := by decide +kernel
theorem dX11_readField_140 : decode cX11_readField 140 = .ok (.bipush 96, 2) := by decide +kernel
theorem dX11_readField_142 : decode cX11_readField 142 = .ok (.iload_n 2, 1) := by decide +kernel
theorem dX11_readField_143 : decode cX11_readField 143 = .ok (.iadd, 1) := by decide +kernel
theorem dX11_readField_144 : decode cX11_readField 144 = .ok (.iload 4, 2) := by decide +kernel
theorem dX11_readField_146 : decode cX11_readField 146 = .ok (.i2l, 1) := by decide +kernel
theorem dX11_readField_147 : decode cX11_readField 147 = .ok (.lastore, 1) := by decide +kernel
theorem dX11_readField_148 : decode cX11_readField 148 = .ok (.aload_n 0, 1) := by decide +kernel
theorem dX11_readField_149 : decode cX11_readField 149 = .ok (.getfield 24, 3) := by decide +kernel
theorem dX11_readField_152 : decode cX11_readField 152 = .ok (.sipush 128, 3) := by decide +kernel
theorem dX11_readField_155 : decode cX11_readField 155 = .ok (.iload_n 2, 1) := by decide +kernel
theorem dX11_readField_156 : decode cX11_readField 156 = .ok (.iadd, 1) := by decide +kernel
theorem dX11_readField_157 : decode cX11_readField 157 = .ok (.iload 5, 2) := by decide +kernel
theorem dX11_readField_159 : decode cX11_readField 159 = .ok (.i2l, 1) := by decide +kernel
theorem dX11_readField_160 : decode cX11_readField 160 = .ok (.lastore, 1) := by decide +kernel
theorem dX11_readField_161 : decode cX11_readField 161 = .ok (.aload_n 0, 1) := by decide +kernel
theorem dX11_readField_162 : decode cX11_readField 162 = .ok (.aload_n 0, 1) := by decide +kernel
theorem dX11_readField_163 : decode cX11_readField 163 = .ok (.ldc2_w 168, 3) := by decide +kernel
theorem dX11_readField_166 : decode cX11_readField 166 = .ok (.invokevirtual 235, 3) := by decide +kernel
theorem dX11_readField_169 : decode cX11_readField 169 = .ok (.invokevirtual 216, 3) := by decide +kernel
theorem dX11_readField_172 : decode cX11_readField 172 = .ok (.aload_n 0, 1) := by decide +kernel
theorem dX11_readField_173 : decode cX11_readField 173 = .ok (.getfield 24, 3) := by decide +kernel
theorem dX11_readField_176 : decode cX11_readField 176 = .ok (.sipush 160, 3) := by decide +kernel
theorem dX11_readField_179 : decode cX11_readField 179 = .ok (.iload_n 2, 1) := by decide +kernel
theorem dX11_readField_180 : decode cX11_readField 180 = .ok (.iadd, 1) := by decide +kernel
theorem dX11_readField_181 : decode cX11_readField 181 = .ok (.aload_n 0, 1) := by decide +kernel
theorem dX11_readField_182 : decode cX11_readField 182 = .ok (.iconst 1, 1) := by decide +kernel
theorem dX11_readField_183 : decode cX11_readField 183 = .ok (.bipush 10, 2) := by decide +kernel
theorem dX11_readField_185 : decode cX11_readField 185 = .ok (.invokevirtual 250, 3) := by decide +kernel
theorem dX11_readField_188 : decode cX11_readField 188 = .ok (.i2l, 1) := by decide +kernel
theorem dX11_readField_189 : decode cX11_readField 189 = .ok (.lastore, 1) := by decide +kernel
theorem dX11_readField_190 : decode cX11_readField 190 = .ok (.aload_n 0, 1) := by decide +kernel
theorem dX11_readField_191 : decode cX11_readField 191 = .ok (.iload_n 2, 1) := by decide +kernel
theorem dX11_readField_192 : decode cX11_readField 192 = .ok (.invokevirtual 276, 3) := by decide +kernel
theorem dX11_readField_195 : decode cX11_readField 195 = .ok (.aload_n 0, 1) := by decide +kernel
theorem dX11_readField_196 : decode cX11_readField 196 = .ok (.aload_n 0, 1) := by decide +kernel
theorem dX11_readField_197 : decode cX11_readField 197 = .ok (.bipush 59, 2) := by decide +kernel
theorem dX11_readField_199 : decode cX11_readField 199 = .ok (.invokevirtual 238, 3) := by decide +kernel
theorem dX11_readField_202 : decode cX11_readField 202 = .ok (.invokevirtual 216, 3) := by decide +kernel
theorem dX11_readField_205 : decode cX11_readField 205 = .ok (.return_, 1) := by decide +kernel
theorem dX11_readIf_0 : decode cX11_readIf 0 = .ok (.aload_n 0, 1) := by decide +kernel
theorem dX11_readIf_1 : decode cX11_readIf 1 = .ok (.ldc2_w 166, 3) := by decide +kernel
theorem dX11_readIf_4 : decode cX11_readIf 4 = .ok (.invokevirtual 235, 3) := by decide +kernel
theorem dX11_readIf_7 : decode cX11_readIf 7 = .ok (.ifCond .eq 12, 3) := by decide +kernel
theorem dX11_readIf_10 : decode cX11_readIf 10 = .ok (.aload_n 0, 1) := by decide +kernel
theorem dX11_readIf_11 : decode cX11_readIf 11 = .ok (.invokevirtual 213, 3) := by decide +kernel
theorem dX11_readIf_14 : decode cX11_readIf 14 = .ok (.aload_n 0, 1) := by decide +kernel
theorem dX11_readIf_15 : decode cX11_readIf 15 = .ok (.iload_n 1, 1) := by decide +kernel
theorem dX11_readIf_16 : decode cX11_readIf 16 = .ok (.invokevirtual 279, 3) := by decide +kernel
theorem dX11_readIf_19 : decode cX11_readIf 19 = .ok (.return_, 1) := by decide +kernel
theorem dX11_isFieldHere_0 : decode cX11_isFieldHere 0 = .ok (.aload_n 0, 1) := by decide +kernel
theorem dX11_isFieldHere_1 : decode cX11_isFieldHere 1 = .ok (.ldc2_w 170, 3) := by decide +kernel
theorem dX11_isFieldHere_4 : decode cX11_isFieldHere 4 = .ok (.invokevirtual 235, 3) := by decide +kernel
theorem dX11_isFieldHere_7 : decode cX11_isFieldHere 7 = .ok (.ifCond .ne 23, 3) := by decide +kernel
theorem dX11_isFieldHere_10 : decode cX11_isFieldHere 10 = .ok (.aload_n 0, 1) := by decide +kernel
theorem dX11_isFieldHere_11 : decode cX11_isFieldHere 11 = .ok (.ldc2_w 172, 3) := by decide +kernel
theorem dX11_isFieldHere_14 : decode cX11_isFieldHere 14 = .ok (.invokevirtual 235, 3) := by decide +kernel
theorem dX11_isFieldHere_17 : decode cX11_isFieldHere 17 = .ok (.ifCond .ne 13, 3) := by decide +kernel
theorem dX11_isFieldHere_20 : decode cX11_isFieldHere 20 = .ok (.aload_n 0, 1) := by decide +kernel
theorem dX11_isFieldHere_21 : decode cX11_isFieldHere 21 = .ok (.ldc2_w 174, 3) := by decide +kernel
theorem dX11_isFieldHere_24 : decode cX11_isFieldHere 24 = .ok (.invokevirtual 235, 3) := by decide +kernel
theorem dX11_isFieldHere_27 : decode cX11_isFieldHere 27 = .ok (.ifCond .eq 7, 3) := by decide +kernel
theorem dX11_isFieldHere_30 : decode cX11_isFieldHere 30 = .ok (.iconst 1, 1) := by decide +kernel
theorem dX11_isFieldHere_31 : decode cX11_isFieldHere 31 = .ok (.goto 4, 3) := by decide +kernel
theorem dX11_isFieldHere_34 : decode cX11_isFieldHere 34 = .ok (.iconst 0, 1) := by decide +kernel
theorem dX11_isFieldHere_35 : decode cX11_isFieldHere 35 = .ok (.ireturn, 1) := by decide +kernel
theorem dX11_readNodes_0 : decode cX11_readNodes 0 = .ok (.iload_n 1, 1) := by decide +kernel
theorem dX11_readNodes_1 : decode cX11_readNodes 1 = .ok (.istore_n 2, 1) := by decide +kernel
theorem dX11_readNodes_2 : decode cX11_readNodes 2 = .ok (.iconst 0, 1) := by decide +kernel
theorem dX11_readNodes_3 : decode cX11_readNodes 3 = .ok (.istore_n 3, 1) := by decide +kernel
theorem dX11_readNodes_4 : decode cX11_readNodes 4 = .ok (.aload_n 0, 1) := by decide +kernel
theorem dX11_readNodes_5 : decode cX11_readNodes 5 = .ok (.aload_n 0, 1) := by decide +kernel
theorem dX11_readNodes_6 : decode cX11_readNodes 6 = .ok (.iconst 0, 1) := by decide +kernel
theorem dX11_readNodes_7 : decode cX11_readNodes 7 = .ok (.iload_n 1, 1) := by decide +kernel
theorem dX11_readNodes_8 : decode cX11_readNodes 8 = .ok (.invokevirtual 282, 3) := by decide +kernel
theorem dX11_readNodes_11 : decode cX11_readNodes 11 = .ok (.putfield 269, 3) := by decide +kernel
theorem dX11_readNodes_14 : decode cX11_readNodes 14 = .ok (.iconst 1, 1) := by decide +kernel
theorem dX11_readNodes_15 : decode cX11_readNodes 15 = .ok (.istore 4, 2) := by decide +kernel
theorem dX11_readNodes_17 : decode cX11_readNodes 17 = .ok (.iload 4, 2) := by decide +kernel
theorem dX11_readNodes_19 : decode cX11_readNodes 19 = .ok (.ifCond .eq 178, 3) := by decide +kernel
theorem dX11_readNodes_22 : decode cX11_readNodes 22 = .ok (.aload_n 0, 1) := by decide +kernel
theorem dX11_readNodes_23 : decode cX11_readNodes 23 = .ok (.getfield 209, 3) := by decide +kernel
theorem dX11_readNodes_26 : decode cX11_readNodes 26 = .ok (.ifCond .eq 171, 3) := by decide +kernel
theorem dX11_readNodes_29 : decode cX11_readNodes 29 = .ok (.aload_n 0, 1) := by decide +kernel
theorem dX11_readNodes_30 : decode cX11_readNodes 30 = .ok (.invokevirtual 285, 3) := by decide +kernel
theorem dX11_readNodes_33 : decode cX11_readNodes 33 = .ok (.ifCond .eq 11, 3) := by decide +kernel
theorem dX11_readNodes_36 : decode cX11_readNodes 36 = .ok (.aload_n 0, 1) := by decide +kernel
theorem dX11_readNodes_37 : decode cX11_readNodes 37 = .ok (.iload_n 2, 1) := by decide +kernel
theorem dX11_readNodes_38 : decode cX11_readNodes 38 = .ok (.invokevirtual 289, 3) := by decide +kernel
theorem dX11_readNodes_41 : decode cX11_readNodes 41 = .ok (.goto (-24), 3) := by decide +kernel
theorem dX11_readNodes_44 : decode cX11_readNodes 44 = .ok (.aload_n 0, 1) := by decide +kernel
theorem dX11_readNodes_45 : decode cX11_readNodes 45 = .ok (.ldc2_w 164, 3) := by decide +kernel
theorem dX11_readNodes_48 : decode cX11_readNodes 48 = .ok (.invokevirtual 235, 3) := by decide +kernel
theorem dX11_readNodes_51 : decode cX11_readNodes 51 = .ok (.ifCond .eq 109, 3) := by decide +kernel
theorem dX11_readNodes_54 : decode cX11_readNodes 54 = .ok (.bipush 24, 2) := by decide +kernel
theorem dX11_readNodes_56 : decode cX11_readNodes 56 = .ok (.aload_n 0, 1) := by decide +kernel
theorem dX11_readNodes_57 : decode cX11_readNodes 57 = .ok (.getfield 24, 3) := by decide +kernel
theorem dX11_readNodes_60 : decode cX11_readNodes 60 = .ok (.sipush 290, 3) := by decide +kernel
theorem dX11_readNodes_63 : decode cX11_readNodes 63 = .ok (.laload, 1) := by decide +kernel
theorem dX11_readNodes_64 : decode cX11_readNodes 64 = .ok (.l2i, 1) := by decide +kernel
theorem dX11_readNodes_65 : decode cX11_readNodes 65 = .ok (.iadd, 1) := by decide +kernel
theorem dX11_readNodes_66 : decode cX11_readNodes 66 = .ok (.istore 5, 2) := by decide +kernel
theorem dX11_readNodes_68 : decode cX11_readNodes 68 = .ok (.aload_n 0, 1) := by decide +kernel
theorem dX11_readNodes_69 : decode cX11_readNodes 69 = .ok (.aload_n 0, 1) := by decide +kernel
theorem dX11_readNodes_70 : decode cX11_readNodes 70 = .ok (.getfield 24, 3) := by decide +kernel
theorem dX11_readNodes_73 : decode cX11_readNodes 73 = .ok (.sipush 290, 3) := by decide +kernel
theorem dX11_readNodes_76 : decode cX11_readNodes 76 = .ok (.laload, 1) := by decide +kernel
theorem dX11_readNodes_77 : decode cX11_readNodes 77 = .ok (.ldc2_w 292, 3) := by decide +kernel
theorem dX11_readNodes_80 : decode cX11_readNodes 80 = .ok (.lcmp, 1) := by decide +kernel
theorem dX11_readNodes_81 : decode cX11_readNodes 81 = .ok (.ifCond .ge 23, 3) := by decide +kernel
theorem dX11_readNodes_84 : decode cX11_readNodes 84 = .ok (.iload_n 2, 1) := by decide +kernel
theorem dX11_readNodes_85 : decode cX11_readNodes 85 = .ok (.ifCond .lt 15, 3) := by decide +kernel
theorem dX11_readNodes_88 : decode cX11_readNodes 88 = .ok (.aload_n 0, 1) := by decide +kernel
theorem dX11_readNodes_89 : decode cX11_readNodes 89 = .ok (.iconst 0, 1) := by decide +kernel
theorem dX11_readNodes_90 : decode cX11_readNodes 90 = .ok (.iload_n 2, 1) := by decide +kernel
theorem dX11_readNodes_91 : decode cX11_readNodes 91 = .ok (.invokevirtual 128, 3) := by decide +kernel
theorem dX11_readNodes_94 : decode cX11_readNodes 94 = .ok (.iconst 1, 1) := by decide +kernel
theorem dX11_readNodes_95 : decode cX11_readNodes 95 = .ok (.iadd, 1) := by decide +kernel
theorem dX11_readNodes_96 : decode cX11_readNodes 96 = .ok (.iconst 4, 1) := by decide +kernel
theorem dX11_readNodes_97 : decode cX11_readNodes 97 = .ok (.if_icmp .ge 7, 3) := by decide +kernel
theorem dX11_readNodes_100 : decode cX11_readNodes 100 = .ok (.iconst 1, 1) := by decide +kernel
theorem dX11_readNodes_101 : decode cX11_readNodes 101 = .ok (.goto 4, 3) := by decide +kernel
theorem dX11_readNodes_104 : decode cX11_readNodes 104 = .ok (.iconst 0, 1) := by decide +kernel
theorem dX11_readNodes_105 : decode cX11_readNodes 105 = .ok (.invokevirtual 216, 3) := by decide +kernel
theorem dX11_readNodes_108 : decode cX11_readNodes 108 = .ok (.aload_n 0, 1) := by decide +kernel
theorem dX11_readNodes_109 : decode cX11_readNodes 109 = .ok (.iload 5, 2) := by decide +kernel
theorem dX11_readNodes_111 : decode cX11_readNodes 111 = .ok (.iload_n 2, 1) := by decide +kernel
theorem dX11_readNodes_112 : decode cX11_readNodes 112 = .ok (.iconst 3, 1) := by decide +kernel
theorem dX11_readNodes_113 : decode cX11_readNodes 113 = .ok (.invokevirtual 272, 3) := by decide +kernel
theorem dX11_readNodes_116 : decode cX11_readNodes 116 = .ok (.aload_n 0, 1) := by decide +kernel
theorem dX11_readNodes_117 : decode cX11_readNodes 117 = .ok (.getfield 209, 3) := by decide +kernel
theorem dX11_readNodes_120 : decode cX11_readNodes 120 = .ok (.ifCond .eq 37, 3) := by decide +kernel
theorem dX11_readNodes_123 : decode cX11_readNodes 123 = .ok (.aload_n 0, 1) := by decide +kernel
theorem dX11_readNodes_124 : decode cX11_readNodes 124 = .ok (.getfield 24, 3) := by decide +kernel
theorem dX11_readNodes_127 : decode cX11_readNodes 127 = .ok (.sipush 290, 3) := by decide +kernel
theorem dX11_readNodes_130 : decode cX11_readNodes 130 = .ok (.dup2, 1) := by decide +kernel
theorem dX11_readNodes_131 : decode cX11_readNodes 131 = .ok (.laload, 1) := by decide +kernel
theorem dX11_readNodes_132 : decode cX11_readNodes 132 = .ok (.lconst 1, 1) := by decide +kernel
theorem dX11_readNodes_133 : decode cX11_readNodes 133 = .ok (.ladd, 1) := by decide +kernel
theorem dX11_readNodes_134 : decode cX11_readNodes 134 = .ok (.lastore, 1) := by decide +kernel
theorem dX11_readNodes_135 : decode cX11_readNodes 135 = .ok (.aload_n 0, 1) := by decide +kernel
theorem dX11_readNodes_136 : decode cX11_readNodes 136 = .ok (.iload 5, 2) := by decide +kernel
theorem dX11_readNodes_138 : decode cX11_readNodes 138 = .ok (.invokevirtual 276, 3) := by decide +kernel
theorem dX11_readNodes_141 : decode cX11_readNodes 141 = .ok (.aload_n 0, 1) := by decide +kernel
theorem dX11_readNodes_142 : decode cX11_readNodes 142 = .ok (.aload_n 0, 1) := by decide +kernel
theorem dX11_readNodes_143 : decode cX11_readNodes 143 = .ok (.bipush 123, 2) := by decide +kernel
theorem dX11_readNodes_145 : decode cX11_readNodes 145 = .ok (.invokevirtual 238, 3) := by decide +kernel
theorem dX11_readNodes_148 : decode cX11_readNodes 148 = .ok (.invokevirtual 216, 3) := by decide +kernel
theorem dX11_readNodes_151 : decode cX11_readNodes 151 = .ok (.iload 5, 2) := by decide +kernel
theorem dX11_readNodes_153 : decode cX11_readNodes 153 = .ok (.istore_n 2, 1) := by decide +kernel
theorem dX11_readNodes_154 : decode cX11_readNodes 154 = .ok (.iinc 3 1, 3) := by decide +kernel
theorem dX11_readNodes_157 : decode cX11_readNodes 157 = .ok (.goto (-140), 3) := by decide +kernel
theorem dX11_readNodes_160 : decode cX11_readNodes 160 = .ok (.iload_n 3, 1) := by decide +kernel
theorem dX11_readNodes_161 : decode cX11_readNodes 161 = .ok (.ifCond .le 30, 3) := by decide +kernel
theorem dX11_readNodes_164 : decode cX11_readNodes 164 = .ok (.aload_n 0, 1) := by decide +kernel
theorem dX11_readNodes_165 : decode cX11_readNodes 165 = .ok (.bipush 125, 2) := by decide +kernel
theorem dX11_readNodes_167 : decode cX11_readNodes 167 = .ok (.invokevirtual 238, 3) := by decide +kernel
theorem dX11_readNodes_170 : decode cX11_readNodes 170 = .ok (.ifCond .eq 21, 3) := by decide +kernel
theorem dX11_readNodes_173 : decode cX11_readNodes 173 = .ok (.aload_n 0, 1) := by decide +kernel
theorem dX11_readNodes_174 : decode cX11_readNodes 174 = .ok (.iconst 0, 1) := by decide +kernel
theorem dX11_readNodes_175 : decode cX11_readNodes 175 = .ok (.iconst 0, 1) := by decide +kernel
theorem dX11_readNodes_176 : decode cX11_readNodes 176 = .ok (.iload_n 2, 1) := by decide +kernel
theorem dX11_readNodes_177 : decode cX11_readNodes 177 = .ok (.invokevirtual 110, 3) := by decide +kernel
theorem dX11_readNodes_180 : decode cX11_readNodes 180 = .ok (.istore_n 2, 1) := by decide +kernel
theorem dX11_readNodes_181 : decode cX11_readNodes 181 = .ok (.iinc 3 (-1), 3) := by decide +kernel
theorem dX11_readNodes_184 : decode cX11_readNodes 184 = .ok (.aload_n 0, 1) := by decide +kernel
theorem dX11_readNodes_185 : decode cX11_readNodes 185 = .ok (.invokevirtual 213, 3) := by decide +kernel
theorem dX11_readNodes_188 : decode cX11_readNodes 188 = .ok (.goto (-171), 3) := by decide +kernel
theorem dX11_readNodes_191 : decode cX11_readNodes 191 = .ok (.iconst 0, 1) := by decide +kernel
theorem dX11_readNodes_192 : decode cX11_readNodes 192 = .ok (.istore 4, 2) := by decide +kernel
theorem dX11_readNodes_194 : decode cX11_readNodes 194 = .ok (.goto (-177), 3) := by decide +kernel
theorem dX11_readNodes_197 : decode cX11_readNodes 197 = .ok (.aload_n 0, 1) := by decide +kernel
theorem dX11_readNodes_198 : decode cX11_readNodes 198 = .ok (.aload_n 0, 1) := by decide +kernel
theorem dX11_readNodes_199 : decode cX11_readNodes 199 = .ok (.getfield 192, 3) := by decide +kernel
theorem dX11_readNodes_202 : decode cX11_readNodes 202 = .ok (.ifCond .ne 11, 3) := by decide +kernel
theorem dX11_readNodes_205 : decode cX11_readNodes 205 = .ok (.iload_n 3, 1) := by decide +kernel
theorem dX11_readNodes_206 : decode cX11_readNodes 206 = .ok (.ifCond .ne 7, 3) := by decide +kernel
theorem dX11_readNodes_209 : decode cX11_readNodes 209 = .ok (.iconst 1, 1) := by decide +kernel
theorem dX11_readNodes_210 : decode cX11_readNodes 210 = .ok (.goto 4, 3) := by decide +kernel
theorem dX11_readNodes_213 : decode cX11_readNodes 213 = .ok (.iconst 0, 1) := by decide +kernel
theorem dX11_readNodes_214 : decode cX11_readNodes 214 = .ok (.invokevirtual 262, 3) := by decide +kernel
theorem dX11_readNodes_217 : decode cX11_readNodes 217 = .ok (.return_, 1) := by decide +kernel
theorem dX11_resolves_0 : decode cX11_resolves 0 = .ok (.iconst 0, 1) := by decide +kernel
theorem dX11_resolves_1 : decode cX11_resolves 1 = .ok (.istore_n 1, 1) := by decide +kernel
theorem dX11_resolves_2 : decode cX11_resolves 2 = .ok (.iload_n 1, 1) := by decide +kernel
theorem dX11_resolves_3 : decode cX11_resolves 3 = .ok (.aload_n 0, 1) := by decide +kernel
theorem dX11_resolves_4 : decode cX11_resolves 4 = .ok (.getfield 247, 3) := by decide +kernel
theorem dX11_resolves_7 : decode cX11_resolves 7 = .ok (.if_icmp .ge 74, 3) := by decide +kernel
theorem dX11_resolves_10 : decode cX11_resolves 10 = .ok (.aload_n 0, 1) := by decide +kernel
theorem dX11_resolves_11 : decode cX11_resolves 11 = .ok (.getfield 209, 3) := by decide +kernel
theorem dX11_resolves_14 : decode cX11_resolves 14 = .ok (.ifCond .eq 67, 3) := by decide +kernel
theorem dX11_resolves_17 : decode cX11_resolves 17 = .ok (.aload_n 0, 1) := by decide +kernel
theorem dX11_resolves_18 : decode cX11_resolves 18 = .ok (.iconst 0, 1) := by decide +kernel
theorem dX11_resolves_19 : decode cX11_resolves 19 = .ok (.aload_n 0, 1) := by decide +kernel
theorem dX11_resolves_20 : decode cX11_resolves 20 = .ok (.getfield 40, 3) := by decide +kernel
theorem dX11_resolves_23 : decode cX11_resolves 23 = .ok (.iload_n 1, 1) := by decide +kernel
theorem dX11_resolves_24 : decode cX11_resolves 24 = .ok (.laload, 1) := by decide +kernel
theorem dX11_resolves_25 : decode cX11_resolves 25 = .ok (.invokevirtual 265, 3) := by decide +kernel
theorem dX11_resolves_28 : decode cX11_resolves 28 = .ok (.istore_n 2, 1) := by decide +kernel
theorem dX11_resolves_29 : decode cX11_resolves 29 = .ok (.iload_n 2, 1) := by decide +kernel
theorem dX11_resolves_30 : decode cX11_resolves 30 = .ok (.ifCond .lt 10, 3) := by decide +kernel
theorem dX11_resolves_33 : decode cX11_resolves 33 = .ok (.iload_n 2, 1) := by decide +kernel
theorem dX11_resolves_34 : decode cX11_resolves 34 = .ok (.invokestatic 107, 3) := by decide +kernel
theorem dX11_resolves_37 : decode cX11_resolves 37 = .ok (.ifCond .ne 21, 3) := by decide +kernel
theorem dX11_resolves_40 : decode cX11_resolves 40 = .ok (.aload_n 0, 1) := by decide +kernel
theorem dX11_resolves_41 : decode cX11_resolves 41 = .ok (.iconst 0, 1) := by decide +kernel
theorem dX11_resolves_42 : decode cX11_resolves 42 = .ok (.putfield 209, 3) := by decide +kernel
theorem dX11_resolves_45 : decode cX11_resolves 45 = .ok (.aload_n 0, 1) := by decide +kernel
theorem dX11_resolves_46 : decode cX11_resolves 46 = .ok (.aload_n 0, 1) := by decide +kernel
theorem dX11_resolves_47 : decode cX11_resolves 47 = .ok (.getfield 43, 3) := by decide +kernel
theorem dX11_resolves_50 : decode cX11_resolves 50 = .ok (.iload_n 1, 1) := by decide +kernel
theorem dX11_resolves_51 : decode cX11_resolves 51 = .ok (.iaload, 1) := by decide +kernel
theorem dX11_resolves_52 : decode cX11_resolves 52 = .ok (.putfield 13, 3) := by decide +kernel
theorem dX11_resolves_55 : decode cX11_resolves 55 = .ok (.goto 20, 3) := by decide +kernel
theorem dX11_resolves_58 : decode cX11_resolves 58 = .ok (.aload_n 0, 1) := by decide +kernel
theorem dX11_resolves_59 : decode cX11_resolves 59 = .ok (.getfield 34, 3) := by decide +kernel
theorem dX11_resolves_62 : decode cX11_resolves 62 = .ok (.aload_n 0, 1) := by decide +kernel
theorem dX11_resolves_63 : decode cX11_resolves 63 = .ok (.getfield 49, 3) := by decide +kernel
theorem dX11_resolves_66 : decode cX11_resolves 66 = .ok (.iload_n 1, 1) := by decide +kernel
theorem dX11_resolves_67 : decode cX11_resolves 67 = .ok (.iaload, 1) := by decide +kernel
theorem dX11_resolves_68 : decode cX11_resolves 68 = .ok (.dup2, 1) := by decide +kernel
theorem dX11_resolves_69 : decode cX11_resolves 69 = .ok (.iaload, 1) := by decide +kernel
theorem dX11_resolves_70 : decode cX11_resolves 70 = .ok (.iload_n 2, 1) := by decide +kernel
theorem dX11_resolves_71 : decode cX11_resolves 71 = .ok (.iconst 5, 1) := by decide +kernel
theorem dX11_resolves_72 : decode cX11_resolves 72 = .ok (.ishl, 1) := by decide +kernel
theorem dX11_resolves_73 : decode cX11_resolves 73 = .ok (.ior, 1) := by decide +kernel
theorem dX11_resolves_74 : decode cX11_resolves 74 = .ok (.iastore, 1) := by decide +kernel
theorem dX11_resolves_75 : decode cX11_resolves 75 = .ok (.iinc 1 1, 3) := by decide +kernel
theorem dX11_resolves_78 : decode cX11_resolves 78 = .ok (.goto (-76), 3) := by decide +kernel
theorem dX11_resolves_81 : decode cX11_resolves 81 = .ok (.iconst 0, 1) := by decide +kernel
theorem dX11_resolves_82 : decode cX11_resolves 82 = .ok (.istore_n 1, 1) := by decide +kernel
theorem dX11_resolves_83 : decode cX11_resolves 83 = .ok (.iload_n 1, 1) := by decide +kernel
theorem dX11_resolves_84 : decode cX11_resolves 84 = .ok (.bipush 24, 2) := by decide +kernel
theorem dX11_resolves_86 : decode cX11_resolves 86 = .ok (.if_icmp .ge 16, 3) := by decide +kernel
theorem dX11_resolves_89 : decode cX11_resolves 89 = .ok (.aload_n 0, 1) := by decide +kernel
theorem dX11_resolves_90 : decode cX11_resolves 90 = .ok (.getfield 37, 3) := by decide +kernel
theorem dX11_resolves_93 : decode cX11_resolves 93 = .ok (.iload_n 1, 1) := by decide +kernel
theorem dX11_resolves_94 : decode cX11_resolves 94 = .ok (.iconst 0, 1) := by decide +kernel
theorem dX11_resolves_95 : decode cX11_resolves 95 = .ok (.iastore, 1) := by decide +kernel
theorem dX11_resolves_96 : decode cX11_resolves 96 = .ok (.iinc 1 1, 3) := by decide +kernel
theorem dX11_resolves_99 : decode cX11_resolves 99 = .ok (.goto (-16), 3) := by decide +kernel
theorem dX11_resolves_102 : decode cX11_resolves 102 = .ok (.iconst 0, 1) := by decide +kernel
theorem dX11_resolves_103 : decode cX11_resolves 103 = .ok (.istore_n 1, 1) := by decide +kernel
theorem dX11_resolves_104 : decode cX11_resolves 104 = .ok (.iload_n 1, 1) := by decide +kernel
theorem dX11_resolves_105 : decode cX11_resolves 105 = .ok (.aload_n 0, 1) := by decide +kernel
theorem dX11_resolves_106 : decode cX11_resolves 106 = .ok (.iconst 0, 1) := by decide +kernel
theorem dX11_resolves_107 : decode cX11_resolves 107 = .ok (.invokevirtual 118, 3) := by decide +kernel
theorem dX11_resolves_110 : decode cX11_resolves 110 = .ok (.if_icmp .ge 35, 3) := by decide +kernel
theorem dX11_resolves_113 : decode cX11_resolves 113 = .ok (.aload_n 0, 1) := by decide +kernel
theorem dX11_resolves_114 : decode cX11_resolves 114 = .ok (.iconst 0, 1) := by decide +kernel
theorem dX11_resolves_115 : decode cX11_resolves 115 = .ok (.iload_n 1, 1) := by decide +kernel
theorem dX11_resolves_116 : decode cX11_resolves 116 = .ok (.invokevirtual 114, 3) := by decide +kernel
theorem dX11_resolves_119 : decode cX11_resolves 119 = .ok (.istore_n 2, 1) := by decide +kernel
theorem dX11_resolves_120 : decode cX11_resolves 120 = .ok (.aload_n 0, 1) := by decide +kernel
theorem dX11_resolves_121 : decode cX11_resolves 121 = .ok (.iload_n 2, 1) := by decide +kernel
theorem dX11_resolves_122 : decode cX11_resolves 122 = .ok (.invokevirtual 294, 3) := by decide +kernel
theorem dX11_resolves_125 : decode cX11_resolves 125 = .ok (.ifCond .ne 14, 3) := by decide +kernel
theorem dX11_resolves_128 : decode cX11_resolves 128 = .ok (.aload_n 0, 1) := by decide +kernel
theorem dX11_resolves_129 : decode cX11_resolves 129 = .ok (.iload_n 2, 1) := by decide +kernel
theorem dX11_resolves_130 : decode cX11_resolves 130 = .ok (.aload_n 0, 1) := by decide +kernel
theorem dX11_resolves_131 : decode cX11_resolves 131 = .ok (.iconst 0, 1) := by decide +kernel
theorem dX11_resolves_132 : decode cX11_resolves 132 = .ok (.iload_n 2, 1) := by decide +kernel
theorem dX11_resolves_133 : decode cX11_resolves 133 = .ok (.invokevirtual 140, 3) := by decide +kernel
theorem dX11_resolves_136 : decode cX11_resolves 136 = .ok (.invokevirtual 143, 3) := by decide +kernel
theorem dX11_resolves_139 : decode cX11_resolves 139 = .ok (.iinc 1 1, 3) := by decide +kernel
theorem dX11_resolves_142 : decode cX11_resolves 142 = .ok (.goto (-38), 3) := by decide +kernel
theorem dX11_resolves_145 : decode cX11_resolves 145 = .ok (.iconst 0, 1) := by decide +kernel
theorem dX11_resolves_146 : decode cX11_resolves 146 = .ok (.istore_n 1, 1) := by decide +kernel
theorem dX11_resolves_147 : decode cX11_resolves 147 = .ok (.iload_n 1, 1) := by decide +kernel
theorem dX11_resolves_148 : decode cX11_resolves 148 = .ok (.aload_n 0, 1) := by decide +kernel
theorem dX11_resolves_149 : decode cX11_resolves 149 = .ok (.getfield 247, 3) := by decide +kernel
theorem dX11_resolves_152 : decode cX11_resolves 152 = .ok (.if_icmp .ge 73, 3) := by decide +kernel
theorem dX11_resolves_155 : decode cX11_resolves 155 = .ok (.aload_n 0, 1) := by decide +kernel
theorem dX11_resolves_156 : decode cX11_resolves 156 = .ok (.getfield 209, 3) := by decide +kernel
theorem dX11_resolves_159 : decode cX11_resolves 159 = .ok (.ifCond .eq 66, 3) := by decide +kernel
theorem dX11_resolves_162 : decode cX11_resolves 162 = .ok (.aload_n 0, 1) := by decide +kernel
theorem dX11_resolves_163 : decode cX11_resolves 163 = .ok (.getfield 34, 3) := by decide +kernel
theorem dX11_resolves_166 : decode cX11_resolves 166 = .ok (.aload_n 0, 1) := by decide +kernel
theorem dX11_resolves_167 : decode cX11_resolves 167 = .ok (.getfield 49, 3) := by decide +kernel
theorem dX11_resolves_170 : decode cX11_resolves 170 = .ok (.iload_n 1, 1) := by decide +kernel
theorem dX11_resolves_171 : decode cX11_resolves 171 = .ok (.iaload, 1) := by decide +kernel
theorem dX11_resolves_172 : decode cX11_resolves 172 = .ok (.iaload, 1) := by decide +kernel
theorem dX11_resolves_173 : decode cX11_resolves 173 = .ok (.invokestatic 137, 3) := by decide +kernel
theorem dX11_resolves_176 : decode cX11_resolves 176 = .ok (.istore_n 2, 1) := by decide +kernel
theorem dX11_resolves_177 : decode cX11_resolves 177 = .ok (.aload_n 0, 1) := by decide +kernel
theorem dX11_resolves_178 : decode cX11_resolves 178 = .ok (.aload_n 0, 1) := by decide +kernel
theorem dX11_resolves_179 : decode cX11_resolves 179 = .ok (.getfield 46, 3) := by decide +kernel
theorem dX11_resolves_182 : decode cX11_resolves 182 = .ok (.iload_n 1, 1) := by decide +kernel
theorem dX11_resolves_183 : decode cX11_resolves 183 = .ok (.iaload, 1) := by decide +kernel
theorem dX11_resolves_184 : decode cX11_resolves 184 = .ok (.iload_n 2, 1) := by decide +kernel
theorem dX11_resolves_185 : decode cX11_resolves 185 = .ok (.invokevirtual 297, 3) := by decide +kernel
theorem dX11_resolves_188 : decode cX11_resolves 188 = .ok (.ifCond .eq 18, 3) := by decide +kernel
theorem dX11_resolves_191 : decode cX11_resolves 191 = .ok (.aload_n 0, 1) := by decide +kernel
theorem dX11_resolves_192 : decode cX11_resolves 192 = .ok (.iconst 0, 1) := by decide +kernel
theorem dX11_resolves_193 : decode cX11_resolves 193 = .ok (.putfield 209, 3) := by decide +kernel
theorem dX11_resolves_196 : decode cX11_resolves 196 = .ok (.aload_n 0, 1) := by decide +kernel
theorem dX11_resolves_197 : decode cX11_resolves 197 = .ok (.aload_n 0, 1) := by decide +kernel
theorem dX11_resolves_198 : decode cX11_resolves 198 = .ok (.getfield 43, 3) := by decide +kernel
theorem dX11_resolves_201 : decode cX11_resolves 201 = .ok (.iload_n 1, 1) := by decide +kernel
theorem dX11_resolves_202 : decode cX11_resolves 202 = .ok (.iaload, 1) := by decide +kernel
theorem dX11_resolves_203 : decode cX11_resolves 203 = .ok (.putfield 13, 3) := by decide +kernel
theorem dX11_resolves_206 : decode cX11_resolves 206 = .ok (.aload_n 0, 1) := by decide +kernel
theorem dX11_resolves_207 : decode cX11_resolves 207 = .ok (.aload_n 0, 1) := by decide +kernel
theorem dX11_resolves_208 : decode cX11_resolves 208 = .ok (.getfield 46, 3) := by decide +kernel
theorem dX11_resolves_211 : decode cX11_resolves 211 = .ok (.iload_n 1, 1) := by decide +kernel
theorem dX11_resolves_212 : decode cX11_resolves 212 = .ok (.iaload, 1) := by decide +kernel
theorem dX11_resolves_213 : decode cX11_resolves 213 = .ok (.iconst 1, 1) := by decide +kernel
theorem dX11_resolves_214 : decode cX11_resolves 214 = .ok (.iload_n 2, 1) := by decide +kernel
theorem dX11_resolves_215 : decode cX11_resolves 215 = .ok (.ishl, 1) := by decide +kernel
theorem dX11_resolves_216 : decode cX11_resolves 216 = .ok (.invokevirtual 143, 3) := by decide +kernel
theorem dX11_resolves_219 : decode cX11_resolves 219 = .ok (.iinc 1 1, 3) := by decide +kernel
theorem dX11_resolves_222 : decode cX11_resolves 222 = .ok (.goto (-75), 3) := by decide +kernel
theorem dX11_resolves_225 : decode cX11_resolves 225 = .ok (.return_, 1) := by decide +kernel
theorem dX11_isRead_0 : decode cX11_isRead 0 = .ok (.iconst 0, 1) := by decide +kernel
theorem dX11_isRead_1 : decode cX11_isRead 1 = .ok (.istore_n 2, 1) := by decide +kernel
theorem dX11_isRead_2 : decode cX11_isRead 2 = .ok (.iload_n 2, 1) := by decide +kernel
theorem dX11_isRead_3 : decode cX11_isRead 3 = .ok (.aload_n 0, 1) := by decide +kernel
theorem dX11_isRead_4 : decode cX11_isRead 4 = .ok (.getfield 247, 3) := by decide +kernel
theorem dX11_isRead_7 : decode cX11_isRead 7 = .ok (.if_icmp .ge 21, 3) := by decide +kernel
theorem dX11_isRead_10 : decode cX11_isRead 10 = .ok (.aload_n 0, 1) := by decide +kernel
theorem dX11_isRead_11 : decode cX11_isRead 11 = .ok (.getfield 46, 3) := by decide +kernel
theorem dX11_isRead_14 : decode cX11_isRead 14 = .ok (.iload_n 2, 1) := by decide +kernel
theorem dX11_isRead_15 : decode cX11_isRead 15 = .ok (.iaload, 1) := by decide +kernel
theorem dX11_isRead_16 : decode cX11_isRead 16 = .ok (.iload_n 1, 1) := by decide +kernel
theorem dX11_isRead_17 : decode cX11_isRead 17 = .ok (.if_icmp .ne 5, 3) := by decide +kernel
theorem dX11_isRead_20 : decode cX11_isRead 20 = .ok (.iconst 1, 1) := by decide +kernel
theorem dX11_isRead_21 : decode cX11_isRead 21 = .ok (.ireturn, 1) := by decide +kernel
theorem dX11_isRead_22 : decode cX11_isRead 22 = .ok (.iinc 2 1, 3) := by decide +kernel
theorem dX11_isRead_25 : decode cX11_isRead 25 = .ok (.goto (-23), 3) := by decide +kernel
theorem dX11_isRead_28 : decode cX11_isRead 28 = .ok (.iconst 0, 1) := by decide +kernel
theorem dX11_isRead_29 : decode cX11_isRead 29 = .ok (.ireturn, 1) := by decide +kernel
theorem dX11_startsText_0 : decode cX11_startsText 0 = .ok (.iconst 0, 1) := by decide +kernel
theorem dX11_startsText_1 : decode cX11_startsText 1 = .ok (.istore_n 1, 1) := by decide +kernel
theorem dX11_startsText_2 : decode cX11_startsText 2 = .ok (.iload_n 1, 1) := by decide +kernel
theorem dX11_startsText_3 : decode cX11_startsText 3 = .ok (.sipush 292, 3) := by decide +kernel
theorem dX11_startsText_6 : decode cX11_startsText 6 = .ok (.if_icmp .ge 21, 3) := by decide +kernel
theorem dX11_startsText_9 : decode cX11_startsText 9 = .ok (.aload_n 0, 1) := by decide +kernel
theorem dX11_startsText_10 : decode cX11_startsText 10 = .ok (.getfield 28, 3) := by decide +kernel
theorem dX11_startsText_13 : decode cX11_startsText 13 = .ok (.iload_n 1, 1) := by decide +kernel
theorem dX11_startsText_14 : decode cX11_startsText 14 = .ok (.aload_n 0, 1) := by decide +kernel
theorem dX11_startsText_15 : decode cX11_startsText 15 = .ok (.getfield 24, 3) := by decide +kernel
theorem dX11_startsText_18 : decode cX11_startsText 18 = .ok (.iload_n 1, 1) := by decide +kernel
theorem dX11_startsText_19 : decode cX11_startsText 19 = .ok (.laload, 1) := by decide +kernel
theorem dX11_startsText_20 : decode cX11_startsText 20 = .ok (.lastore, 1) := by decide +kernel
theorem dX11_startsText_21 : decode cX11_startsText 21 = .ok (.iinc 1 1, 3) := by decide +kernel
theorem dX11_startsText_24 : decode cX11_startsText 24 = .ok (.goto (-22), 3) := by decide +kernel
theorem dX11_startsText_27 : decode cX11_startsText 27 = .ok (.aload_n 0, 1) := by decide +kernel
theorem dX11_startsText_28 : decode cX11_startsText 28 = .ok (.bipush (-2), 2) := by decide +kernel
theorem dX11_startsText_30 : decode cX11_startsText 30 = .ok (.putfield 13, 3) := by decide +kernel
theorem dX11_startsText_33 : decode cX11_startsText 33 = .ok (.aload_n 0, 1) := by decide +kernel
theorem dX11_startsText_34 : decode cX11_startsText 34 = .ok (.iconst 1, 1) := by decide +kernel
theorem dX11_startsText_35 : decode cX11_startsText 35 = .ok (.putfield 209, 3) := by decide +kernel
theorem dX11_startsText_38 : decode cX11_startsText 38 = .ok (.aload_n 0, 1) := by decide +kernel
theorem dX11_startsText_39 : decode cX11_startsText 39 = .ok (.iconst 0, 1) := by decide +kernel
theorem dX11_startsText_40 : decode cX11_startsText 40 = .ok (.putfield 247, 3) := by decide +kernel
theorem dX11_startsText_43 : decode cX11_startsText 43 = .ok (.aload_n 0, 1) := by decide +kernel
theorem dX11_startsText_44 : decode cX11_startsText 44 = .ok (.iconst 0, 1) := by decide +kernel
theorem dX11_startsText_45 : decode cX11_startsText 45 = .ok (.putfield 156, 3) := by decide +kernel
theorem dX11_startsText_48 : decode cX11_startsText 48 = .ok (.aload_n 0, 1) := by decide +kernel
theorem dX11_startsText_49 : decode cX11_startsText 49 = .ok (.invokevirtual 213, 3) := by decide +kernel
theorem dX11_startsText_52 : decode cX11_startsText 52 = .ok (.return_, 1) := by decide +kernel
theorem dX11_swaps_0 : decode cX11_swaps 0 = .ok (.iconst 0, 1) := by decide +kernel
theorem dX11_swaps_1 : decode cX11_swaps 1 = .ok (.istore_n 1, 1) := by decide +kernel
theorem dX11_swaps_2 : decode cX11_swaps 2 = .ok (.iload_n 1, 1) := by decide +kernel
theorem dX11_swaps_3 : decode cX11_swaps 3 = .ok (.sipush 292, 3) := by decide +kernel
theorem dX11_swaps_6 : decode cX11_swaps 6 = .ok (.if_icmp .ge 35, 3) := by decide +kernel
theorem dX11_swaps_9 : decode cX11_swaps 9 = .ok (.aload_n 0, 1) := by decide +kernel
theorem dX11_swaps_10 : decode cX11_swaps 10 = .ok (.getfield 24, 3) := by decide +kernel
theorem dX11_swaps_13 : decode cX11_swaps 13 = .ok (.iload_n 1, 1) := by decide +kernel
theorem dX11_swaps_14 : decode cX11_swaps 14 = .ok (.laload, 1) := by decide +kernel
theorem dX11_swaps_15 : decode cX11_swaps 15 = .ok (.lstore_n 2, 1) := by decide +kernel
theorem dX11_swaps_16 : decode cX11_swaps 16 = .ok (.aload_n 0, 1) := by decide +kernel
theorem dX11_swaps_17 : decode cX11_swaps 17 = .ok (.getfield 24, 3) := by decide +kernel
theorem dX11_swaps_20 : decode cX11_swaps 20 = .ok (.iload_n 1, 1) := by decide +kernel
theorem dX11_swaps_21 : decode cX11_swaps 21 = .ok (.aload_n 0, 1) := by decide +kernel
theorem dX11_swaps_22 : decode cX11_swaps 22 = .ok (.getfield 28, 3) := by decide +kernel
theorem dX11_swaps_25 : decode cX11_swaps 25 = .ok (.iload_n 1, 1) := by decide +kernel
theorem dX11_swaps_26 : decode cX11_swaps 26 = .ok (.laload, 1) := by decide +kernel
theorem dX11_swaps_27 : decode cX11_swaps 27 = .ok (.lastore, 1) := by decide +kernel
theorem dX11_swaps_28 : decode cX11_swaps 28 = .ok (.aload_n 0, 1) := by decide +kernel
theorem dX11_swaps_29 : decode cX11_swaps 29 = .ok (.getfield 28, 3) := by decide +kernel
theorem dX11_swaps_32 : decode cX11_swaps 32 = .ok (.iload_n 1, 1) := by decide +kernel
theorem dX11_swaps_33 : decode cX11_swaps 33 = .ok (.lload_n 2, 1) := by decide +kernel
theorem dX11_swaps_34 : decode cX11_swaps 34 = .ok (.lastore, 1) := by decide +kernel
theorem dX11_swaps_35 : decode cX11_swaps 35 = .ok (.iinc 1 1, 3) := by decide +kernel
theorem dX11_swaps_38 : decode cX11_swaps 38 = .ok (.goto (-36), 3) := by decide +kernel
theorem dX11_swaps_41 : decode cX11_swaps 41 = .ok (.return_, 1) := by decide +kernel
theorem dX11_takesMade_0 : decode cX11_takesMade 0 = .ok (.iconst 0, 1) := by decide +kernel
theorem dX11_takesMade_1 : decode cX11_takesMade 1 = .ok (.istore_n 1, 1) := by decide +kernel
theorem dX11_takesMade_2 : decode cX11_takesMade 2 = .ok (.iload_n 1, 1) := by decide +kernel
theorem dX11_takesMade_3 : decode cX11_takesMade 3 = .ok (.sipush 292, 3) := by decide +kernel
theorem dX11_takesMade_6 : decode cX11_takesMade 6 = .ok (.if_icmp .ge 21, 3) := by decide +kernel
theorem dX11_takesMade_9 : decode cX11_takesMade 9 = .ok (.aload_n 0, 1) := by decide +kernel
theorem dX11_takesMade_10 : decode cX11_takesMade 10 = .ok (.getfield 24, 3) := by decide +kernel
theorem dX11_takesMade_13 : decode cX11_takesMade 13 = .ok (.iload_n 1, 1) := by decide +kernel
theorem dX11_takesMade_14 : decode cX11_takesMade 14 = .ok (.aload_n 0, 1) := by decide +kernel
theorem dX11_takesMade_15 : decode cX11_takesMade 15 = .ok (.getfield 28, 3) := by decide +kernel
theorem dX11_takesMade_18 : decode cX11_takesMade 18 = .ok (.iload_n 1, 1) := by decide +kernel
theorem dX11_takesMade_19 : decode cX11_takesMade 19 = .ok (.laload, 1) := by decide +kernel
theorem dX11_takesMade_20 : decode cX11_takesMade 20 = .ok (.lastore, 1) := by decide +kernel
theorem dX11_takesMade_21 : decode cX11_takesMade 21 = .ok (.iinc 1 1, 3) := by decide +kernel
theorem dX11_takesMade_24 : decode cX11_takesMade 24 = .ok (.goto (-22), 3) := by decide +kernel
theorem dX11_takesMade_27 : decode cX11_takesMade 27 = .ok (.return_, 1) := by decide +kernel
theorem dX11_puts_0 : decode cX11_puts 0 = .ok (.bipush 24, 2) := by decide +kernel
theorem dX11_puts_2 : decode cX11_puts 2 = .ok (.istore_n 2, 1) := by decide +kernel
theorem dX11_puts_3 : decode cX11_puts 3 = .ok (.iload_n 2, 1) := by decide +kernel
theorem dX11_puts_4 : decode cX11_puts 4 = .ok (.ifCond .lt 32, 3) := by decide +kernel
theorem dX11_puts_7 : decode cX11_puts 7 = .ok (.aload_n 0, 1) := by decide +kernel
theorem dX11_puts_8 : decode cX11_puts 8 = .ok (.getfield 7, 3) := by decide +kernel
theorem dX11_puts_11 : decode cX11_puts 11 = .ok (.aload_n 0, 1) := by decide +kernel
theorem dX11_puts_12 : decode cX11_puts 12 = .ok (.getfield 159, 3) := by decide +kernel
theorem dX11_puts_15 : decode cX11_puts 15 = .ok (.iload_n 1, 1) := by decide +kernel
theorem dX11_puts_16 : decode cX11_puts 16 = .ok (.iload_n 2, 1) := by decide +kernel
theorem dX11_puts_17 : decode cX11_puts 17 = .ok (.ishr, 1) := by decide +kernel
theorem dX11_puts_18 : decode cX11_puts 18 = .ok (.i2b, 1) := by decide +kernel
theorem dX11_puts_19 : decode cX11_puts 19 = .ok (.bastore, 1) := by decide +kernel
theorem dX11_puts_20 : decode cX11_puts 20 = .ok (.aload_n 0, 1) := by decide +kernel
theorem dX11_puts_21 : decode cX11_puts 21 = .ok (.dup, 1) := by decide +kernel
theorem dX11_puts_22 : decode cX11_puts 22 = .ok (.getfield 159, 3) := by decide +kernel
theorem dX11_puts_25 : decode cX11_puts 25 = .ok (.iconst 1, 1) := by decide +kernel
theorem dX11_puts_26 : decode cX11_puts 26 = .ok (.iadd, 1) := by decide +kernel
theorem dX11_puts_27 : decode cX11_puts 27 = .ok (.putfield 159, 3) := by decide +kernel
theorem dX11_puts_30 : decode cX11_puts 30 = .ok (.iinc 2 (-8), 3) := by decide +kernel
theorem dX11_puts_33 : decode cX11_puts 33 = .ok (.goto (-30), 3) := by decide +kernel
theorem dX11_puts_36 : decode cX11_puts 36 = .ok (.return_, 1) := by decide +kernel
theorem dX11_append_0 : decode cX11_append 0 = .ok (.aload_n 0, 1) := by decide +kernel
theorem dX11_append_1 : decode cX11_append 1 = .ok (.getfield 159, 3) := by decide +kernel
theorem dX11_append_4 : decode cX11_append 4 = .ok (.bipush 20, 2) := by decide +kernel
theorem dX11_append_6 : decode cX11_append 6 = .ok (.iadd, 1) := by decide +kernel
theorem dX11_append_7 : decode cX11_append 7 = .ok (.sipush 1200, 3) := by decide +kernel
theorem dX11_append_10 : decode cX11_append 10 = .ok (.if_icmp .le 5, 3) := by decide +kernel
theorem dX11_append_13 : decode cX11_append 13 = .ok (.iconst (-1), 1) := by decide +kernel
theorem dX11_append_14 : decode cX11_append 14 = .ok (.ireturn, 1) := by decide +kernel
theorem dX11_append_15 : decode cX11_append 15 = .ok (.aload_n 0, 1) := by decide +kernel
theorem dX11_append_16 : decode cX11_append 16 = .ok (.iload_n 1, 1) := by decide +kernel
theorem dX11_append_17 : decode cX11_append 17 = .ok (.invokevirtual 300, 3) := by decide +kernel
theorem dX11_append_20 : decode cX11_append 20 = .ok (.aload_n 0, 1) := by decide +kernel
theorem dX11_append_21 : decode cX11_append 21 = .ok (.iload_n 2, 1) := by decide +kernel
theorem dX11_append_22 : decode cX11_append 22 = .ok (.invokevirtual 300, 3) := by decide +kernel
theorem dX11_append_25 : decode cX11_append 25 = .ok (.aload_n 0, 1) := by decide +kernel
theorem dX11_append_26 : decode cX11_append 26 = .ok (.iload_n 3, 1) := by decide +kernel
theorem dX11_append_27 : decode cX11_append 27 = .ok (.invokevirtual 300, 3) := by decide +kernel
theorem dX11_append_30 : decode cX11_append 30 = .ok (.aload_n 0, 1) := by decide +kernel
theorem dX11_append_31 : decode cX11_append 31 = .ok (.iload 4, 2) := by decide +kernel
theorem dX11_append_33 : decode cX11_append 33 = .ok (.invokevirtual 300, 3) := by decide +kernel
theorem dX11_append_36 : decode cX11_append 36 = .ok (.aload_n 0, 1) := by decide +kernel
theorem dX11_append_37 : decode cX11_append 37 = .ok (.iload 5, 2) := by decide +kernel
theorem dX11_append_39 : decode cX11_append 39 = .ok (.invokevirtual 300, 3) := by decide +kernel
theorem dX11_append_42 : decode cX11_append 42 = .ok (.aload_n 0, 1) := by decide +kernel
theorem dX11_append_43 : decode cX11_append 43 = .ok (.getfield 159, 3) := by decide +kernel
theorem dX11_append_46 : decode cX11_append 46 = .ok (.ireturn, 1) := by decide +kernel
theorem dX11_truncate_0 : decode cX11_truncate 0 = .ok (.iload_n 1, 1) := by decide +kernel
theorem dX11_truncate_1 : decode cX11_truncate 1 = .ok (.iconst 0, 1) := by decide +kernel
theorem dX11_truncate_2 : decode cX11_truncate 2 = .ok (.aload_n 0, 1) := by decide +kernel
theorem dX11_truncate_3 : decode cX11_truncate 3 = .ok (.getfield 159, 3) := by decide +kernel
theorem dX11_truncate_6 : decode cX11_truncate 6 = .ok (.invokestatic 95, 3) := by decide +kernel
theorem dX11_truncate_9 : decode cX11_truncate 9 = .ok (.ifCond .ne 5, 3) := by decide +kernel
theorem dX11_truncate_12 : decode cX11_truncate 12 = .ok (.iconst (-1), 1) := by decide +kernel
theorem dX11_truncate_13 : decode cX11_truncate 13 = .ok (.ireturn, 1) := by decide +kernel
theorem dX11_truncate_14 : decode cX11_truncate 14 = .ok (.aload_n 0, 1) := by decide +kernel
theorem dX11_truncate_15 : decode cX11_truncate 15 = .ok (.dup, 1) := by decide +kernel
theorem dX11_truncate_16 : decode cX11_truncate 16 = .ok (.getfield 159, 3) := by decide +kernel
theorem dX11_truncate_19 : decode cX11_truncate 19 = .ok (.iload_n 1, 1) := by decide +kernel
theorem dX11_truncate_20 : decode cX11_truncate 20 = .ok (.isub, 1) := by decide +kernel
theorem dX11_truncate_21 : decode cX11_truncate 21 = .ok (.putfield 159, 3) := by decide +kernel
theorem dX11_truncate_24 : decode cX11_truncate 24 = .ok (.aload_n 0, 1) := by decide +kernel
theorem dX11_truncate_25 : decode cX11_truncate 25 = .ok (.getfield 159, 3) := by decide +kernel
theorem dX11_truncate_28 : decode cX11_truncate 28 = .ok (.ireturn, 1) := by decide +kernel
theorem dX11_load_0 : decode cX11_load 0 = .ok (.aload_n 0, 1) := by decide +kernel
theorem dX11_load_1 : decode cX11_load 1 = .ok (.invokevirtual 303, 3) := by decide +kernel
theorem dX11_load_4 : decode cX11_load 4 = .ok (.aload_n 0, 1) := by decide +kernel
theorem dX11_load_5 : decode cX11_load 5 = .ok (.getfield 220, 3) := by decide +kernel
theorem dX11_load_8 : decode cX11_load 8 = .ok (.istore_n 1, 1) := by decide +kernel
theorem dX11_load_9 : decode cX11_load 9 = .ok (.iconst 0, 1) := by decide +kernel
theorem dX11_load_10 : decode cX11_load 10 = .ok (.istore_n 2, 1) := by decide +kernel
theorem dX11_load_11 : decode cX11_load 11 = .ok (.iload_n 2, 1) := by decide +kernel
theorem dX11_load_12 : decode cX11_load 12 = .ok (.sipush 292, 3) := by decide +kernel
theorem dX11_load_15 : decode cX11_load 15 = .ok (.if_icmp .ge 28, 3) := by decide +kernel
theorem dX11_load_18 : decode cX11_load 18 = .ok (.aload_n 0, 1) := by decide +kernel
theorem dX11_load_19 : decode cX11_load 19 = .ok (.getfield 24, 3) := by decide +kernel
theorem dX11_load_22 : decode cX11_load 22 = .ok (.iload_n 2, 1) := by decide +kernel
theorem dX11_load_23 : decode cX11_load 23 = .ok (.iload_n 2, 1) := by decide +kernel
theorem dX11_load_24 : decode cX11_load 24 = .ok (.bipush 32, 2) := by decide +kernel
theorem dX11_load_26 : decode cX11_load 26 = .ok (.if_icmp .ge 9, 3) := by decide +kernel
theorem dX11_load_29 : decode cX11_load 29 = .ok (.ldc2_w 93, 3) := by decide +kernel
theorem dX11_load_32 : decode cX11_load 32 = .ok (.goto 4, 3) := by decide +kernel
theorem dX11_load_35 : decode cX11_load 35 = .ok (.lconst 0, 1) := by decide +kernel
theorem dX11_load_36 : decode cX11_load 36 = .ok (.lastore, 1) := by decide +kernel
theorem dX11_load_37 : decode cX11_load 37 = .ok (.iinc 2 1, 3) := by decide +kernel
theorem dX11_load_40 : decode cX11_load 40 = .ok (.goto (-29), 3) := by decide +kernel
theorem dX11_load_43 : decode cX11_load 43 = .ok (.aload_n 0, 1) := by decide +kernel
theorem dX11_load_44 : decode cX11_load 44 = .ok (.aload_n 0, 1) := by decide +kernel
theorem dX11_load_45 : decode cX11_load 45 = .ok (.ldc2_w 162, 3) := by decide +kernel
theorem dX11_load_48 : decode cX11_load 48 = .ok (.invokevirtual 235, 3) := by decide +kernel
theorem dX11_load_51 : decode cX11_load 51 = .ok (.invokevirtual 216, 3) := by decide +kernel
theorem dX11_load_54 : decode cX11_load 54 = .ok (.iconst 0, 1) := by decide +kernel
theorem dX11_load_55 : decode cX11_load 55 = .ok (.istore_n 2, 1) := by decide +kernel
theorem dX11_load_56 : decode cX11_load 56 = .ok (.iload_n 2, 1) := by decide +kernel
theorem dX11_load_57 : decode cX11_load 57 = .ok (.iconst 3, 1) := by decide +kernel
theorem dX11_load_58 : decode cX11_load 58 = .ok (.if_icmp .ge 32, 3) := by decide +kernel
theorem dX11_load_61 : decode cX11_load 61 = .ok (.aload_n 0, 1) := by decide +kernel
theorem dX11_load_62 : decode cX11_load 62 = .ok (.getfield 21, 3) := by decide +kernel
theorem dX11_load_65 : decode cX11_load 65 = .ok (.iload_n 2, 1) := by decide +kernel
theorem dX11_load_66 : decode cX11_load 66 = .ok (.aload_n 0, 1) := by decide +kernel
theorem dX11_load_67 : decode cX11_load 67 = .ok (.iload_n 2, 1) := by decide +kernel
theorem dX11_load_68 : decode cX11_load 68 = .ok (.iconst 2, 1) := by decide +kernel
theorem dX11_load_69 : decode cX11_load 69 = .ok (.if_icmp .ge 8, 3) := by decide +kernel
theorem dX11_load_72 : decode cX11_load 72 = .ok (.bipush 14, 2) := by decide +kernel
theorem dX11_load_74 : decode cX11_load 74 = .ok (.goto 4, 3) := by decide +kernel
theorem dX11_load_77 : decode cX11_load 77 = .ok (.iconst 1, 1) := by decide +kernel
theorem dX11_load_78 : decode cX11_load 78 = .ok (.bipush 60, 2) := by decide +kernel
theorem dX11_load_80 : decode cX11_load 80 = .ok (.invokevirtual 250, 3) := by decide +kernel
theorem dX11_load_83 : decode cX11_load 83 = .ok (.iastore, 1) := by decide +kernel
theorem dX11_load_84 : decode cX11_load 84 = .ok (.iinc 2 1, 3) := by decide +kernel
theorem dX11_load_87 : decode cX11_load 87 = .ok (.goto (-31), 3) := by decide +kernel
theorem dX11_load_90 : decode cX11_load 90 = .ok (.aload_n 0, 1) := by decide +kernel
theorem dX11_load_91 : decode cX11_load 91 = .ok (.aload_n 0, 1) := by decide +kernel
theorem dX11_load_92 : decode cX11_load 92 = .ok (.bipush 59, 2) := by decide +kernel
theorem dX11_load_94 : decode cX11_load 94 = .ok (.invokevirtual 238, 3) := by decide +kernel
theorem dX11_load_97 : decode cX11_load 97 = .ok (.invokevirtual 216, 3) := by decide +kernel
theorem dX11_load_100 : decode cX11_load 100 = .ok (.aload_n 0, 1) := by decide +kernel
theorem dX11_load_101 : decode cX11_load 101 = .ok (.getfield 209, 3) := by decide +kernel
theorem dX11_load_104 : decode cX11_load 104 = .ok (.ifCond .eq 9, 3) := by decide +kernel
theorem dX11_load_107 : decode cX11_load 107 = .ok (.aload_n 0, 1) := by decide +kernel
theorem dX11_load_108 : decode cX11_load 108 = .ok (.bipush (-2), 2) := by decide +kernel
theorem dX11_load_110 : decode cX11_load 110 = .ok (.invokevirtual 306, 3) := by decide +kernel
theorem dX11_load_113 : decode cX11_load 113 = .ok (.aload_n 0, 1) := by decide +kernel
theorem dX11_load_114 : decode cX11_load 114 = .ok (.invokevirtual 309, 3) := by decide +kernel
theorem dX11_load_117 : decode cX11_load 117 = .ok (.aload_n 0, 1) := by decide +kernel
theorem dX11_load_118 : decode cX11_load 118 = .ok (.iconst 0, 1) := by decide +kernel
theorem dX11_load_119 : decode cX11_load 119 = .ok (.putfield 159, 3) := by decide +kernel
theorem dX11_load_122 : decode cX11_load 122 = .ok (.aload_n 0, 1) := by decide +kernel
theorem dX11_load_123 : decode cX11_load 123 = .ok (.getfield 209, 3) := by decide +kernel
theorem dX11_load_126 : decode cX11_load 126 = .ok (.ifCond .ne 14, 3) := by decide +kernel
theorem dX11_load_129 : decode cX11_load 129 = .ok (.aload_n 0, 1) := by decide +kernel
theorem dX11_load_130 : decode cX11_load 130 = .ok (.invokevirtual 312, 3) := by decide +kernel
theorem dX11_load_133 : decode cX11_load 133 = .ok (.aload_n 0, 1) := by decide +kernel
theorem dX11_load_134 : decode cX11_load 134 = .ok (.iload_n 1, 1) := by decide +kernel
theorem dX11_load_135 : decode cX11_load 135 = .ok (.putfield 220, 3) := by decide +kernel
theorem dX11_load_138 : decode cX11_load 138 = .ok (.iconst (-1), 1) := by decide +kernel
theorem dX11_load_139 : decode cX11_load 139 = .ok (.ireturn, 1) := by decide +kernel
theorem dX11_load_140 : decode cX11_load 140 = .ok (.iconst 0, 1) := by decide +kernel
theorem dX11_load_141 : decode cX11_load 141 = .ok (.istore_n 2, 1) := by decide +kernel
theorem dX11_load_142 : decode cX11_load 142 = .ok (.iload_n 2, 1) := by decide +kernel
theorem dX11_load_143 : decode cX11_load 143 = .ok (.iconst 3, 1) := by decide +kernel
theorem dX11_load_144 : decode cX11_load 144 = .ok (.if_icmp .ge 21, 3) := by decide +kernel
theorem dX11_load_147 : decode cX11_load 147 = .ok (.aload_n 0, 1) := by decide +kernel
theorem dX11_load_148 : decode cX11_load 148 = .ok (.getfield 17, 3) := by decide +kernel
theorem dX11_load_151 : decode cX11_load 151 = .ok (.iload_n 2, 1) := by decide +kernel
theorem dX11_load_152 : decode cX11_load 152 = .ok (.aload_n 0, 1) := by decide +kernel
theorem dX11_load_153 : decode cX11_load 153 = .ok (.getfield 21, 3) := by decide +kernel
theorem dX11_load_156 : decode cX11_load 156 = .ok (.iload_n 2, 1) := by decide +kernel
theorem dX11_load_157 : decode cX11_load 157 = .ok (.iaload, 1) := by decide +kernel
theorem dX11_load_158 : decode cX11_load 158 = .ok (.iastore, 1) := by decide +kernel
theorem dX11_load_159 : decode cX11_load 159 = .ok (.iinc 2 1, 3) := by decide +kernel
theorem dX11_load_162 : decode cX11_load 162 = .ok (.goto (-20), 3) := by decide +kernel
theorem dX11_load_165 : decode cX11_load 165 = .ok (.sipush 292, 3) := by decide +kernel
theorem dX11_load_168 : decode cX11_load 168 = .ok (.istore_n 2, 1) := by decide +kernel
theorem dX11_load_169 : decode cX11_load 169 = .ok (.iload_n 2, 1) := by decide +kernel
theorem dX11_load_170 : decode cX11_load 170 = .ok (.sipush 2880, 3) := by decide +kernel
theorem dX11_load_173 : decode cX11_load 173 = .ok (.if_icmp .ge 16, 3) := by decide +kernel
theorem dX11_load_176 : decode cX11_load 176 = .ok (.aload_n 0, 1) := by decide +kernel
theorem dX11_load_177 : decode cX11_load 177 = .ok (.getfield 24, 3) := by decide +kernel
theorem dX11_load_180 : decode cX11_load 180 = .ok (.iload_n 2, 1) := by decide +kernel
theorem dX11_load_181 : decode cX11_load 181 = .ok (.lconst 0, 1) := by decide +kernel
theorem dX11_load_182 : decode cX11_load 182 = .ok (.lastore, 1) := by decide +kernel
theorem dX11_load_183 : decode cX11_load 183 = .ok (.iinc 2 1, 3) := by decide +kernel
theorem dX11_load_186 : decode cX11_load 186 = .ok (.goto (-17), 3) := by decide +kernel
theorem dX11_load_189 : decode cX11_load 189 = .ok (.aload_n 0, 1) := by decide +kernel
theorem dX11_load_190 : decode cX11_load 190 = .ok (.iconst 0, 1) := by decide +kernel
theorem dX11_load_191 : decode cX11_load 191 = .ok (.putfield 315, 3) := by decide +kernel
theorem dX11_load_194 : decode cX11_load 194 = .ok (.aload_n 0, 1) := by decide +kernel
theorem dX11_load_195 : decode cX11_load 195 = .ok (.iload_n 1, 1) := by decide +kernel
theorem dX11_load_196 : decode cX11_load 196 = .ok (.invokevirtual 318, 3) := by decide +kernel
theorem dX11_load_199 : decode cX11_load 199 = .ok (.aload_n 0, 1) := by decide +kernel
theorem dX11_load_200 : decode cX11_load 200 = .ok (.invokevirtual 321, 3) := by decide +kernel
theorem dX11_load_203 : decode cX11_load 203 = .ok (.ireturn, 1) := by decide +kernel
theorem dX11_packs_0 : decode cX11_packs 0 = .ok (.iload_n 1, 1) := by decide +kernel
theorem dX11_packs_1 : decode cX11_packs 1 = .ok (.istore_n 2, 1) := by decide +kernel
theorem dX11_packs_2 : decode cX11_packs 2 = .ok (.iload_n 2, 1) := by decide +kernel
theorem dX11_packs_3 : decode cX11_packs 3 = .ok (.aload_n 0, 1) := by decide +kernel
theorem dX11_packs_4 : decode cX11_packs 4 = .ok (.getfield 220, 3) := by decide +kernel
theorem dX11_packs_7 : decode cX11_packs 7 = .ok (.if_icmp .ge 23, 3) := by decide +kernel
theorem dX11_packs_10 : decode cX11_packs 10 = .ok (.aload_n 0, 1) := by decide +kernel
theorem dX11_packs_11 : decode cX11_packs 11 = .ok (.getfield 34, 3) := by decide +kernel
theorem dX11_packs_14 : decode cX11_packs 14 = .ok (.iload_n 2, 1) := by decide +kernel
theorem dX11_packs_15 : decode cX11_packs 15 = .ok (.iload_n 1, 1) := by decide +kernel
theorem dX11_packs_16 : decode cX11_packs 16 = .ok (.isub, 1) := by decide +kernel
theorem dX11_packs_17 : decode cX11_packs 17 = .ok (.aload_n 0, 1) := by decide +kernel
theorem dX11_packs_18 : decode cX11_packs 18 = .ok (.getfield 34, 3) := by decide +kernel
theorem dX11_packs_21 : decode cX11_packs 21 = .ok (.iload_n 2, 1) := by decide +kernel
theorem dX11_packs_22 : decode cX11_packs 22 = .ok (.iaload, 1) := by decide +kernel
theorem dX11_packs_23 : decode cX11_packs 23 = .ok (.iastore, 1) := by decide +kernel
theorem dX11_packs_24 : decode cX11_packs 24 = .ok (.iinc 2 1, 3) := by decide +kernel
theorem dX11_packs_27 : decode cX11_packs 27 = .ok (.goto (-25), 3) := by decide +kernel
theorem dX11_packs_30 : decode cX11_packs 30 = .ok (.aload_n 0, 1) := by decide +kernel
theorem dX11_packs_31 : decode cX11_packs 31 = .ok (.dup, 1) := by decide +kernel
theorem dX11_packs_32 : decode cX11_packs 32 = .ok (.getfield 220, 3) := by decide +kernel
theorem dX11_packs_35 : decode cX11_packs 35 = .ok (.iload_n 1, 1) := by decide +kernel
theorem dX11_packs_36 : decode cX11_packs 36 = .ok (.isub, 1) := by decide +kernel
theorem dX11_packs_37 : decode cX11_packs 37 = .ok (.putfield 220, 3) := by decide +kernel
theorem dX11_packs_40 : decode cX11_packs 40 = .ok (.iconst 0, 1) := by decide +kernel
theorem dX11_packs_41 : decode cX11_packs 41 = .ok (.istore_n 2, 1) := by decide +kernel
theorem dX11_packs_42 : decode cX11_packs 42 = .ok (.iload_n 2, 1) := by decide +kernel
theorem dX11_packs_43 : decode cX11_packs 43 = .ok (.bipush 32, 2) := by decide +kernel
theorem dX11_packs_45 : decode cX11_packs 45 = .ok (.if_icmp .ge 43, 3) := by decide +kernel
theorem dX11_packs_48 : decode cX11_packs 48 = .ok (.aload_n 0, 1) := by decide +kernel
theorem dX11_packs_49 : decode cX11_packs 49 = .ok (.getfield 24, 3) := by decide +kernel
theorem dX11_packs_52 : decode cX11_packs 52 = .ok (.sipush 192, 3) := by decide +kernel
theorem dX11_packs_55 : decode cX11_packs 55 = .ok (.iload_n 2, 1) := by decide +kernel
theorem dX11_packs_56 : decode cX11_packs 56 = .ok (.iadd, 1) := by decide +kernel
theorem dX11_packs_57 : decode cX11_packs 57 = .ok (.dup2, 1) := by decide +kernel
theorem dX11_packs_58 : decode cX11_packs 58 = .ok (.laload, 1) := by decide +kernel
theorem dX11_packs_59 : decode cX11_packs 59 = .ok (.aload_n 0, 1) := by decide +kernel
theorem dX11_packs_60 : decode cX11_packs 60 = .ok (.getfield 24, 3) := by decide +kernel
theorem dX11_packs_63 : decode cX11_packs 63 = .ok (.sipush 224, 3) := by decide +kernel
theorem dX11_packs_66 : decode cX11_packs 66 = .ok (.iload_n 2, 1) := by decide +kernel
theorem dX11_packs_67 : decode cX11_packs 67 = .ok (.iadd, 1) := by decide +kernel
theorem dX11_packs_68 : decode cX11_packs 68 = .ok (.laload, 1) := by decide +kernel
theorem dX11_packs_69 : decode cX11_packs 69 = .ok (.lconst 0, 1) := by decide +kernel
theorem dX11_packs_70 : decode cX11_packs 70 = .ok (.lcmp, 1) := by decide +kernel
theorem dX11_packs_71 : decode cX11_packs 71 = .ok (.ifCond .le 8, 3) := by decide +kernel
theorem dX11_packs_74 : decode cX11_packs 74 = .ok (.iload_n 1, 1) := by decide +kernel
theorem dX11_packs_75 : decode cX11_packs 75 = .ok (.i2l, 1) := by decide +kernel
theorem dX11_packs_76 : decode cX11_packs 76 = .ok (.goto 4, 3) := by decide +kernel
theorem dX11_packs_79 : decode cX11_packs 79 = .ok (.lconst 0, 1) := by decide +kernel
theorem dX11_packs_80 : decode cX11_packs 80 = .ok (.lsub, 1) := by decide +kernel
theorem dX11_packs_81 : decode cX11_packs 81 = .ok (.lastore, 1) := by decide +kernel
theorem dX11_packs_82 : decode cX11_packs 82 = .ok (.iinc 2 1, 3) := by decide +kernel
theorem dX11_packs_85 : decode cX11_packs 85 = .ok (.goto (-43), 3) := by decide +kernel
theorem dX11_packs_88 : decode cX11_packs 88 = .ok (.return_, 1) := by decide +kernel
theorem dX11_fieldMany_0 : decode cX11_fieldMany 0 = .ok (.iconst 0, 1) := by decide +kernel
theorem dX11_fieldMany_1 : decode cX11_fieldMany 1 = .ok (.istore_n 1, 1) := by decide +kernel
theorem dX11_fieldMany_2 : decode cX11_fieldMany 2 = .ok (.iconst 0, 1) := by decide +kernel
theorem dX11_fieldMany_3 : decode cX11_fieldMany 3 = .ok (.istore_n 2, 1) := by decide +kernel
theorem dX11_fieldMany_4 : decode cX11_fieldMany 4 = .ok (.iload_n 2, 1) := by decide +kernel
theorem dX11_fieldMany_5 : decode cX11_fieldMany 5 = .ok (.bipush 24, 2) := by decide +kernel
theorem dX11_fieldMany_7 : decode cX11_fieldMany 7 = .ok (.if_icmp .ge 26, 3) := by decide +kernel
theorem dX11_fieldMany_10 : decode cX11_fieldMany 10 = .ok (.iload_n 1, 1) := by decide +kernel
theorem dX11_fieldMany_11 : decode cX11_fieldMany 11 = .ok (.aload_n 0, 1) := by decide +kernel
theorem dX11_fieldMany_12 : decode cX11_fieldMany 12 = .ok (.iconst 0, 1) := by decide +kernel
theorem dX11_fieldMany_13 : decode cX11_fieldMany 13 = .ok (.iload_n 2, 1) := by decide +kernel
theorem dX11_fieldMany_14 : decode cX11_fieldMany 14 = .ok (.invokevirtual 99, 3) := by decide +kernel
theorem dX11_fieldMany_17 : decode cX11_fieldMany 17 = .ok (.ifCond .eq 7, 3) := by decide +kernel
theorem dX11_fieldMany_20 : decode cX11_fieldMany 20 = .ok (.iconst 1, 1) := by decide +kernel
theorem dX11_fieldMany_21 : decode cX11_fieldMany 21 = .ok (.goto 4, 3) := by decide +kernel
theorem dX11_fieldMany_24 : decode cX11_fieldMany 24 = .ok (.iconst 0, 1) := by decide +kernel
theorem dX11_fieldMany_25 : decode cX11_fieldMany 25 = .ok (.iadd, 1) := by decide +kernel
theorem dX11_fieldMany_26 : decode cX11_fieldMany 26 = .ok (.istore_n 1, 1) := by decide +kernel
theorem dX11_fieldMany_27 : decode cX11_fieldMany 27 = .ok (.iinc 2 1, 3) := by decide +kernel
theorem dX11_fieldMany_30 : decode cX11_fieldMany 30 = .ok (.goto (-26), 3) := by decide +kernel
theorem dX11_fieldMany_33 : decode cX11_fieldMany 33 = .ok (.iload_n 1, 1) := by decide +kernel
theorem dX11_fieldMany_34 : decode cX11_fieldMany 34 = .ok (.ireturn, 1) := by decide +kernel
theorem dX11_isGroup_0 : decode cX11_isGroup 0 = .ok (.iload_n 1, 1) := by decide +kernel
theorem dX11_isGroup_1 : decode cX11_isGroup 1 = .ok (.bipush (-2), 2) := by decide +kernel
theorem dX11_isGroup_3 : decode cX11_isGroup 3 = .ok (.if_icmp .eq 24, 3) := by decide +kernel
theorem dX11_isGroup_6 : decode cX11_isGroup 6 = .ok (.iload_n 1, 1) := by decide +kernel
theorem dX11_isGroup_7 : decode cX11_isGroup 7 = .ok (.iconst 0, 1) := by decide +kernel
theorem dX11_isGroup_8 : decode cX11_isGroup 8 = .ok (.bipush 7, 2) := by decide +kernel
theorem dX11_isGroup_10 : decode cX11_isGroup 10 = .ok (.invokestatic 95, 3) := by decide +kernel
theorem dX11_isGroup_13 : decode cX11_isGroup 13 = .ok (.ifCond .eq 18, 3) := by decide +kernel
theorem dX11_isGroup_16 : decode cX11_isGroup 16 = .ok (.aload_n 0, 1) := by decide +kernel
theorem dX11_isGroup_17 : decode cX11_isGroup 17 = .ok (.bipush 24, 2) := by decide +kernel
theorem dX11_isGroup_19 : decode cX11_isGroup 19 = .ok (.iload_n 1, 1) := by decide +kernel
theorem dX11_isGroup_20 : decode cX11_isGroup 20 = .ok (.iadd, 1) := by decide +kernel
theorem dX11_isGroup_21 : decode cX11_isGroup 21 = .ok (.invokevirtual 103, 3) := by decide +kernel
theorem dX11_isGroup_24 : decode cX11_isGroup 24 = .ok (.ifCond .eq 7, 3) := by decide +kernel
theorem dX11_isGroup_27 : decode cX11_isGroup 27 = .ok (.iconst 1, 1) := by decide +kernel
theorem dX11_isGroup_28 : decode cX11_isGroup 28 = .ok (.goto 4, 3) := by decide +kernel
theorem dX11_isGroup_31 : decode cX11_isGroup 31 = .ok (.iconst 0, 1) := by decide +kernel
theorem dX11_isGroup_32 : decode cX11_isGroup 32 = .ok (.ireturn, 1) := by decide +kernel
theorem dX11_insert_0 : decode cX11_insert 0 = .ok (.aload_n 0, 1) := by decide +kernel
theorem dX11_insert_1 : decode cX11_insert 1 = .ok (.iload_n 1, 1) := by decide +kernel
theorem dX11_insert_2 : decode cX11_insert 2 = .ok (.invokevirtual 325, 3) := by decide +kernel
theorem dX11_insert_5 : decode cX11_insert 5 = .ok (.ifCond .ne 5, 3) := by decide +kernel
theorem dX11_insert_8 : decode cX11_insert 8 = .ok (.iconst (-1), 1) := by decide +kernel
theorem dX11_insert_9 : decode cX11_insert 9 = .ok (.ireturn, 1) := by decide +kernel
theorem dX11_insert_10 : decode cX11_insert 10 = .ok (.aload_n 0, 1) := by decide +kernel
theorem dX11_insert_11 : decode cX11_insert 11 = .ok (.invokevirtual 303, 3) := by decide +kernel
theorem dX11_insert_14 : decode cX11_insert 14 = .ok (.aload_n 0, 1) := by decide +kernel
theorem dX11_insert_15 : decode cX11_insert 15 = .ok (.getfield 220, 3) := by decide +kernel
theorem dX11_insert_18 : decode cX11_insert 18 = .ok (.istore_n 2, 1) := by decide +kernel
theorem dX11_insert_19 : decode cX11_insert 19 = .ok (.aload_n 0, 1) := by decide +kernel
theorem dX11_insert_20 : decode cX11_insert 20 = .ok (.iconst 0, 1) := by decide +kernel
theorem dX11_insert_21 : decode cX11_insert 21 = .ok (.invokevirtual 118, 3) := by decide +kernel
theorem dX11_insert_24 : decode cX11_insert 24 = .ok (.istore_n 3, 1) := by decide +kernel
theorem dX11_insert_25 : decode cX11_insert 25 = .ok (.aload_n 0, 1) := by decide +kernel
theorem dX11_insert_26 : decode cX11_insert 26 = .ok (.invokevirtual 321, 3) := by decide +kernel
theorem dX11_insert_29 : decode cX11_insert 29 = .ok (.istore 4, 2) := by decide +kernel
theorem dX11_insert_31 : decode cX11_insert 31 = .ok (.aload_n 0, 1) := by decide +kernel
theorem dX11_insert_32 : decode cX11_insert 32 = .ok (.iload_n 1, 1) := by decide +kernel
theorem dX11_insert_33 : decode cX11_insert 33 = .ok (.invokestatic 328, 3) := by decide +kernel
theorem dX11_insert_36 : decode cX11_insert 36 = .ok (.invokevirtual 306, 3) := by decide +kernel
theorem dX11_insert_39 : decode cX11_insert 39 = .ok (.aload_n 0, 1) := by decide +kernel
theorem dX11_insert_40 : decode cX11_insert 40 = .ok (.invokevirtual 309, 3) := by decide +kernel
theorem dX11_insert_43 : decode cX11_insert 43 = .ok (.aload_n 0, 1) := by decide +kernel
theorem dX11_insert_44 : decode cX11_insert 44 = .ok (.iconst 0, 1) := by decide +kernel
theorem dX11_insert_45 : decode cX11_insert 45 = .ok (.putfield 159, 3) := by decide +kernel
theorem dX11_insert_48 : decode cX11_insert 48 = .ok (.aload_n 0, 1) := by decide +kernel
theorem dX11_insert_49 : decode cX11_insert 49 = .ok (.invokevirtual 321, 3) := by decide +kernel
theorem dX11_insert_52 : decode cX11_insert 52 = .ok (.iload 4, 2) := by decide +kernel
theorem dX11_insert_54 : decode cX11_insert 54 = .ok (.isub, 1) := by decide +kernel
theorem dX11_insert_55 : decode cX11_insert 55 = .ok (.istore 5, 2) := by decide +kernel
theorem dX11_insert_57 : decode cX11_insert 57 = .ok (.aload_n 0, 1) := by decide +kernel
theorem dX11_insert_58 : decode cX11_insert 58 = .ok (.iconst 0, 1) := by decide +kernel
theorem dX11_insert_59 : decode cX11_insert 59 = .ok (.invokevirtual 118, 3) := by decide +kernel
theorem dX11_insert_62 : decode cX11_insert 62 = .ok (.iload_n 3, 1) := by decide +kernel
theorem dX11_insert_63 : decode cX11_insert 63 = .ok (.if_icmp .ne 7, 3) := by decide +kernel
theorem dX11_insert_66 : decode cX11_insert 66 = .ok (.iconst 1, 1) := by decide +kernel
theorem dX11_insert_67 : decode cX11_insert 67 = .ok (.goto 4, 3) := by decide +kernel
theorem dX11_insert_70 : decode cX11_insert 70 = .ok (.iconst 0, 1) := by decide +kernel
theorem dX11_insert_71 : decode cX11_insert 71 = .ok (.istore 6, 2) := by decide +kernel
theorem dX11_insert_73 : decode cX11_insert 73 = .ok (.aload_n 0, 1) := by decide +kernel
theorem dX11_insert_74 : decode cX11_insert 74 = .ok (.getfield 209, 3) := by decide +kernel
theorem dX11_insert_77 : decode cX11_insert 77 = .ok (.ifCond .eq 8, 3) := by decide +kernel
theorem dX11_insert_80 : decode cX11_insert 80 = .ok (.iload 6, 2) := by decide +kernel
theorem dX11_insert_82 : decode cX11_insert 82 = .ok (.ifCond .eq 26, 3) := by decide +kernel
theorem dX11_insert_85 : decode cX11_insert 85 = .ok (.aload_n 0, 1) := by decide +kernel
theorem dX11_insert_86 : decode cX11_insert 86 = .ok (.invokevirtual 312, 3) := by decide +kernel
theorem dX11_insert_89 : decode cX11_insert 89 = .ok (.aload_n 0, 1) := by decide +kernel
theorem dX11_insert_90 : decode cX11_insert 90 = .ok (.iload_n 2, 1) := by decide +kernel
theorem dX11_insert_91 : decode cX11_insert 91 = .ok (.putfield 220, 3) := by decide +kernel
theorem dX11_insert_94 : decode cX11_insert 94 = .ok (.aload_n 0, 1) := by decide +kernel
theorem dX11_insert_95 : decode cX11_insert 95 = .ok (.getfield 209, 3) := by decide +kernel
theorem dX11_insert_98 : decode cX11_insert 98 = .ok (.ifCond .eq 8, 3) := by decide +kernel
theorem dX11_insert_101 : decode cX11_insert 101 = .ok (.bipush (-2), 2) := by decide +kernel
theorem dX11_insert_103 : decode cX11_insert 103 = .ok (.goto 4, 3) := by decide +kernel
theorem dX11_insert_106 : decode cX11_insert 106 = .ok (.iconst (-1), 1) := by decide +kernel
theorem dX11_insert_107 : decode cX11_insert 107 = .ok (.ireturn, 1) := by decide +kernel
theorem dX11_insert_108 : decode cX11_insert 108 = .ok (.aload_n 0, 1) := by decide +kernel
theorem dX11_insert_109 : decode cX11_insert 109 = .ok (.invokevirtual 331, 3) := by decide +kernel
theorem dX11_insert_112 : decode cX11_insert 112 = .ok (.aload_n 0, 1) := by decide +kernel
theorem dX11_insert_113 : decode cX11_insert 113 = .ok (.invokevirtual 334, 3) := by decide +kernel
theorem dX11_insert_116 : decode cX11_insert 116 = .ok (.aload_n 0, 1) := by decide +kernel
theorem dX11_insert_117 : decode cX11_insert 117 = .ok (.invokevirtual 312, 3) := by decide +kernel
theorem dX11_insert_120 : decode cX11_insert 120 = .ok (.iload 5, 2) := by decide +kernel
theorem dX11_insert_122 : decode cX11_insert 122 = .ok (.ireturn, 1) := by decide +kernel
theorem dX11_setCondition_0 : decode cX11_setCondition 0 = .ok (.aload_n 0, 1) := by decide +kernel
theorem dX11_setCondition_1 : decode cX11_setCondition 1 = .ok (.iload_n 1, 1) := by decide +kernel
theorem dX11_setCondition_2 : decode cX11_setCondition 2 = .ok (.invokevirtual 103, 3) := by decide +kernel
theorem dX11_setCondition_5 : decode cX11_setCondition 5 = .ok (.ifCond .ne 5, 3) := by decide +kernel
theorem dX11_setCondition_8 : decode cX11_setCondition 8 = .ok (.iconst (-1), 1) := by decide +kernel
theorem dX11_setCondition_9 : decode cX11_setCondition 9 = .ok (.ireturn, 1) := by decide +kernel
theorem dX11_setCondition_10 : decode cX11_setCondition 10 = .ok (.aload_n 0, 1) := by decide +kernel
theorem dX11_setCondition_11 : decode cX11_setCondition 11 = .ok (.invokevirtual 303, 3) := by decide +kernel
theorem dX11_setCondition_14 : decode cX11_setCondition 14 = .ok (.aload_n 0, 1) := by decide +kernel
theorem dX11_setCondition_15 : decode cX11_setCondition 15 = .ok (.getfield 220, 3) := by decide +kernel
theorem dX11_setCondition_18 : decode cX11_setCondition 18 = .ok (.istore_n 2, 1) := by decide +kernel
theorem dX11_setCondition_19 : decode cX11_setCondition 19 = .ok (.aload_n 0, 1) := by decide +kernel
theorem dX11_setCondition_20 : decode cX11_setCondition 20 = .ok (.getfield 24, 3) := by decide +kernel
theorem dX11_setCondition_23 : decode cX11_setCondition 23 = .ok (.sipush 192, 3) := by decide +kernel
theorem dX11_setCondition_26 : decode cX11_setCondition 26 = .ok (.iload_n 1, 1) := by decide +kernel
theorem dX11_setCondition_27 : decode cX11_setCondition 27 = .ok (.iadd, 1) := by decide +kernel
theorem dX11_setCondition_28 : decode cX11_setCondition 28 = .ok (.lconst 0, 1) := by decide +kernel
theorem dX11_setCondition_29 : decode cX11_setCondition 29 = .ok (.lastore, 1) := by decide +kernel
theorem dX11_setCondition_30 : decode cX11_setCondition 30 = .ok (.aload_n 0, 1) := by decide +kernel
theorem dX11_setCondition_31 : decode cX11_setCondition 31 = .ok (.getfield 24, 3) := by decide +kernel
theorem dX11_setCondition_34 : decode cX11_setCondition 34 = .ok (.sipush 224, 3) := by decide +kernel
theorem dX11_setCondition_37 : decode cX11_setCondition 37 = .ok (.iload_n 1, 1) := by decide +kernel
theorem dX11_setCondition_38 : decode cX11_setCondition 38 = .ok (.iadd, 1) := by decide +kernel
theorem dX11_setCondition_39 : decode cX11_setCondition 39 = .ok (.lconst 0, 1) := by decide +kernel
theorem dX11_setCondition_40 : decode cX11_setCondition 40 = .ok (.lastore, 1) := by decide +kernel
theorem dX11_setCondition_41 : decode cX11_setCondition 41 = .ok (.aload_n 0, 1) := by decide +kernel
theorem dX11_setCondition_42 : decode cX11_setCondition 42 = .ok (.getfield 192, 3) := by decide +kernel
theorem dX11_setCondition_45 : decode cX11_setCondition 45 = .ok (.ifCond .eq 8, 3) := by decide +kernel
theorem dX11_setCondition_48 : decode cX11_setCondition 48 = .ok (.aload_n 0, 1) := by decide +kernel
theorem dX11_setCondition_49 : decode cX11_setCondition 49 = .ok (.iload_n 1, 1) := by decide +kernel
theorem dX11_setCondition_50 : decode cX11_setCondition 50 = .ok (.invokevirtual 279, 3) := by decide +kernel
theorem dX11_setCondition_53 : decode cX11_setCondition 53 = .ok (.aload_n 0, 1) := by decide +kernel
theorem dX11_setCondition_54 : decode cX11_setCondition 54 = .ok (.aload_n 0, 1) := by decide +kernel
theorem dX11_setCondition_55 : decode cX11_setCondition 55 = .ok (.getfield 192, 3) := by decide +kernel
theorem dX11_setCondition_58 : decode cX11_setCondition 58 = .ok (.ifCond .ne 7, 3) := by decide +kernel
theorem dX11_setCondition_61 : decode cX11_setCondition 61 = .ok (.iconst 1, 1) := by decide +kernel
theorem dX11_setCondition_62 : decode cX11_setCondition 62 = .ok (.goto 4, 3) := by decide +kernel
theorem dX11_setCondition_65 : decode cX11_setCondition 65 = .ok (.iconst 0, 1) := by decide +kernel
theorem dX11_setCondition_66 : decode cX11_setCondition 66 = .ok (.invokevirtual 262, 3) := by decide +kernel
theorem dX11_setCondition_69 : decode cX11_setCondition 69 = .ok (.aload_n 0, 1) := by decide +kernel
theorem dX11_setCondition_70 : decode cX11_setCondition 70 = .ok (.invokevirtual 309, 3) := by decide +kernel
theorem dX11_setCondition_73 : decode cX11_setCondition 73 = .ok (.aload_n 0, 1) := by decide +kernel
theorem dX11_setCondition_74 : decode cX11_setCondition 74 = .ok (.iconst 0, 1) := by decide +kernel
theorem dX11_setCondition_75 : decode cX11_setCondition 75 = .ok (.putfield 159, 3) := by decide +kernel
theorem dX11_setCondition_78 : decode cX11_setCondition 78 = .ok (.aload_n 0, 1) := by decide +kernel
theorem dX11_setCondition_79 : decode cX11_setCondition 79 = .ok (.getfield 209, 3) := by decide +kernel
theorem dX11_setCondition_82 : decode cX11_setCondition 82 = .ok (.ifCond .ne 14, 3) := by decide +kernel
theorem dX11_setCondition_85 : decode cX11_setCondition 85 = .ok (.aload_n 0, 1) := by decide +kernel
theorem dX11_setCondition_86 : decode cX11_setCondition 86 = .ok (.invokevirtual 312, 3) := by decide +kernel
theorem dX11_setCondition_89 : decode cX11_setCondition 89 = .ok (.aload_n 0, 1) := by decide +kernel
theorem dX11_setCondition_90 : decode cX11_setCondition 90 = .ok (.iload_n 2, 1) := by decide +kernel
theorem dX11_setCondition_91 : decode cX11_setCondition 91 = .ok (.putfield 220, 3) := by decide +kernel
theorem dX11_setCondition_94 : decode cX11_setCondition 94 = .ok (.iconst (-1), 1) := by decide +kernel
theorem dX11_setCondition_95 : decode cX11_setCondition 95 = .ok (.ireturn, 1) := by decide +kernel
theorem dX11_setCondition_96 : decode cX11_setCondition 96 = .ok (.aload_n 0, 1) := by decide +kernel
theorem dX11_setCondition_97 : decode cX11_setCondition 97 = .ok (.invokevirtual 331, 3) := by decide +kernel
theorem dX11_setCondition_100 : decode cX11_setCondition 100 = .ok (.aload_n 0, 1) := by decide +kernel
theorem dX11_setCondition_101 : decode cX11_setCondition 101 = .ok (.invokevirtual 334, 3) := by decide +kernel
theorem dX11_setCondition_104 : decode cX11_setCondition 104 = .ok (.aload_n 0, 1) := by decide +kernel
theorem dX11_setCondition_105 : decode cX11_setCondition 105 = .ok (.invokevirtual 312, 3) := by decide +kernel
theorem dX11_setCondition_108 : decode cX11_setCondition 108 = .ok (.aload_n 0, 1) := by decide +kernel
theorem dX11_setCondition_109 : decode cX11_setCondition 109 = .ok (.iconst 0, 1) := by decide +kernel
theorem dX11_setCondition_110 : decode cX11_setCondition 110 = .ok (.iload_n 1, 1) := by decide +kernel
theorem dX11_setCondition_111 : decode cX11_setCondition 111 = .ok (.invokevirtual 337, 3) := by decide +kernel
theorem dX11_setCondition_114 : decode cX11_setCondition 114 = .ok (.ireturn, 1) := by decide +kernel
theorem dX11_errorPosition_0 : decode cX11_errorPosition 0 = .ok (.aload_n 0, 1) := by decide +kernel
theorem dX11_errorPosition_1 : decode cX11_errorPosition 1 = .ok (.getfield 13, 3) := by decide +kernel
theorem dX11_errorPosition_4 : decode cX11_errorPosition 4 = .ok (.ireturn, 1) := by decide +kernel
theorem dX11_keeps_0 : decode cX11_keeps 0 = .ok (.aload_n 0, 1) := by decide +kernel
theorem dX11_keeps_1 : decode cX11_keeps 1 = .ok (.getfield 315, 3) := by decide +kernel
theorem dX11_keeps_4 : decode cX11_keeps 4 = .ok (.bipush 10, 2) := by decide +kernel
theorem dX11_keeps_6 : decode cX11_keeps 6 = .ok (.if_icmp .ne 46, 3) := by decide +kernel
theorem dX11_keeps_9 : decode cX11_keeps 9 = .ok (.sipush 2880, 3) := by decide +kernel
theorem dX11_keeps_12 : decode cX11_keeps 12 = .ok (.istore_n 1, 1) := by decide +kernel
theorem dX11_keeps_13 : decode cX11_keeps 13 = .ok (.iload_n 1, 1) := by decide +kernel
theorem dX11_keeps_14 : decode cX11_keeps 14 = .ok (.sipush 28800, 3) := by decide +kernel
theorem dX11_keeps_17 : decode cX11_keeps 17 = .ok (.if_icmp .ge 25, 3) := by decide +kernel
theorem dX11_keeps_20 : decode cX11_keeps 20 = .ok (.aload_n 0, 1) := by decide +kernel
theorem dX11_keeps_21 : decode cX11_keeps 21 = .ok (.getfield 31, 3) := by decide +kernel
theorem dX11_keeps_24 : decode cX11_keeps 24 = .ok (.iload_n 1, 1) := by decide +kernel
theorem dX11_keeps_25 : decode cX11_keeps 25 = .ok (.sipush 2880, 3) := by decide +kernel
theorem dX11_keeps_28 : decode cX11_keeps 28 = .ok (.isub, 1) := by decide +kernel
theorem dX11_keeps_29 : decode cX11_keeps 29 = .ok (.aload_n 0, 1) := by decide +kernel
theorem dX11_keeps_30 : decode cX11_keeps 30 = .ok (.getfield 31, 3) := by decide +kernel
theorem dX11_keeps_33 : decode cX11_keeps 33 = .ok (.iload_n 1, 1) := by decide +kernel
theorem dX11_keeps_34 : decode cX11_keeps 34 = .ok (.laload, 1) := by decide +kernel
theorem dX11_keeps_35 : decode cX11_keeps 35 = .ok (.lastore, 1) := by decide +kernel
theorem dX11_keeps_36 : decode cX11_keeps 36 = .ok (.iinc 1 1, 3) := by decide +kernel
theorem dX11_keeps_39 : decode cX11_keeps 39 = .ok (.goto (-26), 3) := by decide +kernel
theorem dX11_keeps_42 : decode cX11_keeps 42 = .ok (.aload_n 0, 1) := by decide +kernel
theorem dX11_keeps_43 : decode cX11_keeps 43 = .ok (.dup, 1) := by decide +kernel
theorem dX11_keeps_44 : decode cX11_keeps 44 = .ok (.getfield 315, 3) := by decide +kernel
theorem dX11_keeps_47 : decode cX11_keeps 47 = .ok (.iconst 1, 1) := by decide +kernel
theorem dX11_keeps_48 : decode cX11_keeps 48 = .ok (.isub, 1) := by decide +kernel
theorem dX11_keeps_49 : decode cX11_keeps 49 = .ok (.putfield 315, 3) := by decide +kernel
theorem dX11_keeps_52 : decode cX11_keeps 52 = .ok (.iconst 0, 1) := by decide +kernel
theorem dX11_keeps_53 : decode cX11_keeps 53 = .ok (.istore_n 1, 1) := by decide +kernel
theorem dX11_keeps_54 : decode cX11_keeps 54 = .ok (.iload_n 1, 1) := by decide +kernel
theorem dX11_keeps_55 : decode cX11_keeps 55 = .ok (.sipush 2880, 3) := by decide +kernel
theorem dX11_keeps_58 : decode cX11_keeps 58 = .ok (.if_icmp .ge 30, 3) := by decide +kernel
theorem dX11_keeps_61 : decode cX11_keeps 61 = .ok (.aload_n 0, 1) := by decide +kernel
theorem dX11_keeps_62 : decode cX11_keeps 62 = .ok (.getfield 31, 3) := by decide +kernel
theorem dX11_keeps_65 : decode cX11_keeps 65 = .ok (.sipush 2880, 3) := by decide +kernel
theorem dX11_keeps_68 : decode cX11_keeps 68 = .ok (.aload_n 0, 1) := by decide +kernel
theorem dX11_keeps_69 : decode cX11_keeps 69 = .ok (.getfield 315, 3) := by decide +kernel
theorem dX11_keeps_72 : decode cX11_keeps 72 = .ok (.imul, 1) := by decide +kernel
theorem dX11_keeps_73 : decode cX11_keeps 73 = .ok (.iload_n 1, 1) := by decide +kernel
theorem dX11_keeps_74 : decode cX11_keeps 74 = .ok (.iadd, 1) := by decide +kernel
theorem dX11_keeps_75 : decode cX11_keeps 75 = .ok (.aload_n 0, 1) := by decide +kernel
theorem dX11_keeps_76 : decode cX11_keeps 76 = .ok (.getfield 24, 3) := by decide +kernel
theorem dX11_keeps_79 : decode cX11_keeps 79 = .ok (.iload_n 1, 1) := by decide +kernel
theorem dX11_keeps_80 : decode cX11_keeps 80 = .ok (.laload, 1) := by decide +kernel
theorem dX11_keeps_81 : decode cX11_keeps 81 = .ok (.lastore, 1) := by decide +kernel
theorem dX11_keeps_82 : decode cX11_keeps 82 = .ok (.iinc 1 1, 3) := by decide +kernel
theorem dX11_keeps_85 : decode cX11_keeps 85 = .ok (.goto (-31), 3) := by decide +kernel
theorem dX11_keeps_88 : decode cX11_keeps 88 = .ok (.aload_n 0, 1) := by decide +kernel
theorem dX11_keeps_89 : decode cX11_keeps 89 = .ok (.dup, 1) := by decide +kernel
theorem dX11_keeps_90 : decode cX11_keeps 90 = .ok (.getfield 315, 3) := by decide +kernel
theorem dX11_keeps_93 : decode cX11_keeps 93 = .ok (.iconst 1, 1) := by decide +kernel
theorem dX11_keeps_94 : decode cX11_keeps 94 = .ok (.iadd, 1) := by decide +kernel
theorem dX11_keeps_95 : decode cX11_keeps 95 = .ok (.putfield 315, 3) := by decide +kernel
theorem dX11_keeps_98 : decode cX11_keeps 98 = .ok (.return_, 1) := by decide +kernel
theorem dX11_undo_0 : decode cX11_undo 0 = .ok (.aload_n 0, 1) := by decide +kernel
theorem dX11_undo_1 : decode cX11_undo 1 = .ok (.getfield 315, 3) := by decide +kernel
theorem dX11_undo_4 : decode cX11_undo 4 = .ok (.ifCond .ne 5, 3) := by decide +kernel
theorem dX11_undo_7 : decode cX11_undo 7 = .ok (.iconst (-1), 1) := by decide +kernel
theorem dX11_undo_8 : decode cX11_undo 8 = .ok (.ireturn, 1) := by decide +kernel
theorem dX11_undo_9 : decode cX11_undo 9 = .ok (.aload_n 0, 1) := by decide +kernel
theorem dX11_undo_10 : decode cX11_undo 10 = .ok (.dup, 1) := by decide +kernel
theorem dX11_undo_11 : decode cX11_undo 11 = .ok (.getfield 315, 3) := by decide +kernel
theorem dX11_undo_14 : decode cX11_undo 14 = .ok (.iconst 1, 1) := by decide +kernel
theorem dX11_undo_15 : decode cX11_undo 15 = .ok (.isub, 1) := by decide +kernel
theorem dX11_undo_16 : decode cX11_undo 16 = .ok (.putfield 315, 3) := by decide +kernel
theorem dX11_undo_19 : decode cX11_undo 19 = .ok (.iconst 0, 1) := by decide +kernel
theorem dX11_undo_20 : decode cX11_undo 20 = .ok (.istore_n 1, 1) := by decide +kernel
theorem dX11_undo_21 : decode cX11_undo 21 = .ok (.iload_n 1, 1) := by decide +kernel
theorem dX11_undo_22 : decode cX11_undo 22 = .ok (.sipush 2880, 3) := by decide +kernel
theorem dX11_undo_25 : decode cX11_undo 25 = .ok (.if_icmp .ge 30, 3) := by decide +kernel
theorem dX11_undo_28 : decode cX11_undo 28 = .ok (.aload_n 0, 1) := by decide +kernel
theorem dX11_undo_29 : decode cX11_undo 29 = .ok (.getfield 24, 3) := by decide +kernel
theorem dX11_undo_32 : decode cX11_undo 32 = .ok (.iload_n 1, 1) := by decide +kernel
theorem dX11_undo_33 : decode cX11_undo 33 = .ok (.aload_n 0, 1) := by decide +kernel
theorem dX11_undo_34 : decode cX11_undo 34 = .ok (.getfield 31, 3) := by decide +kernel
theorem dX11_undo_37 : decode cX11_undo 37 = .ok (.sipush 2880, 3) := by decide +kernel
theorem dX11_undo_40 : decode cX11_undo 40 = .ok (.aload_n 0, 1) := by decide +kernel
theorem dX11_undo_41 : decode cX11_undo 41 = .ok (.getfield 315, 3) := by decide +kernel
theorem dX11_undo_44 : decode cX11_undo 44 = .ok (.imul, 1) := by decide +kernel
theorem dX11_undo_45 : decode cX11_undo 45 = .ok (.iload_n 1, 1) := by decide +kernel
theorem dX11_undo_46 : decode cX11_undo 46 = .ok (.iadd, 1) := by decide +kernel
theorem dX11_undo_47 : decode cX11_undo 47 = .ok (.laload, 1) := by decide +kernel
theorem dX11_undo_48 : decode cX11_undo 48 = .ok (.lastore, 1) := by decide +kernel
theorem dX11_undo_49 : decode cX11_undo 49 = .ok (.iinc 1 1, 3) := by decide +kernel
theorem dX11_undo_52 : decode cX11_undo 52 = .ok (.goto (-31), 3) := by decide +kernel
theorem dX11_undo_55 : decode cX11_undo 55 = .ok (.aload_n 0, 1) := by decide +kernel
theorem dX11_undo_56 : decode cX11_undo 56 = .ok (.getfield 315, 3) := by decide +kernel
theorem dX11_undo_59 : decode cX11_undo 59 = .ok (.ireturn, 1) := by decide +kernel
theorem dX11_nameOf_0 : decode cX11_nameOf 0 = .ok (.lconst 0, 1) := by decide +kernel
theorem dX11_nameOf_1 : decode cX11_nameOf 1 = .ok (.lstore_n 1, 1) := by decide +kernel
theorem dX11_nameOf_2 : decode cX11_nameOf 2 = .ok (.iconst 0, 1) := by decide +kernel
theorem dX11_nameOf_3 : decode cX11_nameOf 3 = .ok (.istore_n 3, 1) := by decide +kernel
theorem dX11_nameOf_4 : decode cX11_nameOf 4 = .ok (.iload_n 0, 1) := by decide +kernel
theorem dX11_nameOf_5 : decode cX11_nameOf 5 = .ok (.bipush 25, 2) := by decide +kernel
theorem dX11_nameOf_7 : decode cX11_nameOf 7 = .ok (.ishr, 1) := by decide +kernel
theorem dX11_nameOf_8 : decode cX11_nameOf 8 = .ok (.ifCond .le 14, 3) := by decide +kernel
theorem dX11_nameOf_11 : decode cX11_nameOf 11 = .ok (.iload_n 0, 1) := by decide +kernel
theorem dX11_nameOf_12 : decode cX11_nameOf 12 = .ok (.bipush 30, 2) := by decide +kernel
theorem dX11_nameOf_14 : decode cX11_nameOf 14 = .ok (.ishr, 1) := by decide +kernel
theorem dX11_nameOf_15 : decode cX11_nameOf 15 = .ok (.ifCond .ne 7, 3) := by decide +kernel
theorem dX11_nameOf_18 : decode cX11_nameOf 18 = .ok (.iconst 1, 1) := by decide +kernel
theorem dX11_nameOf_19 : decode cX11_nameOf 19 = .ok (.goto 4, 3) := by decide +kernel
theorem dX11_nameOf_22 : decode cX11_nameOf 22 = .ok (.iconst 0, 1) := by decide +kernel
theorem dX11_nameOf_23 : decode cX11_nameOf 23 = .ok (.istore 4, 2) := by decide +kernel
theorem dX11_nameOf_25 : decode cX11_nameOf 25 = .ok (.bipush 25, 2) := by decide +kernel
theorem dX11_nameOf_27 : decode cX11_nameOf 27 = .ok (.istore 5, 2) := by decide +kernel
theorem dX11_nameOf_29 : decode cX11_nameOf 29 = .ok (.iload 5, 2) := by decide +kernel
theorem dX11_nameOf_31 : decode cX11_nameOf 31 = .ok (.ifCond .lt 80, 3) := by decide +kernel
theorem dX11_nameOf_34 : decode cX11_nameOf 34 = .ok (.iload_n 0, 1) := by decide +kernel
theorem dX11_nameOf_35 : decode cX11_nameOf 35 = .ok (.iload 5, 2) := by decide +kernel
theorem dX11_nameOf_37 : decode cX11_nameOf 37 = .ok (.ishr, 1) := by decide +kernel
theorem dX11_nameOf_38 : decode cX11_nameOf 38 = .ok (.bipush 31, 2) := by decide +kernel
theorem dX11_nameOf_40 : decode cX11_nameOf 40 = .ok (.iand, 1) := by decide +kernel
theorem dX11_nameOf_41 : decode cX11_nameOf 41 = .ok (.istore 6, 2) := by decide +kernel
theorem dX11_nameOf_43 : decode cX11_nameOf 43 = .ok (.iload 4, 2) := by decide +kernel
theorem dX11_nameOf_45 : decode cX11_nameOf 45 = .ok (.ifCond .eq 23, 3) := by decide +kernel
theorem dX11_nameOf_48 : decode cX11_nameOf 48 = .ok (.iload 6, 2) := by decide +kernel
theorem dX11_nameOf_50 : decode cX11_nameOf 50 = .ok (.bipush 27, 2) := by decide +kernel
theorem dX11_nameOf_52 : decode cX11_nameOf 52 = .ok (.if_icmp .ge 16, 3) := by decide +kernel
theorem dX11_nameOf_55 : decode cX11_nameOf 55 = .ok (.iload_n 3, 1) := by decide +kernel
theorem dX11_nameOf_56 : decode cX11_nameOf 56 = .ok (.ifCond .eq 8, 3) := by decide +kernel
theorem dX11_nameOf_59 : decode cX11_nameOf 59 = .ok (.iload 6, 2) := by decide +kernel
theorem dX11_nameOf_61 : decode cX11_nameOf 61 = .ok (.ifCond .gt 7, 3) := by decide +kernel
theorem dX11_nameOf_64 : decode cX11_nameOf 64 = .ok (.iconst 1, 1) := by decide +kernel
theorem dX11_nameOf_65 : decode cX11_nameOf 65 = .ok (.goto 4, 3) := by decide +kernel
theorem dX11_nameOf_68 : decode cX11_nameOf 68 = .ok (.iconst 0, 1) := by decide +kernel
theorem dX11_nameOf_69 : decode cX11_nameOf 69 = .ok (.istore 4, 2) := by decide +kernel
theorem dX11_nameOf_71 : decode cX11_nameOf 71 = .ok (.iload_n 3, 1) := by decide +kernel
theorem dX11_nameOf_72 : decode cX11_nameOf 72 = .ok (.ifCond .ne 8, 3) := by decide +kernel
theorem dX11_nameOf_75 : decode cX11_nameOf 75 = .ok (.iload 6, 2) := by decide +kernel
theorem dX11_nameOf_77 : decode cX11_nameOf 77 = .ok (.ifCond .ne 7, 3) := by decide +kernel
theorem dX11_nameOf_80 : decode cX11_nameOf 80 = .ok (.iconst 1, 1) := by decide +kernel
theorem dX11_nameOf_81 : decode cX11_nameOf 81 = .ok (.goto 4, 3) := by decide +kernel
theorem dX11_nameOf_84 : decode cX11_nameOf 84 = .ok (.iconst 0, 1) := by decide +kernel
theorem dX11_nameOf_85 : decode cX11_nameOf 85 = .ok (.istore_n 3, 1) := by decide +kernel
theorem dX11_nameOf_86 : decode cX11_nameOf 86 = .ok (.iload 6, 2) := by decide +kernel
theorem dX11_nameOf_88 : decode cX11_nameOf 88 = .ok (.ifCond .le 15, 3) := by decide +kernel
theorem dX11_nameOf_91 : decode cX11_nameOf 91 = .ok (.ldc2_w 198, 3) := by decide +kernel
theorem dX11_nameOf_94 : decode cX11_nameOf 94 = .ok (.lload_n 1, 1) := by decide +kernel
theorem dX11_nameOf_95 : decode cX11_nameOf 95 = .ok (.lmul, 1) := by decide +kernel
theorem dX11_nameOf_96 : decode cX11_nameOf 96 = .ok (.iload 6, 2) := by decide +kernel
theorem dX11_nameOf_98 : decode cX11_nameOf 98 = .ok (.i2l, 1) := by decide +kernel
theorem dX11_nameOf_99 : decode cX11_nameOf 99 = .ok (.ladd, 1) := by decide +kernel
theorem dX11_nameOf_100 : decode cX11_nameOf 100 = .ok (.goto 4, 3) := by decide +kernel
theorem dX11_nameOf_103 : decode cX11_nameOf 103 = .ok (.lload_n 1, 1) := by decide +kernel
theorem dX11_nameOf_104 : decode cX11_nameOf 104 = .ok (.lstore_n 1, 1) := by decide +kernel
theorem dX11_nameOf_105 : decode cX11_nameOf 105 = .ok (.iinc 5 (-5), 3) := by decide +kernel
theorem dX11_nameOf_108 : decode cX11_nameOf 108 = .ok (.goto (-79), 3) := by decide +kernel
theorem dX11_nameOf_111 : decode cX11_nameOf 111 = .ok (.iload 4, 2) := by decide +kernel
theorem dX11_nameOf_113 : decode cX11_nameOf 113 = .ok (.ifCond .eq 7, 3) := by decide +kernel
theorem dX11_nameOf_116 : decode cX11_nameOf 116 = .ok (.lload_n 1, 1) := by decide +kernel
theorem dX11_nameOf_117 : decode cX11_nameOf 117 = .ok (.goto 4, 3) := by decide +kernel
theorem dX11_nameOf_120 : decode cX11_nameOf 120 = .ok (.lconst 0, 1) := by decide +kernel
theorem dX11_nameOf_121 : decode cX11_nameOf 121 = .ok (.lreturn, 1) := by decide +kernel
theorem dX11_rename_0 : decode cX11_rename 0 = .ok (.iload_n 2, 1) := by decide +kernel
theorem dX11_rename_1 : decode cX11_rename 1 = .ok (.invokestatic 340, 3) := by decide +kernel
theorem dX11_rename_4 : decode cX11_rename 4 = .ok (.lstore_n 3, 1) := by decide +kernel
theorem dX11_rename_5 : decode cX11_rename 5 = .ok (.aload_n 0, 1) := by decide +kernel
theorem dX11_rename_6 : decode cX11_rename 6 = .ok (.iload_n 1, 1) := by decide +kernel
theorem dX11_rename_7 : decode cX11_rename 7 = .ok (.invokevirtual 103, 3) := by decide +kernel
theorem dX11_rename_10 : decode cX11_rename 10 = .ok (.ifCond .eq 25, 3) := by decide +kernel
theorem dX11_rename_13 : decode cX11_rename 13 = .ok (.lload_n 3, 1) := by decide +kernel
theorem dX11_rename_14 : decode cX11_rename 14 = .ok (.lconst 0, 1) := by decide +kernel
theorem dX11_rename_15 : decode cX11_rename 15 = .ok (.lcmp, 1) := by decide +kernel
theorem dX11_rename_16 : decode cX11_rename 16 = .ok (.ifCond .eq 19, 3) := by decide +kernel
theorem dX11_rename_19 : decode cX11_rename 19 = .ok (.lload_n 3, 1) := by decide +kernel
theorem dX11_rename_20 : decode cX11_rename 20 = .ok (.invokestatic 202, 3) := by decide +kernel
theorem dX11_rename_23 : decode cX11_rename 23 = .ok (.ifCond .ne 12, 3) := by decide +kernel
theorem dX11_rename_26 : decode cX11_rename 26 = .ok (.aload_n 0, 1) := by decide +kernel
theorem dX11_rename_27 : decode cX11_rename 27 = .ok (.iconst 0, 1) := by decide +kernel
theorem dX11_rename_28 : decode cX11_rename 28 = .ok (.lload_n 3, 1) := by decide +kernel
theorem dX11_rename_29 : decode cX11_rename 29 = .ok (.invokevirtual 265, 3) := by decide +kernel
theorem dX11_rename_32 : decode cX11_rename 32 = .ok (.ifCond .lt 5, 3) := by decide +kernel
theorem dX11_rename_35 : decode cX11_rename 35 = .ok (.iconst 0, 1) := by decide +kernel
theorem dX11_rename_36 : decode cX11_rename 36 = .ok (.ireturn, 1) := by decide +kernel
theorem dX11_rename_37 : decode cX11_rename 37 = .ok (.aload_n 0, 1) := by decide +kernel
theorem dX11_rename_38 : decode cX11_rename 38 = .ok (.invokevirtual 334, 3) := by decide +kernel
theorem dX11_rename_41 : decode cX11_rename 41 = .ok (.aload_n 0, 1) := by decide +kernel
theorem dX11_rename_42 : decode cX11_rename 42 = .ok (.getfield 24, 3) := by decide +kernel
theorem dX11_rename_45 : decode cX11_rename 45 = .ok (.bipush 32, 2) := by decide +kernel
theorem dX11_rename_47 : decode cX11_rename 47 = .ok (.iload_n 1, 1) := by decide +kernel
theorem dX11_rename_48 : decode cX11_rename 48 = .ok (.iadd, 1) := by decide +kernel
theorem dX11_rename_49 : decode cX11_rename 49 = .ok (.lload_n 3, 1) := by decide +kernel
theorem dX11_rename_50 : decode cX11_rename 50 = .ok (.lastore, 1) := by decide +kernel
theorem dX11_rename_51 : decode cX11_rename 51 = .ok (.iconst 1, 1) := by decide +kernel
theorem dX11_rename_52 : decode cX11_rename 52 = .ok (.ireturn, 1) := by decide +kernel
theorem dX11_closes_0 : decode cX11_closes 0 = .ok (.iload_n 1, 1) := by decide +kernel
theorem dX11_closes_1 : decode cX11_closes 1 = .ok (.istore_n 3, 1) := by decide +kernel
theorem dX11_closes_2 : decode cX11_closes 2 = .ok (.iload_n 3, 1) := by decide +kernel
theorem dX11_closes_3 : decode cX11_closes 3 = .ok (.iload_n 2, 1) := by decide +kernel
theorem dX11_closes_4 : decode cX11_closes 4 = .ok (.iadd, 1) := by decide +kernel
theorem dX11_closes_5 : decode cX11_closes 5 = .ok (.aload_n 0, 1) := by decide +kernel
theorem dX11_closes_6 : decode cX11_closes 6 = .ok (.iconst 0, 1) := by decide +kernel
theorem dX11_closes_7 : decode cX11_closes 7 = .ok (.invokevirtual 118, 3) := by decide +kernel
theorem dX11_closes_10 : decode cX11_closes 10 = .ok (.if_icmp .ge 31, 3) := by decide +kernel
theorem dX11_closes_13 : decode cX11_closes 13 = .ok (.aload_n 0, 1) := by decide +kernel
theorem dX11_closes_14 : decode cX11_closes 14 = .ok (.getfield 24, 3) := by decide +kernel
theorem dX11_closes_17 : decode cX11_closes 17 = .ok (.sipush 256, 3) := by decide +kernel
theorem dX11_closes_20 : decode cX11_closes 20 = .ok (.iload_n 3, 1) := by decide +kernel
theorem dX11_closes_21 : decode cX11_closes 21 = .ok (.iadd, 1) := by decide +kernel
theorem dX11_closes_22 : decode cX11_closes 22 = .ok (.aload_n 0, 1) := by decide +kernel
theorem dX11_closes_23 : decode cX11_closes 23 = .ok (.getfield 24, 3) := by decide +kernel
theorem dX11_closes_26 : decode cX11_closes 26 = .ok (.sipush 256, 3) := by decide +kernel
theorem dX11_closes_29 : decode cX11_closes 29 = .ok (.iload_n 3, 1) := by decide +kernel
theorem dX11_closes_30 : decode cX11_closes 30 = .ok (.iadd, 1) := by decide +kernel
theorem dX11_closes_31 : decode cX11_closes 31 = .ok (.iload_n 2, 1) := by decide +kernel
theorem dX11_closes_32 : decode cX11_closes 32 = .ok (.iadd, 1) := by decide +kernel
theorem dX11_closes_33 : decode cX11_closes 33 = .ok (.laload, 1) := by decide +kernel
theorem dX11_closes_34 : decode cX11_closes 34 = .ok (.lastore, 1) := by decide +kernel
theorem dX11_closes_35 : decode cX11_closes 35 = .ok (.iinc 3 1, 3) := by decide +kernel
theorem dX11_closes_38 : decode cX11_closes 38 = .ok (.goto (-36), 3) := by decide +kernel
theorem dX11_closes_41 : decode cX11_closes 41 = .ok (.aload_n 0, 1) := by decide +kernel
theorem dX11_closes_42 : decode cX11_closes 42 = .ok (.getfield 24, 3) := by decide +kernel
theorem dX11_closes_45 : decode cX11_closes 45 = .ok (.sipush 288, 3) := by decide +kernel
theorem dX11_closes_48 : decode cX11_closes 48 = .ok (.dup2, 1) := by decide +kernel
theorem dX11_closes_49 : decode cX11_closes 49 = .ok (.laload, 1) := by decide +kernel
theorem dX11_closes_50 : decode cX11_closes 50 = .ok (.iload_n 2, 1) := by decide +kernel
theorem dX11_closes_51 : decode cX11_closes 51 = .ok (.i2l, 1) := by decide +kernel
theorem dX11_closes_52 : decode cX11_closes 52 = .ok (.lsub, 1) := by decide +kernel
theorem dX11_closes_53 : decode cX11_closes 53 = .ok (.lastore, 1) := by decide +kernel
theorem dX11_closes_54 : decode cX11_closes 54 = .ok (.return_, 1) := by decide +kernel
theorem dX11_rest_0 : decode cX11_rest 0 = .ok (.iload_n 1, 1) := by decide +kernel
theorem dX11_rest_1 : decode cX11_rest 1 = .ok (.invokestatic 107, 3) := by decide +kernel
theorem dX11_rest_4 : decode cX11_rest 4 = .ok (.ifCond .eq 14, 3) := by decide +kernel
theorem dX11_rest_7 : decode cX11_rest 7 = .ok (.aload_n 0, 1) := by decide +kernel
theorem dX11_rest_8 : decode cX11_rest 8 = .ok (.iconst 0, 1) := by decide +kernel
theorem dX11_rest_9 : decode cX11_rest 9 = .ok (.iload_n 1, 1) := by decide +kernel
theorem dX11_rest_10 : decode cX11_rest 10 = .ok (.invokevirtual 122, 3) := by decide +kernel
theorem dX11_rest_13 : decode cX11_rest 13 = .ok (.iconst 1, 1) := by decide +kernel
theorem dX11_rest_14 : decode cX11_rest 14 = .ok (.iadd, 1) := by decide +kernel
theorem dX11_rest_15 : decode cX11_rest 15 = .ok (.goto 9, 3) := by decide +kernel
theorem dX11_rest_18 : decode cX11_rest 18 = .ok (.aload_n 0, 1) := by decide +kernel
theorem dX11_rest_19 : decode cX11_rest 19 = .ok (.iconst 0, 1) := by decide +kernel
theorem dX11_rest_20 : decode cX11_rest 20 = .ok (.iload_n 1, 1) := by decide +kernel
theorem dX11_rest_21 : decode cX11_rest 21 = .ok (.invokevirtual 282, 3) := by decide +kernel
theorem dX11_rest_24 : decode cX11_rest 24 = .ok (.ireturn, 1) := by decide +kernel
theorem dX11_remove_0 : decode cX11_remove 0 = .ok (.aload_n 0, 1) := by decide +kernel
theorem dX11_remove_1 : decode cX11_remove 1 = .ok (.iload_n 1, 1) := by decide +kernel
theorem dX11_remove_2 : decode cX11_remove 2 = .ok (.invokevirtual 103, 3) := by decide +kernel
theorem dX11_remove_5 : decode cX11_remove 5 = .ok (.ifCond .ne 5, 3) := by decide +kernel
theorem dX11_remove_8 : decode cX11_remove 8 = .ok (.iconst (-1), 1) := by decide +kernel
theorem dX11_remove_9 : decode cX11_remove 9 = .ok (.ireturn, 1) := by decide +kernel
theorem dX11_remove_10 : decode cX11_remove 10 = .ok (.aload_n 0, 1) := by decide +kernel
theorem dX11_remove_11 : decode cX11_remove 11 = .ok (.iload_n 1, 1) := by decide +kernel
theorem dX11_remove_12 : decode cX11_remove 12 = .ok (.invokevirtual 150, 3) := by decide +kernel
theorem dX11_remove_15 : decode cX11_remove 15 = .ok (.istore_n 2, 1) := by decide +kernel
theorem dX11_remove_16 : decode cX11_remove 16 = .ok (.iconst 0, 1) := by decide +kernel
theorem dX11_remove_17 : decode cX11_remove 17 = .ok (.istore_n 3, 1) := by decide +kernel
theorem dX11_remove_18 : decode cX11_remove 18 = .ok (.iload_n 3, 1) := by decide +kernel
theorem dX11_remove_19 : decode cX11_remove 19 = .ok (.aload_n 0, 1) := by decide +kernel
theorem dX11_remove_20 : decode cX11_remove 20 = .ok (.iconst 0, 1) := by decide +kernel
theorem dX11_remove_21 : decode cX11_remove 21 = .ok (.invokevirtual 118, 3) := by decide +kernel
theorem dX11_remove_24 : decode cX11_remove 24 = .ok (.if_icmp .ge 43, 3) := by decide +kernel
theorem dX11_remove_27 : decode cX11_remove 27 = .ok (.aload_n 0, 1) := by decide +kernel
theorem dX11_remove_28 : decode cX11_remove 28 = .ok (.iconst 0, 1) := by decide +kernel
theorem dX11_remove_29 : decode cX11_remove 29 = .ok (.iload_n 3, 1) := by decide +kernel
theorem dX11_remove_30 : decode cX11_remove 30 = .ok (.invokevirtual 114, 3) := by decide +kernel
theorem dX11_remove_33 : decode cX11_remove 33 = .ok (.istore 4, 2) := by decide +kernel
theorem dX11_remove_35 : decode cX11_remove 35 = .ok (.aload_n 0, 1) := by decide +kernel
theorem dX11_remove_36 : decode cX11_remove 36 = .ok (.iconst 0, 1) := by decide +kernel
theorem dX11_remove_37 : decode cX11_remove 37 = .ok (.iload 4, 2) := by decide +kernel
theorem dX11_remove_39 : decode cX11_remove 39 = .ok (.iload_n 1, 1) := by decide +kernel
theorem dX11_remove_40 : decode cX11_remove 40 = .ok (.invokevirtual 125, 3) := by decide +kernel
theorem dX11_remove_43 : decode cX11_remove 43 = .ok (.ifCond .ne 18, 3) := by decide +kernel
theorem dX11_remove_46 : decode cX11_remove 46 = .ok (.aload_n 0, 1) := by decide +kernel
theorem dX11_remove_47 : decode cX11_remove 47 = .ok (.iconst 0, 1) := by decide +kernel
theorem dX11_remove_48 : decode cX11_remove 48 = .ok (.iload 4, 2) := by decide +kernel
theorem dX11_remove_50 : decode cX11_remove 50 = .ok (.invokevirtual 140, 3) := by decide +kernel
theorem dX11_remove_53 : decode cX11_remove 53 = .ok (.iload_n 2, 1) := by decide +kernel
theorem dX11_remove_54 : decode cX11_remove 54 = .ok (.iand, 1) := by decide +kernel
theorem dX11_remove_55 : decode cX11_remove 55 = .ok (.ifCond .eq 6, 3) := by decide +kernel
theorem dX11_remove_58 : decode cX11_remove 58 = .ok (.bipush (-2), 2) := by decide +kernel
theorem dX11_remove_60 : decode cX11_remove 60 = .ok (.ireturn, 1) := by decide +kernel
theorem dX11_remove_61 : decode cX11_remove 61 = .ok (.iinc 3 1, 3) := by decide +kernel
theorem dX11_remove_64 : decode cX11_remove 64 = .ok (.goto (-46), 3) := by decide +kernel
theorem dX11_remove_67 : decode cX11_remove 67 = .ok (.aload_n 0, 1) := by decide +kernel
theorem dX11_remove_68 : decode cX11_remove 68 = .ok (.invokevirtual 334, 3) := by decide +kernel
theorem dX11_remove_71 : decode cX11_remove 71 = .ok (.aload_n 0, 1) := by decide +kernel
theorem dX11_remove_72 : decode cX11_remove 72 = .ok (.iconst 0, 1) := by decide +kernel
theorem dX11_remove_73 : decode cX11_remove 73 = .ok (.iload_n 1, 1) := by decide +kernel
theorem dX11_remove_74 : decode cX11_remove 74 = .ok (.invokevirtual 122, 3) := by decide +kernel
theorem dX11_remove_77 : decode cX11_remove 77 = .ok (.istore_n 3, 1) := by decide +kernel
theorem dX11_remove_78 : decode cX11_remove 78 = .ok (.aload_n 0, 1) := by decide +kernel
theorem dX11_remove_79 : decode cX11_remove 79 = .ok (.iload_n 1, 1) := by decide +kernel
theorem dX11_remove_80 : decode cX11_remove 80 = .ok (.invokevirtual 344, 3) := by decide +kernel
theorem dX11_remove_83 : decode cX11_remove 83 = .ok (.istore 4, 2) := by decide +kernel
theorem dX11_remove_85 : decode cX11_remove 85 = .ok (.iconst 0, 1) := by decide +kernel
theorem dX11_remove_86 : decode cX11_remove 86 = .ok (.istore 5, 2) := by decide +kernel
theorem dX11_remove_88 : decode cX11_remove 88 = .ok (.iload_n 3, 1) := by decide +kernel
theorem dX11_remove_89 : decode cX11_remove 89 = .ok (.istore 6, 2) := by decide +kernel
theorem dX11_remove_91 : decode cX11_remove 91 = .ok (.iload 6, 2) := by decide +kernel
theorem dX11_remove_93 : decode cX11_remove 93 = .ok (.iload 4, 2) := by decide +kernel
theorem dX11_remove_95 : decode cX11_remove 95 = .ok (.if_icmp .ge 32, 3) := by decide +kernel
theorem dX11_remove_98 : decode cX11_remove 98 = .ok (.iload 5, 2) := by decide +kernel
theorem dX11_remove_100 : decode cX11_remove 100 = .ok (.aload_n 0, 1) := by decide +kernel
theorem dX11_remove_101 : decode cX11_remove 101 = .ok (.iconst 0, 1) := by decide +kernel
theorem dX11_remove_102 : decode cX11_remove 102 = .ok (.iload 6, 2) := by decide +kernel
theorem dX11_remove_104 : decode cX11_remove 104 = .ok (.invokevirtual 114, 3) := by decide +kernel
theorem dX11_remove_107 : decode cX11_remove 107 = .ok (.invokestatic 107, 3) := by decide +kernel
theorem dX11_remove_110 : decode cX11_remove 110 = .ok (.ifCond .eq 7, 3) := by decide +kernel
theorem dX11_remove_113 : decode cX11_remove 113 = .ok (.iconst 1, 1) := by decide +kernel
theorem dX11_remove_114 : decode cX11_remove 114 = .ok (.goto 4, 3) := by decide +kernel
theorem dX11_remove_117 : decode cX11_remove 117 = .ok (.iconst 0, 1) := by decide +kernel
theorem dX11_remove_118 : decode cX11_remove 118 = .ok (.iadd, 1) := by decide +kernel
theorem dX11_remove_119 : decode cX11_remove 119 = .ok (.istore 5, 2) := by decide +kernel
theorem dX11_remove_121 : decode cX11_remove 121 = .ok (.iinc 6 1, 3) := by decide +kernel
theorem dX11_remove_124 : decode cX11_remove 124 = .ok (.goto (-33), 3) := by decide +kernel
theorem dX11_remove_127 : decode cX11_remove 127 = .ok (.iload_n 3, 1) := by decide +kernel
theorem dX11_remove_128 : decode cX11_remove 128 = .ok (.istore 6, 2) := by decide +kernel
theorem dX11_remove_130 : decode cX11_remove 130 = .ok (.iload 6, 2) := by decide +kernel
theorem dX11_remove_132 : decode cX11_remove 132 = .ok (.iload 4, 2) := by decide +kernel
theorem dX11_remove_134 : decode cX11_remove 134 = .ok (.if_icmp .ge 26, 3) := by decide +kernel
theorem dX11_remove_137 : decode cX11_remove 137 = .ok (.aload_n 0, 1) := by decide +kernel
theorem dX11_remove_138 : decode cX11_remove 138 = .ok (.getfield 24, 3) := by decide +kernel
theorem dX11_remove_141 : decode cX11_remove 141 = .ok (.iconst 0, 1) := by decide +kernel
theorem dX11_remove_142 : decode cX11_remove 142 = .ok (.aload_n 0, 1) := by decide +kernel
theorem dX11_remove_143 : decode cX11_remove 143 = .ok (.iconst 0, 1) := by decide +kernel
theorem dX11_remove_144 : decode cX11_remove 144 = .ok (.iload 6, 2) := by decide +kernel
theorem dX11_remove_146 : decode cX11_remove 146 = .ok (.invokevirtual 114, 3) := by decide +kernel
theorem dX11_remove_149 : decode cX11_remove 149 = .ok (.iadd, 1) := by decide +kernel
theorem dX11_remove_150 : decode cX11_remove 150 = .ok (.ldc2_w 93, 3) := by decide +kernel
theorem dX11_remove_153 : decode cX11_remove 153 = .ok (.lastore, 1) := by decide +kernel
theorem dX11_remove_154 : decode cX11_remove 154 = .ok (.iinc 6 1, 3) := by decide +kernel
theorem dX11_remove_157 : decode cX11_remove 157 = .ok (.goto (-27), 3) := by decide +kernel
theorem dX11_remove_160 : decode cX11_remove 160 = .ok (.aload_n 0, 1) := by decide +kernel
theorem dX11_remove_161 : decode cX11_remove 161 = .ok (.iload_n 3, 1) := by decide +kernel
theorem dX11_remove_162 : decode cX11_remove 162 = .ok (.iload 4, 2) := by decide +kernel
theorem dX11_remove_164 : decode cX11_remove 164 = .ok (.iload_n 3, 1) := by decide +kernel
theorem dX11_remove_165 : decode cX11_remove 165 = .ok (.isub, 1) := by decide +kernel
theorem dX11_remove_166 : decode cX11_remove 166 = .ok (.invokevirtual 347, 3) := by decide +kernel
theorem dX11_remove_169 : decode cX11_remove 169 = .ok (.iload 5, 2) := by decide +kernel
theorem dX11_remove_171 : decode cX11_remove 171 = .ok (.ireturn, 1) := by decide +kernel
theorem dX11_sons_0 : decode cX11_sons 0 = .ok (.iconst 0, 1) := by decide +kernel
theorem dX11_sons_1 : decode cX11_sons 1 = .ok (.istore_n 2, 1) := by decide +kernel
theorem dX11_sons_2 : decode cX11_sons 2 = .ok (.iconst 0, 1) := by decide +kernel
theorem dX11_sons_3 : decode cX11_sons 3 = .ok (.istore_n 3, 1) := by decide +kernel
theorem dX11_sons_4 : decode cX11_sons 4 = .ok (.iload_n 3, 1) := by decide +kernel
theorem dX11_sons_5 : decode cX11_sons 5 = .ok (.aload_n 0, 1) := by decide +kernel
theorem dX11_sons_6 : decode cX11_sons 6 = .ok (.iconst 0, 1) := by decide +kernel
theorem dX11_sons_7 : decode cX11_sons 7 = .ok (.invokevirtual 118, 3) := by decide +kernel
theorem dX11_sons_10 : decode cX11_sons 10 = .ok (.if_icmp .ge 33, 3) := by decide +kernel
theorem dX11_sons_13 : decode cX11_sons 13 = .ok (.iload_n 2, 1) := by decide +kernel
theorem dX11_sons_14 : decode cX11_sons 14 = .ok (.aload_n 0, 1) := by decide +kernel
theorem dX11_sons_15 : decode cX11_sons 15 = .ok (.iconst 0, 1) := by decide +kernel
theorem dX11_sons_16 : decode cX11_sons 16 = .ok (.iconst 0, 1) := by decide +kernel
theorem dX11_sons_17 : decode cX11_sons 17 = .ok (.aload_n 0, 1) := by decide +kernel
theorem dX11_sons_18 : decode cX11_sons 18 = .ok (.iconst 0, 1) := by decide +kernel
theorem dX11_sons_19 : decode cX11_sons 19 = .ok (.iload_n 3, 1) := by decide +kernel
theorem dX11_sons_20 : decode cX11_sons 20 = .ok (.invokevirtual 114, 3) := by decide +kernel
theorem dX11_sons_23 : decode cX11_sons 23 = .ok (.invokevirtual 110, 3) := by decide +kernel
theorem dX11_sons_26 : decode cX11_sons 26 = .ok (.iload_n 1, 1) := by decide +kernel
theorem dX11_sons_27 : decode cX11_sons 27 = .ok (.if_icmp .ne 7, 3) := by decide +kernel
theorem dX11_sons_30 : decode cX11_sons 30 = .ok (.iconst 1, 1) := by decide +kernel
theorem dX11_sons_31 : decode cX11_sons 31 = .ok (.goto 4, 3) := by decide +kernel
theorem dX11_sons_34 : decode cX11_sons 34 = .ok (.iconst 0, 1) := by decide +kernel
theorem dX11_sons_35 : decode cX11_sons 35 = .ok (.iadd, 1) := by decide +kernel
theorem dX11_sons_36 : decode cX11_sons 36 = .ok (.istore_n 2, 1) := by decide +kernel
theorem dX11_sons_37 : decode cX11_sons 37 = .ok (.iinc 3 1, 3) := by decide +kernel
theorem dX11_sons_40 : decode cX11_sons 40 = .ok (.goto (-36), 3) := by decide +kernel
theorem dX11_sons_43 : decode cX11_sons 43 = .ok (.iload_n 2, 1) := by decide +kernel
theorem dX11_sons_44 : decode cX11_sons 44 = .ok (.ireturn, 1) := by decide +kernel
