theorem dX11_indexOf_0 : decode cX11_indexOf 0 = .ok (.iconst 0, 1) := by decide +kernel
theorem dX11_indexOf_1 : decode cX11_indexOf 1 = .ok (.istore_n 2, 1) := by decide +kernel
theorem dX11_indexOf_2 : decode cX11_indexOf 2 = .ok (.iconst 0, 1) := by decide +kernel
theorem dX11_indexOf_3 : decode cX11_indexOf 3 = .ok (.istore_n 3, 1) := by decide +kernel
theorem dX11_indexOf_4 : decode cX11_indexOf 4 = .ok (.aload_n 0, 1) := by decide +kernel
theorem dX11_indexOf_5 : decode cX11_indexOf 5 = .ok (.iconst 0, 1) := by decide +kernel
theorem dX11_indexOf_6 : decode cX11_indexOf 6 = .ok (.iload_n 3, 1) := by decide +kernel
theorem dX11_indexOf_7 : decode cX11_indexOf 7 = .ok (.invokevirtual 114, 3) := by decide +kernel
theorem dX11_indexOf_10 : decode cX11_indexOf 10 = .ok (.iload_n 1, 1) := by decide +kernel
theorem dX11_indexOf_11 : decode cX11_indexOf 11 = .ok (.if_icmp .eq 39, 3) := by decide +kernel
theorem dX11_indexOf_14 : decode cX11_indexOf 14 = .ok (.iload_n 2, 1) := by decide +kernel
theorem dX11_indexOf_15 : decode cX11_indexOf 15 = .ok (.aload_n 0, 1) := by decide +kernel
theorem dX11_indexOf_16 : decode cX11_indexOf 16 = .ok (.iconst 0, 1) := by decide +kernel
theorem dX11_indexOf_17 : decode cX11_indexOf 17 = .ok (.iconst 0, 1) := by decide +kernel
theorem dX11_indexOf_18 : decode cX11_indexOf 18 = .ok (.aload_n 0, 1) := by decide +kernel
theorem dX11_indexOf_19 : decode cX11_indexOf 19 = .ok (.iconst 0, 1) := by decide +kernel
theorem dX11_indexOf_20 : decode cX11_indexOf 20 = .ok (.iload_n 3, 1) := by decide +kernel
theorem dX11_indexOf_21 : decode cX11_indexOf 21 = .ok (.invokevirtual 114, 3) := by decide +kernel
theorem dX11_indexOf_24 : decode cX11_indexOf 24 = .ok (.invokevirtual 110, 3) := by decide +kernel
theorem dX11_indexOf_27 : decode cX11_indexOf 27 = .ok (.aload_n 0, 1) := by decide +kernel
theorem dX11_indexOf_28 : decode cX11_indexOf 28 = .ok (.iconst 0, 1) := by decide +kernel
theorem dX11_indexOf_29 : decode cX11_indexOf 29 = .ok (.iconst 0, 1) := by decide +kernel
theorem dX11_indexOf_30 : decode cX11_indexOf 30 = .ok (.iload_n 1, 1) := by decide +kernel
theorem dX11_indexOf_31 : decode cX11_indexOf 31 = .ok (.invokevirtual 110, 3) := by decide +kernel
theorem dX11_indexOf_34 : decode cX11_indexOf 34 = .ok (.if_icmp .ne 7, 3) := by decide +kernel
theorem dX11_indexOf_37 : decode cX11_indexOf 37 = .ok (.iconst 1, 1) := by decide +kernel
theorem dX11_indexOf_38 : decode cX11_indexOf 38 = .ok (.goto 4, 3) := by decide +kernel
theorem dX11_indexOf_41 : decode cX11_indexOf 41 = .ok (.iconst 0, 1) := by decide +kernel
theorem dX11_indexOf_42 : decode cX11_indexOf 42 = .ok (.iadd, 1) := by decide +kernel
theorem dX11_indexOf_43 : decode cX11_indexOf 43 = .ok (.istore_n 2, 1) := by decide +kernel
theorem dX11_indexOf_44 : decode cX11_indexOf 44 = .ok (.iinc 3 1, 3) := by decide +kernel
theorem dX11_indexOf_47 : decode cX11_indexOf 47 = .ok (.goto (-43), 3) := by decide +kernel
theorem dX11_indexOf_50 : decode cX11_indexOf 50 = .ok (.iload_n 2, 1) := by decide +kernel
theorem dX11_indexOf_51 : decode cX11_indexOf 51 = .ok (.ireturn, 1) := by decide +kernel
theorem dX11_placeFor_0 : decode cX11_placeFor 0 = .ok (.iconst 0, 1) := by decide +kernel
theorem dX11_placeFor_1 : decode cX11_placeFor 1 = .ok (.istore_n 3, 1) := by decide +kernel
theorem dX11_placeFor_2 : decode cX11_placeFor 2 = .ok (.iconst 0, 1) := by decide +kernel
theorem dX11_placeFor_3 : decode cX11_placeFor 3 = .ok (.istore 4, 2) := by decide +kernel
theorem dX11_placeFor_5 : decode cX11_placeFor 5 = .ok (.iload 4, 2) := by decide +kernel
theorem dX11_placeFor_7 : decode cX11_placeFor 7 = .ok (.aload_n 0, 1) := by decide +kernel
theorem dX11_placeFor_8 : decode cX11_placeFor 8 = .ok (.iconst 0, 1) := by decide +kernel
theorem dX11_placeFor_9 : decode cX11_placeFor 9 = .ok (.invokevirtual 118, 3) := by decide +kernel
theorem dX11_placeFor_12 : decode cX11_placeFor 12 = .ok (.if_icmp .ge 37, 3) := by decide +kernel
theorem dX11_placeFor_15 : decode cX11_placeFor 15 = .ok (.aload_n 0, 1) := by decide +kernel
theorem dX11_placeFor_16 : decode cX11_placeFor 16 = .ok (.iconst 0, 1) := by decide +kernel
theorem dX11_placeFor_17 : decode cX11_placeFor 17 = .ok (.iconst 0, 1) := by decide +kernel
theorem dX11_placeFor_18 : decode cX11_placeFor 18 = .ok (.aload_n 0, 1) := by decide +kernel
theorem dX11_placeFor_19 : decode cX11_placeFor 19 = .ok (.iconst 0, 1) := by decide +kernel
theorem dX11_placeFor_20 : decode cX11_placeFor 20 = .ok (.iload 4, 2) := by decide +kernel
theorem dX11_placeFor_22 : decode cX11_placeFor 22 = .ok (.invokevirtual 114, 3) := by decide +kernel
theorem dX11_placeFor_25 : decode cX11_placeFor 25 = .ok (.invokevirtual 110, 3) := by decide +kernel
theorem dX11_placeFor_28 : decode cX11_placeFor 28 = .ok (.iload_n 1, 1) := by decide +kernel
theorem dX11_placeFor_29 : decode cX11_placeFor 29 = .ok (.if_icmp .ne 14, 3) := by decide +kernel
theorem dX11_placeFor_32 : decode cX11_placeFor 32 = .ok (.iload_n 3, 1) := by decide +kernel
theorem dX11_placeFor_33 : decode cX11_placeFor 33 = .ok (.iload_n 2, 1) := by decide +kernel
theorem dX11_placeFor_34 : decode cX11_placeFor 34 = .ok (.if_icmp .ne 6, 3) := by decide +kernel
theorem dX11_placeFor_37 : decode cX11_placeFor 37 = .ok (.iload 4, 2) := by decide +kernel
theorem dX11_placeFor_39 : decode cX11_placeFor 39 = .ok (.ireturn, 1) := by decide +kernel
theorem dX11_placeFor_40 : decode cX11_placeFor 40 = .ok (.iinc 3 1, 3) := by decide +kernel
theorem dX11_placeFor_43 : decode cX11_placeFor 43 = .ok (.iinc 4 1, 3) := by decide +kernel
theorem dX11_placeFor_46 : decode cX11_placeFor 46 = .ok (.goto (-41), 3) := by decide +kernel
theorem dX11_placeFor_49 : decode cX11_placeFor 49 = .ok (.aload_n 0, 1) := by decide +kernel
theorem dX11_placeFor_50 : decode cX11_placeFor 50 = .ok (.iconst 0, 1) := by decide +kernel
theorem dX11_placeFor_51 : decode cX11_placeFor 51 = .ok (.iload_n 1, 1) := by decide +kernel
theorem dX11_placeFor_52 : decode cX11_placeFor 52 = .ok (.invokevirtual 282, 3) := by decide +kernel
theorem dX11_placeFor_55 : decode cX11_placeFor 55 = .ok (.ireturn, 1) := by decide +kernel
theorem dX11_nodeOf_0 : decode cX11_nodeOf 0 = .ok (.iload_n 0, 1) := by decide +kernel
theorem dX11_nodeOf_1 : decode cX11_nodeOf 1 = .ok (.ifCond .ge 8, 3) := by decide +kernel
theorem dX11_nodeOf_4 : decode cX11_nodeOf 4 = .ok (.bipush (-2), 2) := by decide +kernel
theorem dX11_nodeOf_6 : decode cX11_nodeOf 6 = .ok (.goto 7, 3) := by decide +kernel
theorem dX11_nodeOf_9 : decode cX11_nodeOf 9 = .ok (.bipush 24, 2) := by decide +kernel
theorem dX11_nodeOf_11 : decode cX11_nodeOf 11 = .ok (.iload_n 0, 1) := by decide +kernel
theorem dX11_nodeOf_12 : decode cX11_nodeOf 12 = .ok (.iadd, 1) := by decide +kernel
theorem dX11_nodeOf_13 : decode cX11_nodeOf 13 = .ok (.ireturn, 1) := by decide +kernel
theorem dX11_move_0 : decode cX11_move 0 = .ok (.iload_n 2, 1) := by decide +kernel
theorem dX11_move_1 : decode cX11_move 1 = .ok (.invokestatic 328, 3) := by decide +kernel
theorem dX11_move_4 : decode cX11_move 4 = .ok (.istore 4, 2) := by decide +kernel
theorem dX11_move_6 : decode cX11_move 6 = .ok (.aload_n 0, 1) := by decide +kernel
theorem dX11_move_7 : decode cX11_move 7 = .ok (.iload_n 1, 1) := by decide +kernel
theorem dX11_move_8 : decode cX11_move 8 = .ok (.invokevirtual 103, 3) := by decide +kernel
theorem dX11_move_11 : decode cX11_move 11 = .ok (.ifCond .eq 27, 3) := by decide +kernel
theorem dX11_move_14 : decode cX11_move 14 = .ok (.aload_n 0, 1) := by decide +kernel
theorem dX11_move_15 : decode cX11_move 15 = .ok (.iload_n 2, 1) := by decide +kernel
theorem dX11_move_16 : decode cX11_move 16 = .ok (.invokevirtual 325, 3) := by decide +kernel
theorem dX11_move_19 : decode cX11_move 19 = .ok (.ifCond .eq 19, 3) := by decide +kernel
theorem dX11_move_22 : decode cX11_move 22 = .ok (.iload 4, 2) := by decide +kernel
theorem dX11_move_24 : decode cX11_move 24 = .ok (.ifCond .lt 16, 3) := by decide +kernel
theorem dX11_move_27 : decode cX11_move 27 = .ok (.aload_n 0, 1) := by decide +kernel
theorem dX11_move_28 : decode cX11_move 28 = .ok (.iconst 0, 1) := by decide +kernel
theorem dX11_move_29 : decode cX11_move 29 = .ok (.iload 4, 2) := by decide +kernel
theorem dX11_move_31 : decode cX11_move 31 = .ok (.iload_n 1, 1) := by decide +kernel
theorem dX11_move_32 : decode cX11_move 32 = .ok (.invokevirtual 125, 3) := by decide +kernel
theorem dX11_move_35 : decode cX11_move 35 = .ok (.ifCond .eq 5, 3) := by decide +kernel
theorem dX11_move_38 : decode cX11_move 38 = .ok (.iconst 0, 1) := by decide +kernel
theorem dX11_move_39 : decode cX11_move 39 = .ok (.ireturn, 1) := by decide +kernel
theorem dX11_move_40 : decode cX11_move 40 = .ok (.aload_n 0, 1) := by decide +kernel
theorem dX11_move_41 : decode cX11_move 41 = .ok (.iconst 0, 1) := by decide +kernel
theorem dX11_move_42 : decode cX11_move 42 = .ok (.iconst 0, 1) := by decide +kernel
theorem dX11_move_43 : decode cX11_move 43 = .ok (.iload_n 1, 1) := by decide +kernel
theorem dX11_move_44 : decode cX11_move 44 = .ok (.invokevirtual 110, 3) := by decide +kernel
theorem dX11_move_47 : decode cX11_move 47 = .ok (.iload 4, 2) := by decide +kernel
theorem dX11_move_49 : decode cX11_move 49 = .ok (.if_icmp .ne 7, 3) := by decide +kernel
theorem dX11_move_52 : decode cX11_move 52 = .ok (.iconst 1, 1) := by decide +kernel
theorem dX11_move_53 : decode cX11_move 53 = .ok (.goto 4, 3) := by decide +kernel
theorem dX11_move_56 : decode cX11_move 56 = .ok (.iconst 0, 1) := by decide +kernel
theorem dX11_move_57 : decode cX11_move 57 = .ok (.istore 5, 2) := by decide +kernel
theorem dX11_move_59 : decode cX11_move 59 = .ok (.iload_n 3, 1) := by decide +kernel
theorem dX11_move_60 : decode cX11_move 60 = .ok (.iconst 0, 1) := by decide +kernel
theorem dX11_move_61 : decode cX11_move 61 = .ok (.aload_n 0, 1) := by decide +kernel
theorem dX11_move_62 : decode cX11_move 62 = .ok (.iload 4, 2) := by decide +kernel
theorem dX11_move_64 : decode cX11_move 64 = .ok (.invokevirtual 350, 3) := by decide +kernel
theorem dX11_move_67 : decode cX11_move 67 = .ok (.iload 5, 2) := by decide +kernel
theorem dX11_move_69 : decode cX11_move 69 = .ok (.ifCond .eq 7, 3) := by decide +kernel
theorem dX11_move_72 : decode cX11_move 72 = .ok (.iconst 1, 1) := by decide +kernel
theorem dX11_move_73 : decode cX11_move 73 = .ok (.goto 4, 3) := by decide +kernel
theorem dX11_move_76 : decode cX11_move 76 = .ok (.iconst 0, 1) := by decide +kernel
theorem dX11_move_77 : decode cX11_move 77 = .ok (.isub, 1) := by decide +kernel
theorem dX11_move_78 : decode cX11_move 78 = .ok (.invokestatic 95, 3) := by decide +kernel
theorem dX11_move_81 : decode cX11_move 81 = .ok (.ifCond .eq 17, 3) := by decide +kernel
theorem dX11_move_84 : decode cX11_move 84 = .ok (.iload 5, 2) := by decide +kernel
theorem dX11_move_86 : decode cX11_move 86 = .ok (.ifCond .eq 14, 3) := by decide +kernel
theorem dX11_move_89 : decode cX11_move 89 = .ok (.aload_n 0, 1) := by decide +kernel
theorem dX11_move_90 : decode cX11_move 90 = .ok (.iload_n 1, 1) := by decide +kernel
theorem dX11_move_91 : decode cX11_move 91 = .ok (.invokevirtual 353, 3) := by decide +kernel
theorem dX11_move_94 : decode cX11_move 94 = .ok (.iload_n 3, 1) := by decide +kernel
theorem dX11_move_95 : decode cX11_move 95 = .ok (.if_icmp .ne 5, 3) := by decide +kernel
theorem dX11_move_98 : decode cX11_move 98 = .ok (.iconst 0, 1) := by decide +kernel
theorem dX11_move_99 : decode cX11_move 99 = .ok (.ireturn, 1) := by decide +kernel
theorem dX11_move_100 : decode cX11_move 100 = .ok (.iload 4, 2) := by decide +kernel
theorem dX11_move_102 : decode cX11_move 102 = .ok (.ifCond .ge 7, 3) := by decide +kernel
theorem dX11_move_105 : decode cX11_move 105 = .ok (.iconst 0, 1) := by decide +kernel
theorem dX11_move_106 : decode cX11_move 106 = .ok (.goto 12, 3) := by decide +kernel
theorem dX11_move_109 : decode cX11_move 109 = .ok (.aload_n 0, 1) := by decide +kernel
theorem dX11_move_110 : decode cX11_move 110 = .ok (.iconst 0, 1) := by decide +kernel
theorem dX11_move_111 : decode cX11_move 111 = .ok (.iload 4, 2) := by decide +kernel
theorem dX11_move_113 : decode cX11_move 113 = .ok (.invokevirtual 128, 3) := by decide +kernel
theorem dX11_move_116 : decode cX11_move 116 = .ok (.iconst 1, 1) := by decide +kernel
theorem dX11_move_117 : decode cX11_move 117 = .ok (.iadd, 1) := by decide +kernel
theorem dX11_move_118 : decode cX11_move 118 = .ok (.aload_n 0, 1) := by decide +kernel
theorem dX11_move_119 : decode cX11_move 119 = .ok (.iconst 0, 1) := by decide +kernel
theorem dX11_move_120 : decode cX11_move 120 = .ok (.iload_n 1, 1) := by decide +kernel
theorem dX11_move_121 : decode cX11_move 121 = .ok (.invokevirtual 356, 3) := by decide +kernel
theorem dX11_move_124 : decode cX11_move 124 = .ok (.iadd, 1) := by decide +kernel
theorem dX11_move_125 : decode cX11_move 125 = .ok (.iconst 4, 1) := by decide +kernel
theorem dX11_move_126 : decode cX11_move 126 = .ok (.if_icmp .le 5, 3) := by decide +kernel
theorem dX11_move_129 : decode cX11_move 129 = .ok (.iconst 0, 1) := by decide +kernel
theorem dX11_move_130 : decode cX11_move 130 = .ok (.ireturn, 1) := by decide +kernel
theorem dX11_move_131 : decode cX11_move 131 = .ok (.iconst 0, 1) := by decide +kernel
theorem dX11_move_132 : decode cX11_move 132 = .ok (.istore 6, 2) := by decide +kernel
theorem dX11_move_134 : decode cX11_move 134 = .ok (.iload 6, 2) := by decide +kernel
theorem dX11_move_136 : decode cX11_move 136 = .ok (.sipush 292, 3) := by decide +kernel
theorem dX11_move_139 : decode cX11_move 139 = .ok (.if_icmp .ge 23, 3) := by decide +kernel
theorem dX11_move_142 : decode cX11_move 142 = .ok (.aload_n 0, 1) := by decide +kernel
theorem dX11_move_143 : decode cX11_move 143 = .ok (.getfield 28, 3) := by decide +kernel
theorem dX11_move_146 : decode cX11_move 146 = .ok (.iload 6, 2) := by decide +kernel
theorem dX11_move_148 : decode cX11_move 148 = .ok (.aload_n 0, 1) := by decide +kernel
theorem dX11_move_149 : decode cX11_move 149 = .ok (.getfield 24, 3) := by decide +kernel
theorem dX11_move_152 : decode cX11_move 152 = .ok (.iload 6, 2) := by decide +kernel
theorem dX11_move_154 : decode cX11_move 154 = .ok (.laload, 1) := by decide +kernel
theorem dX11_move_155 : decode cX11_move 155 = .ok (.lastore, 1) := by decide +kernel
theorem dX11_move_156 : decode cX11_move 156 = .ok (.iinc 6 1, 3) := by decide +kernel
theorem dX11_move_159 : decode cX11_move 159 = .ok (.goto (-25), 3) := by decide +kernel
theorem dX11_move_162 : decode cX11_move 162 = .ok (.aload_n 0, 1) := by decide +kernel
theorem dX11_move_163 : decode cX11_move 163 = .ok (.iconst 0, 1) := by decide +kernel
theorem dX11_move_164 : decode cX11_move 164 = .ok (.iload_n 1, 1) := by decide +kernel
theorem dX11_move_165 : decode cX11_move 165 = .ok (.invokevirtual 122, 3) := by decide +kernel
theorem dX11_move_168 : decode cX11_move 168 = .ok (.istore 6, 2) := by decide +kernel
theorem dX11_move_170 : decode cX11_move 170 = .ok (.aload_n 0, 1) := by decide +kernel
theorem dX11_move_171 : decode cX11_move 171 = .ok (.iload_n 1, 1) := by decide +kernel
theorem dX11_move_172 : decode cX11_move 172 = .ok (.invokevirtual 344, 3) := by decide +kernel
theorem dX11_move_175 : decode cX11_move 175 = .ok (.iload 6, 2) := by decide +kernel
theorem dX11_move_177 : decode cX11_move 177 = .ok (.isub, 1) := by decide +kernel
theorem dX11_move_178 : decode cX11_move 178 = .ok (.istore 7, 2) := by decide +kernel
theorem dX11_move_180 : decode cX11_move 180 = .ok (.iconst 0, 1) := by decide +kernel
theorem dX11_move_181 : decode cX11_move 181 = .ok (.istore 8, 2) := by decide +kernel
theorem dX11_move_183 : decode cX11_move 183 = .ok (.iload 8, 2) := by decide +kernel
theorem dX11_move_185 : decode cX11_move 185 = .ok (.iload 7, 2) := by decide +kernel
theorem dX11_move_187 : decode cX11_move 187 = .ok (.if_icmp .ge 26, 3) := by decide +kernel
theorem dX11_move_190 : decode cX11_move 190 = .ok (.aload_n 0, 1) := by decide +kernel
theorem dX11_move_191 : decode cX11_move 191 = .ok (.getfield 55, 3) := by decide +kernel
theorem dX11_move_194 : decode cX11_move 194 = .ok (.iload 8, 2) := by decide +kernel
theorem dX11_move_196 : decode cX11_move 196 = .ok (.aload_n 0, 1) := by decide +kernel
theorem dX11_move_197 : decode cX11_move 197 = .ok (.iconst 0, 1) := by decide +kernel
theorem dX11_move_198 : decode cX11_move 198 = .ok (.iload 6, 2) := by decide +kernel
theorem dX11_move_200 : decode cX11_move 200 = .ok (.iload 8, 2) := by decide +kernel
theorem dX11_move_202 : decode cX11_move 202 = .ok (.iadd, 1) := by decide +kernel
theorem dX11_move_203 : decode cX11_move 203 = .ok (.invokevirtual 114, 3) := by decide +kernel
theorem dX11_move_206 : decode cX11_move 206 = .ok (.iastore, 1) := by decide +kernel
theorem dX11_move_207 : decode cX11_move 207 = .ok (.iinc 8 1, 3) := by decide +kernel
theorem dX11_move_210 : decode cX11_move 210 = .ok (.goto (-27), 3) := by decide +kernel
theorem dX11_move_213 : decode cX11_move 213 = .ok (.aload_n 0, 1) := by decide +kernel
theorem dX11_move_214 : decode cX11_move 214 = .ok (.getfield 24, 3) := by decide +kernel
theorem dX11_move_217 : decode cX11_move 217 = .ok (.iconst 0, 1) := by decide +kernel
theorem dX11_move_218 : decode cX11_move 218 = .ok (.iload_n 1, 1) := by decide +kernel
theorem dX11_move_219 : decode cX11_move 219 = .ok (.iadd, 1) := by decide +kernel
theorem dX11_move_220 : decode cX11_move 220 = .ok (.ldc2_w 93, 3) := by decide +kernel
theorem dX11_move_223 : decode cX11_move 223 = .ok (.lastore, 1) := by decide +kernel
theorem dX11_move_224 : decode cX11_move 224 = .ok (.aload_n 0, 1) := by decide +kernel
theorem dX11_move_225 : decode cX11_move 225 = .ok (.iload 6, 2) := by decide +kernel
theorem dX11_move_227 : decode cX11_move 227 = .ok (.iload 7, 2) := by decide +kernel
theorem dX11_move_229 : decode cX11_move 229 = .ok (.invokevirtual 347, 3) := by decide +kernel
theorem dX11_move_232 : decode cX11_move 232 = .ok (.aload_n 0, 1) := by decide +kernel
theorem dX11_move_233 : decode cX11_move 233 = .ok (.iload 4, 2) := by decide +kernel
theorem dX11_move_235 : decode cX11_move 235 = .ok (.iload_n 3, 1) := by decide +kernel
theorem dX11_move_236 : decode cX11_move 236 = .ok (.invokevirtual 359, 3) := by decide +kernel
theorem dX11_move_239 : decode cX11_move 239 = .ok (.istore 8, 2) := by decide +kernel
theorem dX11_move_241 : decode cX11_move 241 = .ok (.aload_n 0, 1) := by decide +kernel
theorem dX11_move_242 : decode cX11_move 242 = .ok (.iconst 0, 1) := by decide +kernel
theorem dX11_move_243 : decode cX11_move 243 = .ok (.invokevirtual 118, 3) := by decide +kernel
theorem dX11_move_246 : decode cX11_move 246 = .ok (.iconst 1, 1) := by decide +kernel
theorem dX11_move_247 : decode cX11_move 247 = .ok (.isub, 1) := by decide +kernel
theorem dX11_move_248 : decode cX11_move 248 = .ok (.istore 9, 2) := by decide +kernel
theorem dX11_move_250 : decode cX11_move 250 = .ok (.iload 9, 2) := by decide +kernel
theorem dX11_move_252 : decode cX11_move 252 = .ok (.iload 8, 2) := by decide +kernel
theorem dX11_move_254 : decode cX11_move 254 = .ok (.if_icmp .lt 34, 3) := by decide +kernel
theorem dX11_move_257 : decode cX11_move 257 = .ok (.aload_n 0, 1) := by decide +kernel
theorem dX11_move_258 : decode cX11_move 258 = .ok (.getfield 24, 3) := by decide +kernel
theorem dX11_move_261 : decode cX11_move 261 = .ok (.sipush 256, 3) := by decide +kernel
theorem dX11_move_264 : decode cX11_move 264 = .ok (.iload 9, 2) := by decide +kernel
theorem dX11_move_266 : decode cX11_move 266 = .ok (.iadd, 1) := by decide +kernel
theorem dX11_move_267 : decode cX11_move 267 = .ok (.iload 7, 2) := by decide +kernel
theorem dX11_move_269 : decode cX11_move 269 = .ok (.iadd, 1) := by decide +kernel
theorem dX11_move_270 : decode cX11_move 270 = .ok (.aload_n 0, 1) := by decide +kernel
theorem dX11_move_271 : decode cX11_move 271 = .ok (.getfield 24, 3) := by decide +kernel
theorem dX11_move_274 : decode cX11_move 274 = .ok (.sipush 256, 3) := by decide +kernel
theorem dX11_move_277 : decode cX11_move 277 = .ok (.iload 9, 2) := by decide +kernel
theorem dX11_move_279 : decode cX11_move 279 = .ok (.iadd, 1) := by decide +kernel
theorem dX11_move_280 : decode cX11_move 280 = .ok (.laload, 1) := by decide +kernel
theorem dX11_move_281 : decode cX11_move 281 = .ok (.lastore, 1) := by decide +kernel
theorem dX11_move_282 : decode cX11_move 282 = .ok (.iinc 9 (-1), 3) := by decide +kernel
theorem dX11_move_285 : decode cX11_move 285 = .ok (.goto (-35), 3) := by decide +kernel
theorem dX11_move_288 : decode cX11_move 288 = .ok (.iconst 0, 1) := by decide +kernel
theorem dX11_move_289 : decode cX11_move 289 = .ok (.istore 9, 2) := by decide +kernel
theorem dX11_move_291 : decode cX11_move 291 = .ok (.iload 9, 2) := by decide +kernel
theorem dX11_move_293 : decode cX11_move 293 = .ok (.iload 7, 2) := by decide +kernel
theorem dX11_move_295 : decode cX11_move 295 = .ok (.if_icmp .ge 31, 3) := by decide +kernel
theorem dX11_move_298 : decode cX11_move 298 = .ok (.aload_n 0, 1) := by decide +kernel
theorem dX11_move_299 : decode cX11_move 299 = .ok (.getfield 24, 3) := by decide +kernel
theorem dX11_move_302 : decode cX11_move 302 = .ok (.sipush 256, 3) := by decide +kernel
theorem dX11_move_305 : decode cX11_move 305 = .ok (.iload 8, 2) := by decide +kernel
theorem dX11_move_307 : decode cX11_move 307 = .ok (.iadd, 1) := by decide +kernel
theorem dX11_move_308 : decode cX11_move 308 = .ok (.iload 9, 2) := by decide +kernel
theorem dX11_move_310 : decode cX11_move 310 = .ok (.iadd, 1) := by decide +kernel
theorem dX11_move_311 : decode cX11_move 311 = .ok (.aload_n 0, 1) := by decide +kernel
theorem dX11_move_312 : decode cX11_move 312 = .ok (.getfield 55, 3) := by decide +kernel
theorem dX11_move_315 : decode cX11_move 315 = .ok (.iload 9, 2) := by decide +kernel
theorem dX11_move_317 : decode cX11_move 317 = .ok (.iaload, 1) := by decide +kernel
theorem dX11_move_318 : decode cX11_move 318 = .ok (.i2l, 1) := by decide +kernel
theorem dX11_move_319 : decode cX11_move 319 = .ok (.lastore, 1) := by decide +kernel
theorem dX11_move_320 : decode cX11_move 320 = .ok (.iinc 9 1, 3) := by decide +kernel
theorem dX11_move_323 : decode cX11_move 323 = .ok (.goto (-32), 3) := by decide +kernel
theorem dX11_move_326 : decode cX11_move 326 = .ok (.aload_n 0, 1) := by decide +kernel
theorem dX11_move_327 : decode cX11_move 327 = .ok (.getfield 24, 3) := by decide +kernel
theorem dX11_move_330 : decode cX11_move 330 = .ok (.sipush 288, 3) := by decide +kernel
theorem dX11_move_333 : decode cX11_move 333 = .ok (.dup2, 1) := by decide +kernel
theorem dX11_move_334 : decode cX11_move 334 = .ok (.laload, 1) := by decide +kernel
theorem dX11_move_335 : decode cX11_move 335 = .ok (.iload 7, 2) := by decide +kernel
theorem dX11_move_337 : decode cX11_move 337 = .ok (.i2l, 1) := by decide +kernel
theorem dX11_move_338 : decode cX11_move 338 = .ok (.ladd, 1) := by decide +kernel
theorem dX11_move_339 : decode cX11_move 339 = .ok (.lastore, 1) := by decide +kernel
theorem dX11_move_340 : decode cX11_move 340 = .ok (.aload_n 0, 1) := by decide +kernel
theorem dX11_move_341 : decode cX11_move 341 = .ok (.getfield 24, 3) := by decide +kernel
theorem dX11_move_344 : decode cX11_move 344 = .ok (.iconst 0, 1) := by decide +kernel
theorem dX11_move_345 : decode cX11_move 345 = .ok (.iload_n 1, 1) := by decide +kernel
theorem dX11_move_346 : decode cX11_move 346 = .ok (.iadd, 1) := by decide +kernel
theorem dX11_move_347 : decode cX11_move 347 = .ok (.iload 4, 2) := by decide +kernel
theorem dX11_move_349 : decode cX11_move 349 = .ok (.i2l, 1) := by decide +kernel
theorem dX11_move_350 : decode cX11_move 350 = .ok (.lastore, 1) := by decide +kernel
theorem dX11_move_351 : decode cX11_move 351 = .ok (.aload_n 0, 1) := by decide +kernel
theorem dX11_move_352 : decode cX11_move 352 = .ok (.invokevirtual 362, 3) := by decide +kernel
theorem dX11_move_355 : decode cX11_move 355 = .ok (.ifCond .ne 9, 3) := by decide +kernel
theorem dX11_move_358 : decode cX11_move 358 = .ok (.aload_n 0, 1) := by decide +kernel
theorem dX11_move_359 : decode cX11_move 359 = .ok (.invokevirtual 312, 3) := by decide +kernel
theorem dX11_move_362 : decode cX11_move 362 = .ok (.iconst 0, 1) := by decide +kernel
theorem dX11_move_363 : decode cX11_move 363 = .ok (.ireturn, 1) := by decide +kernel
theorem dX11_move_364 : decode cX11_move 364 = .ok (.aload_n 0, 1) := by decide +kernel
theorem dX11_move_365 : decode cX11_move 365 = .ok (.invokevirtual 331, 3) := by decide +kernel
theorem dX11_move_368 : decode cX11_move 368 = .ok (.aload_n 0, 1) := by decide +kernel
theorem dX11_move_369 : decode cX11_move 369 = .ok (.invokevirtual 334, 3) := by decide +kernel
theorem dX11_move_372 : decode cX11_move 372 = .ok (.aload_n 0, 1) := by decide +kernel
theorem dX11_move_373 : decode cX11_move 373 = .ok (.invokevirtual 312, 3) := by decide +kernel
theorem dX11_move_376 : decode cX11_move 376 = .ok (.iconst 1, 1) := by decide +kernel
theorem dX11_move_377 : decode cX11_move 377 = .ok (.ireturn, 1) := by decide +kernel
theorem dX11_setKind_0 : decode cX11_setKind 0 = .ok (.iload_n 2, 1) := by decide +kernel
theorem dX11_setKind_1 : decode cX11_setKind 1 = .ok (.ifCond .ne 34, 3) := by decide +kernel
theorem dX11_setKind_4 : decode cX11_setKind 4 = .ok (.iload_n 3, 1) := by decide +kernel
theorem dX11_setKind_5 : decode cX11_setKind 5 = .ok (.iconst 0, 1) := by decide +kernel
theorem dX11_setKind_6 : decode cX11_setKind 6 = .ok (.sipush 9999, 3) := by decide +kernel
theorem dX11_setKind_9 : decode cX11_setKind 9 = .ok (.invokestatic 95, 3) := by decide +kernel
theorem dX11_setKind_12 : decode cX11_setKind 12 = .ok (.ifCond .eq 19, 3) := by decide +kernel
theorem dX11_setKind_15 : decode cX11_setKind 15 = .ok (.iload 4, 2) := by decide +kernel
theorem dX11_setKind_17 : decode cX11_setKind 17 = .ok (.iload_n 3, 1) := by decide +kernel
theorem dX11_setKind_18 : decode cX11_setKind 18 = .ok (.sipush 9999, 3) := by decide +kernel
theorem dX11_setKind_21 : decode cX11_setKind 21 = .ok (.invokestatic 95, 3) := by decide +kernel
theorem dX11_setKind_24 : decode cX11_setKind 24 = .ok (.ifCond .eq 7, 3) := by decide +kernel
theorem dX11_setKind_27 : decode cX11_setKind 27 = .ok (.iconst 1, 1) := by decide +kernel
theorem dX11_setKind_28 : decode cX11_setKind 28 = .ok (.goto 55, 3) := by decide +kernel
theorem dX11_setKind_31 : decode cX11_setKind 31 = .ok (.iconst 0, 1) := by decide +kernel
theorem dX11_setKind_32 : decode cX11_setKind 32 = .ok (.goto 51, 3) := by decide +kernel
theorem dX11_setKind_35 : decode cX11_setKind 35 = .ok (.iload_n 2, 1) := by decide +kernel
theorem dX11_setKind_36 : decode cX11_setKind 36 = .ok (.iconst 1, 1) := by decide +kernel
theorem dX11_setKind_37 : decode cX11_setKind 37 = .ok (.if_icmp .ne 26, 3) := by decide +kernel
theorem dX11_setKind_40 : decode cX11_setKind 40 = .ok (.iload_n 3, 1) := by decide +kernel
theorem dX11_setKind_41 : decode cX11_setKind 41 = .ok (.ifCond .ne 18, 3) := by decide +kernel
theorem dX11_setKind_44 : decode cX11_setKind 44 = .ok (.iload 4, 2) := by decide +kernel
theorem dX11_setKind_46 : decode cX11_setKind 46 = .ok (.iconst 2, 1) := by decide +kernel
theorem dX11_setKind_47 : decode cX11_setKind 47 = .ok (.bipush 9, 2) := by decide +kernel
theorem dX11_setKind_49 : decode cX11_setKind 49 = .ok (.invokestatic 95, 3) := by decide +kernel
theorem dX11_setKind_52 : decode cX11_setKind 52 = .ok (.ifCond .eq 7, 3) := by decide +kernel
theorem dX11_setKind_55 : decode cX11_setKind 55 = .ok (.iconst 1, 1) := by decide +kernel
theorem dX11_setKind_56 : decode cX11_setKind 56 = .ok (.goto 27, 3) := by decide +kernel
theorem dX11_setKind_59 : decode cX11_setKind 59 = .ok (.iconst 0, 1) := by decide +kernel
theorem dX11_setKind_60 : decode cX11_setKind 60 = .ok (.goto 23, 3) := by decide +kernel
theorem dX11_setKind_63 : decode cX11_setKind 63 = .ok (.iload_n 2, 1) := by decide +kernel
theorem dX11_setKind_64 : decode cX11_setKind 64 = .ok (.iconst 2, 1) := by decide +kernel
theorem dX11_setKind_65 : decode cX11_setKind 65 = .ok (.if_icmp .ne 17, 3) := by decide +kernel
theorem dX11_setKind_68 : decode cX11_setKind 68 = .ok (.iload_n 3, 1) := by decide +kernel
theorem dX11_setKind_69 : decode cX11_setKind 69 = .ok (.ifCond .ne 13, 3) := by decide +kernel
theorem dX11_setKind_72 : decode cX11_setKind 72 = .ok (.iload 4, 2) := by decide +kernel
theorem dX11_setKind_74 : decode cX11_setKind 74 = .ok (.iconst 1, 1) := by decide +kernel
theorem dX11_setKind_75 : decode cX11_setKind 75 = .ok (.if_icmp .ne 7, 3) := by decide +kernel
theorem dX11_setKind_78 : decode cX11_setKind 78 = .ok (.iconst 1, 1) := by decide +kernel
theorem dX11_setKind_79 : decode cX11_setKind 79 = .ok (.goto 4, 3) := by decide +kernel
theorem dX11_setKind_82 : decode cX11_setKind 82 = .ok (.iconst 0, 1) := by decide +kernel
theorem dX11_setKind_83 : decode cX11_setKind 83 = .ok (.istore 5, 2) := by decide +kernel
theorem dX11_setKind_85 : decode cX11_setKind 85 = .ok (.aload_n 0, 1) := by decide +kernel
theorem dX11_setKind_86 : decode cX11_setKind 86 = .ok (.iload_n 1, 1) := by decide +kernel
theorem dX11_setKind_87 : decode cX11_setKind 87 = .ok (.invokevirtual 365, 3) := by decide +kernel
theorem dX11_setKind_90 : decode cX11_setKind 90 = .ok (.ifCond .eq 8, 3) := by decide +kernel
theorem dX11_setKind_93 : decode cX11_setKind 93 = .ok (.iload 5, 2) := by decide +kernel
theorem dX11_setKind_95 : decode cX11_setKind 95 = .ok (.ifCond .ne 5, 3) := by decide +kernel
theorem dX11_setKind_98 : decode cX11_setKind 98 = .ok (.iconst (-1), 1) := by decide +kernel
theorem dX11_setKind_99 : decode cX11_setKind 99 = .ok (.ireturn, 1) := by decide +kernel
theorem dX11_setKind_100 : decode cX11_setKind 100 = .ok (.iload_n 2, 1) := by decide +kernel
theorem dX11_setKind_101 : decode cX11_setKind 101 = .ok (.iconst 1, 1) := by decide +kernel
theorem dX11_setKind_102 : decode cX11_setKind 102 = .ok (.if_icmp .ne 10, 3) := by decide +kernel
theorem dX11_setKind_105 : decode cX11_setKind 105 = .ok (.iload 4, 2) := by decide +kernel
theorem dX11_setKind_107 : decode cX11_setKind 107 = .ok (.iconst 1, 1) := by decide +kernel
theorem dX11_setKind_108 : decode cX11_setKind 108 = .ok (.isub, 1) := by decide +kernel
theorem dX11_setKind_109 : decode cX11_setKind 109 = .ok (.goto 5, 3) := by decide +kernel
theorem dX11_setKind_112 : decode cX11_setKind 112 = .ok (.iload 4, 2) := by decide +kernel
theorem dX11_setKind_114 : decode cX11_setKind 114 = .ok (.istore 6, 2) := by decide +kernel
theorem dX11_setKind_116 : decode cX11_setKind 116 = .ok (.aload_n 0, 1) := by decide +kernel
theorem dX11_setKind_117 : decode cX11_setKind 117 = .ok (.iconst 0, 1) := by decide +kernel
theorem dX11_setKind_118 : decode cX11_setKind 118 = .ok (.bipush 64, 2) := by decide +kernel
theorem dX11_setKind_120 : decode cX11_setKind 120 = .ok (.iload_n 1, 1) := by decide +kernel
theorem dX11_setKind_121 : decode cX11_setKind 121 = .ok (.invokevirtual 110, 3) := by decide +kernel
theorem dX11_setKind_124 : decode cX11_setKind 124 = .ok (.istore 7, 2) := by decide +kernel
theorem dX11_setKind_126 : decode cX11_setKind 126 = .ok (.iload 7, 2) := by decide +kernel
theorem dX11_setKind_128 : decode cX11_setKind 128 = .ok (.iload_n 2, 1) := by decide +kernel
theorem dX11_setKind_129 : decode cX11_setKind 129 = .ok (.if_icmp .ne 32, 3) := by decide +kernel
theorem dX11_setKind_132 : decode cX11_setKind 132 = .ok (.aload_n 0, 1) := by decide +kernel
theorem dX11_setKind_133 : decode cX11_setKind 133 = .ok (.iconst 0, 1) := by decide +kernel
theorem dX11_setKind_134 : decode cX11_setKind 134 = .ok (.bipush 96, 2) := by decide +kernel
theorem dX11_setKind_136 : decode cX11_setKind 136 = .ok (.iload_n 1, 1) := by decide +kernel
theorem dX11_setKind_137 : decode cX11_setKind 137 = .ok (.invokevirtual 110, 3) := by decide +kernel
theorem dX11_setKind_140 : decode cX11_setKind 140 = .ok (.iload_n 3, 1) := by decide +kernel
theorem dX11_setKind_141 : decode cX11_setKind 141 = .ok (.if_icmp .ne 20, 3) := by decide +kernel
theorem dX11_setKind_144 : decode cX11_setKind 144 = .ok (.aload_n 0, 1) := by decide +kernel
theorem dX11_setKind_145 : decode cX11_setKind 145 = .ok (.iconst 0, 1) := by decide +kernel
theorem dX11_setKind_146 : decode cX11_setKind 146 = .ok (.sipush 128, 3) := by decide +kernel
theorem dX11_setKind_149 : decode cX11_setKind 149 = .ok (.iload_n 1, 1) := by decide +kernel
theorem dX11_setKind_150 : decode cX11_setKind 150 = .ok (.invokevirtual 110, 3) := by decide +kernel
theorem dX11_setKind_153 : decode cX11_setKind 153 = .ok (.iload 6, 2) := by decide +kernel
theorem dX11_setKind_155 : decode cX11_setKind 155 = .ok (.if_icmp .ne 6, 3) := by decide +kernel
theorem dX11_setKind_158 : decode cX11_setKind 158 = .ok (.bipush (-2), 2) := by decide +kernel
theorem dX11_setKind_160 : decode cX11_setKind 160 = .ok (.ireturn, 1) := by decide +kernel
theorem dX11_setKind_161 : decode cX11_setKind 161 = .ok (.aload_n 0, 1) := by decide +kernel
theorem dX11_setKind_162 : decode cX11_setKind 162 = .ok (.invokevirtual 334, 3) := by decide +kernel
theorem dX11_setKind_165 : decode cX11_setKind 165 = .ok (.aload_n 0, 1) := by decide +kernel
theorem dX11_setKind_166 : decode cX11_setKind 166 = .ok (.getfield 24, 3) := by decide +kernel
theorem dX11_setKind_169 : decode cX11_setKind 169 = .ok (.bipush 64, 2) := by decide +kernel
theorem dX11_setKind_171 : decode cX11_setKind 171 = .ok (.iload_n 1, 1) := by decide +kernel
theorem dX11_setKind_172 : decode cX11_setKind 172 = .ok (.iadd, 1) := by decide +kernel
theorem dX11_setKind_173 : decode cX11_setKind 173 = .ok (.iload_n 2, 1) := by decide +kernel
theorem dX11_setKind_174 : decode cX11_setKind 174 = .ok (.i2l, 1) := by decide +kernel
theorem dX11_setKind_175 : decode cX11_setKind 175 = .ok (.lastore, 1) := by decide +kernel
theorem dX11_setKind_176 : decode cX11_setKind 176 = .ok (.aload_n 0, 1) := by decide +kernel
theorem dX11_setKind_177 : decode cX11_setKind 177 = .ok (.getfield 24, 3) := by decide +kernel
theorem dX11_setKind_180 : decode cX11_setKind 180 = .ok (.bipush 96, 2) := by decide +kernel
theorem dX11_setKind_182 : decode cX11_setKind 182 = .ok (.iload_n 1, 1) := by decide +kernel
theorem dX11_setKind_183 : decode cX11_setKind 183 = .ok (.iadd, 1) := by decide +kernel
theorem dX11_setKind_184 : decode cX11_setKind 184 = .ok (.iload_n 3, 1) := by decide +kernel
theorem dX11_setKind_185 : decode cX11_setKind 185 = .ok (.i2l, 1) := by decide +kernel
theorem dX11_setKind_186 : decode cX11_setKind 186 = .ok (.lastore, 1) := by decide +kernel
theorem dX11_setKind_187 : decode cX11_setKind 187 = .ok (.aload_n 0, 1) := by decide +kernel
theorem dX11_setKind_188 : decode cX11_setKind 188 = .ok (.getfield 24, 3) := by decide +kernel
theorem dX11_setKind_191 : decode cX11_setKind 191 = .ok (.sipush 128, 3) := by decide +kernel
theorem dX11_setKind_194 : decode cX11_setKind 194 = .ok (.iload_n 1, 1) := by decide +kernel
theorem dX11_setKind_195 : decode cX11_setKind 195 = .ok (.iadd, 1) := by decide +kernel
theorem dX11_setKind_196 : decode cX11_setKind 196 = .ok (.iload 6, 2) := by decide +kernel
theorem dX11_setKind_198 : decode cX11_setKind 198 = .ok (.i2l, 1) := by decide +kernel
theorem dX11_setKind_199 : decode cX11_setKind 199 = .ok (.lastore, 1) := by decide +kernel
theorem dX11_setKind_200 : decode cX11_setKind 200 = .ok (.iload 7, 2) := by decide +kernel
theorem dX11_setKind_202 : decode cX11_setKind 202 = .ok (.ireturn, 1) := by decide +kernel
theorem dX11_revisions_0 : decode cX11_revisions 0 = .ok (.aload_n 0, 1) := by decide +kernel
theorem dX11_revisions_1 : decode cX11_revisions 1 = .ok (.getfield 24, 3) := by decide +kernel
theorem dX11_revisions_4 : decode cX11_revisions 4 = .ok (.sipush 2628, 3) := by decide +kernel
theorem dX11_revisions_7 : decode cX11_revisions 7 = .ok (.laload, 1) := by decide +kernel
theorem dX11_revisions_8 : decode cX11_revisions 8 = .ok (.l2i, 1) := by decide +kernel
theorem dX11_revisions_9 : decode cX11_revisions 9 = .ok (.ireturn, 1) := by decide +kernel
theorem dX11_sheets_0 : decode cX11_sheets 0 = .ok (.aload_n 0, 1) := by decide +kernel
theorem dX11_sheets_1 : decode cX11_sheets 1 = .ok (.getfield 24, 3) := by decide +kernel
theorem dX11_sheets_4 : decode cX11_sheets 4 = .ok (.sipush 2629, 3) := by decide +kernel
theorem dX11_sheets_7 : decode cX11_sheets 7 = .ok (.laload, 1) := by decide +kernel
theorem dX11_sheets_8 : decode cX11_sheets 8 = .ok (.l2i, 1) := by decide +kernel
theorem dX11_sheets_9 : decode cX11_sheets 9 = .ok (.ireturn, 1) := by decide +kernel
theorem dX11_isRevision_0 : decode cX11_isRevision 0 = .ok (.iload_n 1, 1) := by decide +kernel
theorem dX11_isRevision_1 : decode cX11_isRevision 1 = .ok (.iconst 0, 1) := by decide +kernel
theorem dX11_isRevision_2 : decode cX11_isRevision 2 = .ok (.aload_n 0, 1) := by decide +kernel
theorem dX11_isRevision_3 : decode cX11_isRevision 3 = .ok (.invokevirtual 368, 3) := by decide +kernel
theorem dX11_isRevision_6 : decode cX11_isRevision 6 = .ok (.iconst 1, 1) := by decide +kernel
theorem dX11_isRevision_7 : decode cX11_isRevision 7 = .ok (.isub, 1) := by decide +kernel
theorem dX11_isRevision_8 : decode cX11_isRevision 8 = .ok (.invokestatic 95, 3) := by decide +kernel
theorem dX11_isRevision_11 : decode cX11_isRevision 11 = .ok (.ireturn, 1) := by decide +kernel
theorem dX11_isSheet_0 : decode cX11_isSheet 0 = .ok (.iload_n 1, 1) := by decide +kernel
theorem dX11_isSheet_1 : decode cX11_isSheet 1 = .ok (.iconst 0, 1) := by decide +kernel
theorem dX11_isSheet_2 : decode cX11_isSheet 2 = .ok (.aload_n 0, 1) := by decide +kernel
theorem dX11_isSheet_3 : decode cX11_isSheet 3 = .ok (.invokevirtual 371, 3) := by decide +kernel
theorem dX11_isSheet_6 : decode cX11_isSheet 6 = .ok (.iconst 1, 1) := by decide +kernel
theorem dX11_isSheet_7 : decode cX11_isSheet 7 = .ok (.isub, 1) := by decide +kernel
theorem dX11_isSheet_8 : decode cX11_isSheet 8 = .ok (.invokestatic 95, 3) := by decide +kernel
theorem dX11_isSheet_11 : decode cX11_isSheet 11 = .ok (.ireturn, 1) := by decide +kernel
theorem dX11_publish_0 : decode cX11_publish 0 = .ok (.aload_n 0, 1) := by decide +kernel
theorem dX11_publish_1 : decode cX11_publish 1 = .ok (.invokevirtual 368, 3) := by decide +kernel
theorem dX11_publish_4 : decode cX11_publish 4 = .ok (.bipush 8, 2) := by decide +kernel
theorem dX11_publish_6 : decode cX11_publish 6 = .ok (.if_icmp .ne 6, 3) := by decide +kernel
theorem dX11_publish_9 : decode cX11_publish 9 = .ok (.bipush (-2), 2) := by decide +kernel
theorem dX11_publish_11 : decode cX11_publish 11 = .ok (.ireturn, 1) := by decide +kernel
theorem dX11_publish_12 : decode cX11_publish 12 = .ok (.aload_n 0, 1) := by decide +kernel
theorem dX11_publish_13 : decode cX11_publish 13 = .ok (.invokevirtual 334, 3) := by decide +kernel
theorem dX11_publish_16 : decode cX11_publish 16 = .ok (.aload_n 0, 1) := by decide +kernel
theorem dX11_publish_17 : decode cX11_publish 17 = .ok (.invokevirtual 368, 3) := by decide +kernel
theorem dX11_publish_20 : decode cX11_publish 20 = .ok (.invokestatic 374, 3) := by decide +kernel
theorem dX11_publish_23 : decode cX11_publish 23 = .ok (.istore_n 1, 1) := by decide +kernel
theorem dX11_publish_24 : decode cX11_publish 24 = .ok (.iconst 0, 1) := by decide +kernel
theorem dX11_publish_25 : decode cX11_publish 25 = .ok (.istore_n 2, 1) := by decide +kernel
theorem dX11_publish_26 : decode cX11_publish 26 = .ok (.iload_n 2, 1) := by decide +kernel
theorem dX11_publish_27 : decode cX11_publish 27 = .ok (.sipush 292, 3) := by decide +kernel
theorem dX11_publish_30 : decode cX11_publish 30 = .ok (.if_icmp .ge 23, 3) := by decide +kernel
theorem dX11_publish_33 : decode cX11_publish 33 = .ok (.aload_n 0, 1) := by decide +kernel
theorem dX11_publish_34 : decode cX11_publish 34 = .ok (.getfield 24, 3) := by decide +kernel
theorem dX11_publish_37 : decode cX11_publish 37 = .ok (.iload_n 1, 1) := by decide +kernel
theorem dX11_publish_38 : decode cX11_publish 38 = .ok (.iload_n 2, 1) := by decide +kernel
theorem dX11_publish_39 : decode cX11_publish 39 = .ok (.iadd, 1) := by decide +kernel
theorem dX11_publish_40 : decode cX11_publish 40 = .ok (.aload_n 0, 1) := by decide +kernel
theorem dX11_publish_41 : decode cX11_publish 41 = .ok (.getfield 24, 3) := by decide +kernel
theorem dX11_publish_44 : decode cX11_publish 44 = .ok (.iload_n 2, 1) := by decide +kernel
theorem dX11_publish_45 : decode cX11_publish 45 = .ok (.laload, 1) := by decide +kernel
theorem dX11_publish_46 : decode cX11_publish 46 = .ok (.lastore, 1) := by decide +kernel
theorem dX11_publish_47 : decode cX11_publish 47 = .ok (.iinc 2 1, 3) := by decide +kernel
theorem dX11_publish_50 : decode cX11_publish 50 = .ok (.goto (-24), 3) := by decide +kernel
theorem dX11_publish_53 : decode cX11_publish 53 = .ok (.aload_n 0, 1) := by decide +kernel
theorem dX11_publish_54 : decode cX11_publish 54 = .ok (.getfield 24, 3) := by decide +kernel
theorem dX11_publish_57 : decode cX11_publish 57 = .ok (.sipush 2628, 3) := by decide +kernel
theorem dX11_publish_60 : decode cX11_publish 60 = .ok (.dup2, 1) := by decide +kernel
theorem dX11_publish_61 : decode cX11_publish 61 = .ok (.laload, 1) := by decide +kernel
theorem dX11_publish_62 : decode cX11_publish 62 = .ok (.lconst 1, 1) := by decide +kernel
theorem dX11_publish_63 : decode cX11_publish 63 = .ok (.ladd, 1) := by decide +kernel
theorem dX11_publish_64 : decode cX11_publish 64 = .ok (.lastore, 1) := by decide +kernel
theorem dX11_publish_65 : decode cX11_publish 65 = .ok (.aload_n 0, 1) := by decide +kernel
theorem dX11_publish_66 : decode cX11_publish 66 = .ok (.invokevirtual 368, 3) := by decide +kernel
theorem dX11_publish_69 : decode cX11_publish 69 = .ok (.iconst 1, 1) := by decide +kernel
theorem dX11_publish_70 : decode cX11_publish 70 = .ok (.isub, 1) := by decide +kernel
theorem dX11_publish_71 : decode cX11_publish 71 = .ok (.ireturn, 1) := by decide +kernel
theorem dX11_begin_0 : decode cX11_begin 0 = .ok (.aload_n 0, 1) := by decide +kernel
theorem dX11_begin_1 : decode cX11_begin 1 = .ok (.invokevirtual 368, 3) := by decide +kernel
theorem dX11_begin_4 : decode cX11_begin 4 = .ok (.ifCond .eq 12, 3) := by decide +kernel
theorem dX11_begin_7 : decode cX11_begin 7 = .ok (.aload_n 0, 1) := by decide +kernel
theorem dX11_begin_8 : decode cX11_begin 8 = .ok (.invokevirtual 371, 3) := by decide +kernel
theorem dX11_begin_11 : decode cX11_begin 11 = .ok (.bipush 10, 2) := by decide +kernel
theorem dX11_begin_13 : decode cX11_begin 13 = .ok (.if_icmp .ne 6, 3) := by decide +kernel
theorem dX11_begin_16 : decode cX11_begin 16 = .ok (.bipush (-2), 2) := by decide +kernel
theorem dX11_begin_18 : decode cX11_begin 18 = .ok (.ireturn, 1) := by decide +kernel
theorem dX11_begin_19 : decode cX11_begin 19 = .ok (.aload_n 0, 1) := by decide +kernel
theorem dX11_begin_20 : decode cX11_begin 20 = .ok (.invokevirtual 334, 3) := by decide +kernel
theorem dX11_begin_23 : decode cX11_begin 23 = .ok (.sipush 2630, 3) := by decide +kernel
theorem dX11_begin_26 : decode cX11_begin 26 = .ok (.bipush 25, 2) := by decide +kernel
theorem dX11_begin_28 : decode cX11_begin 28 = .ok (.aload_n 0, 1) := by decide +kernel
theorem dX11_begin_29 : decode cX11_begin 29 = .ok (.invokevirtual 371, 3) := by decide +kernel
theorem dX11_begin_32 : decode cX11_begin 32 = .ok (.imul, 1) := by decide +kernel
theorem dX11_begin_33 : decode cX11_begin 33 = .ok (.iadd, 1) := by decide +kernel
theorem dX11_begin_34 : decode cX11_begin 34 = .ok (.istore_n 1, 1) := by decide +kernel
theorem dX11_begin_35 : decode cX11_begin 35 = .ok (.aload_n 0, 1) := by decide +kernel
theorem dX11_begin_36 : decode cX11_begin 36 = .ok (.getfield 24, 3) := by decide +kernel
theorem dX11_begin_39 : decode cX11_begin 39 = .ok (.iload_n 1, 1) := by decide +kernel
theorem dX11_begin_40 : decode cX11_begin 40 = .ok (.aload_n 0, 1) := by decide +kernel
theorem dX11_begin_41 : decode cX11_begin 41 = .ok (.invokevirtual 368, 3) := by decide +kernel
theorem dX11_begin_44 : decode cX11_begin 44 = .ok (.iconst 1, 1) := by decide +kernel
theorem dX11_begin_45 : decode cX11_begin 45 = .ok (.isub, 1) := by decide +kernel
theorem dX11_begin_46 : decode cX11_begin 46 = .ok (.i2l, 1) := by decide +kernel
theorem dX11_begin_47 : decode cX11_begin 47 = .ok (.lastore, 1) := by decide +kernel
theorem dX11_begin_48 : decode cX11_begin 48 = .ok (.iconst 0, 1) := by decide +kernel
theorem dX11_begin_49 : decode cX11_begin 49 = .ok (.istore_n 2, 1) := by decide +kernel
theorem dX11_begin_50 : decode cX11_begin 50 = .ok (.iload_n 2, 1) := by decide +kernel
theorem dX11_begin_51 : decode cX11_begin 51 = .ok (.bipush 24, 2) := by decide +kernel
theorem dX11_begin_53 : decode cX11_begin 53 = .ok (.if_icmp .ge 22, 3) := by decide +kernel
theorem dX11_begin_56 : decode cX11_begin 56 = .ok (.aload_n 0, 1) := by decide +kernel
theorem dX11_begin_57 : decode cX11_begin 57 = .ok (.getfield 24, 3) := by decide +kernel
theorem dX11_begin_60 : decode cX11_begin 60 = .ok (.iload_n 1, 1) := by decide +kernel
theorem dX11_begin_61 : decode cX11_begin 61 = .ok (.iconst 1, 1) := by decide +kernel
theorem dX11_begin_62 : decode cX11_begin 62 = .ok (.iadd, 1) := by decide +kernel
theorem dX11_begin_63 : decode cX11_begin 63 = .ok (.iload_n 2, 1) := by decide +kernel
theorem dX11_begin_64 : decode cX11_begin 64 = .ok (.iadd, 1) := by decide +kernel
theorem dX11_begin_65 : decode cX11_begin 65 = .ok (.ldc2_w 377, 3) := by decide +kernel
theorem dX11_begin_68 : decode cX11_begin 68 = .ok (.lastore, 1) := by decide +kernel
theorem dX11_begin_69 : decode cX11_begin 69 = .ok (.iinc 2 1, 3) := by decide +kernel
theorem dX11_begin_72 : decode cX11_begin 72 = .ok (.goto (-22), 3) := by decide +kernel
theorem dX11_begin_75 : decode cX11_begin 75 = .ok (.aload_n 0, 1) := by decide +kernel
theorem dX11_begin_76 : decode cX11_begin 76 = .ok (.getfield 24, 3) := by decide +kernel
theorem dX11_begin_79 : decode cX11_begin 79 = .ok (.sipush 2629, 3) := by decide +kernel
theorem dX11_begin_82 : decode cX11_begin 82 = .ok (.dup2, 1) := by decide +kernel
theorem dX11_begin_83 : decode cX11_begin 83 = .ok (.laload, 1) := by decide +kernel
theorem dX11_begin_84 : decode cX11_begin 84 = .ok (.lconst 1, 1) := by decide +kernel
theorem dX11_begin_85 : decode cX11_begin 85 = .ok (.ladd, 1) := by decide +kernel
theorem dX11_begin_86 : decode cX11_begin 86 = .ok (.lastore, 1) := by decide +kernel
theorem dX11_begin_87 : decode cX11_begin 87 = .ok (.aload_n 0, 1) := by decide +kernel
theorem dX11_begin_88 : decode cX11_begin 88 = .ok (.invokevirtual 371, 3) := by decide +kernel
theorem dX11_begin_91 : decode cX11_begin 91 = .ok (.iconst 1, 1) := by decide +kernel
theorem dX11_begin_92 : decode cX11_begin 92 = .ok (.isub, 1) := by decide +kernel
theorem dX11_begin_93 : decode cX11_begin 93 = .ok (.ireturn, 1) := by decide +kernel
theorem dX11_revisionBy_0 : decode cX11_revisionBy 0 = .ok (.aload_n 0, 1) := by decide +kernel
theorem dX11_revisionBy_1 : decode cX11_revisionBy 1 = .ok (.getfield 24, 3) := by decide +kernel
theorem dX11_revisionBy_4 : decode cX11_revisionBy 4 = .ok (.sipush 2630, 3) := by decide +kernel
theorem dX11_revisionBy_7 : decode cX11_revisionBy 7 = .ok (.bipush 25, 2) := by decide +kernel
theorem dX11_revisionBy_9 : decode cX11_revisionBy 9 = .ok (.iload_n 1, 1) := by decide +kernel
theorem dX11_revisionBy_10 : decode cX11_revisionBy 10 = .ok (.imul, 1) := by decide +kernel
theorem dX11_revisionBy_11 : decode cX11_revisionBy 11 = .ok (.iadd, 1) := by decide +kernel
theorem dX11_revisionBy_12 : decode cX11_revisionBy 12 = .ok (.laload, 1) := by decide +kernel
theorem dX11_revisionBy_13 : decode cX11_revisionBy 13 = .ok (.l2i, 1) := by decide +kernel
theorem dX11_revisionBy_14 : decode cX11_revisionBy 14 = .ok (.ireturn, 1) := by decide +kernel
theorem dX11_formBy_0 : decode cX11_formBy 0 = .ok (.aload_n 0, 1) := by decide +kernel
theorem dX11_formBy_1 : decode cX11_formBy 1 = .ok (.iload_n 1, 1) := by decide +kernel
theorem dX11_formBy_2 : decode cX11_formBy 2 = .ok (.invokevirtual 379, 3) := by decide +kernel
theorem dX11_formBy_5 : decode cX11_formBy 5 = .ok (.invokestatic 374, 3) := by decide +kernel
theorem dX11_formBy_8 : decode cX11_formBy 8 = .ok (.ireturn, 1) := by decide +kernel
theorem dX11_answerAt_0 : decode cX11_answerAt 0 = .ok (.aload_n 0, 1) := by decide +kernel
theorem dX11_answerAt_1 : decode cX11_answerAt 1 = .ok (.getfield 24, 3) := by decide +kernel
theorem dX11_answerAt_4 : decode cX11_answerAt 4 = .ok (.sipush 2630, 3) := by decide +kernel
theorem dX11_answerAt_7 : decode cX11_answerAt 7 = .ok (.bipush 25, 2) := by decide +kernel
theorem dX11_answerAt_9 : decode cX11_answerAt 9 = .ok (.iload_n 1, 1) := by decide +kernel
theorem dX11_answerAt_10 : decode cX11_answerAt 10 = .ok (.imul, 1) := by decide +kernel
theorem dX11_answerAt_11 : decode cX11_answerAt 11 = .ok (.iadd, 1) := by decide +kernel
theorem dX11_answerAt_12 : decode cX11_answerAt 12 = .ok (.iconst 1, 1) := by decide +kernel
theorem dX11_answerAt_13 : decode cX11_answerAt 13 = .ok (.iadd, 1) := by decide +kernel
theorem dX11_answerAt_14 : decode cX11_answerAt 14 = .ok (.iload_n 2, 1) := by decide +kernel
theorem dX11_answerAt_15 : decode cX11_answerAt 15 = .ok (.iadd, 1) := by decide +kernel
theorem dX11_answerAt_16 : decode cX11_answerAt 16 = .ok (.laload, 1) := by decide +kernel
theorem dX11_answerAt_17 : decode cX11_answerAt 17 = .ok (.l2i, 1) := by decide +kernel
theorem dX11_answerAt_18 : decode cX11_answerAt 18 = .ok (.ireturn, 1) := by decide +kernel
theorem dX11_holds_0 : decode cX11_holds 0 = .ok (.iload_n 1, 1) := by decide +kernel
theorem dX11_holds_1 : decode cX11_holds 1 = .ok (.invokestatic 137, 3) := by decide +kernel
theorem dX11_holds_4 : decode cX11_holds 4 = .ok (.istore_n 3, 1) := by decide +kernel
theorem dX11_holds_5 : decode cX11_holds 5 = .ok (.iload_n 1, 1) := by decide +kernel
theorem dX11_holds_6 : decode cX11_holds 6 = .ok (.iconst 3, 1) := by decide +kernel
theorem dX11_holds_7 : decode cX11_holds 7 = .ok (.ishr, 1) := by decide +kernel
theorem dX11_holds_8 : decode cX11_holds 8 = .ok (.iconst 3, 1) := by decide +kernel
theorem dX11_holds_9 : decode cX11_holds 9 = .ok (.iand, 1) := by decide +kernel
theorem dX11_holds_10 : decode cX11_holds 10 = .ok (.istore 4, 2) := by decide +kernel
theorem dX11_holds_12 : decode cX11_holds 12 = .ok (.iload_n 1, 1) := by decide +kernel
theorem dX11_holds_13 : decode cX11_holds 13 = .ok (.bipush 10, 2) := by decide +kernel
theorem dX11_holds_15 : decode cX11_holds 15 = .ok (.ishr, 1) := by decide +kernel
theorem dX11_holds_16 : decode cX11_holds 16 = .ok (.istore 5, 2) := by decide +kernel
theorem dX11_holds_18 : decode cX11_holds 18 = .ok (.aload_n 0, 1) := by decide +kernel
theorem dX11_holds_19 : decode cX11_holds 19 = .ok (.iload_n 2, 1) := by decide +kernel
theorem dX11_holds_20 : decode cX11_holds 20 = .ok (.iload_n 3, 1) := by decide +kernel
theorem dX11_holds_21 : decode cX11_holds 21 = .ok (.invokevirtual 382, 3) := by decide +kernel
theorem dX11_holds_24 : decode cX11_holds 24 = .ok (.istore 6, 2) := by decide +kernel
theorem dX11_holds_26 : decode cX11_holds 26 = .ok (.aload_n 0, 1) := by decide +kernel
theorem dX11_holds_27 : decode cX11_holds 27 = .ok (.getfield 65, 3) := by decide +kernel
theorem dX11_holds_30 : decode cX11_holds 30 = .ok (.iload_n 3, 1) := by decide +kernel
theorem dX11_holds_31 : decode cX11_holds 31 = .ok (.baload, 1) := by decide +kernel
theorem dX11_holds_32 : decode cX11_holds 32 = .ok (.ifCond .eq 59, 3) := by decide +kernel
theorem dX11_holds_35 : decode cX11_holds 35 = .ok (.iload 4, 2) := by decide +kernel
theorem dX11_holds_37 : decode cX11_holds 37 = .ok (.ifCond .ne 11, 3) := by decide +kernel
theorem dX11_holds_40 : decode cX11_holds 40 = .ok (.iload 6, 2) := by decide +kernel
theorem dX11_holds_42 : decode cX11_holds 42 = .ok (.ifCond .eq 49, 3) := by decide +kernel
theorem dX11_holds_45 : decode cX11_holds 45 = .ok (.goto 42, 3) := by decide +kernel
theorem dX11_holds_48 : decode cX11_holds 48 = .ok (.iload 4, 2) := by decide +kernel
theorem dX11_holds_50 : decode cX11_holds 50 = .ok (.iconst 1, 1) := by decide +kernel
theorem dX11_holds_51 : decode cX11_holds 51 = .ok (.if_icmp .ne 13, 3) := by decide +kernel
theorem dX11_holds_54 : decode cX11_holds 54 = .ok (.iload 6, 2) := by decide +kernel
theorem dX11_holds_56 : decode cX11_holds 56 = .ok (.iload 5, 2) := by decide +kernel
theorem dX11_holds_58 : decode cX11_holds 58 = .ok (.if_icmp .ne 33, 3) := by decide +kernel
theorem dX11_holds_61 : decode cX11_holds 61 = .ok (.goto 26, 3) := by decide +kernel
theorem dX11_holds_64 : decode cX11_holds 64 = .ok (.iload 4, 2) := by decide +kernel
theorem dX11_holds_66 : decode cX11_holds 66 = .ok (.iconst 2, 1) := by decide +kernel
theorem dX11_holds_67 : decode cX11_holds 67 = .ok (.if_icmp .ne 13, 3) := by decide +kernel
theorem dX11_holds_70 : decode cX11_holds 70 = .ok (.iload 6, 2) := by decide +kernel
theorem dX11_holds_72 : decode cX11_holds 72 = .ok (.iload 5, 2) := by decide +kernel
theorem dX11_holds_74 : decode cX11_holds 74 = .ok (.if_icmp .ge 17, 3) := by decide +kernel
theorem dX11_holds_77 : decode cX11_holds 77 = .ok (.goto 10, 3) := by decide +kernel
theorem dX11_holds_80 : decode cX11_holds 80 = .ok (.iload 6, 2) := by decide +kernel
theorem dX11_holds_82 : decode cX11_holds 82 = .ok (.iload 5, 2) := by decide +kernel
theorem dX11_holds_84 : decode cX11_holds 84 = .ok (.if_icmp .le 7, 3) := by decide +kernel
theorem dX11_holds_87 : decode cX11_holds 87 = .ok (.iconst 1, 1) := by decide +kernel
theorem dX11_holds_88 : decode cX11_holds 88 = .ok (.goto 4, 3) := by decide +kernel
theorem dX11_holds_91 : decode cX11_holds 91 = .ok (.iconst 0, 1) := by decide +kernel
theorem dX11_holds_92 : decode cX11_holds 92 = .ok (.ireturn, 1) := by decide +kernel
theorem dX11_isMet_0 : decode cX11_isMet 0 = .ok (.iconst 0, 1) := by decide +kernel
theorem dX11_isMet_1 : decode cX11_isMet 1 = .ok (.istore 4, 2) := by decide +kernel
theorem dX11_isMet_3 : decode cX11_isMet 3 = .ok (.iconst 0, 1) := by decide +kernel
theorem dX11_isMet_4 : decode cX11_isMet 4 = .ok (.istore 5, 2) := by decide +kernel
theorem dX11_isMet_6 : decode cX11_isMet 6 = .ok (.iload 5, 2) := by decide +kernel
theorem dX11_isMet_8 : decode cX11_isMet 8 = .ok (.aload_n 0, 1) := by decide +kernel
theorem dX11_isMet_9 : decode cX11_isMet 9 = .ok (.iload_n 1, 1) := by decide +kernel
theorem dX11_isMet_10 : decode cX11_isMet 10 = .ok (.sipush 224, 3) := by decide +kernel
theorem dX11_isMet_13 : decode cX11_isMet 13 = .ok (.iload_n 2, 1) := by decide +kernel
theorem dX11_isMet_14 : decode cX11_isMet 14 = .ok (.invokevirtual 110, 3) := by decide +kernel
theorem dX11_isMet_17 : decode cX11_isMet 17 = .ok (.if_icmp .ge 166, 3) := by decide +kernel
theorem dX11_isMet_20 : decode cX11_isMet 20 = .ok (.aload_n 0, 1) := by decide +kernel
theorem dX11_isMet_21 : decode cX11_isMet 21 = .ok (.getfield 34, 3) := by decide +kernel
theorem dX11_isMet_24 : decode cX11_isMet 24 = .ok (.aload_n 0, 1) := by decide +kernel
theorem dX11_isMet_25 : decode cX11_isMet 25 = .ok (.iload_n 1, 1) := by decide +kernel
theorem dX11_isMet_26 : decode cX11_isMet 26 = .ok (.sipush 192, 3) := by decide +kernel
theorem dX11_isMet_29 : decode cX11_isMet 29 = .ok (.iload_n 2, 1) := by decide +kernel
theorem dX11_isMet_30 : decode cX11_isMet 30 = .ok (.invokevirtual 110, 3) := by decide +kernel
theorem dX11_isMet_33 : decode cX11_isMet 33 = .ok (.iload 5, 2) := by decide +kernel
theorem dX11_isMet_35 : decode cX11_isMet 35 = .ok (.iadd, 1) := by decide +kernel
theorem dX11_isMet_36 : decode cX11_isMet 36 = .ok (.iaload, 1) := by decide +kernel
theorem dX11_isMet_37 : decode cX11_isMet 37 = .ok (.istore 6, 2) := by decide +kernel
theorem dX11_isMet_39 : decode cX11_isMet 39 = .ok (.iload 6, 2) := by decide +kernel
theorem dX11_isMet_41 : decode cX11_isMet 41 = .ok (.invokestatic 134, 3) := by decide +kernel
theorem dX11_isMet_44 : decode cX11_isMet 44 = .ok (.istore 7, 2) := by decide +kernel
theorem dX11_isMet_46 : decode cX11_isMet 46 = .ok (.iload 7, 2) := by decide +kernel
theorem dX11_isMet_48 : decode cX11_isMet 48 = .ok (.ifCond .ne 23, 3) := by decide +kernel
theorem dX11_isMet_51 : decode cX11_isMet 51 = .ok (.aload_n 0, 1) := by decide +kernel
theorem dX11_isMet_52 : decode cX11_isMet 52 = .ok (.getfield 68, 3) := by decide +kernel
theorem dX11_isMet_55 : decode cX11_isMet 55 = .ok (.iload 4, 2) := by decide +kernel
theorem dX11_isMet_57 : decode cX11_isMet 57 = .ok (.aload_n 0, 1) := by decide +kernel
theorem dX11_isMet_58 : decode cX11_isMet 58 = .ok (.iload 6, 2) := by decide +kernel
theorem dX11_isMet_60 : decode cX11_isMet 60 = .ok (.iload_n 3, 1) := by decide +kernel
theorem dX11_isMet_61 : decode cX11_isMet 61 = .ok (.invokevirtual 385, 3) := by decide +kernel
theorem dX11_isMet_64 : decode cX11_isMet 64 = .ok (.bastore, 1) := by decide +kernel
theorem dX11_isMet_65 : decode cX11_isMet 65 = .ok (.iinc 4 1, 3) := by decide +kernel
theorem dX11_isMet_68 : decode cX11_isMet 68 = .ok (.goto 109, 3) := by decide +kernel
theorem dX11_isMet_71 : decode cX11_isMet 71 = .ok (.iload 7, 2) := by decide +kernel
theorem dX11_isMet_73 : decode cX11_isMet 73 = .ok (.iconst 3, 1) := by decide +kernel
theorem dX11_isMet_74 : decode cX11_isMet 74 = .ok (.if_icmp .ne 32, 3) := by decide +kernel
theorem dX11_isMet_77 : decode cX11_isMet 77 = .ok (.aload_n 0, 1) := by decide +kernel
theorem dX11_isMet_78 : decode cX11_isMet 78 = .ok (.getfield 68, 3) := by decide +kernel
theorem dX11_isMet_81 : decode cX11_isMet 81 = .ok (.iload 4, 2) := by decide +kernel
theorem dX11_isMet_83 : decode cX11_isMet 83 = .ok (.iconst 1, 1) := by decide +kernel
theorem dX11_isMet_84 : decode cX11_isMet 84 = .ok (.isub, 1) := by decide +kernel
theorem dX11_isMet_85 : decode cX11_isMet 85 = .ok (.aload_n 0, 1) := by decide +kernel
theorem dX11_isMet_86 : decode cX11_isMet 86 = .ok (.getfield 68, 3) := by decide +kernel
theorem dX11_isMet_89 : decode cX11_isMet 89 = .ok (.iload 4, 2) := by decide +kernel
theorem dX11_isMet_91 : decode cX11_isMet 91 = .ok (.iconst 1, 1) := by decide +kernel
theorem dX11_isMet_92 : decode cX11_isMet 92 = .ok (.isub, 1) := by decide +kernel
theorem dX11_isMet_93 : decode cX11_isMet 93 = .ok (.baload, 1) := by decide +kernel
theorem dX11_isMet_94 : decode cX11_isMet 94 = .ok (.ifCond .ne 7, 3) := by decide +kernel
theorem dX11_isMet_97 : decode cX11_isMet 97 = .ok (.iconst 1, 1) := by decide +kernel
theorem dX11_isMet_98 : decode cX11_isMet 98 = .ok (.goto 4, 3) := by decide +kernel
theorem dX11_isMet_101 : decode cX11_isMet 101 = .ok (.iconst 0, 1) := by decide +kernel
theorem dX11_isMet_102 : decode cX11_isMet 102 = .ok (.bastore, 1) := by decide +kernel
theorem dX11_isMet_103 : decode cX11_isMet 103 = .ok (.goto 74, 3) := by decide +kernel
theorem dX11_isMet_106 : decode cX11_isMet 106 = .ok (.iinc 4 (-1), 3) := by decide +kernel
theorem dX11_isMet_109 : decode cX11_isMet 109 = .ok (.aload_n 0, 1) := by decide +kernel
theorem dX11_isMet_110 : decode cX11_isMet 110 = .ok (.getfield 68, 3) := by decide +kernel
theorem dX11_isMet_113 : decode cX11_isMet 113 = .ok (.iload 4, 2) := by decide +kernel
theorem dX11_isMet_115 : decode cX11_isMet 115 = .ok (.iconst 1, 1) := by decide +kernel
theorem dX11_isMet_116 : decode cX11_isMet 116 = .ok (.isub, 1) := by decide +kernel
theorem dX11_isMet_117 : decode cX11_isMet 117 = .ok (.baload, 1) := by decide +kernel
theorem dX11_isMet_118 : decode cX11_isMet 118 = .ok (.istore 8, 2) := by decide +kernel
theorem dX11_isMet_120 : decode cX11_isMet 120 = .ok (.aload_n 0, 1) := by decide +kernel
theorem dX11_isMet_121 : decode cX11_isMet 121 = .ok (.getfield 68, 3) := by decide +kernel
theorem dX11_isMet_124 : decode cX11_isMet 124 = .ok (.iload 4, 2) := by decide +kernel
theorem dX11_isMet_126 : decode cX11_isMet 126 = .ok (.baload, 1) := by decide +kernel
theorem dX11_isMet_127 : decode cX11_isMet 127 = .ok (.istore 9, 2) := by decide +kernel
theorem dX11_isMet_129 : decode cX11_isMet 129 = .ok (.aload_n 0, 1) := by decide +kernel
theorem dX11_isMet_130 : decode cX11_isMet 130 = .ok (.getfield 68, 3) := by decide +kernel
theorem dX11_isMet_133 : decode cX11_isMet 133 = .ok (.iload 4, 2) := by decide +kernel
theorem dX11_isMet_135 : decode cX11_isMet 135 = .ok (.iconst 1, 1) := by decide +kernel
theorem dX11_isMet_136 : decode cX11_isMet 136 = .ok (.isub, 1) := by decide +kernel
theorem dX11_isMet_137 : decode cX11_isMet 137 = .ok (.iload 7, 2) := by decide +kernel
theorem dX11_isMet_139 : decode cX11_isMet 139 = .ok (.iconst 1, 1) := by decide +kernel
theorem dX11_isMet_140 : decode cX11_isMet 140 = .ok (.if_icmp .ne 21, 3) := by decide +kernel
theorem dX11_isMet_143 : decode cX11_isMet 143 = .ok (.iload 8, 2) := by decide +kernel
theorem dX11_isMet_145 : decode cX11_isMet 145 = .ok (.ifCond .eq 12, 3) := by decide +kernel
theorem dX11_isMet_148 : decode cX11_isMet 148 = .ok (.iload 9, 2) := by decide +kernel
theorem dX11_isMet_150 : decode cX11_isMet 150 = .ok (.ifCond .eq 7, 3) := by decide +kernel
theorem dX11_isMet_153 : decode cX11_isMet 153 = .ok (.iconst 1, 1) := by decide +kernel
theorem dX11_isMet_154 : decode cX11_isMet 154 = .ok (.goto 22, 3) := by decide +kernel
theorem dX11_isMet_157 : decode cX11_isMet 157 = .ok (.iconst 0, 1) := by decide +kernel
theorem dX11_isMet_158 : decode cX11_isMet 158 = .ok (.goto 18, 3) := by decide +kernel
theorem dX11_isMet_161 : decode cX11_isMet 161 = .ok (.iload 8, 2) := by decide +kernel
theorem dX11_isMet_163 : decode cX11_isMet 163 = .ok (.ifCond .ne 8, 3) := by decide +kernel
theorem dX11_isMet_166 : decode cX11_isMet 166 = .ok (.iload 9, 2) := by decide +kernel
theorem dX11_isMet_168 : decode cX11_isMet 168 = .ok (.ifCond .eq 7, 3) := by decide +kernel
theorem dX11_isMet_171 : decode cX11_isMet 171 = .ok (.iconst 1, 1) := by decide +kernel
theorem dX11_isMet_172 : decode cX11_isMet 172 = .ok (.goto 4, 3) := by decide +kernel
theorem dX11_isMet_175 : decode cX11_isMet 175 = .ok (.iconst 0, 1) := by decide +kernel
theorem dX11_isMet_176 : decode cX11_isMet 176 = .ok (.bastore, 1) := by decide +kernel
theorem dX11_isMet_177 : decode cX11_isMet 177 = .ok (.iinc 5 1, 3) := by decide +kernel
theorem dX11_isMet_180 : decode cX11_isMet 180 = .ok (.goto (-174), 3) := by decide +kernel
theorem dX11_isMet_183 : decode cX11_isMet 183 = .ok (.iload 4, 2) := by decide +kernel
theorem dX11_isMet_185 : decode cX11_isMet 185 = .ok (.ifCond .eq 12, 3) := by decide +kernel
theorem dX11_isMet_188 : decode cX11_isMet 188 = .ok (.aload_n 0, 1) := by decide +kernel
theorem dX11_isMet_189 : decode cX11_isMet 189 = .ok (.getfield 68, 3) := by decide +kernel
theorem dX11_isMet_192 : decode cX11_isMet 192 = .ok (.iconst 0, 1) := by decide +kernel
theorem dX11_isMet_193 : decode cX11_isMet 193 = .ok (.baload, 1) := by decide +kernel
theorem dX11_isMet_194 : decode cX11_isMet 194 = .ok (.ifCond .eq 7, 3) := by decide +kernel
theorem dX11_isMet_197 : decode cX11_isMet 197 = .ok (.iconst 1, 1) := by decide +kernel
theorem dX11_isMet_198 : decode cX11_isMet 198 = .ok (.goto 4, 3) := by decide +kernel
theorem dX11_isMet_201 : decode cX11_isMet 201 = .ok (.iconst 0, 1) := by decide +kernel
theorem dX11_isMet_202 : decode cX11_isMet 202 = .ok (.ireturn, 1) := by decide +kernel
theorem dX11_areKnown_0 : decode cX11_areKnown 0 = .ok (.iconst 0, 1) := by decide +kernel
theorem dX11_areKnown_1 : decode cX11_areKnown 1 = .ok (.istore_n 2, 1) := by decide +kernel
theorem dX11_areKnown_2 : decode cX11_areKnown 2 = .ok (.iload_n 2, 1) := by decide +kernel
theorem dX11_areKnown_3 : decode cX11_areKnown 3 = .ok (.bipush 24, 2) := by decide +kernel
theorem dX11_areKnown_5 : decode cX11_areKnown 5 = .ok (.if_icmp .ge 29, 3) := by decide +kernel
theorem dX11_areKnown_8 : decode cX11_areKnown 8 = .ok (.iload_n 1, 1) := by decide +kernel
theorem dX11_areKnown_9 : decode cX11_areKnown 9 = .ok (.iload_n 2, 1) := by decide +kernel
theorem dX11_areKnown_10 : decode cX11_areKnown 10 = .ok (.ishr, 1) := by decide +kernel
theorem dX11_areKnown_11 : decode cX11_areKnown 11 = .ok (.iconst 1, 1) := by decide +kernel
theorem dX11_areKnown_12 : decode cX11_areKnown 12 = .ok (.iand, 1) := by decide +kernel
theorem dX11_areKnown_13 : decode cX11_areKnown 13 = .ok (.iconst 1, 1) := by decide +kernel
theorem dX11_areKnown_14 : decode cX11_areKnown 14 = .ok (.if_icmp .ne 14, 3) := by decide +kernel
theorem dX11_areKnown_17 : decode cX11_areKnown 17 = .ok (.aload_n 0, 1) := by decide +kernel
theorem dX11_areKnown_18 : decode cX11_areKnown 18 = .ok (.getfield 58, 3) := by decide +kernel
theorem dX11_areKnown_21 : decode cX11_areKnown 21 = .ok (.iload_n 2, 1) := by decide +kernel
theorem dX11_areKnown_22 : decode cX11_areKnown 22 = .ok (.baload, 1) := by decide +kernel
theorem dX11_areKnown_23 : decode cX11_areKnown 23 = .ok (.ifCond .ne 5, 3) := by decide +kernel
theorem dX11_areKnown_26 : decode cX11_areKnown 26 = .ok (.iconst 0, 1) := by decide +kernel
theorem dX11_areKnown_27 : decode cX11_areKnown 27 = .ok (.ireturn, 1) := by decide +kernel
theorem dX11_areKnown_28 : decode cX11_areKnown 28 = .ok (.iinc 2 1, 3) := by decide +kernel
theorem dX11_areKnown_31 : decode cX11_areKnown 31 = .ok (.goto (-29), 3) := by decide +kernel
theorem dX11_areKnown_34 : decode cX11_areKnown 34 = .ok (.iconst 1, 1) := by decide +kernel
theorem dX11_areKnown_35 : decode cX11_areKnown 35 = .ok (.ireturn, 1) := by decide +kernel
theorem dX11_laysShown_0 : decode cX11_laysShown 0 = .ok (.iconst 0, 1) := by decide +kernel
theorem dX11_laysShown_1 : decode cX11_laysShown 1 = .ok (.istore_n 3, 1) := by decide +kernel
theorem dX11_laysShown_2 : decode cX11_laysShown 2 = .ok (.iload_n 3, 1) := by decide +kernel
theorem dX11_laysShown_3 : decode cX11_laysShown 3 = .ok (.bipush 32, 2) := by decide +kernel
theorem dX11_laysShown_5 : decode cX11_laysShown 5 = .ok (.if_icmp .ge 23, 3) := by decide +kernel
theorem dX11_laysShown_8 : decode cX11_laysShown 8 = .ok (.aload_n 0, 1) := by decide +kernel
theorem dX11_laysShown_9 : decode cX11_laysShown 9 = .ok (.getfield 58, 3) := by decide +kernel
theorem dX11_laysShown_12 : decode cX11_laysShown 12 = .ok (.iload_n 3, 1) := by decide +kernel
theorem dX11_laysShown_13 : decode cX11_laysShown 13 = .ok (.iconst 0, 1) := by decide +kernel
theorem dX11_laysShown_14 : decode cX11_laysShown 14 = .ok (.bastore, 1) := by decide +kernel
theorem dX11_laysShown_15 : decode cX11_laysShown 15 = .ok (.aload_n 0, 1) := by decide +kernel
theorem dX11_laysShown_16 : decode cX11_laysShown 16 = .ok (.getfield 62, 3) := by decide +kernel
theorem dX11_laysShown_19 : decode cX11_laysShown 19 = .ok (.iload_n 3, 1) := by decide +kernel
theorem dX11_laysShown_20 : decode cX11_laysShown 20 = .ok (.iconst 0, 1) := by decide +kernel
theorem dX11_laysShown_21 : decode cX11_laysShown 21 = .ok (.bastore, 1) := by decide +kernel
theorem dX11_laysShown_22 : decode cX11_laysShown 22 = .ok (.iinc 3 1, 3) := by decide +kernel
theorem dX11_laysShown_25 : decode cX11_laysShown 25 = .ok (.goto (-23), 3) := by decide +kernel
theorem dX11_laysShown_28 : decode cX11_laysShown 28 = .ok (.iconst 0, 1) := by decide +kernel
theorem dX11_laysShown_29 : decode cX11_laysShown 29 = .ok (.istore_n 3, 1) := by decide +kernel
theorem dX11_laysShown_30 : decode cX11_laysShown 30 = .ok (.iload_n 3, 1) := by decide +kernel
theorem dX11_laysShown_31 : decode cX11_laysShown 31 = .ok (.bipush 24, 2) := by decide +kernel
theorem dX11_laysShown_33 : decode cX11_laysShown 33 = .ok (.if_icmp .ge 16, 3) := by decide +kernel
theorem dX11_laysShown_36 : decode cX11_laysShown 36 = .ok (.aload_n 0, 1) := by decide +kernel
theorem dX11_laysShown_37 : decode cX11_laysShown 37 = .ok (.getfield 65, 3) := by decide +kernel
theorem dX11_laysShown_40 : decode cX11_laysShown 40 = .ok (.iload_n 3, 1) := by decide +kernel
theorem dX11_laysShown_41 : decode cX11_laysShown 41 = .ok (.iconst 0, 1) := by decide +kernel
theorem dX11_laysShown_42 : decode cX11_laysShown 42 = .ok (.bastore, 1) := by decide +kernel
theorem dX11_laysShown_43 : decode cX11_laysShown 43 = .ok (.iinc 3 1, 3) := by decide +kernel
theorem dX11_laysShown_46 : decode cX11_laysShown 46 = .ok (.goto (-16), 3) := by decide +kernel
theorem dX11_laysShown_49 : decode cX11_laysShown 49 = .ok (.iconst 1, 1) := by decide +kernel
theorem dX11_laysShown_50 : decode cX11_laysShown 50 = .ok (.istore_n 3, 1) := by decide +kernel
theorem dX11_laysShown_51 : decode cX11_laysShown 51 = .ok (.iload_n 3, 1) := by decide +kernel
theorem dX11_laysShown_52 : decode cX11_laysShown 52 = .ok (.ifCond .eq 195, 3) := by decide +kernel
theorem dX11_laysShown_55 : decode cX11_laysShown 55 = .ok (.iconst 0, 1) := by decide +kernel
theorem dX11_laysShown_56 : decode cX11_laysShown 56 = .ok (.istore_n 3, 1) := by decide +kernel
theorem dX11_laysShown_57 : decode cX11_laysShown 57 = .ok (.iconst 0, 1) := by decide +kernel
theorem dX11_laysShown_58 : decode cX11_laysShown 58 = .ok (.istore 4, 2) := by decide +kernel
theorem dX11_laysShown_60 : decode cX11_laysShown 60 = .ok (.iload 4, 2) := by decide +kernel
theorem dX11_laysShown_62 : decode cX11_laysShown 62 = .ok (.aload_n 0, 1) := by decide +kernel
theorem dX11_laysShown_63 : decode cX11_laysShown 63 = .ok (.iload_n 1, 1) := by decide +kernel
theorem dX11_laysShown_64 : decode cX11_laysShown 64 = .ok (.invokevirtual 118, 3) := by decide +kernel
theorem dX11_laysShown_67 : decode cX11_laysShown 67 = .ok (.if_icmp .ge 177, 3) := by decide +kernel
theorem dX11_laysShown_70 : decode cX11_laysShown 70 = .ok (.aload_n 0, 1) := by decide +kernel
theorem dX11_laysShown_71 : decode cX11_laysShown 71 = .ok (.iload_n 1, 1) := by decide +kernel
theorem dX11_laysShown_72 : decode cX11_laysShown 72 = .ok (.iload 4, 2) := by decide +kernel
theorem dX11_laysShown_74 : decode cX11_laysShown 74 = .ok (.invokevirtual 114, 3) := by decide +kernel
theorem dX11_laysShown_77 : decode cX11_laysShown 77 = .ok (.istore 5, 2) := by decide +kernel
theorem dX11_laysShown_79 : decode cX11_laysShown 79 = .ok (.aload_n 0, 1) := by decide +kernel
theorem dX11_laysShown_80 : decode cX11_laysShown 80 = .ok (.iload_n 1, 1) := by decide +kernel
theorem dX11_laysShown_81 : decode cX11_laysShown 81 = .ok (.iconst 0, 1) := by decide +kernel
theorem dX11_laysShown_82 : decode cX11_laysShown 82 = .ok (.iload 5, 2) := by decide +kernel
theorem dX11_laysShown_84 : decode cX11_laysShown 84 = .ok (.invokevirtual 110, 3) := by decide +kernel
theorem dX11_laysShown_87 : decode cX11_laysShown 87 = .ok (.istore 6, 2) := by decide +kernel
theorem dX11_laysShown_89 : decode cX11_laysShown 89 = .ok (.aload_n 0, 1) := by decide +kernel
theorem dX11_laysShown_90 : decode cX11_laysShown 90 = .ok (.getfield 58, 3) := by decide +kernel
theorem dX11_laysShown_93 : decode cX11_laysShown 93 = .ok (.iload 5, 2) := by decide +kernel
theorem dX11_laysShown_95 : decode cX11_laysShown 95 = .ok (.baload, 1) := by decide +kernel
theorem dX11_laysShown_96 : decode cX11_laysShown 96 = .ok (.ifCond .ne 142, 3) := by decide +kernel
theorem dX11_laysShown_99 : decode cX11_laysShown 99 = .ok (.iload 6, 2) := by decide +kernel
theorem dX11_laysShown_101 : decode cX11_laysShown 101 = .ok (.ifCond .lt 13, 3) := by decide +kernel
theorem dX11_laysShown_104 : decode cX11_laysShown 104 = .ok (.aload_n 0, 1) := by decide +kernel
theorem dX11_laysShown_105 : decode cX11_laysShown 105 = .ok (.getfield 58, 3) := by decide +kernel
theorem dX11_laysShown_108 : decode cX11_laysShown 108 = .ok (.iload 6, 2) := by decide +kernel
theorem dX11_laysShown_110 : decode cX11_laysShown 110 = .ok (.baload, 1) := by decide +kernel
theorem dX11_laysShown_111 : decode cX11_laysShown 111 = .ok (.ifCond .eq 127, 3) := by decide +kernel
theorem dX11_laysShown_114 : decode cX11_laysShown 114 = .ok (.aload_n 0, 1) := by decide +kernel
theorem dX11_laysShown_115 : decode cX11_laysShown 115 = .ok (.aload_n 0, 1) := by decide +kernel
theorem dX11_laysShown_116 : decode cX11_laysShown 116 = .ok (.iload_n 1, 1) := by decide +kernel
theorem dX11_laysShown_117 : decode cX11_laysShown 117 = .ok (.iload 5, 2) := by decide +kernel
theorem dX11_laysShown_119 : decode cX11_laysShown 119 = .ok (.invokevirtual 140, 3) := by decide +kernel
theorem dX11_laysShown_122 : decode cX11_laysShown 122 = .ok (.invokevirtual 388, 3) := by decide +kernel
theorem dX11_laysShown_125 : decode cX11_laysShown 125 = .ok (.ifCond .eq 113, 3) := by decide +kernel
theorem dX11_laysShown_128 : decode cX11_laysShown 128 = .ok (.aload_n 0, 1) := by decide +kernel
theorem dX11_laysShown_129 : decode cX11_laysShown 129 = .ok (.getfield 58, 3) := by decide +kernel
theorem dX11_laysShown_132 : decode cX11_laysShown 132 = .ok (.iload 5, 2) := by decide +kernel
theorem dX11_laysShown_134 : decode cX11_laysShown 134 = .ok (.iconst 1, 1) := by decide +kernel
theorem dX11_laysShown_135 : decode cX11_laysShown 135 = .ok (.bastore, 1) := by decide +kernel
theorem dX11_laysShown_136 : decode cX11_laysShown 136 = .ok (.aload_n 0, 1) := by decide +kernel
theorem dX11_laysShown_137 : decode cX11_laysShown 137 = .ok (.getfield 62, 3) := by decide +kernel
theorem dX11_laysShown_140 : decode cX11_laysShown 140 = .ok (.iload 5, 2) := by decide +kernel
theorem dX11_laysShown_142 : decode cX11_laysShown 142 = .ok (.iload 6, 2) := by decide +kernel
theorem dX11_laysShown_144 : decode cX11_laysShown 144 = .ok (.ifCond .lt 13, 3) := by decide +kernel
theorem dX11_laysShown_147 : decode cX11_laysShown 147 = .ok (.aload_n 0, 1) := by decide +kernel
theorem dX11_laysShown_148 : decode cX11_laysShown 148 = .ok (.getfield 62, 3) := by decide +kernel
theorem dX11_laysShown_151 : decode cX11_laysShown 151 = .ok (.iload 6, 2) := by decide +kernel
theorem dX11_laysShown_153 : decode cX11_laysShown 153 = .ok (.baload, 1) := by decide +kernel
theorem dX11_laysShown_154 : decode cX11_laysShown 154 = .ok (.ifCond .eq 18, 3) := by decide +kernel
theorem dX11_laysShown_157 : decode cX11_laysShown 157 = .ok (.aload_n 0, 1) := by decide +kernel
theorem dX11_laysShown_158 : decode cX11_laysShown 158 = .ok (.iload_n 1, 1) := by decide +kernel
theorem dX11_laysShown_159 : decode cX11_laysShown 159 = .ok (.iload 5, 2) := by decide +kernel
theorem dX11_laysShown_161 : decode cX11_laysShown 161 = .ok (.iload_n 2, 1) := by decide +kernel
theorem dX11_laysShown_162 : decode cX11_laysShown 162 = .ok (.invokevirtual 391, 3) := by decide +kernel
theorem dX11_laysShown_165 : decode cX11_laysShown 165 = .ok (.ifCond .eq 7, 3) := by decide +kernel
theorem dX11_laysShown_168 : decode cX11_laysShown 168 = .ok (.iconst 1, 1) := by decide +kernel
theorem dX11_laysShown_169 : decode cX11_laysShown 169 = .ok (.goto 4, 3) := by decide +kernel
theorem dX11_laysShown_172 : decode cX11_laysShown 172 = .ok (.iconst 0, 1) := by decide +kernel
theorem dX11_laysShown_173 : decode cX11_laysShown 173 = .ok (.bastore, 1) := by decide +kernel
theorem dX11_laysShown_174 : decode cX11_laysShown 174 = .ok (.iload 5, 2) := by decide +kernel
theorem dX11_laysShown_176 : decode cX11_laysShown 176 = .ok (.invokestatic 107, 3) := by decide +kernel
theorem dX11_laysShown_179 : decode cX11_laysShown 179 = .ok (.ifCond .eq 57, 3) := by decide +kernel
theorem dX11_laysShown_182 : decode cX11_laysShown 182 = .ok (.aload_n 0, 1) := by decide +kernel
theorem dX11_laysShown_183 : decode cX11_laysShown 183 = .ok (.getfield 65, 3) := by decide +kernel
theorem dX11_laysShown_186 : decode cX11_laysShown 186 = .ok (.iload 5, 2) := by decide +kernel
theorem dX11_laysShown_188 : decode cX11_laysShown 188 = .ok (.aload_n 0, 1) := by decide +kernel
theorem dX11_laysShown_189 : decode cX11_laysShown 189 = .ok (.getfield 62, 3) := by decide +kernel
theorem dX11_laysShown_192 : decode cX11_laysShown 192 = .ok (.iload 5, 2) := by decide +kernel
theorem dX11_laysShown_194 : decode cX11_laysShown 194 = .ok (.baload, 1) := by decide +kernel
theorem dX11_laysShown_195 : decode cX11_laysShown 195 = .ok (.ifCond .eq 39, 3) := by decide +kernel
theorem dX11_laysShown_198 : decode cX11_laysShown 198 = .ok (.aload_n 0, 1) := by decide +kernel
theorem dX11_laysShown_199 : decode cX11_laysShown 199 = .ok (.iload_n 2, 1) := by decide +kernel
theorem dX11_laysShown_200 : decode cX11_laysShown 200 = .ok (.iload 5, 2) := by decide +kernel
theorem dX11_laysShown_202 : decode cX11_laysShown 202 = .ok (.invokevirtual 382, 3) := by decide +kernel
theorem dX11_laysShown_205 : decode cX11_laysShown 205 = .ok (.aload_n 0, 1) := by decide +kernel
theorem dX11_laysShown_206 : decode cX11_laysShown 206 = .ok (.iload_n 1, 1) := by decide +kernel
theorem dX11_laysShown_207 : decode cX11_laysShown 207 = .ok (.bipush 96, 2) := by decide +kernel
theorem dX11_laysShown_209 : decode cX11_laysShown 209 = .ok (.iload 5, 2) := by decide +kernel
theorem dX11_laysShown_211 : decode cX11_laysShown 211 = .ok (.invokevirtual 110, 3) := by decide +kernel
theorem dX11_laysShown_214 : decode cX11_laysShown 214 = .ok (.aload_n 0, 1) := by decide +kernel
theorem dX11_laysShown_215 : decode cX11_laysShown 215 = .ok (.iload_n 1, 1) := by decide +kernel
theorem dX11_laysShown_216 : decode cX11_laysShown 216 = .ok (.sipush 128, 3) := by decide +kernel
theorem dX11_laysShown_219 : decode cX11_laysShown 219 = .ok (.iload 5, 2) := by decide +kernel
theorem dX11_laysShown_221 : decode cX11_laysShown 221 = .ok (.invokevirtual 110, 3) := by decide +kernel
theorem dX11_laysShown_224 : decode cX11_laysShown 224 = .ok (.invokestatic 95, 3) := by decide +kernel
theorem dX11_laysShown_227 : decode cX11_laysShown 227 = .ok (.ifCond .eq 7, 3) := by decide +kernel
theorem dX11_laysShown_230 : decode cX11_laysShown 230 = .ok (.iconst 1, 1) := by decide +kernel
theorem dX11_laysShown_231 : decode cX11_laysShown 231 = .ok (.goto 4, 3) := by decide +kernel
theorem dX11_laysShown_234 : decode cX11_laysShown 234 = .ok (.iconst 0, 1) := by decide +kernel
theorem dX11_laysShown_235 : decode cX11_laysShown 235 = .ok (.bastore, 1) := by decide +kernel
theorem dX11_laysShown_236 : decode cX11_laysShown 236 = .ok (.iconst 1, 1) := by decide +kernel
theorem dX11_laysShown_237 : decode cX11_laysShown 237 = .ok (.istore_n 3, 1) := by decide +kernel
theorem dX11_laysShown_238 : decode cX11_laysShown 238 = .ok (.iinc 4 1, 3) := by decide +kernel
theorem dX11_laysShown_241 : decode cX11_laysShown 241 = .ok (.goto (-181), 3) := by decide +kernel
theorem dX11_laysShown_244 : decode cX11_laysShown 244 = .ok (.goto (-193), 3) := by decide +kernel
theorem dX11_laysShown_247 : decode cX11_laysShown 247 = .ok (.return_, 1) := by decide +kernel
theorem dX11_answer_0 : decode cX11_answer 0 = .ok (.aload_n 0, 1) := by decide +kernel
theorem dX11_answer_1 : decode cX11_answer 1 = .ok (.iload_n 1, 1) := by decide +kernel
theorem dX11_answer_2 : decode cX11_answer 2 = .ok (.invokevirtual 394, 3) := by decide +kernel
theorem dX11_answer_5 : decode cX11_answer 5 = .ok (.ifCond .eq 26, 3) := by decide +kernel
theorem dX11_answer_8 : decode cX11_answer 8 = .ok (.iload_n 2, 1) := by decide +kernel
theorem dX11_answer_9 : decode cX11_answer 9 = .ok (.iconst 0, 1) := by decide +kernel
theorem dX11_answer_10 : decode cX11_answer 10 = .ok (.bipush 23, 2) := by decide +kernel
theorem dX11_answer_12 : decode cX11_answer 12 = .ok (.invokestatic 95, 3) := by decide +kernel
theorem dX11_answer_15 : decode cX11_answer 15 = .ok (.ifCond .eq 16, 3) := by decide +kernel
theorem dX11_answer_18 : decode cX11_answer 18 = .ok (.aload_n 0, 1) := by decide +kernel
theorem dX11_answer_19 : decode cX11_answer 19 = .ok (.aload_n 0, 1) := by decide +kernel
theorem dX11_answer_20 : decode cX11_answer 20 = .ok (.iload_n 1, 1) := by decide +kernel
theorem dX11_answer_21 : decode cX11_answer 21 = .ok (.invokevirtual 397, 3) := by decide +kernel
theorem dX11_answer_24 : decode cX11_answer 24 = .ok (.iload_n 2, 1) := by decide +kernel
theorem dX11_answer_25 : decode cX11_answer 25 = .ok (.invokevirtual 99, 3) := by decide +kernel
theorem dX11_answer_28 : decode cX11_answer 28 = .ok (.ifCond .ne 5, 3) := by decide +kernel
theorem dX11_answer_31 : decode cX11_answer 31 = .ok (.iconst (-1), 1) := by decide +kernel
theorem dX11_answer_32 : decode cX11_answer 32 = .ok (.ireturn, 1) := by decide +kernel
theorem dX11_answer_33 : decode cX11_answer 33 = .ok (.aload_n 0, 1) := by decide +kernel
theorem dX11_answer_34 : decode cX11_answer 34 = .ok (.iload_n 1, 1) := by decide +kernel
theorem dX11_answer_35 : decode cX11_answer 35 = .ok (.invokevirtual 397, 3) := by decide +kernel
theorem dX11_answer_38 : decode cX11_answer 38 = .ok (.istore 4, 2) := by decide +kernel
theorem dX11_answer_40 : decode cX11_answer 40 = .ok (.iload_n 3, 1) := by decide +kernel
theorem dX11_answer_41 : decode cX11_answer 41 = .ok (.bipush (-2), 2) := by decide +kernel
theorem dX11_answer_43 : decode cX11_answer 43 = .ok (.if_icmp .eq 31, 3) := by decide +kernel
theorem dX11_answer_46 : decode cX11_answer 46 = .ok (.iload_n 3, 1) := by decide +kernel
theorem dX11_answer_47 : decode cX11_answer 47 = .ok (.aload_n 0, 1) := by decide +kernel
theorem dX11_answer_48 : decode cX11_answer 48 = .ok (.iload 4, 2) := by decide +kernel
theorem dX11_answer_50 : decode cX11_answer 50 = .ok (.bipush 96, 2) := by decide +kernel
theorem dX11_answer_52 : decode cX11_answer 52 = .ok (.iload_n 2, 1) := by decide +kernel
theorem dX11_answer_53 : decode cX11_answer 53 = .ok (.invokevirtual 110, 3) := by decide +kernel
theorem dX11_answer_56 : decode cX11_answer 56 = .ok (.aload_n 0, 1) := by decide +kernel
theorem dX11_answer_57 : decode cX11_answer 57 = .ok (.iload 4, 2) := by decide +kernel
theorem dX11_answer_59 : decode cX11_answer 59 = .ok (.sipush 128, 3) := by decide +kernel
theorem dX11_answer_62 : decode cX11_answer 62 = .ok (.iload_n 2, 1) := by decide +kernel
theorem dX11_answer_63 : decode cX11_answer 63 = .ok (.invokevirtual 110, 3) := by decide +kernel
theorem dX11_answer_66 : decode cX11_answer 66 = .ok (.invokestatic 95, 3) := by decide +kernel
theorem dX11_answer_69 : decode cX11_answer 69 = .ok (.ifCond .ne 5, 3) := by decide +kernel
theorem dX11_answer_72 : decode cX11_answer 72 = .ok (.iconst (-1), 1) := by decide +kernel
theorem dX11_answer_73 : decode cX11_answer 73 = .ok (.ireturn, 1) := by decide +kernel
theorem dX11_answer_74 : decode cX11_answer 74 = .ok (.aload_n 0, 1) := by decide +kernel
theorem dX11_answer_75 : decode cX11_answer 75 = .ok (.iload 4, 2) := by decide +kernel
theorem dX11_answer_77 : decode cX11_answer 77 = .ok (.iload_n 1, 1) := by decide +kernel
theorem dX11_answer_78 : decode cX11_answer 78 = .ok (.invokevirtual 400, 3) := by decide +kernel
theorem dX11_answer_81 : decode cX11_answer 81 = .ok (.aload_n 0, 1) := by decide +kernel
theorem dX11_answer_82 : decode cX11_answer 82 = .ok (.getfield 62, 3) := by decide +kernel
theorem dX11_answer_85 : decode cX11_answer 85 = .ok (.iload_n 2, 1) := by decide +kernel
theorem dX11_answer_86 : decode cX11_answer 86 = .ok (.baload, 1) := by decide +kernel
theorem dX11_answer_87 : decode cX11_answer 87 = .ok (.ifCond .eq 13, 3) := by decide +kernel
theorem dX11_answer_90 : decode cX11_answer 90 = .ok (.aload_n 0, 1) := by decide +kernel
theorem dX11_answer_91 : decode cX11_answer 91 = .ok (.iload_n 1, 1) := by decide +kernel
theorem dX11_answer_92 : decode cX11_answer 92 = .ok (.iload_n 2, 1) := by decide +kernel
theorem dX11_answer_93 : decode cX11_answer 93 = .ok (.invokevirtual 382, 3) := by decide +kernel
theorem dX11_answer_96 : decode cX11_answer 96 = .ok (.iload_n 3, 1) := by decide +kernel
theorem dX11_answer_97 : decode cX11_answer 97 = .ok (.if_icmp .ne 6, 3) := by decide +kernel
theorem dX11_answer_100 : decode cX11_answer 100 = .ok (.bipush (-2), 2) := by decide +kernel
theorem dX11_answer_102 : decode cX11_answer 102 = .ok (.ireturn, 1) := by decide +kernel
theorem dX11_answer_103 : decode cX11_answer 103 = .ok (.aload_n 0, 1) := by decide +kernel
theorem dX11_answer_104 : decode cX11_answer 104 = .ok (.invokevirtual 334, 3) := by decide +kernel
theorem dX11_answer_107 : decode cX11_answer 107 = .ok (.iconst 0, 1) := by decide +kernel
theorem dX11_answer_108 : decode cX11_answer 108 = .ok (.istore 5, 2) := by decide +kernel
theorem dX11_answer_110 : decode cX11_answer 110 = .ok (.iload 5, 2) := by decide +kernel
theorem dX11_answer_112 : decode cX11_answer 112 = .ok (.bipush 32, 2) := by decide +kernel
theorem dX11_answer_114 : decode cX11_answer 114 = .ok (.if_icmp .ge 23, 3) := by decide +kernel
theorem dX11_answer_117 : decode cX11_answer 117 = .ok (.aload_n 0, 1) := by decide +kernel
theorem dX11_answer_118 : decode cX11_answer 118 = .ok (.getfield 71, 3) := by decide +kernel
theorem dX11_answer_121 : decode cX11_answer 121 = .ok (.iload 5, 2) := by decide +kernel
theorem dX11_answer_123 : decode cX11_answer 123 = .ok (.aload_n 0, 1) := by decide +kernel
theorem dX11_answer_124 : decode cX11_answer 124 = .ok (.getfield 62, 3) := by decide +kernel
theorem dX11_answer_127 : decode cX11_answer 127 = .ok (.iload 5, 2) := by decide +kernel
theorem dX11_answer_129 : decode cX11_answer 129 = .ok (.baload, 1) := by decide +kernel
theorem dX11_answer_130 : decode cX11_answer 130 = .ok (.bastore, 1) := by decide +kernel
theorem dX11_answer_131 : decode cX11_answer 131 = .ok (.iinc 5 1, 3) := by decide +kernel
theorem dX11_answer_134 : decode cX11_answer 134 = .ok (.goto (-24), 3) := by decide +kernel
theorem dX11_answer_137 : decode cX11_answer 137 = .ok (.aload_n 0, 1) := by decide +kernel
theorem dX11_answer_138 : decode cX11_answer 138 = .ok (.getfield 24, 3) := by decide +kernel
theorem dX11_answer_141 : decode cX11_answer 141 = .ok (.sipush 2630, 3) := by decide +kernel
theorem dX11_answer_144 : decode cX11_answer 144 = .ok (.bipush 25, 2) := by decide +kernel
theorem dX11_answer_146 : decode cX11_answer 146 = .ok (.iload_n 1, 1) := by decide +kernel
theorem dX11_answer_147 : decode cX11_answer 147 = .ok (.imul, 1) := by decide +kernel
theorem dX11_answer_148 : decode cX11_answer 148 = .ok (.iadd, 1) := by decide +kernel
theorem dX11_answer_149 : decode cX11_answer 149 = .ok (.iconst 1, 1) := by decide +kernel
theorem dX11_answer_150 : decode cX11_answer 150 = .ok (.iadd, 1) := by decide +kernel
theorem dX11_answer_151 : decode cX11_answer 151 = .ok (.iload_n 2, 1) := by decide +kernel
theorem dX11_answer_152 : decode cX11_answer 152 = .ok (.iadd, 1) := by decide +kernel
theorem dX11_answer_153 : decode cX11_answer 153 = .ok (.iload_n 3, 1) := by decide +kernel
theorem dX11_answer_154 : decode cX11_answer 154 = .ok (.i2l, 1) := by decide +kernel
theorem dX11_answer_155 : decode cX11_answer 155 = .ok (.lastore, 1) := by decide +kernel
theorem dX11_answer_156 : decode cX11_answer 156 = .ok (.aload_n 0, 1) := by decide +kernel
theorem dX11_answer_157 : decode cX11_answer 157 = .ok (.iload 4, 2) := by decide +kernel
theorem dX11_answer_159 : decode cX11_answer 159 = .ok (.iload_n 1, 1) := by decide +kernel
theorem dX11_answer_160 : decode cX11_answer 160 = .ok (.invokevirtual 400, 3) := by decide +kernel
theorem dX11_answer_163 : decode cX11_answer 163 = .ok (.iconst 0, 1) := by decide +kernel
theorem dX11_answer_164 : decode cX11_answer 164 = .ok (.istore 5, 2) := by decide +kernel
theorem dX11_answer_166 : decode cX11_answer 166 = .ok (.iconst 0, 1) := by decide +kernel
theorem dX11_answer_167 : decode cX11_answer 167 = .ok (.istore 6, 2) := by decide +kernel
theorem dX11_answer_169 : decode cX11_answer 169 = .ok (.iload 6, 2) := by decide +kernel
theorem dX11_answer_171 : decode cX11_answer 171 = .ok (.bipush 32, 2) := by decide +kernel
theorem dX11_answer_173 : decode cX11_answer 173 = .ok (.if_icmp .ge 36, 3) := by decide +kernel
theorem dX11_answer_176 : decode cX11_answer 176 = .ok (.iload 5, 2) := by decide +kernel
theorem dX11_answer_178 : decode cX11_answer 178 = .ok (.aload_n 0, 1) := by decide +kernel
theorem dX11_answer_179 : decode cX11_answer 179 = .ok (.getfield 71, 3) := by decide +kernel
theorem dX11_answer_182 : decode cX11_answer 182 = .ok (.iload 6, 2) := by decide +kernel
theorem dX11_answer_184 : decode cX11_answer 184 = .ok (.baload, 1) := by decide +kernel
theorem dX11_answer_185 : decode cX11_answer 185 = .ok (.aload_n 0, 1) := by decide +kernel
theorem dX11_answer_186 : decode cX11_answer 186 = .ok (.getfield 62, 3) := by decide +kernel
theorem dX11_answer_189 : decode cX11_answer 189 = .ok (.iload 6, 2) := by decide +kernel
theorem dX11_answer_191 : decode cX11_answer 191 = .ok (.baload, 1) := by decide +kernel
theorem dX11_answer_192 : decode cX11_answer 192 = .ok (.if_icmp .eq 7, 3) := by decide +kernel
theorem dX11_answer_195 : decode cX11_answer 195 = .ok (.iconst 1, 1) := by decide +kernel
theorem dX11_answer_196 : decode cX11_answer 196 = .ok (.goto 4, 3) := by decide +kernel
theorem dX11_answer_199 : decode cX11_answer 199 = .ok (.iconst 0, 1) := by decide +kernel
theorem dX11_answer_200 : decode cX11_answer 200 = .ok (.iadd, 1) := by decide +kernel
theorem dX11_answer_201 : decode cX11_answer 201 = .ok (.istore 5, 2) := by decide +kernel
theorem dX11_answer_203 : decode cX11_answer 203 = .ok (.iinc 6 1, 3) := by decide +kernel
theorem dX11_answer_206 : decode cX11_answer 206 = .ok (.goto (-37), 3) := by decide +kernel
theorem dX11_answer_209 : decode cX11_answer 209 = .ok (.iload 5, 2) := by decide +kernel
theorem dX11_answer_211 : decode cX11_answer 211 = .ok (.ireturn, 1) := by decide +kernel
theorem dX11_advance_0 : decode cX11_advance 0 = .ok (.aload_n 0, 1) := by decide +kernel
theorem dX11_advance_1 : decode cX11_advance 1 = .ok (.iload_n 1, 1) := by decide +kernel
theorem dX11_advance_2 : decode cX11_advance 2 = .ok (.invokevirtual 394, 3) := by decide +kernel
theorem dX11_advance_5 : decode cX11_advance 5 = .ok (.ifCond .ne 5, 3) := by decide +kernel
theorem dX11_advance_8 : decode cX11_advance 8 = .ok (.iconst (-1), 1) := by decide +kernel
theorem dX11_advance_9 : decode cX11_advance 9 = .ok (.ireturn, 1) := by decide +kernel
theorem dX11_advance_10 : decode cX11_advance 10 = .ok (.aload_n 0, 1) := by decide +kernel
theorem dX11_advance_11 : decode cX11_advance 11 = .ok (.invokevirtual 368, 3) := by decide +kernel
theorem dX11_advance_14 : decode cX11_advance 14 = .ok (.iconst 1, 1) := by decide +kernel
theorem dX11_advance_15 : decode cX11_advance 15 = .ok (.isub, 1) := by decide +kernel
theorem dX11_advance_16 : decode cX11_advance 16 = .ok (.istore_n 2, 1) := by decide +kernel
theorem dX11_advance_17 : decode cX11_advance 17 = .ok (.aload_n 0, 1) := by decide +kernel
theorem dX11_advance_18 : decode cX11_advance 18 = .ok (.iload_n 1, 1) := by decide +kernel
theorem dX11_advance_19 : decode cX11_advance 19 = .ok (.invokevirtual 379, 3) := by decide +kernel
theorem dX11_advance_22 : decode cX11_advance 22 = .ok (.iload_n 2, 1) := by decide +kernel
theorem dX11_advance_23 : decode cX11_advance 23 = .ok (.if_icmp .ne 6, 3) := by decide +kernel
theorem dX11_advance_26 : decode cX11_advance 26 = .ok (.bipush (-2), 2) := by decide +kernel
theorem dX11_advance_28 : decode cX11_advance 28 = .ok (.ireturn, 1) := by decide +kernel
theorem dX11_advance_29 : decode cX11_advance 29 = .ok (.aload_n 0, 1) := by decide +kernel
theorem dX11_advance_30 : decode cX11_advance 30 = .ok (.invokevirtual 334, 3) := by decide +kernel
theorem dX11_advance_33 : decode cX11_advance 33 = .ok (.iconst 0, 1) := by decide +kernel
theorem dX11_advance_34 : decode cX11_advance 34 = .ok (.istore_n 3, 1) := by decide +kernel
theorem dX11_advance_35 : decode cX11_advance 35 = .ok (.iconst 0, 1) := by decide +kernel
theorem dX11_advance_36 : decode cX11_advance 36 = .ok (.istore 4, 2) := by decide +kernel
theorem dX11_advance_38 : decode cX11_advance 38 = .ok (.iload 4, 2) := by decide +kernel
theorem dX11_advance_40 : decode cX11_advance 40 = .ok (.bipush 24, 2) := by decide +kernel
theorem dX11_advance_42 : decode cX11_advance 42 = .ok (.if_icmp .ge 58, 3) := by decide +kernel
theorem dX11_advance_45 : decode cX11_advance 45 = .ok (.aload_n 0, 1) := by decide +kernel
theorem dX11_advance_46 : decode cX11_advance 46 = .ok (.iload_n 1, 1) := by decide +kernel
theorem dX11_advance_47 : decode cX11_advance 47 = .ok (.iload 4, 2) := by decide +kernel
theorem dX11_advance_49 : decode cX11_advance 49 = .ok (.invokevirtual 382, 3) := by decide +kernel
theorem dX11_advance_52 : decode cX11_advance 52 = .ok (.bipush (-2), 2) := by decide +kernel
theorem dX11_advance_54 : decode cX11_advance 54 = .ok (.if_icmp .eq 40, 3) := by decide +kernel
theorem dX11_advance_57 : decode cX11_advance 57 = .ok (.aload_n 0, 1) := by decide +kernel
theorem dX11_advance_58 : decode cX11_advance 58 = .ok (.iload_n 2, 1) := by decide +kernel
theorem dX11_advance_59 : decode cX11_advance 59 = .ok (.invokestatic 374, 3) := by decide +kernel
theorem dX11_advance_62 : decode cX11_advance 62 = .ok (.iload 4, 2) := by decide +kernel
theorem dX11_advance_64 : decode cX11_advance 64 = .ok (.invokevirtual 99, 3) := by decide +kernel
theorem dX11_advance_67 : decode cX11_advance 67 = .ok (.ifCond .ne 27, 3) := by decide +kernel
theorem dX11_advance_70 : decode cX11_advance 70 = .ok (.aload_n 0, 1) := by decide +kernel
theorem dX11_advance_71 : decode cX11_advance 71 = .ok (.getfield 24, 3) := by decide +kernel
theorem dX11_advance_74 : decode cX11_advance 74 = .ok (.sipush 2630, 3) := by decide +kernel
theorem dX11_advance_77 : decode cX11_advance 77 = .ok (.bipush 25, 2) := by decide +kernel
theorem dX11_advance_79 : decode cX11_advance 79 = .ok (.iload_n 1, 1) := by decide +kernel
theorem dX11_advance_80 : decode cX11_advance 80 = .ok (.imul, 1) := by decide +kernel
theorem dX11_advance_81 : decode cX11_advance 81 = .ok (.iadd, 1) := by decide +kernel
theorem dX11_advance_82 : decode cX11_advance 82 = .ok (.iconst 1, 1) := by decide +kernel
theorem dX11_advance_83 : decode cX11_advance 83 = .ok (.iadd, 1) := by decide +kernel
theorem dX11_advance_84 : decode cX11_advance 84 = .ok (.iload 4, 2) := by decide +kernel
theorem dX11_advance_86 : decode cX11_advance 86 = .ok (.iadd, 1) := by decide +kernel
theorem dX11_advance_87 : decode cX11_advance 87 = .ok (.ldc2_w 377, 3) := by decide +kernel
theorem dX11_advance_90 : decode cX11_advance 90 = .ok (.lastore, 1) := by decide +kernel
theorem dX11_advance_91 : decode cX11_advance 91 = .ok (.iinc 3 1, 3) := by decide +kernel
theorem dX11_advance_94 : decode cX11_advance 94 = .ok (.iinc 4 1, 3) := by decide +kernel
theorem dX11_advance_97 : decode cX11_advance 97 = .ok (.goto (-59), 3) := by decide +kernel
theorem dX11_advance_100 : decode cX11_advance 100 = .ok (.aload_n 0, 1) := by decide +kernel
theorem dX11_advance_101 : decode cX11_advance 101 = .ok (.getfield 24, 3) := by decide +kernel
theorem dX11_advance_104 : decode cX11_advance 104 = .ok (.sipush 2630, 3) := by decide +kernel
theorem dX11_advance_107 : decode cX11_advance 107 = .ok (.bipush 25, 2) := by decide +kernel
theorem dX11_advance_109 : decode cX11_advance 109 = .ok (.iload_n 1, 1) := by decide +kernel
theorem dX11_advance_110 : decode cX11_advance 110 = .ok (.imul, 1) := by decide +kernel
theorem dX11_advance_111 : decode cX11_advance 111 = .ok (.iadd, 1) := by decide +kernel
theorem dX11_advance_112 : decode cX11_advance 112 = .ok (.iload_n 2, 1) := by decide +kernel
theorem dX11_advance_113 : decode cX11_advance 113 = .ok (.i2l, 1) := by decide +kernel
theorem dX11_advance_114 : decode cX11_advance 114 = .ok (.lastore, 1) := by decide +kernel
theorem dX11_advance_115 : decode cX11_advance 115 = .ok (.iload_n 3, 1) := by decide +kernel
theorem dX11_advance_116 : decode cX11_advance 116 = .ok (.ireturn, 1) := by decide +kernel
theorem dX11_value_0 : decode cX11_value 0 = .ok (.iconst 0, 1) := by decide +kernel
theorem dX11_value_1 : decode cX11_value 1 = .ok (.istore_n 2, 1) := by decide +kernel
theorem dX11_value_2 : decode cX11_value 2 = .ok (.iload_n 1, 1) := by decide +kernel
theorem dX11_value_3 : decode cX11_value 3 = .ok (.tableswitch 150 0 9 #[53, 53, 53, 60, 65, 76, 81, 86, 96, 106], 53) := by decide +kernel
theorem dX11_value_56 : decode cX11_value 56 = .ok (.aload_n 0, 1) := by decide +kernel
theorem dX11_value_57 : decode cX11_value 57 = .ok (.getfield 17, 3) := by decide +kernel
theorem dX11_value_60 : decode cX11_value 60 = .ok (.iload_n 1, 1) := by decide +kernel
theorem dX11_value_61 : decode cX11_value 61 = .ok (.iaload, 1) := by decide +kernel
theorem dX11_value_62 : decode cX11_value 62 = .ok (.ireturn, 1) := by decide +kernel
theorem dX11_value_63 : decode cX11_value 63 = .ok (.aload_n 0, 1) := by decide +kernel
theorem dX11_value_64 : decode cX11_value 64 = .ok (.invokevirtual 321, 3) := by decide +kernel
theorem dX11_value_67 : decode cX11_value 67 = .ok (.ireturn, 1) := by decide +kernel
theorem dX11_value_68 : decode cX11_value 68 = .ok (.aload_n 0, 1) := by decide +kernel
theorem dX11_value_69 : decode cX11_value 69 = .ok (.iconst 0, 1) := by decide +kernel
theorem dX11_value_70 : decode cX11_value 70 = .ok (.invokevirtual 118, 3) := by decide +kernel
theorem dX11_value_73 : decode cX11_value 73 = .ok (.aload_n 0, 1) := by decide +kernel
theorem dX11_value_74 : decode cX11_value 74 = .ok (.invokevirtual 321, 3) := by decide +kernel
theorem dX11_value_77 : decode cX11_value 77 = .ok (.isub, 1) := by decide +kernel
theorem dX11_value_78 : decode cX11_value 78 = .ok (.ireturn, 1) := by decide +kernel
theorem dX11_value_79 : decode cX11_value 79 = .ok (.aload_n 0, 1) := by decide +kernel
theorem dX11_value_80 : decode cX11_value 80 = .ok (.invokevirtual 368, 3) := by decide +kernel
theorem dX11_value_83 : decode cX11_value 83 = .ok (.ireturn, 1) := by decide +kernel
theorem dX11_value_84 : decode cX11_value 84 = .ok (.aload_n 0, 1) := by decide +kernel
theorem dX11_value_85 : decode cX11_value 85 = .ok (.invokevirtual 371, 3) := by decide +kernel
theorem dX11_value_88 : decode cX11_value 88 = .ok (.ireturn, 1) := by decide +kernel
theorem dX11_value_89 : decode cX11_value 89 = .ok (.aload_n 0, 1) := by decide +kernel
theorem dX11_value_90 : decode cX11_value 90 = .ok (.getfield 24, 3) := by decide +kernel
theorem dX11_value_93 : decode cX11_value 93 = .ok (.sipush 289, 3) := by decide +kernel
theorem dX11_value_96 : decode cX11_value 96 = .ok (.laload, 1) := by decide +kernel
theorem dX11_value_97 : decode cX11_value 97 = .ok (.l2i, 1) := by decide +kernel
theorem dX11_value_98 : decode cX11_value 98 = .ok (.ireturn, 1) := by decide +kernel
theorem dX11_value_99 : decode cX11_value 99 = .ok (.aload_n 0, 1) := by decide +kernel
theorem dX11_value_100 : decode cX11_value 100 = .ok (.getfield 24, 3) := by decide +kernel
theorem dX11_value_103 : decode cX11_value 103 = .ok (.sipush 290, 3) := by decide +kernel
theorem dX11_value_106 : decode cX11_value 106 = .ok (.laload, 1) := by decide +kernel
theorem dX11_value_107 : decode cX11_value 107 = .ok (.l2i, 1) := by decide +kernel
theorem dX11_value_108 : decode cX11_value 108 = .ok (.ireturn, 1) := by decide +kernel
theorem dX11_value_109 : decode cX11_value 109 = .ok (.iconst 0, 1) := by decide +kernel
theorem dX11_value_110 : decode cX11_value 110 = .ok (.istore_n 3, 1) := by decide +kernel
theorem dX11_value_111 : decode cX11_value 111 = .ok (.iload_n 3, 1) := by decide +kernel
theorem dX11_value_112 : decode cX11_value 112 = .ok (.aload_n 0, 1) := by decide +kernel
theorem dX11_value_113 : decode cX11_value 113 = .ok (.iconst 0, 1) := by decide +kernel
theorem dX11_value_114 : decode cX11_value 114 = .ok (.invokevirtual 118, 3) := by decide +kernel
theorem dX11_value_117 : decode cX11_value 117 = .ok (.if_icmp .ge 34, 3) := by decide +kernel
theorem dX11_value_120 : decode cX11_value 120 = .ok (.iload_n 2, 1) := by decide +kernel
theorem dX11_value_121 : decode cX11_value 121 = .ok (.aload_n 0, 1) := by decide +kernel
theorem dX11_value_122 : decode cX11_value 122 = .ok (.iconst 0, 1) := by decide +kernel
theorem dX11_value_123 : decode cX11_value 123 = .ok (.sipush 224, 3) := by decide +kernel
theorem dX11_value_126 : decode cX11_value 126 = .ok (.aload_n 0, 1) := by decide +kernel
theorem dX11_value_127 : decode cX11_value 127 = .ok (.iconst 0, 1) := by decide +kernel
theorem dX11_value_128 : decode cX11_value 128 = .ok (.iload_n 3, 1) := by decide +kernel
theorem dX11_value_129 : decode cX11_value 129 = .ok (.invokevirtual 114, 3) := by decide +kernel
theorem dX11_value_132 : decode cX11_value 132 = .ok (.invokevirtual 110, 3) := by decide +kernel
theorem dX11_value_135 : decode cX11_value 135 = .ok (.ifCond .le 7, 3) := by decide +kernel
theorem dX11_value_138 : decode cX11_value 138 = .ok (.iconst 1, 1) := by decide +kernel
theorem dX11_value_139 : decode cX11_value 139 = .ok (.goto 4, 3) := by decide +kernel
theorem dX11_value_142 : decode cX11_value 142 = .ok (.iconst 0, 1) := by decide +kernel
theorem dX11_value_143 : decode cX11_value 143 = .ok (.iadd, 1) := by decide +kernel
theorem dX11_value_144 : decode cX11_value 144 = .ok (.istore_n 2, 1) := by decide +kernel
theorem dX11_value_145 : decode cX11_value 145 = .ok (.iinc 3 1, 3) := by decide +kernel
theorem dX11_value_148 : decode cX11_value 148 = .ok (.goto (-37), 3) := by decide +kernel
theorem dX11_value_151 : decode cX11_value 151 = .ok (.iload_n 2, 1) := by decide +kernel
theorem dX11_value_152 : decode cX11_value 152 = .ok (.ireturn, 1) := by decide +kernel
theorem dX11_value_153 : decode cX11_value 153 = .ok (.iconst (-1), 1) := by decide +kernel
theorem dX11_value_154 : decode cX11_value 154 = .ok (.ireturn, 1) := by decide +kernel
theorem dX11_node_0 : decode cX11_node 0 = .ok (.aload_n 0, 1) := by decide +kernel
theorem dX11_node_1 : decode cX11_node 1 = .ok (.iload_n 1, 1) := by decide +kernel
theorem dX11_node_2 : decode cX11_node 2 = .ok (.invokevirtual 103, 3) := by decide +kernel
theorem dX11_node_5 : decode cX11_node 5 = .ok (.ifCond .eq 13, 3) := by decide +kernel
theorem dX11_node_8 : decode cX11_node 8 = .ok (.iload_n 2, 1) := by decide +kernel
theorem dX11_node_9 : decode cX11_node 9 = .ok (.iconst 0, 1) := by decide +kernel
theorem dX11_node_10 : decode cX11_node 10 = .ok (.bipush 8, 2) := by decide +kernel
theorem dX11_node_12 : decode cX11_node 12 = .ok (.invokestatic 95, 3) := by decide +kernel
theorem dX11_node_15 : decode cX11_node 15 = .ok (.ifCond .ne 5, 3) := by decide +kernel
theorem dX11_node_18 : decode cX11_node 18 = .ok (.iconst (-1), 1) := by decide +kernel
theorem dX11_node_19 : decode cX11_node 19 = .ok (.ireturn, 1) := by decide +kernel
theorem dX11_node_20 : decode cX11_node 20 = .ok (.iload_n 2, 1) := by decide +kernel
theorem dX11_node_21 : decode cX11_node 21 = .ok (.tableswitch 131 0 7 #[47, 56, 65, 75, 85, 111, 117, 124], 47) := by decide +kernel
theorem dX11_node_68 : decode cX11_node 68 = .ok (.aload_n 0, 1) := by decide +kernel
theorem dX11_node_69 : decode cX11_node 69 = .ok (.iconst 0, 1) := by decide +kernel
theorem dX11_node_70 : decode cX11_node 70 = .ok (.bipush 64, 2) := by decide +kernel
theorem dX11_node_72 : decode cX11_node 72 = .ok (.iload_n 1, 1) := by decide +kernel
theorem dX11_node_73 : decode cX11_node 73 = .ok (.invokevirtual 110, 3) := by decide +kernel
theorem dX11_node_76 : decode cX11_node 76 = .ok (.ireturn, 1) := by decide +kernel
theorem dX11_node_77 : decode cX11_node 77 = .ok (.aload_n 0, 1) := by decide +kernel
theorem dX11_node_78 : decode cX11_node 78 = .ok (.iconst 0, 1) := by decide +kernel
theorem dX11_node_79 : decode cX11_node 79 = .ok (.bipush 96, 2) := by decide +kernel
theorem dX11_node_81 : decode cX11_node 81 = .ok (.iload_n 1, 1) := by decide +kernel
theorem dX11_node_82 : decode cX11_node 82 = .ok (.invokevirtual 110, 3) := by decide +kernel
theorem dX11_node_85 : decode cX11_node 85 = .ok (.ireturn, 1) := by decide +kernel
theorem dX11_node_86 : decode cX11_node 86 = .ok (.aload_n 0, 1) := by decide +kernel
theorem dX11_node_87 : decode cX11_node 87 = .ok (.iconst 0, 1) := by decide +kernel
theorem dX11_node_88 : decode cX11_node 88 = .ok (.sipush 128, 3) := by decide +kernel
theorem dX11_node_91 : decode cX11_node 91 = .ok (.iload_n 1, 1) := by decide +kernel
theorem dX11_node_92 : decode cX11_node 92 = .ok (.invokevirtual 110, 3) := by decide +kernel
theorem dX11_node_95 : decode cX11_node 95 = .ok (.ireturn, 1) := by decide +kernel
theorem dX11_node_96 : decode cX11_node 96 = .ok (.aload_n 0, 1) := by decide +kernel
theorem dX11_node_97 : decode cX11_node 97 = .ok (.iconst 0, 1) := by decide +kernel
theorem dX11_node_98 : decode cX11_node 98 = .ok (.sipush 160, 3) := by decide +kernel
theorem dX11_node_101 : decode cX11_node 101 = .ok (.iload_n 1, 1) := by decide +kernel
theorem dX11_node_102 : decode cX11_node 102 = .ok (.invokevirtual 110, 3) := by decide +kernel
theorem dX11_node_105 : decode cX11_node 105 = .ok (.ireturn, 1) := by decide +kernel
theorem dX11_node_106 : decode cX11_node 106 = .ok (.aload_n 0, 1) := by decide +kernel
theorem dX11_node_107 : decode cX11_node 107 = .ok (.iconst 0, 1) := by decide +kernel
theorem dX11_node_108 : decode cX11_node 108 = .ok (.iconst 0, 1) := by decide +kernel
theorem dX11_node_109 : decode cX11_node 109 = .ok (.iload_n 1, 1) := by decide +kernel
theorem dX11_node_110 : decode cX11_node 110 = .ok (.invokevirtual 110, 3) := by decide +kernel
theorem dX11_node_113 : decode cX11_node 113 = .ok (.ifCond .ge 8, 3) := by decide +kernel
theorem dX11_node_116 : decode cX11_node 116 = .ok (.bipush (-2), 2) := by decide +kernel
theorem dX11_node_118 : decode cX11_node 118 = .ok (.goto 13, 3) := by decide +kernel
theorem dX11_node_121 : decode cX11_node 121 = .ok (.aload_n 0, 1) := by decide +kernel
theorem dX11_node_122 : decode cX11_node 122 = .ok (.iconst 0, 1) := by decide +kernel
theorem dX11_node_123 : decode cX11_node 123 = .ok (.iconst 0, 1) := by decide +kernel
theorem dX11_node_124 : decode cX11_node 124 = .ok (.iload_n 1, 1) := by decide +kernel
theorem dX11_node_125 : decode cX11_node 125 = .ok (.invokevirtual 110, 3) := by decide +kernel
theorem dX11_node_128 : decode cX11_node 128 = .ok (.bipush 24, 2) := by decide +kernel
theorem dX11_node_130 : decode cX11_node 130 = .ok (.isub, 1) := by decide +kernel
theorem dX11_node_131 : decode cX11_node 131 = .ok (.ireturn, 1) := by decide +kernel
theorem dX11_node_132 : decode cX11_node 132 = .ok (.aload_n 0, 1) := by decide +kernel
theorem dX11_node_133 : decode cX11_node 133 = .ok (.iload_n 1, 1) := by decide +kernel
theorem dX11_node_134 : decode cX11_node 134 = .ok (.invokevirtual 353, 3) := by decide +kernel
theorem dX11_node_137 : decode cX11_node 137 = .ok (.ireturn, 1) := by decide +kernel
theorem dX11_node_138 : decode cX11_node 138 = .ok (.aload_n 0, 1) := by decide +kernel
theorem dX11_node_139 : decode cX11_node 139 = .ok (.iconst 0, 1) := by decide +kernel
theorem dX11_node_140 : decode cX11_node 140 = .ok (.iload_n 1, 1) := by decide +kernel
theorem dX11_node_141 : decode cX11_node 141 = .ok (.invokevirtual 128, 3) := by decide +kernel
theorem dX11_node_144 : decode cX11_node 144 = .ok (.ireturn, 1) := by decide +kernel
theorem dX11_node_145 : decode cX11_node 145 = .ok (.aload_n 0, 1) := by decide +kernel
theorem dX11_node_146 : decode cX11_node 146 = .ok (.iconst 0, 1) := by decide +kernel
theorem dX11_node_147 : decode cX11_node 147 = .ok (.iload_n 1, 1) := by decide +kernel
theorem dX11_node_148 : decode cX11_node 148 = .ok (.invokevirtual 337, 3) := by decide +kernel
theorem dX11_node_151 : decode cX11_node 151 = .ok (.ireturn, 1) := by decide +kernel
theorem dX11_node_152 : decode cX11_node 152 = .ok (.iload_n 1, 1) := by decide +kernel
theorem dX11_node_153 : decode cX11_node 153 = .ok (.invokestatic 107, 3) := by decide +kernel
theorem dX11_node_156 : decode cX11_node 156 = .ok (.ifCond .eq 7, 3) := by decide +kernel
theorem dX11_node_159 : decode cX11_node 159 = .ok (.iconst 0, 1) := by decide +kernel
theorem dX11_node_160 : decode cX11_node 160 = .ok (.goto 8, 3) := by decide +kernel
theorem dX11_node_163 : decode cX11_node 163 = .ok (.aload_n 0, 1) := by decide +kernel
theorem dX11_node_164 : decode cX11_node 164 = .ok (.iload_n 1, 1) := by decide +kernel
theorem dX11_node_165 : decode cX11_node 165 = .ok (.invokevirtual 350, 3) := by decide +kernel
theorem dX11_node_168 : decode cX11_node 168 = .ok (.ireturn, 1) := by decide +kernel
theorem dX11_lengthOf_0 : decode cX11_lengthOf 0 = .ok (.iconst 0, 1) := by decide +kernel
theorem dX11_lengthOf_1 : decode cX11_lengthOf 1 = .ok (.istore_n 2, 1) := by decide +kernel
theorem dX11_lengthOf_2 : decode cX11_lengthOf 2 = .ok (.iload_n 2, 1) := by decide +kernel
theorem dX11_lengthOf_3 : decode cX11_lengthOf 3 = .ok (.bipush 8, 2) := by decide +kernel
theorem dX11_lengthOf_5 : decode cX11_lengthOf 5 = .ok (.if_icmp .ge 19, 3) := by decide +kernel
theorem dX11_lengthOf_8 : decode cX11_lengthOf 8 = .ok (.lload_n 0, 1) := by decide +kernel
theorem dX11_lengthOf_9 : decode cX11_lengthOf 9 = .ok (.iconst 5, 1) := by decide +kernel
theorem dX11_lengthOf_10 : decode cX11_lengthOf 10 = .ok (.iload_n 2, 1) := by decide +kernel
theorem dX11_lengthOf_11 : decode cX11_lengthOf 11 = .ok (.imul, 1) := by decide +kernel
theorem dX11_lengthOf_12 : decode cX11_lengthOf 12 = .ok (.lshr, 1) := by decide +kernel
theorem dX11_lengthOf_13 : decode cX11_lengthOf 13 = .ok (.lconst 0, 1) := by decide +kernel
theorem dX11_lengthOf_14 : decode cX11_lengthOf 14 = .ok (.lcmp, 1) := by decide +kernel
theorem dX11_lengthOf_15 : decode cX11_lengthOf 15 = .ok (.ifCond .le 9, 3) := by decide +kernel
theorem dX11_lengthOf_18 : decode cX11_lengthOf 18 = .ok (.iinc 2 1, 3) := by decide +kernel
theorem dX11_lengthOf_21 : decode cX11_lengthOf 21 = .ok (.goto (-19), 3) := by decide +kernel
theorem dX11_lengthOf_24 : decode cX11_lengthOf 24 = .ok (.iload_n 2, 1) := by decide +kernel
theorem dX11_lengthOf_25 : decode cX11_lengthOf 25 = .ok (.ireturn, 1) := by decide +kernel
theorem dX11_letterOf_0 : decode cX11_letterOf 0 = .ok (.bipush 96, 2) := by decide +kernel
theorem dX11_letterOf_2 : decode cX11_letterOf 2 = .ok (.lload_n 0, 1) := by decide +kernel
theorem dX11_letterOf_3 : decode cX11_letterOf 3 = .ok (.iconst 5, 1) := by decide +kernel
theorem dX11_letterOf_4 : decode cX11_letterOf 4 = .ok (.lload_n 0, 1) := by decide +kernel
theorem dX11_letterOf_5 : decode cX11_letterOf 5 = .ok (.invokestatic 403, 3) := by decide +kernel
theorem dX11_letterOf_8 : decode cX11_letterOf 8 = .ok (.iconst 1, 1) := by decide +kernel
theorem dX11_letterOf_9 : decode cX11_letterOf 9 = .ok (.isub, 1) := by decide +kernel
theorem dX11_letterOf_10 : decode cX11_letterOf 10 = .ok (.iload_n 2, 1) := by decide +kernel
theorem dX11_letterOf_11 : decode cX11_letterOf 11 = .ok (.isub, 1) := by decide +kernel
theorem dX11_letterOf_12 : decode cX11_letterOf 12 = .ok (.imul, 1) := by decide +kernel
theorem dX11_letterOf_13 : decode cX11_letterOf 13 = .ok (.lshr, 1) := by decide +kernel
theorem dX11_letterOf_14 : decode cX11_letterOf 14 = .ok (.ldc2_w 407, 3) := by decide +kernel
theorem dX11_letterOf_17 : decode cX11_letterOf 17 = .ok (.land, 1) := by decide +kernel
theorem dX11_letterOf_18 : decode cX11_letterOf 18 = .ok (.l2i, 1) := by decide +kernel
theorem dX11_letterOf_19 : decode cX11_letterOf 19 = .ok (.iadd, 1) := by decide +kernel
theorem dX11_letterOf_20 : decode cX11_letterOf 20 = .ok (.ireturn, 1) := by decide +kernel
theorem dX11_letter_0 : decode cX11_letter 0 = .ok (.aload_n 0, 1) := by decide +kernel
theorem dX11_letter_1 : decode cX11_letter 1 = .ok (.iload_n 1, 1) := by decide +kernel
theorem dX11_letter_2 : decode cX11_letter 2 = .ok (.invokevirtual 103, 3) := by decide +kernel
theorem dX11_letter_5 : decode cX11_letter 5 = .ok (.ifCond .eq 7, 3) := by decide +kernel
theorem dX11_letter_8 : decode cX11_letter 8 = .ok (.iload_n 2, 1) := by decide +kernel
theorem dX11_letter_9 : decode cX11_letter 9 = .ok (.ifCond .ge 5, 3) := by decide +kernel
theorem dX11_letter_12 : decode cX11_letter 12 = .ok (.iconst (-1), 1) := by decide +kernel
theorem dX11_letter_13 : decode cX11_letter 13 = .ok (.ireturn, 1) := by decide +kernel
theorem dX11_letter_14 : decode cX11_letter 14 = .ok (.aload_n 0, 1) := by decide +kernel
theorem dX11_letter_15 : decode cX11_letter 15 = .ok (.getfield 24, 3) := by decide +kernel
theorem dX11_letter_18 : decode cX11_letter 18 = .ok (.bipush 32, 2) := by decide +kernel
theorem dX11_letter_20 : decode cX11_letter 20 = .ok (.iload_n 1, 1) := by decide +kernel
theorem dX11_letter_21 : decode cX11_letter 21 = .ok (.iadd, 1) := by decide +kernel
theorem dX11_letter_22 : decode cX11_letter 22 = .ok (.laload, 1) := by decide +kernel
theorem dX11_letter_23 : decode cX11_letter 23 = .ok (.lstore_n 3, 1) := by decide +kernel
theorem dX11_letter_24 : decode cX11_letter 24 = .ok (.iload_n 2, 1) := by decide +kernel
theorem dX11_letter_25 : decode cX11_letter 25 = .ok (.lload_n 3, 1) := by decide +kernel
theorem dX11_letter_26 : decode cX11_letter 26 = .ok (.invokestatic 403, 3) := by decide +kernel
theorem dX11_letter_29 : decode cX11_letter 29 = .ok (.if_icmp .ge 11, 3) := by decide +kernel
theorem dX11_letter_32 : decode cX11_letter 32 = .ok (.lload_n 3, 1) := by decide +kernel
theorem dX11_letter_33 : decode cX11_letter 33 = .ok (.iload_n 2, 1) := by decide +kernel
theorem dX11_letter_34 : decode cX11_letter 34 = .ok (.invokestatic 409, 3) := by decide +kernel
theorem dX11_letter_37 : decode cX11_letter 37 = .ok (.goto 5, 3) := by decide +kernel
theorem dX11_letter_40 : decode cX11_letter 40 = .ok (.bipush (-2), 2) := by decide +kernel
theorem dX11_letter_42 : decode cX11_letter 42 = .ok (.ireturn, 1) := by decide +kernel
theorem dX11_named_0 : decode cX11_named 0 = .ok (.iload_n 1, 1) := by decide +kernel
theorem dX11_named_1 : decode cX11_named 1 = .ok (.invokestatic 340, 3) := by decide +kernel
theorem dX11_named_4 : decode cX11_named 4 = .ok (.lstore_n 2, 1) := by decide +kernel
theorem dX11_named_5 : decode cX11_named 5 = .ok (.lload_n 2, 1) := by decide +kernel
theorem dX11_named_6 : decode cX11_named 6 = .ok (.lconst 0, 1) := by decide +kernel
theorem dX11_named_7 : decode cX11_named 7 = .ok (.lcmp, 1) := by decide +kernel
theorem dX11_named_8 : decode cX11_named 8 = .ok (.ifCond .ne 7, 3) := by decide +kernel
theorem dX11_named_11 : decode cX11_named 11 = .ok (.iconst (-1), 1) := by decide +kernel
theorem dX11_named_12 : decode cX11_named 12 = .ok (.goto 9, 3) := by decide +kernel
theorem dX11_named_15 : decode cX11_named 15 = .ok (.aload_n 0, 1) := by decide +kernel
theorem dX11_named_16 : decode cX11_named 16 = .ok (.iconst 0, 1) := by decide +kernel
theorem dX11_named_17 : decode cX11_named 17 = .ok (.lload_n 2, 1) := by decide +kernel
theorem dX11_named_18 : decode cX11_named 18 = .ok (.invokevirtual 265, 3) := by decide +kernel
theorem dX11_named_21 : decode cX11_named 21 = .ok (.ireturn, 1) := by decide +kernel
theorem dX11_nodeAt_0 : decode cX11_nodeAt 0 = .ok (.iload_n 1, 1) := by decide +kernel
theorem dX11_nodeAt_1 : decode cX11_nodeAt 1 = .ok (.ifCond .ge 5, 3) := by decide +kernel
theorem dX11_nodeAt_4 : decode cX11_nodeAt 4 = .ok (.iconst (-1), 1) := by decide +kernel
theorem dX11_nodeAt_5 : decode cX11_nodeAt 5 = .ok (.ireturn, 1) := by decide +kernel
theorem dX11_nodeAt_6 : decode cX11_nodeAt 6 = .ok (.iload_n 1, 1) := by decide +kernel
theorem dX11_nodeAt_7 : decode cX11_nodeAt 7 = .ok (.aload_n 0, 1) := by decide +kernel
theorem dX11_nodeAt_8 : decode cX11_nodeAt 8 = .ok (.iconst 0, 1) := by decide +kernel
theorem dX11_nodeAt_9 : decode cX11_nodeAt 9 = .ok (.invokevirtual 118, 3) := by decide +kernel
theorem dX11_nodeAt_12 : decode cX11_nodeAt 12 = .ok (.if_icmp .ge 12, 3) := by decide +kernel
theorem dX11_nodeAt_15 : decode cX11_nodeAt 15 = .ok (.aload_n 0, 1) := by decide +kernel
theorem dX11_nodeAt_16 : decode cX11_nodeAt 16 = .ok (.iconst 0, 1) := by decide +kernel
theorem dX11_nodeAt_17 : decode cX11_nodeAt 17 = .ok (.iload_n 1, 1) := by decide +kernel
theorem dX11_nodeAt_18 : decode cX11_nodeAt 18 = .ok (.invokevirtual 114, 3) := by decide +kernel
theorem dX11_nodeAt_21 : decode cX11_nodeAt 21 = .ok (.goto 5, 3) := by decide +kernel
theorem dX11_nodeAt_24 : decode cX11_nodeAt 24 = .ok (.bipush (-2), 2) := by decide +kernel
theorem dX11_nodeAt_26 : decode cX11_nodeAt 26 = .ok (.ireturn, 1) := by decide +kernel
theorem dX11_dependsOn_0 : decode cX11_dependsOn 0 = .ok (.aload_n 0, 1) := by decide +kernel
theorem dX11_dependsOn_1 : decode cX11_dependsOn 1 = .ok (.iload_n 1, 1) := by decide +kernel
theorem dX11_dependsOn_2 : decode cX11_dependsOn 2 = .ok (.invokevirtual 365, 3) := by decide +kernel
theorem dX11_dependsOn_5 : decode cX11_dependsOn 5 = .ok (.ifCond .ne 5, 3) := by decide +kernel
theorem dX11_dependsOn_8 : decode cX11_dependsOn 8 = .ok (.iconst (-1), 1) := by decide +kernel
theorem dX11_dependsOn_9 : decode cX11_dependsOn 9 = .ok (.ireturn, 1) := by decide +kernel
theorem dX11_dependsOn_10 : decode cX11_dependsOn 10 = .ok (.aload_n 0, 1) := by decide +kernel
theorem dX11_dependsOn_11 : decode cX11_dependsOn 11 = .ok (.bipush (-2), 2) := by decide +kernel
theorem dX11_dependsOn_13 : decode cX11_dependsOn 13 = .ok (.invokevirtual 153, 3) := by decide +kernel
theorem dX11_dependsOn_16 : decode cX11_dependsOn 16 = .ok (.aload_n 0, 1) := by decide +kernel
theorem dX11_dependsOn_17 : decode cX11_dependsOn 17 = .ok (.getfield 37, 3) := by decide +kernel
theorem dX11_dependsOn_20 : decode cX11_dependsOn 20 = .ok (.iload_n 1, 1) := by decide +kernel
theorem dX11_dependsOn_21 : decode cX11_dependsOn 21 = .ok (.iaload, 1) := by decide +kernel
theorem dX11_dependsOn_22 : decode cX11_dependsOn 22 = .ok (.ireturn, 1) := by decide +kernel
theorem dX11_dependents_0 : decode cX11_dependents 0 = .ok (.aload_n 0, 1) := by decide +kernel
theorem dX11_dependents_1 : decode cX11_dependents 1 = .ok (.iload_n 1, 1) := by decide +kernel
theorem dX11_dependents_2 : decode cX11_dependents 2 = .ok (.invokevirtual 365, 3) := by decide +kernel
theorem dX11_dependents_5 : decode cX11_dependents 5 = .ok (.ifCond .ne 5, 3) := by decide +kernel
theorem dX11_dependents_8 : decode cX11_dependents 8 = .ok (.iconst (-1), 1) := by decide +kernel
theorem dX11_dependents_9 : decode cX11_dependents 9 = .ok (.ireturn, 1) := by decide +kernel
theorem dX11_dependents_10 : decode cX11_dependents 10 = .ok (.aload_n 0, 1) := by decide +kernel
theorem dX11_dependents_11 : decode cX11_dependents 11 = .ok (.bipush (-2), 2) := by decide +kernel
theorem dX11_dependents_13 : decode cX11_dependents 13 = .ok (.invokevirtual 153, 3) := by decide +kernel
theorem dX11_dependents_16 : decode cX11_dependents 16 = .ok (.iconst 0, 1) := by decide +kernel
theorem dX11_dependents_17 : decode cX11_dependents 17 = .ok (.istore_n 2, 1) := by decide +kernel
theorem dX11_dependents_18 : decode cX11_dependents 18 = .ok (.iconst 0, 1) := by decide +kernel
theorem dX11_dependents_19 : decode cX11_dependents 19 = .ok (.istore_n 3, 1) := by decide +kernel
theorem dX11_dependents_20 : decode cX11_dependents 20 = .ok (.iload_n 3, 1) := by decide +kernel
theorem dX11_dependents_21 : decode cX11_dependents 21 = .ok (.bipush 24, 2) := by decide +kernel
theorem dX11_dependents_23 : decode cX11_dependents 23 = .ok (.if_icmp .ge 37, 3) := by decide +kernel
theorem dX11_dependents_26 : decode cX11_dependents 26 = .ok (.iload_n 2, 1) := by decide +kernel
theorem dX11_dependents_27 : decode cX11_dependents 27 = .ok (.iload_n 3, 1) := by decide +kernel
theorem dX11_dependents_28 : decode cX11_dependents 28 = .ok (.iload_n 1, 1) := by decide +kernel
theorem dX11_dependents_29 : decode cX11_dependents 29 = .ok (.if_icmp .eq 22, 3) := by decide +kernel
theorem dX11_dependents_32 : decode cX11_dependents 32 = .ok (.aload_n 0, 1) := by decide +kernel
theorem dX11_dependents_33 : decode cX11_dependents 33 = .ok (.iload_n 3, 1) := by decide +kernel
theorem dX11_dependents_34 : decode cX11_dependents 34 = .ok (.invokevirtual 147, 3) := by decide +kernel
theorem dX11_dependents_37 : decode cX11_dependents 37 = .ok (.iload_n 1, 1) := by decide +kernel
theorem dX11_dependents_38 : decode cX11_dependents 38 = .ok (.ishr, 1) := by decide +kernel
theorem dX11_dependents_39 : decode cX11_dependents 39 = .ok (.iconst 1, 1) := by decide +kernel
theorem dX11_dependents_40 : decode cX11_dependents 40 = .ok (.iand, 1) := by decide +kernel
theorem dX11_dependents_41 : decode cX11_dependents 41 = .ok (.iconst 1, 1) := by decide +kernel
theorem dX11_dependents_42 : decode cX11_dependents 42 = .ok (.if_icmp .ne 9, 3) := by decide +kernel
theorem dX11_dependents_45 : decode cX11_dependents 45 = .ok (.iconst 1, 1) := by decide +kernel
theorem dX11_dependents_46 : decode cX11_dependents 46 = .ok (.iload_n 3, 1) := by decide +kernel
theorem dX11_dependents_47 : decode cX11_dependents 47 = .ok (.ishl, 1) := by decide +kernel
theorem dX11_dependents_48 : decode cX11_dependents 48 = .ok (.goto 4, 3) := by decide +kernel
theorem dX11_dependents_51 : decode cX11_dependents 51 = .ok (.iconst 0, 1) := by decide +kernel
theorem dX11_dependents_52 : decode cX11_dependents 52 = .ok (.ior, 1) := by decide +kernel
theorem dX11_dependents_53 : decode cX11_dependents 53 = .ok (.istore_n 2, 1) := by decide +kernel
theorem dX11_dependents_54 : decode cX11_dependents 54 = .ok (.iinc 3 1, 3) := by decide +kernel
theorem dX11_dependents_57 : decode cX11_dependents 57 = .ok (.goto (-37), 3) := by decide +kernel
theorem dX11_dependents_60 : decode cX11_dependents 60 = .ok (.iload_n 2, 1) := by decide +kernel
theorem dX11_dependents_61 : decode cX11_dependents 61 = .ok (.ireturn, 1) := by decide +kernel
theorem dX11_inOrder_0 : decode cX11_inOrder 0 = .ok (.iload_n 1, 1) := by decide +kernel
theorem dX11_inOrder_1 : decode cX11_inOrder 1 = .ok (.ifCond .ge 5, 3) := by decide +kernel
theorem dX11_inOrder_4 : decode cX11_inOrder 4 = .ok (.iconst (-1), 1) := by decide +kernel
theorem dX11_inOrder_5 : decode cX11_inOrder 5 = .ok (.ireturn, 1) := by decide +kernel
theorem dX11_inOrder_6 : decode cX11_inOrder 6 = .ok (.aload_n 0, 1) := by decide +kernel
theorem dX11_inOrder_7 : decode cX11_inOrder 7 = .ok (.bipush (-2), 2) := by decide +kernel
theorem dX11_inOrder_9 : decode cX11_inOrder 9 = .ok (.invokevirtual 153, 3) := by decide +kernel
theorem dX11_inOrder_12 : decode cX11_inOrder 12 = .ok (.iconst 0, 1) := by decide +kernel
theorem dX11_inOrder_13 : decode cX11_inOrder 13 = .ok (.istore_n 2, 1) := by decide +kernel
theorem dX11_inOrder_14 : decode cX11_inOrder 14 = .ok (.iconst 0, 1) := by decide +kernel
theorem dX11_inOrder_15 : decode cX11_inOrder 15 = .ok (.istore_n 3, 1) := by decide +kernel
theorem dX11_inOrder_16 : decode cX11_inOrder 16 = .ok (.iload_n 3, 1) := by decide +kernel
theorem dX11_inOrder_17 : decode cX11_inOrder 17 = .ok (.aload_n 0, 1) := by decide +kernel
theorem dX11_inOrder_18 : decode cX11_inOrder 18 = .ok (.invokevirtual 321, 3) := by decide +kernel
theorem dX11_inOrder_21 : decode cX11_inOrder 21 = .ok (.if_icmp .ge 67, 3) := by decide +kernel
theorem dX11_inOrder_24 : decode cX11_inOrder 24 = .ok (.iconst 0, 1) := by decide +kernel
theorem dX11_inOrder_25 : decode cX11_inOrder 25 = .ok (.istore 4, 2) := by decide +kernel
theorem dX11_inOrder_27 : decode cX11_inOrder 27 = .ok (.aload_n 0, 1) := by decide +kernel
theorem dX11_inOrder_28 : decode cX11_inOrder 28 = .ok (.iconst 0, 1) := by decide +kernel
theorem dX11_inOrder_29 : decode cX11_inOrder 29 = .ok (.iload 4, 2) := by decide +kernel
theorem dX11_inOrder_31 : decode cX11_inOrder 31 = .ok (.invokevirtual 99, 3) := by decide +kernel
theorem dX11_inOrder_34 : decode cX11_inOrder 34 = .ok (.ifCond .eq 27, 3) := by decide +kernel
theorem dX11_inOrder_37 : decode cX11_inOrder 37 = .ok (.iload_n 2, 1) := by decide +kernel
theorem dX11_inOrder_38 : decode cX11_inOrder 38 = .ok (.iload 4, 2) := by decide +kernel
theorem dX11_inOrder_40 : decode cX11_inOrder 40 = .ok (.ishr, 1) := by decide +kernel
theorem dX11_inOrder_41 : decode cX11_inOrder 41 = .ok (.iconst 1, 1) := by decide +kernel
theorem dX11_inOrder_42 : decode cX11_inOrder 42 = .ok (.iand, 1) := by decide +kernel
theorem dX11_inOrder_43 : decode cX11_inOrder 43 = .ok (.iconst 1, 1) := by decide +kernel
theorem dX11_inOrder_44 : decode cX11_inOrder 44 = .ok (.if_icmp .eq 17, 3) := by decide +kernel
theorem dX11_inOrder_47 : decode cX11_inOrder 47 = .ok (.aload_n 0, 1) := by decide +kernel
theorem dX11_inOrder_48 : decode cX11_inOrder 48 = .ok (.getfield 37, 3) := by decide +kernel
theorem dX11_inOrder_51 : decode cX11_inOrder 51 = .ok (.iload 4, 2) := by decide +kernel
theorem dX11_inOrder_53 : decode cX11_inOrder 53 = .ok (.iaload, 1) := by decide +kernel
theorem dX11_inOrder_54 : decode cX11_inOrder 54 = .ok (.iload_n 2, 1) := by decide +kernel
theorem dX11_inOrder_55 : decode cX11_inOrder 55 = .ok (.iconst (-1), 1) := by decide +kernel
theorem dX11_inOrder_56 : decode cX11_inOrder 56 = .ok (.ixor, 1) := by decide +kernel
theorem dX11_inOrder_57 : decode cX11_inOrder 57 = .ok (.iand, 1) := by decide +kernel
theorem dX11_inOrder_58 : decode cX11_inOrder 58 = .ok (.ifCond .eq 9, 3) := by decide +kernel
theorem dX11_inOrder_61 : decode cX11_inOrder 61 = .ok (.iinc 4 1, 3) := by decide +kernel
theorem dX11_inOrder_64 : decode cX11_inOrder 64 = .ok (.goto (-37), 3) := by decide +kernel
theorem dX11_inOrder_67 : decode cX11_inOrder 67 = .ok (.iload_n 3, 1) := by decide +kernel
theorem dX11_inOrder_68 : decode cX11_inOrder 68 = .ok (.iload_n 1, 1) := by decide +kernel
theorem dX11_inOrder_69 : decode cX11_inOrder 69 = .ok (.if_icmp .ne 6, 3) := by decide +kernel
theorem dX11_inOrder_72 : decode cX11_inOrder 72 = .ok (.iload 4, 2) := by decide +kernel
theorem dX11_inOrder_74 : decode cX11_inOrder 74 = .ok (.ireturn, 1) := by decide +kernel
theorem dX11_inOrder_75 : decode cX11_inOrder 75 = .ok (.iload_n 2, 1) := by decide +kernel
theorem dX11_inOrder_76 : decode cX11_inOrder 76 = .ok (.iconst 1, 1) := by decide +kernel
theorem dX11_inOrder_77 : decode cX11_inOrder 77 = .ok (.iload 4, 2) := by decide +kernel
theorem dX11_inOrder_79 : decode cX11_inOrder 79 = .ok (.ishl, 1) := by decide +kernel
theorem dX11_inOrder_80 : decode cX11_inOrder 80 = .ok (.ior, 1) := by decide +kernel
theorem dX11_inOrder_81 : decode cX11_inOrder 81 = .ok (.istore_n 2, 1) := by decide +kernel
theorem dX11_inOrder_82 : decode cX11_inOrder 82 = .ok (.iinc 3 1, 3) := by decide +kernel
theorem dX11_inOrder_85 : decode cX11_inOrder 85 = .ok (.goto (-69), 3) := by decide +kernel
theorem dX11_inOrder_88 : decode cX11_inOrder 88 = .ok (.bipush (-2), 2) := by decide +kernel
theorem dX11_inOrder_90 : decode cX11_inOrder 90 = .ok (.ireturn, 1) := by decide +kernel
theorem dX11_wouldRefuse_0 : decode cX11_wouldRefuse 0 = .ok (.aload_n 0, 1) := by decide +kernel
theorem dX11_wouldRefuse_1 : decode cX11_wouldRefuse 1 = .ok (.iload_n 1, 1) := by decide +kernel
theorem dX11_wouldRefuse_2 : decode cX11_wouldRefuse 2 = .ok (.invokevirtual 103, 3) := by decide +kernel
theorem dX11_wouldRefuse_5 : decode cX11_wouldRefuse 5 = .ok (.ifCond .eq 11, 3) := by decide +kernel
theorem dX11_wouldRefuse_8 : decode cX11_wouldRefuse 8 = .ok (.aload_n 0, 1) := by decide +kernel
theorem dX11_wouldRefuse_9 : decode cX11_wouldRefuse 9 = .ok (.iload_n 2, 1) := by decide +kernel
theorem dX11_wouldRefuse_10 : decode cX11_wouldRefuse 10 = .ok (.invokevirtual 365, 3) := by decide +kernel
theorem dX11_wouldRefuse_13 : decode cX11_wouldRefuse 13 = .ok (.ifCond .ne 5, 3) := by decide +kernel
theorem dX11_wouldRefuse_16 : decode cX11_wouldRefuse 16 = .ok (.iconst 0, 1) := by decide +kernel
theorem dX11_wouldRefuse_17 : decode cX11_wouldRefuse 17 = .ok (.ireturn, 1) := by decide +kernel
theorem dX11_wouldRefuse_18 : decode cX11_wouldRefuse 18 = .ok (.aload_n 0, 1) := by decide +kernel
theorem dX11_wouldRefuse_19 : decode cX11_wouldRefuse 19 = .ok (.bipush (-2), 2) := by decide +kernel
theorem dX11_wouldRefuse_21 : decode cX11_wouldRefuse 21 = .ok (.invokevirtual 153, 3) := by decide +kernel
theorem dX11_wouldRefuse_24 : decode cX11_wouldRefuse 24 = .ok (.aload_n 0, 1) := by decide +kernel
theorem dX11_wouldRefuse_25 : decode cX11_wouldRefuse 25 = .ok (.iload_n 1, 1) := by decide +kernel
theorem dX11_wouldRefuse_26 : decode cX11_wouldRefuse 26 = .ok (.iload_n 2, 1) := by decide +kernel
theorem dX11_wouldRefuse_27 : decode cX11_wouldRefuse 27 = .ok (.invokevirtual 297, 3) := by decide +kernel
theorem dX11_wouldRefuse_30 : decode cX11_wouldRefuse 30 = .ok (.ireturn, 1) := by decide +kernel
theorem dX11_exists_0 : decode cX11_exists 0 = .ok (.aload_n 0, 1) := by decide +kernel
theorem dX11_exists_1 : decode cX11_exists 1 = .ok (.iload_n 1, 1) := by decide +kernel
theorem dX11_exists_2 : decode cX11_exists 2 = .ok (.invokevirtual 413, 3) := by decide +kernel
theorem dX11_exists_5 : decode cX11_exists 5 = .ok (.ifCond .eq 19, 3) := by decide +kernel
theorem dX11_exists_8 : decode cX11_exists 8 = .ok (.aload_n 0, 1) := by decide +kernel
theorem dX11_exists_9 : decode cX11_exists 9 = .ok (.iload_n 1, 1) := by decide +kernel
theorem dX11_exists_10 : decode cX11_exists 10 = .ok (.invokestatic 374, 3) := by decide +kernel
theorem dX11_exists_13 : decode cX11_exists 13 = .ok (.iload_n 2, 1) := by decide +kernel
theorem dX11_exists_14 : decode cX11_exists 14 = .ok (.invokevirtual 99, 3) := by decide +kernel
theorem dX11_exists_17 : decode cX11_exists 17 = .ok (.ifCond .eq 7, 3) := by decide +kernel
theorem dX11_exists_20 : decode cX11_exists 20 = .ok (.iconst 1, 1) := by decide +kernel
theorem dX11_exists_21 : decode cX11_exists 21 = .ok (.goto 4, 3) := by decide +kernel
theorem dX11_exists_24 : decode cX11_exists 24 = .ok (.iconst 0, 1) := by decide +kernel
theorem dX11_exists_25 : decode cX11_exists 25 = .ok (.ireturn, 1) := by decide +kernel
theorem dX11_revisionOf_0 : decode cX11_revisionOf 0 = .ok (.aload_n 0, 1) := by decide +kernel
theorem dX11_revisionOf_1 : decode cX11_revisionOf 1 = .ok (.iload_n 1, 1) := by decide +kernel
theorem dX11_revisionOf_2 : decode cX11_revisionOf 2 = .ok (.invokevirtual 394, 3) := by decide +kernel
theorem dX11_revisionOf_5 : decode cX11_revisionOf 5 = .ok (.ifCond .eq 11, 3) := by decide +kernel
theorem dX11_revisionOf_8 : decode cX11_revisionOf 8 = .ok (.aload_n 0, 1) := by decide +kernel
theorem dX11_revisionOf_9 : decode cX11_revisionOf 9 = .ok (.iload_n 1, 1) := by decide +kernel
theorem dX11_revisionOf_10 : decode cX11_revisionOf 10 = .ok (.invokevirtual 379, 3) := by decide +kernel
theorem dX11_revisionOf_13 : decode cX11_revisionOf 13 = .ok (.goto 4, 3) := by decide +kernel
theorem dX11_revisionOf_16 : decode cX11_revisionOf 16 = .ok (.iconst (-1), 1) := by decide +kernel
theorem dX11_revisionOf_17 : decode cX11_revisionOf 17 = .ok (.ireturn, 1) := by decide +kernel
theorem dX11_answers_0 : decode cX11_answers 0 = .ok (.aload_n 0, 1) := by decide +kernel
theorem dX11_answers_1 : decode cX11_answers 1 = .ok (.iload_n 1, 1) := by decide +kernel
theorem dX11_answers_2 : decode cX11_answers 2 = .ok (.invokevirtual 394, 3) := by decide +kernel
theorem dX11_answers_5 : decode cX11_answers 5 = .ok (.ifCond .ne 5, 3) := by decide +kernel
theorem dX11_answers_8 : decode cX11_answers 8 = .ok (.iconst (-1), 1) := by decide +kernel
theorem dX11_answers_9 : decode cX11_answers 9 = .ok (.ireturn, 1) := by decide +kernel
theorem dX11_answers_10 : decode cX11_answers 10 = .ok (.iconst 0, 1) := by decide +kernel
theorem dX11_answers_11 : decode cX11_answers 11 = .ok (.istore_n 2, 1) := by decide +kernel
theorem dX11_answers_12 : decode cX11_answers 12 = .ok (.iconst 0, 1) := by decide +kernel
theorem dX11_answers_13 : decode cX11_answers 13 = .ok (.istore_n 3, 1) := by decide +kernel
theorem dX11_answers_14 : decode cX11_answers 14 = .ok (.iload_n 3, 1) := by decide +kernel
theorem dX11_answers_15 : decode cX11_answers 15 = .ok (.bipush 24, 2) := by decide +kernel
theorem dX11_answers_17 : decode cX11_answers 17 = .ok (.if_icmp .ge 28, 3) := by decide +kernel
theorem dX11_answers_20 : decode cX11_answers 20 = .ok (.iload_n 2, 1) := by decide +kernel
theorem dX11_answers_21 : decode cX11_answers 21 = .ok (.aload_n 0, 1) := by decide +kernel
theorem dX11_answers_22 : decode cX11_answers 22 = .ok (.iload_n 1, 1) := by decide +kernel
theorem dX11_answers_23 : decode cX11_answers 23 = .ok (.iload_n 3, 1) := by decide +kernel
theorem dX11_answers_24 : decode cX11_answers 24 = .ok (.invokevirtual 382, 3) := by decide +kernel
theorem dX11_answers_27 : decode cX11_answers 27 = .ok (.bipush (-2), 2) := by decide +kernel
theorem dX11_answers_29 : decode cX11_answers 29 = .ok (.if_icmp .eq 7, 3) := by decide +kernel
theorem dX11_answers_32 : decode cX11_answers 32 = .ok (.iconst 1, 1) := by decide +kernel
theorem dX11_answers_33 : decode cX11_answers 33 = .ok (.goto 4, 3) := by decide +kernel
theorem dX11_answers_36 : decode cX11_answers 36 = .ok (.iconst 0, 1) := by decide +kernel
theorem dX11_answers_37 : decode cX11_answers 37 = .ok (.iadd, 1) := by decide +kernel
theorem dX11_answers_38 : decode cX11_answers 38 = .ok (.istore_n 2, 1) := by decide +kernel
theorem dX11_answers_39 : decode cX11_answers 39 = .ok (.iinc 3 1, 3) := by decide +kernel
theorem dX11_answers_42 : decode cX11_answers 42 = .ok (.goto (-28), 3) := by decide +kernel
theorem dX11_answers_45 : decode cX11_answers 45 = .ok (.iload_n 2, 1) := by decide +kernel
theorem dX11_answers_46 : decode cX11_answers 46 = .ok (.ireturn, 1) := by decide +kernel
theorem dX11_isShown_0 : decode cX11_isShown 0 = .ok (.aload_n 0, 1) := by decide +kernel
theorem dX11_isShown_1 : decode cX11_isShown 1 = .ok (.iload_n 1, 1) := by decide +kernel
theorem dX11_isShown_2 : decode cX11_isShown 2 = .ok (.invokevirtual 394, 3) := by decide +kernel
theorem dX11_isShown_5 : decode cX11_isShown 5 = .ok (.ifCond .eq 23, 3) := by decide +kernel
theorem dX11_isShown_8 : decode cX11_isShown 8 = .ok (.aload_n 0, 1) := by decide +kernel
theorem dX11_isShown_9 : decode cX11_isShown 9 = .ok (.iload_n 2, 1) := by decide +kernel
theorem dX11_isShown_10 : decode cX11_isShown 10 = .ok (.invokevirtual 413, 3) := by decide +kernel
theorem dX11_isShown_13 : decode cX11_isShown 13 = .ok (.ifCond .eq 15, 3) := by decide +kernel
theorem dX11_isShown_16 : decode cX11_isShown 16 = .ok (.aload_n 0, 1) := by decide +kernel
theorem dX11_isShown_17 : decode cX11_isShown 17 = .ok (.iload_n 2, 1) := by decide +kernel
theorem dX11_isShown_18 : decode cX11_isShown 18 = .ok (.invokestatic 374, 3) := by decide +kernel
theorem dX11_isShown_21 : decode cX11_isShown 21 = .ok (.iload_n 3, 1) := by decide +kernel
theorem dX11_isShown_22 : decode cX11_isShown 22 = .ok (.invokevirtual 99, 3) := by decide +kernel
theorem dX11_isShown_25 : decode cX11_isShown 25 = .ok (.ifCond .ne 5, 3) := by decide +kernel
theorem dX11_isShown_28 : decode cX11_isShown 28 = .ok (.iconst 0, 1) := by decide +kernel
theorem dX11_isShown_29 : decode cX11_isShown 29 = .ok (.ireturn, 1) := by decide +kernel
theorem dX11_isShown_30 : decode cX11_isShown 30 = .ok (.aload_n 0, 1) := by decide +kernel
theorem dX11_isShown_31 : decode cX11_isShown 31 = .ok (.iload_n 2, 1) := by decide +kernel
theorem dX11_isShown_32 : decode cX11_isShown 32 = .ok (.invokestatic 374, 3) := by decide +kernel
theorem dX11_isShown_35 : decode cX11_isShown 35 = .ok (.iload_n 1, 1) := by decide +kernel
theorem dX11_isShown_36 : decode cX11_isShown 36 = .ok (.invokevirtual 400, 3) := by decide +kernel
theorem dX11_isShown_39 : decode cX11_isShown 39 = .ok (.aload_n 0, 1) := by decide +kernel
theorem dX11_isShown_40 : decode cX11_isShown 40 = .ok (.getfield 62, 3) := by decide +kernel
theorem dX11_isShown_43 : decode cX11_isShown 43 = .ok (.iload_n 3, 1) := by decide +kernel
theorem dX11_isShown_44 : decode cX11_isShown 44 = .ok (.baload, 1) := by decide +kernel
theorem dX11_isShown_45 : decode cX11_isShown 45 = .ok (.ireturn, 1) := by decide +kernel
theorem dX11_inForce_0 : decode cX11_inForce 0 = .ok (.aload_n 0, 1) := by decide +kernel
theorem dX11_inForce_1 : decode cX11_inForce 1 = .ok (.iload_n 1, 1) := by decide +kernel
theorem dX11_inForce_2 : decode cX11_inForce 2 = .ok (.invokevirtual 394, 3) := by decide +kernel
theorem dX11_inForce_5 : decode cX11_inForce 5 = .ok (.ifCond .eq 33, 3) := by decide +kernel
theorem dX11_inForce_8 : decode cX11_inForce 8 = .ok (.aload_n 0, 1) := by decide +kernel
theorem dX11_inForce_9 : decode cX11_inForce 9 = .ok (.iload_n 2, 1) := by decide +kernel
theorem dX11_inForce_10 : decode cX11_inForce 10 = .ok (.invokevirtual 413, 3) := by decide +kernel
theorem dX11_inForce_13 : decode cX11_inForce 13 = .ok (.ifCond .eq 25, 3) := by decide +kernel
theorem dX11_inForce_16 : decode cX11_inForce 16 = .ok (.iload_n 3, 1) := by decide +kernel
theorem dX11_inForce_17 : decode cX11_inForce 17 = .ok (.iconst 0, 1) := by decide +kernel
theorem dX11_inForce_18 : decode cX11_inForce 18 = .ok (.bipush 23, 2) := by decide +kernel
theorem dX11_inForce_20 : decode cX11_inForce 20 = .ok (.invokestatic 95, 3) := by decide +kernel
theorem dX11_inForce_23 : decode cX11_inForce 23 = .ok (.ifCond .eq 15, 3) := by decide +kernel
theorem dX11_inForce_26 : decode cX11_inForce 26 = .ok (.aload_n 0, 1) := by decide +kernel
theorem dX11_inForce_27 : decode cX11_inForce 27 = .ok (.iload_n 2, 1) := by decide +kernel
theorem dX11_inForce_28 : decode cX11_inForce 28 = .ok (.invokestatic 374, 3) := by decide +kernel
theorem dX11_inForce_31 : decode cX11_inForce 31 = .ok (.iload_n 3, 1) := by decide +kernel
theorem dX11_inForce_32 : decode cX11_inForce 32 = .ok (.invokevirtual 99, 3) := by decide +kernel
theorem dX11_inForce_35 : decode cX11_inForce 35 = .ok (.ifCond .ne 5, 3) := by decide +kernel
theorem dX11_inForce_38 : decode cX11_inForce 38 = .ok (.iconst (-1), 1) := by decide +kernel
theorem dX11_inForce_39 : decode cX11_inForce 39 = .ok (.ireturn, 1) := by decide +kernel
theorem dX11_inForce_40 : decode cX11_inForce 40 = .ok (.aload_n 0, 1) := by decide +kernel
theorem dX11_inForce_41 : decode cX11_inForce 41 = .ok (.iload_n 2, 1) := by decide +kernel
theorem dX11_inForce_42 : decode cX11_inForce 42 = .ok (.invokestatic 374, 3) := by decide +kernel
theorem dX11_inForce_45 : decode cX11_inForce 45 = .ok (.iload_n 1, 1) := by decide +kernel
theorem dX11_inForce_46 : decode cX11_inForce 46 = .ok (.invokevirtual 400, 3) := by decide +kernel
theorem dX11_inForce_49 : decode cX11_inForce 49 = .ok (.aload_n 0, 1) := by decide +kernel
theorem dX11_inForce_50 : decode cX11_inForce 50 = .ok (.getfield 65, 3) := by decide +kernel
theorem dX11_inForce_53 : decode cX11_inForce 53 = .ok (.iload_n 3, 1) := by decide +kernel
theorem dX11_inForce_54 : decode cX11_inForce 54 = .ok (.baload, 1) := by decide +kernel
theorem dX11_inForce_55 : decode cX11_inForce 55 = .ok (.ifCond .eq 12, 3) := by decide +kernel
theorem dX11_inForce_58 : decode cX11_inForce 58 = .ok (.aload_n 0, 1) := by decide +kernel
theorem dX11_inForce_59 : decode cX11_inForce 59 = .ok (.iload_n 1, 1) := by decide +kernel
theorem dX11_inForce_60 : decode cX11_inForce 60 = .ok (.iload_n 3, 1) := by decide +kernel
theorem dX11_inForce_61 : decode cX11_inForce 61 = .ok (.invokevirtual 382, 3) := by decide +kernel
theorem dX11_inForce_64 : decode cX11_inForce 64 = .ok (.goto 5, 3) := by decide +kernel
theorem dX11_inForce_67 : decode cX11_inForce 67 = .ok (.bipush (-2), 2) := by decide +kernel
theorem dX11_inForce_69 : decode cX11_inForce 69 = .ok (.ireturn, 1) := by decide +kernel
theorem dX11_open_0 : decode cX11_open 0 = .ok (.aload_n 0, 1) := by decide +kernel
theorem dX11_open_1 : decode cX11_open 1 = .ok (.iload_n 1, 1) := by decide +kernel
theorem dX11_open_2 : decode cX11_open 2 = .ok (.invokevirtual 394, 3) := by decide +kernel
theorem dX11_open_5 : decode cX11_open 5 = .ok (.ifCond .ne 5, 3) := by decide +kernel
theorem dX11_open_8 : decode cX11_open 8 = .ok (.iconst (-1), 1) := by decide +kernel
theorem dX11_open_9 : decode cX11_open 9 = .ok (.ireturn, 1) := by decide +kernel
theorem dX11_open_10 : decode cX11_open 10 = .ok (.aload_n 0, 1) := by decide +kernel
theorem dX11_open_11 : decode cX11_open 11 = .ok (.aload_n 0, 1) := by decide +kernel
theorem dX11_open_12 : decode cX11_open 12 = .ok (.iload_n 1, 1) := by decide +kernel
theorem dX11_open_13 : decode cX11_open 13 = .ok (.invokevirtual 397, 3) := by decide +kernel
theorem dX11_open_16 : decode cX11_open 16 = .ok (.iload_n 1, 1) := by decide +kernel
theorem dX11_open_17 : decode cX11_open 17 = .ok (.invokevirtual 400, 3) := by decide +kernel
theorem dX11_open_20 : decode cX11_open 20 = .ok (.iconst 0, 1) := by decide +kernel
theorem dX11_open_21 : decode cX11_open 21 = .ok (.istore_n 2, 1) := by decide +kernel
theorem dX11_open_22 : decode cX11_open 22 = .ok (.iconst 0, 1) := by decide +kernel
theorem dX11_open_23 : decode cX11_open 23 = .ok (.istore_n 3, 1) := by decide +kernel
theorem dX11_open_24 : decode cX11_open 24 = .ok (.iload_n 3, 1) := by decide +kernel
theorem dX11_open_25 : decode cX11_open 25 = .ok (.bipush 24, 2) := by decide +kernel
theorem dX11_open_27 : decode cX11_open 27 = .ok (.if_icmp .ge 37, 3) := by decide +kernel
theorem dX11_open_30 : decode cX11_open 30 = .ok (.iload_n 2, 1) := by decide +kernel
theorem dX11_open_31 : decode cX11_open 31 = .ok (.aload_n 0, 1) := by decide +kernel
theorem dX11_open_32 : decode cX11_open 32 = .ok (.getfield 62, 3) := by decide +kernel
theorem dX11_open_35 : decode cX11_open 35 = .ok (.iload_n 3, 1) := by decide +kernel
theorem dX11_open_36 : decode cX11_open 36 = .ok (.baload, 1) := by decide +kernel
theorem dX11_open_37 : decode cX11_open 37 = .ok (.ifCond .eq 18, 3) := by decide +kernel
theorem dX11_open_40 : decode cX11_open 40 = .ok (.aload_n 0, 1) := by decide +kernel
theorem dX11_open_41 : decode cX11_open 41 = .ok (.getfield 65, 3) := by decide +kernel
theorem dX11_open_44 : decode cX11_open 44 = .ok (.iload_n 3, 1) := by decide +kernel
theorem dX11_open_45 : decode cX11_open 45 = .ok (.baload, 1) := by decide +kernel
theorem dX11_open_46 : decode cX11_open 46 = .ok (.ifCond .ne 9, 3) := by decide +kernel
theorem dX11_open_49 : decode cX11_open 49 = .ok (.iconst 1, 1) := by decide +kernel
theorem dX11_open_50 : decode cX11_open 50 = .ok (.iload_n 3, 1) := by decide +kernel
theorem dX11_open_51 : decode cX11_open 51 = .ok (.ishl, 1) := by decide +kernel
theorem dX11_open_52 : decode cX11_open 52 = .ok (.goto 4, 3) := by decide +kernel
theorem dX11_open_55 : decode cX11_open 55 = .ok (.iconst 0, 1) := by decide +kernel
theorem dX11_open_56 : decode cX11_open 56 = .ok (.ior, 1) := by decide +kernel
theorem dX11_open_57 : decode cX11_open 57 = .ok (.istore_n 2, 1) := by decide +kernel
theorem dX11_open_58 : decode cX11_open 58 = .ok (.iinc 3 1, 3) := by decide +kernel
theorem dX11_open_61 : decode cX11_open 61 = .ok (.goto (-37), 3) := by decide +kernel
theorem dX11_open_64 : decode cX11_open 64 = .ok (.iload_n 2, 1) := by decide +kernel
theorem dX11_open_65 : decode cX11_open 65 = .ok (.ireturn, 1) := by decide +kernel
theorem dX11_completeness_0 : decode cX11_completeness 0 = .ok (.aload_n 0, 1) := by decide +kernel
theorem dX11_completeness_1 : decode cX11_completeness 1 = .ok (.iload_n 1, 1) := by decide +kernel
theorem dX11_completeness_2 : decode cX11_completeness 2 = .ok (.invokevirtual 394, 3) := by decide +kernel
theorem dX11_completeness_5 : decode cX11_completeness 5 = .ok (.ifCond .ne 7, 3) := by decide +kernel
theorem dX11_completeness_8 : decode cX11_completeness 8 = .ok (.ldc_w 416, 3) := by decide +kernel
theorem dX11_completeness_11 : decode cX11_completeness 11 = .ok (.freturn, 1) := by decide +kernel
theorem dX11_completeness_12 : decode cX11_completeness 12 = .ok (.aload_n 0, 1) := by decide +kernel
theorem dX11_completeness_13 : decode cX11_completeness 13 = .ok (.aload_n 0, 1) := by decide +kernel
theorem dX11_completeness_14 : decode cX11_completeness 14 = .ok (.iload_n 1, 1) := by decide +kernel
theorem dX11_completeness_15 : decode cX11_completeness 15 = .ok (.invokevirtual 397, 3) := by decide +kernel
theorem dX11_completeness_18 : decode cX11_completeness 18 = .ok (.iload_n 1, 1) := by decide +kernel
theorem dX11_completeness_19 : decode cX11_completeness 19 = .ok (.invokevirtual 400, 3) := by decide +kernel
theorem dX11_completeness_22 : decode cX11_completeness 22 = .ok (.iconst 0, 1) := by decide +kernel
theorem dX11_completeness_23 : decode cX11_completeness 23 = .ok (.istore_n 2, 1) := by decide +kernel
theorem dX11_completeness_24 : decode cX11_completeness 24 = .ok (.iconst 0, 1) := by decide +kernel
theorem dX11_completeness_25 : decode cX11_completeness 25 = .ok (.istore_n 3, 1) := by decide +kernel
theorem dX11_completeness_26 : decode cX11_completeness 26 = .ok (.iconst 0, 1) := by decide +kernel
theorem dX11_completeness_27 : decode cX11_completeness 27 = .ok (.istore 4, 2) := by decide +kernel
theorem dX11_completeness_29 : decode cX11_completeness 29 = .ok (.iload 4, 2) := by decide +kernel
theorem dX11_completeness_31 : decode cX11_completeness 31 = .ok (.bipush 24, 2) := by decide +kernel
theorem dX11_completeness_33 : decode cX11_completeness 33 = .ok (.if_icmp .ge 45, 3) := by decide +kernel
theorem dX11_completeness_36 : decode cX11_completeness 36 = .ok (.iload_n 2, 1) := by decide +kernel
theorem dX11_completeness_37 : decode cX11_completeness 37 = .ok (.aload_n 0, 1) := by decide +kernel
theorem dX11_completeness_38 : decode cX11_completeness 38 = .ok (.getfield 62, 3) := by decide +kernel
theorem dX11_completeness_41 : decode cX11_completeness 41 = .ok (.iload 4, 2) := by decide +kernel
theorem dX11_completeness_43 : decode cX11_completeness 43 = .ok (.baload, 1) := by decide +kernel
theorem dX11_completeness_44 : decode cX11_completeness 44 = .ok (.ifCond .eq 7, 3) := by decide +kernel
theorem dX11_completeness_47 : decode cX11_completeness 47 = .ok (.iconst 1, 1) := by decide +kernel
theorem dX11_completeness_48 : decode cX11_completeness 48 = .ok (.goto 4, 3) := by decide +kernel
theorem dX11_completeness_51 : decode cX11_completeness 51 = .ok (.iconst 0, 1) := by decide +kernel
theorem dX11_completeness_52 : decode cX11_completeness 52 = .ok (.iadd, 1) := by decide +kernel
theorem dX11_completeness_53 : decode cX11_completeness 53 = .ok (.istore_n 2, 1) := by decide +kernel
theorem dX11_completeness_54 : decode cX11_completeness 54 = .ok (.iload_n 3, 1) := by decide +kernel
theorem dX11_completeness_55 : decode cX11_completeness 55 = .ok (.aload_n 0, 1) := by decide +kernel
theorem dX11_completeness_56 : decode cX11_completeness 56 = .ok (.getfield 65, 3) := by decide +kernel
theorem dX11_completeness_59 : decode cX11_completeness 59 = .ok (.iload 4, 2) := by decide +kernel
theorem dX11_completeness_61 : decode cX11_completeness 61 = .ok (.baload, 1) := by decide +kernel
theorem dX11_completeness_62 : decode cX11_completeness 62 = .ok (.ifCond .eq 7, 3) := by decide +kernel
theorem dX11_completeness_65 : decode cX11_completeness 65 = .ok (.iconst 1, 1) := by decide +kernel
theorem dX11_completeness_66 : decode cX11_completeness 66 = .ok (.goto 4, 3) := by decide +kernel
theorem dX11_completeness_69 : decode cX11_completeness 69 = .ok (.iconst 0, 1) := by decide +kernel
theorem dX11_completeness_70 : decode cX11_completeness 70 = .ok (.iadd, 1) := by decide +kernel
theorem dX11_completeness_71 : decode cX11_completeness 71 = .ok (.istore_n 3, 1) := by decide +kernel
theorem dX11_completeness_72 : decode cX11_completeness 72 = .ok (.iinc 4 1, 3) := by decide +kernel
theorem dX11_completeness_75 : decode cX11_completeness 75 = .ok (.goto (-46), 3) := by decide +kernel
theorem dX11_completeness_78 : decode cX11_completeness 78 = .ok (.iload_n 2, 1) := by decide +kernel
theorem dX11_completeness_79 : decode cX11_completeness 79 = .ok (.ifCond .ne 7, 3) := by decide +kernel
theorem dX11_completeness_82 : decode cX11_completeness 82 = .ok (.fconst 1, 1) := by decide +kernel
theorem dX11_completeness_83 : decode cX11_completeness 83 = .ok (.goto 8, 3) := by decide +kernel
theorem dX11_completeness_86 : decode cX11_completeness 86 = .ok (.iload_n 3, 1) := by decide +kernel
theorem dX11_completeness_87 : decode cX11_completeness 87 = .ok (.i2f, 1) := by decide +kernel
theorem dX11_completeness_88 : decode cX11_completeness 88 = .ok (.iload_n 2, 1) := by decide +kernel
theorem dX11_completeness_89 : decode cX11_completeness 89 = .ok (.i2f, 1) := by decide +kernel
theorem dX11_completeness_90 : decode cX11_completeness 90 = .ok (.fdiv, 1) := by decide +kernel
theorem dX11_completeness_91 : decode cX11_completeness 91 = .ok (.freturn, 1) := by decide +kernel
theorem dX11_average_0 : decode cX11_average 0 = .ok (.iconst 0, 1) := by decide +kernel
theorem dX11_average_1 : decode cX11_average 1 = .ok (.istore_n 2, 1) := by decide +kernel
theorem dX11_average_2 : decode cX11_average 2 = .ok (.iconst 0, 1) := by decide +kernel
theorem dX11_average_3 : decode cX11_average 3 = .ok (.istore_n 3, 1) := by decide +kernel
theorem dX11_average_4 : decode cX11_average 4 = .ok (.iconst 0, 1) := by decide +kernel
theorem dX11_average_5 : decode cX11_average 5 = .ok (.istore 4, 2) := by decide +kernel
theorem dX11_average_7 : decode cX11_average 7 = .ok (.iload 4, 2) := by decide +kernel
theorem dX11_average_9 : decode cX11_average 9 = .ok (.aload_n 0, 1) := by decide +kernel
theorem dX11_average_10 : decode cX11_average 10 = .ok (.invokevirtual 371, 3) := by decide +kernel
theorem dX11_average_13 : decode cX11_average 13 = .ok (.if_icmp .ge 71, 3) := by decide +kernel
theorem dX11_average_16 : decode cX11_average 16 = .ok (.iload_n 1, 1) := by decide +kernel
theorem dX11_average_17 : decode cX11_average 17 = .ok (.iconst 0, 1) := by decide +kernel
theorem dX11_average_18 : decode cX11_average 18 = .ok (.bipush 23, 2) := by decide +kernel
theorem dX11_average_20 : decode cX11_average 20 = .ok (.invokestatic 95, 3) := by decide +kernel
theorem dX11_average_23 : decode cX11_average 23 = .ok (.ifCond .eq 61, 3) := by decide +kernel
theorem dX11_average_26 : decode cX11_average 26 = .ok (.aload_n 0, 1) := by decide +kernel
theorem dX11_average_27 : decode cX11_average 27 = .ok (.aload_n 0, 1) := by decide +kernel
theorem dX11_average_28 : decode cX11_average 28 = .ok (.iload 4, 2) := by decide +kernel
theorem dX11_average_30 : decode cX11_average 30 = .ok (.invokevirtual 397, 3) := by decide +kernel
theorem dX11_average_33 : decode cX11_average 33 = .ok (.iload 4, 2) := by decide +kernel
theorem dX11_average_35 : decode cX11_average 35 = .ok (.invokevirtual 400, 3) := by decide +kernel
theorem dX11_average_38 : decode cX11_average 38 = .ok (.iload_n 2, 1) := by decide +kernel
theorem dX11_average_39 : decode cX11_average 39 = .ok (.aload_n 0, 1) := by decide +kernel
theorem dX11_average_40 : decode cX11_average 40 = .ok (.getfield 65, 3) := by decide +kernel
theorem dX11_average_43 : decode cX11_average 43 = .ok (.iload_n 1, 1) := by decide +kernel
theorem dX11_average_44 : decode cX11_average 44 = .ok (.baload, 1) := by decide +kernel
theorem dX11_average_45 : decode cX11_average 45 = .ok (.ifCond .eq 7, 3) := by decide +kernel
theorem dX11_average_48 : decode cX11_average 48 = .ok (.iconst 1, 1) := by decide +kernel
theorem dX11_average_49 : decode cX11_average 49 = .ok (.goto 4, 3) := by decide +kernel
theorem dX11_average_52 : decode cX11_average 52 = .ok (.iconst 0, 1) := by decide +kernel
theorem dX11_average_53 : decode cX11_average 53 = .ok (.iadd, 1) := by decide +kernel
theorem dX11_average_54 : decode cX11_average 54 = .ok (.istore_n 2, 1) := by decide +kernel
theorem dX11_average_55 : decode cX11_average 55 = .ok (.iload_n 3, 1) := by decide +kernel
theorem dX11_average_56 : decode cX11_average 56 = .ok (.aload_n 0, 1) := by decide +kernel
theorem dX11_average_57 : decode cX11_average 57 = .ok (.getfield 65, 3) := by decide +kernel
theorem dX11_average_60 : decode cX11_average 60 = .ok (.iload_n 1, 1) := by decide +kernel
theorem dX11_average_61 : decode cX11_average 61 = .ok (.baload, 1) := by decide +kernel
theorem dX11_average_62 : decode cX11_average 62 = .ok (.ifCond .eq 13, 3) := by decide +kernel
theorem dX11_average_65 : decode cX11_average 65 = .ok (.aload_n 0, 1) := by decide +kernel
theorem dX11_average_66 : decode cX11_average 66 = .ok (.iload 4, 2) := by decide +kernel
theorem dX11_average_68 : decode cX11_average 68 = .ok (.iload_n 1, 1) := by decide +kernel
theorem dX11_average_69 : decode cX11_average 69 = .ok (.invokevirtual 382, 3) := by decide +kernel
theorem dX11_average_72 : decode cX11_average 72 = .ok (.goto 4, 3) := by decide +kernel
theorem dX11_average_75 : decode cX11_average 75 = .ok (.iconst 0, 1) := by decide +kernel
theorem dX11_average_76 : decode cX11_average 76 = .ok (.iadd, 1) := by decide +kernel
theorem dX11_average_77 : decode cX11_average 77 = .ok (.istore_n 3, 1) := by decide +kernel
theorem dX11_average_78 : decode cX11_average 78 = .ok (.iinc 4 1, 3) := by decide +kernel
theorem dX11_average_81 : decode cX11_average 81 = .ok (.goto (-74), 3) := by decide +kernel
theorem dX11_average_84 : decode cX11_average 84 = .ok (.iload_n 2, 1) := by decide +kernel
theorem dX11_average_85 : decode cX11_average 85 = .ok (.ifCond .ne 9, 3) := by decide +kernel
theorem dX11_average_88 : decode cX11_average 88 = .ok (.ldc_w 416, 3) := by decide +kernel
theorem dX11_average_91 : decode cX11_average 91 = .ok (.goto 8, 3) := by decide +kernel
theorem dX11_average_94 : decode cX11_average 94 = .ok (.iload_n 3, 1) := by decide +kernel
theorem dX11_average_95 : decode cX11_average 95 = .ok (.i2f, 1) := by decide +kernel
theorem dX11_average_96 : decode cX11_average 96 = .ok (.iload_n 2, 1) := by decide +kernel
theorem dX11_average_97 : decode cX11_average 97 = .ok (.i2f, 1) := by decide +kernel
theorem dX11_average_98 : decode cX11_average 98 = .ok (.fdiv, 1) := by decide +kernel
theorem dX11_average_99 : decode cX11_average 99 = .ok (.freturn, 1) := by decide +kernel
theorem dX11_tally_0 : decode cX11_tally 0 = .ok (.iconst 0, 1) := by decide +kernel
theorem dX11_tally_1 : decode cX11_tally 1 = .ok (.istore_n 3, 1) := by decide +kernel
theorem dX11_tally_2 : decode cX11_tally 2 = .ok (.iconst 0, 1) := by decide +kernel
theorem dX11_tally_3 : decode cX11_tally 3 = .ok (.istore 4, 2) := by decide +kernel
theorem dX11_tally_5 : decode cX11_tally 5 = .ok (.iload 4, 2) := by decide +kernel
theorem dX11_tally_7 : decode cX11_tally 7 = .ok (.aload_n 0, 1) := by decide +kernel
theorem dX11_tally_8 : decode cX11_tally 8 = .ok (.invokevirtual 371, 3) := by decide +kernel
theorem dX11_tally_11 : decode cX11_tally 11 = .ok (.if_icmp .ge 59, 3) := by decide +kernel
theorem dX11_tally_14 : decode cX11_tally 14 = .ok (.iload_n 1, 1) := by decide +kernel
theorem dX11_tally_15 : decode cX11_tally 15 = .ok (.iconst 0, 1) := by decide +kernel
theorem dX11_tally_16 : decode cX11_tally 16 = .ok (.bipush 23, 2) := by decide +kernel
theorem dX11_tally_18 : decode cX11_tally 18 = .ok (.invokestatic 95, 3) := by decide +kernel
theorem dX11_tally_21 : decode cX11_tally 21 = .ok (.ifCond .eq 49, 3) := by decide +kernel
theorem dX11_tally_24 : decode cX11_tally 24 = .ok (.aload_n 0, 1) := by decide +kernel
theorem dX11_tally_25 : decode cX11_tally 25 = .ok (.aload_n 0, 1) := by decide +kernel
theorem dX11_tally_26 : decode cX11_tally 26 = .ok (.iload 4, 2) := by decide +kernel
theorem dX11_tally_28 : decode cX11_tally 28 = .ok (.invokevirtual 397, 3) := by decide +kernel
theorem dX11_tally_31 : decode cX11_tally 31 = .ok (.iload 4, 2) := by decide +kernel
theorem dX11_tally_33 : decode cX11_tally 33 = .ok (.invokevirtual 400, 3) := by decide +kernel
theorem dX11_tally_36 : decode cX11_tally 36 = .ok (.iload_n 3, 1) := by decide +kernel
theorem dX11_tally_37 : decode cX11_tally 37 = .ok (.aload_n 0, 1) := by decide +kernel
theorem dX11_tally_38 : decode cX11_tally 38 = .ok (.getfield 65, 3) := by decide +kernel
theorem dX11_tally_41 : decode cX11_tally 41 = .ok (.iload_n 1, 1) := by decide +kernel
theorem dX11_tally_42 : decode cX11_tally 42 = .ok (.baload, 1) := by decide +kernel
theorem dX11_tally_43 : decode cX11_tally 43 = .ok (.ifCond .eq 18, 3) := by decide +kernel
theorem dX11_tally_46 : decode cX11_tally 46 = .ok (.aload_n 0, 1) := by decide +kernel
theorem dX11_tally_47 : decode cX11_tally 47 = .ok (.iload 4, 2) := by decide +kernel
theorem dX11_tally_49 : decode cX11_tally 49 = .ok (.iload_n 1, 1) := by decide +kernel
theorem dX11_tally_50 : decode cX11_tally 50 = .ok (.invokevirtual 382, 3) := by decide +kernel
theorem dX11_tally_53 : decode cX11_tally 53 = .ok (.iload_n 2, 1) := by decide +kernel
theorem dX11_tally_54 : decode cX11_tally 54 = .ok (.if_icmp .ne 7, 3) := by decide +kernel
theorem dX11_tally_57 : decode cX11_tally 57 = .ok (.iconst 1, 1) := by decide +kernel
theorem dX11_tally_58 : decode cX11_tally 58 = .ok (.goto 4, 3) := by decide +kernel
theorem dX11_tally_61 : decode cX11_tally 61 = .ok (.iconst 0, 1) := by decide +kernel
theorem dX11_tally_62 : decode cX11_tally 62 = .ok (.iadd, 1) := by decide +kernel
theorem dX11_tally_63 : decode cX11_tally 63 = .ok (.istore_n 3, 1) := by decide +kernel
theorem dX11_tally_64 : decode cX11_tally 64 = .ok (.iinc 4 1, 3) := by decide +kernel
theorem dX11_tally_67 : decode cX11_tally 67 = .ok (.goto (-62), 3) := by decide +kernel
theorem dX11_tally_70 : decode cX11_tally 70 = .ok (.iload_n 3, 1) := by decide +kernel
theorem dX11_tally_71 : decode cX11_tally 71 = .ok (.ireturn, 1) := by decide +kernel
theorem dX11_rowAt_0 : decode cX11_rowAt 0 = .ok (.aload_n 0, 1) := by decide +kernel
theorem dX11_rowAt_1 : decode cX11_rowAt 1 = .ok (.dup, 1) := by decide +kernel
theorem dX11_rowAt_2 : decode cX11_rowAt 2 = .ok (.getfield 417, 3) := by decide +kernel
theorem dX11_rowAt_5 : decode cX11_rowAt 5 = .ok (.aload_n 0, 1) := by decide +kernel
theorem dX11_rowAt_6 : decode cX11_rowAt 6 = .ok (.getfield 420, 3) := by decide +kernel
theorem dX11_rowAt_9 : decode cX11_rowAt 9 = .ok (.ifCond .eq 7, 3) := by decide +kernel
theorem dX11_rowAt_12 : decode cX11_rowAt 12 = .ok (.iconst 1, 1) := by decide +kernel
theorem dX11_rowAt_13 : decode cX11_rowAt 13 = .ok (.goto 4, 3) := by decide +kernel
theorem dX11_rowAt_16 : decode cX11_rowAt 16 = .ok (.iconst 0, 1) := by decide +kernel
theorem dX11_rowAt_17 : decode cX11_rowAt 17 = .ok (.iadd, 1) := by decide +kernel
theorem dX11_rowAt_18 : decode cX11_rowAt 18 = .ok (.putfield 417, 3) := by decide +kernel
theorem dX11_rowAt_21 : decode cX11_rowAt 21 = .ok (.aload_n 0, 1) := by decide +kernel
theorem dX11_rowAt_22 : decode cX11_rowAt 22 = .ok (.iconst 0, 1) := by decide +kernel
theorem dX11_rowAt_23 : decode cX11_rowAt 23 = .ok (.putfield 420, 3) := by decide +kernel
theorem dX11_rowAt_26 : decode cX11_rowAt 26 = .ok (.aload_n 0, 1) := by decide +kernel
theorem dX11_rowAt_27 : decode cX11_rowAt 27 = .ok (.iload_n 1, 1) := by decide +kernel
theorem dX11_rowAt_28 : decode cX11_rowAt 28 = .ok (.putfield 423, 3) := by decide +kernel
theorem dX11_rowAt_31 : decode cX11_rowAt 31 = .ok (.return_, 1) := by decide +kernel
theorem dX11_stands_0 : decode cX11_stands 0 = .ok (.aload_n 0, 1) := by decide +kernel
theorem dX11_stands_1 : decode cX11_stands 1 = .ok (.getfield 74, 3) := by decide +kernel
theorem dX11_stands_4 : decode cX11_stands 4 = .ok (.iload_n 1, 1) := by decide +kernel
theorem dX11_stands_5 : decode cX11_stands 5 = .ok (.aload_n 0, 1) := by decide +kernel
theorem dX11_stands_6 : decode cX11_stands 6 = .ok (.getfield 417, 3) := by decide +kernel
theorem dX11_stands_9 : decode cX11_stands 9 = .ok (.iastore, 1) := by decide +kernel
theorem dX11_stands_10 : decode cX11_stands 10 = .ok (.aload_n 0, 1) := by decide +kernel
theorem dX11_stands_11 : decode cX11_stands 11 = .ok (.getfield 77, 3) := by decide +kernel
theorem dX11_stands_14 : decode cX11_stands 14 = .ok (.iload_n 1, 1) := by decide +kernel
theorem dX11_stands_15 : decode cX11_stands 15 = .ok (.aload_n 0, 1) := by decide +kernel
theorem dX11_stands_16 : decode cX11_stands 16 = .ok (.getfield 423, 3) := by decide +kernel
theorem dX11_stands_19 : decode cX11_stands 19 = .ok (.iastore, 1) := by decide +kernel
theorem dX11_stands_20 : decode cX11_stands 20 = .ok (.aload_n 0, 1) := by decide +kernel
theorem dX11_stands_21 : decode cX11_stands 21 = .ok (.iconst 1, 1) := by decide +kernel
theorem dX11_stands_22 : decode cX11_stands 22 = .ok (.putfield 420, 3) := by decide +kernel
theorem dX11_stands_25 : decode cX11_stands 25 = .ok (.aload_n 0, 1) := by decide +kernel
theorem dX11_stands_26 : decode cX11_stands 26 = .ok (.aload_n 0, 1) := by decide +kernel
theorem dX11_stands_27 : decode cX11_stands 27 = .ok (.getfield 417, 3) := by decide +kernel
theorem dX11_stands_30 : decode cX11_stands 30 = .ok (.iconst 1, 1) := by decide +kernel
theorem dX11_stands_31 : decode cX11_stands 31 = .ok (.iadd, 1) := by decide +kernel
theorem dX11_stands_32 : decode cX11_stands 32 = .ok (.putfield 426, 3) := by decide +kernel
theorem dX11_stands_35 : decode cX11_stands 35 = .ok (.return_, 1) := by decide +kernel
theorem dX11_isThere_0 : decode cX11_isThere 0 = .ok (.iload_n 0, 1) := by decide +kernel
theorem dX11_isThere_1 : decode cX11_isThere 1 = .ok (.ifCond .ne 7, 3) := by decide +kernel
theorem dX11_isThere_4 : decode cX11_isThere 4 = .ok (.iload_n 1, 1) := by decide +kernel
theorem dX11_isThere_5 : decode cX11_isThere 5 = .ok (.ifCond .eq 7, 3) := by decide +kernel
theorem dX11_isThere_8 : decode cX11_isThere 8 = .ok (.iconst 1, 1) := by decide +kernel
theorem dX11_isThere_9 : decode cX11_isThere 9 = .ok (.goto 4, 3) := by decide +kernel
theorem dX11_isThere_12 : decode cX11_isThere 12 = .ok (.iconst 0, 1) := by decide +kernel
theorem dX11_isThere_13 : decode cX11_isThere 13 = .ok (.ireturn, 1) := by decide +kernel
theorem dX11_laysOut_0 : decode cX11_laysOut 0 = .ok (.aload_n 0, 1) := by decide +kernel
theorem dX11_laysOut_1 : decode cX11_laysOut 1 = .ok (.iconst 0, 1) := by decide +kernel
theorem dX11_laysOut_2 : decode cX11_laysOut 2 = .ok (.putfield 417, 3) := by decide +kernel
theorem dX11_laysOut_5 : decode cX11_laysOut 5 = .ok (.aload_n 0, 1) := by decide +kernel
theorem dX11_laysOut_6 : decode cX11_laysOut 6 = .ok (.iconst 0, 1) := by decide +kernel
theorem dX11_laysOut_7 : decode cX11_laysOut 7 = .ok (.putfield 423, 3) := by decide +kernel
theorem dX11_laysOut_10 : decode cX11_laysOut 10 = .ok (.aload_n 0, 1) := by decide +kernel
theorem dX11_laysOut_11 : decode cX11_laysOut 11 = .ok (.iconst 0, 1) := by decide +kernel
theorem dX11_laysOut_12 : decode cX11_laysOut 12 = .ok (.putfield 420, 3) := by decide +kernel
theorem dX11_laysOut_15 : decode cX11_laysOut 15 = .ok (.aload_n 0, 1) := by decide +kernel
theorem dX11_laysOut_16 : decode cX11_laysOut 16 = .ok (.iconst 0, 1) := by decide +kernel
theorem dX11_laysOut_17 : decode cX11_laysOut 17 = .ok (.putfield 426, 3) := by decide +kernel
theorem dX11_laysOut_20 : decode cX11_laysOut 20 = .ok (.iconst 0, 1) := by decide +kernel
theorem dX11_laysOut_21 : decode cX11_laysOut 21 = .ok (.istore_n 3, 1) := by decide +kernel
theorem dX11_laysOut_22 : decode cX11_laysOut 22 = .ok (.iload_n 3, 1) := by decide +kernel
theorem dX11_laysOut_23 : decode cX11_laysOut 23 = .ok (.bipush 32, 2) := by decide +kernel
theorem dX11_laysOut_25 : decode cX11_laysOut 25 = .ok (.if_icmp .ge 17, 3) := by decide +kernel
theorem dX11_laysOut_28 : decode cX11_laysOut 28 = .ok (.aload_n 0, 1) := by decide +kernel
theorem dX11_laysOut_29 : decode cX11_laysOut 29 = .ok (.getfield 74, 3) := by decide +kernel
theorem dX11_laysOut_32 : decode cX11_laysOut 32 = .ok (.iload_n 3, 1) := by decide +kernel
theorem dX11_laysOut_33 : decode cX11_laysOut 33 = .ok (.bipush (-2), 2) := by decide +kernel
theorem dX11_laysOut_35 : decode cX11_laysOut 35 = .ok (.iastore, 1) := by decide +kernel
theorem dX11_laysOut_36 : decode cX11_laysOut 36 = .ok (.iinc 3 1, 3) := by decide +kernel
theorem dX11_laysOut_39 : decode cX11_laysOut 39 = .ok (.goto (-17), 3) := by decide +kernel
theorem dX11_laysOut_42 : decode cX11_laysOut 42 = .ok (.iconst 0, 1) := by decide +kernel
theorem dX11_laysOut_43 : decode cX11_laysOut 43 = .ok (.istore_n 3, 1) := by decide +kernel
theorem dX11_laysOut_44 : decode cX11_laysOut 44 = .ok (.iconst 0, 1) := by decide +kernel
theorem dX11_laysOut_45 : decode cX11_laysOut 45 = .ok (.istore 4, 2) := by decide +kernel
theorem dX11_laysOut_47 : decode cX11_laysOut 47 = .ok (.iload 4, 2) := by decide +kernel
theorem dX11_laysOut_49 : decode cX11_laysOut 49 = .ok (.aload_n 0, 1) := by decide +kernel
theorem dX11_laysOut_50 : decode cX11_laysOut 50 = .ok (.iload_n 2, 1) := by decide +kernel
theorem dX11_laysOut_51 : decode cX11_laysOut 51 = .ok (.invokevirtual 118, 3) := by decide +kernel
theorem dX11_laysOut_54 : decode cX11_laysOut 54 = .ok (.if_icmp .ge 157, 3) := by decide +kernel
theorem dX11_laysOut_57 : decode cX11_laysOut 57 = .ok (.aload_n 0, 1) := by decide +kernel
theorem dX11_laysOut_58 : decode cX11_laysOut 58 = .ok (.iload_n 2, 1) := by decide +kernel
theorem dX11_laysOut_59 : decode cX11_laysOut 59 = .ok (.iload 4, 2) := by decide +kernel
theorem dX11_laysOut_61 : decode cX11_laysOut 61 = .ok (.invokevirtual 114, 3) := by decide +kernel
theorem dX11_laysOut_64 : decode cX11_laysOut 64 = .ok (.istore 5, 2) := by decide +kernel
theorem dX11_laysOut_66 : decode cX11_laysOut 66 = .ok (.iload_n 1, 1) := by decide +kernel
theorem dX11_laysOut_67 : decode cX11_laysOut 67 = .ok (.aload_n 0, 1) := by decide +kernel
theorem dX11_laysOut_68 : decode cX11_laysOut 68 = .ok (.getfield 62, 3) := by decide +kernel
theorem dX11_laysOut_71 : decode cX11_laysOut 71 = .ok (.iload 5, 2) := by decide +kernel
theorem dX11_laysOut_73 : decode cX11_laysOut 73 = .ok (.baload, 1) := by decide +kernel
theorem dX11_laysOut_74 : decode cX11_laysOut 74 = .ok (.invokestatic 429, 3) := by decide +kernel
theorem dX11_laysOut_77 : decode cX11_laysOut 77 = .ok (.ifCond .ne 6, 3) := by decide +kernel
theorem dX11_laysOut_80 : decode cX11_laysOut 80 = .ok (.goto 125, 3) := by decide +kernel
theorem dX11_laysOut_83 : decode cX11_laysOut 83 = .ok (.aload_n 0, 1) := by decide +kernel
theorem dX11_laysOut_84 : decode cX11_laysOut 84 = .ok (.iload_n 2, 1) := by decide +kernel
theorem dX11_laysOut_85 : decode cX11_laysOut 85 = .ok (.iload 5, 2) := by decide +kernel
theorem dX11_laysOut_87 : decode cX11_laysOut 87 = .ok (.invokevirtual 128, 3) := by decide +kernel
theorem dX11_laysOut_90 : decode cX11_laysOut 90 = .ok (.istore 6, 2) := by decide +kernel
theorem dX11_laysOut_92 : decode cX11_laysOut 92 = .ok (.iload_n 3, 1) := by decide +kernel
theorem dX11_laysOut_93 : decode cX11_laysOut 93 = .ok (.iload 6, 2) := by decide +kernel
theorem dX11_laysOut_95 : decode cX11_laysOut 95 = .ok (.if_icmp .le 14, 3) := by decide +kernel
theorem dX11_laysOut_98 : decode cX11_laysOut 98 = .ok (.iinc 3 (-1), 3) := by decide +kernel
theorem dX11_laysOut_101 : decode cX11_laysOut 101 = .ok (.aload_n 0, 1) := by decide +kernel
theorem dX11_laysOut_102 : decode cX11_laysOut 102 = .ok (.iload_n 3, 1) := by decide +kernel
theorem dX11_laysOut_103 : decode cX11_laysOut 103 = .ok (.invokevirtual 433, 3) := by decide +kernel
theorem dX11_laysOut_106 : decode cX11_laysOut 106 = .ok (.goto (-14), 3) := by decide +kernel
theorem dX11_laysOut_109 : decode cX11_laysOut 109 = .ok (.iload 5, 2) := by decide +kernel
theorem dX11_laysOut_111 : decode cX11_laysOut 111 = .ok (.invokestatic 107, 3) := by decide +kernel
theorem dX11_laysOut_114 : decode cX11_laysOut 114 = .ok (.ifCond .eq 16, 3) := by decide +kernel
theorem dX11_laysOut_117 : decode cX11_laysOut 117 = .ok (.aload_n 0, 1) := by decide +kernel
theorem dX11_laysOut_118 : decode cX11_laysOut 118 = .ok (.iload_n 1, 1) := by decide +kernel
theorem dX11_laysOut_119 : decode cX11_laysOut 119 = .ok (.iload_n 2, 1) := by decide +kernel
theorem dX11_laysOut_120 : decode cX11_laysOut 120 = .ok (.iload 5, 2) := by decide +kernel
theorem dX11_laysOut_122 : decode cX11_laysOut 122 = .ok (.iload 6, 2) := by decide +kernel
theorem dX11_laysOut_124 : decode cX11_laysOut 124 = .ok (.invokevirtual 436, 3) := by decide +kernel
theorem dX11_laysOut_127 : decode cX11_laysOut 127 = .ok (.goto 78, 3) := by decide +kernel
theorem dX11_laysOut_130 : decode cX11_laysOut 130 = .ok (.aload_n 0, 1) := by decide +kernel
theorem dX11_laysOut_131 : decode cX11_laysOut 131 = .ok (.iload 6, 2) := by decide +kernel
theorem dX11_laysOut_133 : decode cX11_laysOut 133 = .ok (.invokevirtual 433, 3) := by decide +kernel
theorem dX11_laysOut_136 : decode cX11_laysOut 136 = .ok (.aload_n 0, 1) := by decide +kernel
theorem dX11_laysOut_137 : decode cX11_laysOut 137 = .ok (.dup, 1) := by decide +kernel
theorem dX11_laysOut_138 : decode cX11_laysOut 138 = .ok (.getfield 417, 3) := by decide +kernel
theorem dX11_laysOut_141 : decode cX11_laysOut 141 = .ok (.iload_n 1, 1) := by decide +kernel
theorem dX11_laysOut_142 : decode cX11_laysOut 142 = .ok (.ifCond .eq 39, 3) := by decide +kernel
theorem dX11_laysOut_145 : decode cX11_laysOut 145 = .ok (.aload_n 0, 1) := by decide +kernel
theorem dX11_laysOut_146 : decode cX11_laysOut 146 = .ok (.getfield 17, 3) := by decide +kernel
theorem dX11_laysOut_149 : decode cX11_laysOut 149 = .ok (.iconst 2, 1) := by decide +kernel
theorem dX11_laysOut_150 : decode cX11_laysOut 150 = .ok (.iaload, 1) := by decide +kernel
theorem dX11_laysOut_151 : decode cX11_laysOut 151 = .ok (.iconst 2, 1) := by decide +kernel
theorem dX11_laysOut_152 : decode cX11_laysOut 152 = .ok (.if_icmp .lt 29, 3) := by decide +kernel
theorem dX11_laysOut_155 : decode cX11_laysOut 155 = .ok (.aload_n 0, 1) := by decide +kernel
theorem dX11_laysOut_156 : decode cX11_laysOut 156 = .ok (.getfield 417, 3) := by decide +kernel
theorem dX11_laysOut_159 : decode cX11_laysOut 159 = .ok (.aload_n 0, 1) := by decide +kernel
theorem dX11_laysOut_160 : decode cX11_laysOut 160 = .ok (.getfield 17, 3) := by decide +kernel
theorem dX11_laysOut_163 : decode cX11_laysOut 163 = .ok (.iconst 2, 1) := by decide +kernel
theorem dX11_laysOut_164 : decode cX11_laysOut 164 = .ok (.iaload, 1) := by decide +kernel
theorem dX11_laysOut_165 : decode cX11_laysOut 165 = .ok (.irem, 1) := by decide +kernel
theorem dX11_laysOut_166 : decode cX11_laysOut 166 = .ok (.aload_n 0, 1) := by decide +kernel
theorem dX11_laysOut_167 : decode cX11_laysOut 167 = .ok (.getfield 17, 3) := by decide +kernel
theorem dX11_laysOut_170 : decode cX11_laysOut 170 = .ok (.iconst 2, 1) := by decide +kernel
theorem dX11_laysOut_171 : decode cX11_laysOut 171 = .ok (.iaload, 1) := by decide +kernel
theorem dX11_laysOut_172 : decode cX11_laysOut 172 = .ok (.iconst 1, 1) := by decide +kernel
theorem dX11_laysOut_173 : decode cX11_laysOut 173 = .ok (.isub, 1) := by decide +kernel
theorem dX11_laysOut_174 : decode cX11_laysOut 174 = .ok (.if_icmp .ne 7, 3) := by decide +kernel
theorem dX11_laysOut_177 : decode cX11_laysOut 177 = .ok (.iconst 1, 1) := by decide +kernel
theorem dX11_laysOut_178 : decode cX11_laysOut 178 = .ok (.goto 4, 3) := by decide +kernel
theorem dX11_laysOut_181 : decode cX11_laysOut 181 = .ok (.iconst 0, 1) := by decide +kernel
theorem dX11_laysOut_182 : decode cX11_laysOut 182 = .ok (.iadd, 1) := by decide +kernel
theorem dX11_laysOut_183 : decode cX11_laysOut 183 = .ok (.putfield 417, 3) := by decide +kernel
theorem dX11_laysOut_186 : decode cX11_laysOut 186 = .ok (.aload_n 0, 1) := by decide +kernel
theorem dX11_laysOut_187 : decode cX11_laysOut 187 = .ok (.iload 5, 2) := by decide +kernel
theorem dX11_laysOut_189 : decode cX11_laysOut 189 = .ok (.invokevirtual 440, 3) := by decide +kernel
theorem dX11_laysOut_192 : decode cX11_laysOut 192 = .ok (.aload_n 0, 1) := by decide +kernel
theorem dX11_laysOut_193 : decode cX11_laysOut 193 = .ok (.iload 6, 2) := by decide +kernel
theorem dX11_laysOut_195 : decode cX11_laysOut 195 = .ok (.iconst 1, 1) := by decide +kernel
theorem dX11_laysOut_196 : decode cX11_laysOut 196 = .ok (.iadd, 1) := by decide +kernel
theorem dX11_laysOut_197 : decode cX11_laysOut 197 = .ok (.invokevirtual 433, 3) := by decide +kernel
theorem dX11_laysOut_200 : decode cX11_laysOut 200 = .ok (.iload 6, 2) := by decide +kernel
theorem dX11_laysOut_202 : decode cX11_laysOut 202 = .ok (.iconst 1, 1) := by decide +kernel
theorem dX11_laysOut_203 : decode cX11_laysOut 203 = .ok (.iadd, 1) := by decide +kernel
theorem dX11_laysOut_204 : decode cX11_laysOut 204 = .ok (.istore_n 3, 1) := by decide +kernel
theorem dX11_laysOut_205 : decode cX11_laysOut 205 = .ok (.iinc 4 1, 3) := by decide +kernel
theorem dX11_laysOut_208 : decode cX11_laysOut 208 = .ok (.goto (-161), 3) := by decide +kernel
theorem dX11_laysOut_211 : decode cX11_laysOut 211 = .ok (.return_, 1) := by decide +kernel
theorem dX11_placesField_0 : decode cX11_placesField 0 = .ok (.iload_n 1, 1) := by decide +kernel
theorem dX11_placesField_1 : decode cX11_placesField 1 = .ok (.ifCond .eq 21, 3) := by decide +kernel
theorem dX11_placesField_4 : decode cX11_placesField 4 = .ok (.aload_n 0, 1) := by decide +kernel
theorem dX11_placesField_5 : decode cX11_placesField 5 = .ok (.iload_n 2, 1) := by decide +kernel
theorem dX11_placesField_6 : decode cX11_placesField 6 = .ok (.sipush 224, 3) := by decide +kernel
theorem dX11_placesField_9 : decode cX11_placesField 9 = .ok (.iload_n 3, 1) := by decide +kernel
theorem dX11_placesField_10 : decode cX11_placesField 10 = .ok (.invokevirtual 110, 3) := by decide +kernel
theorem dX11_placesField_13 : decode cX11_placesField 13 = .ok (.ifCond .le 9, 3) := by decide +kernel
theorem dX11_placesField_16 : decode cX11_placesField 16 = .ok (.aload_n 0, 1) := by decide +kernel
theorem dX11_placesField_17 : decode cX11_placesField 17 = .ok (.iload 4, 2) := by decide +kernel
theorem dX11_placesField_19 : decode cX11_placesField 19 = .ok (.invokevirtual 433, 3) := by decide +kernel
theorem dX11_placesField_22 : decode cX11_placesField 22 = .ok (.aload_n 0, 1) := by decide +kernel
theorem dX11_placesField_23 : decode cX11_placesField 23 = .ok (.getfield 423, 3) := by decide +kernel
theorem dX11_placesField_26 : decode cX11_placesField 26 = .ok (.aload_n 0, 1) := by decide +kernel
theorem dX11_placesField_27 : decode cX11_placesField 27 = .ok (.iload_n 2, 1) := by decide +kernel
theorem dX11_placesField_28 : decode cX11_placesField 28 = .ok (.sipush 160, 3) := by decide +kernel
theorem dX11_placesField_31 : decode cX11_placesField 31 = .ok (.iload_n 3, 1) := by decide +kernel
theorem dX11_placesField_32 : decode cX11_placesField 32 = .ok (.invokevirtual 110, 3) := by decide +kernel
theorem dX11_placesField_35 : decode cX11_placesField 35 = .ok (.iadd, 1) := by decide +kernel
theorem dX11_placesField_36 : decode cX11_placesField 36 = .ok (.aload_n 0, 1) := by decide +kernel
theorem dX11_placesField_37 : decode cX11_placesField 37 = .ok (.getfield 17, 3) := by decide +kernel
theorem dX11_placesField_40 : decode cX11_placesField 40 = .ok (.iload_n 1, 1) := by decide +kernel
theorem dX11_placesField_41 : decode cX11_placesField 41 = .ok (.ifCond .eq 7, 3) := by decide +kernel
theorem dX11_placesField_44 : decode cX11_placesField 44 = .ok (.iconst 1, 1) := by decide +kernel
theorem dX11_placesField_45 : decode cX11_placesField 45 = .ok (.goto 4, 3) := by decide +kernel
theorem dX11_placesField_48 : decode cX11_placesField 48 = .ok (.iconst 0, 1) := by decide +kernel
theorem dX11_placesField_49 : decode cX11_placesField 49 = .ok (.iaload, 1) := by decide +kernel
theorem dX11_placesField_50 : decode cX11_placesField 50 = .ok (.if_icmp .le 9, 3) := by decide +kernel
theorem dX11_placesField_53 : decode cX11_placesField 53 = .ok (.aload_n 0, 1) := by decide +kernel
theorem dX11_placesField_54 : decode cX11_placesField 54 = .ok (.iload 4, 2) := by decide +kernel
theorem dX11_placesField_56 : decode cX11_placesField 56 = .ok (.invokevirtual 433, 3) := by decide +kernel
theorem dX11_placesField_59 : decode cX11_placesField 59 = .ok (.aload_n 0, 1) := by decide +kernel
theorem dX11_placesField_60 : decode cX11_placesField 60 = .ok (.iload_n 3, 1) := by decide +kernel
theorem dX11_placesField_61 : decode cX11_placesField 61 = .ok (.invokevirtual 440, 3) := by decide +kernel
theorem dX11_placesField_64 : decode cX11_placesField 64 = .ok (.aload_n 0, 1) := by decide +kernel
theorem dX11_placesField_65 : decode cX11_placesField 65 = .ok (.dup, 1) := by decide +kernel
theorem dX11_placesField_66 : decode cX11_placesField 66 = .ok (.getfield 423, 3) := by decide +kernel
theorem dX11_placesField_69 : decode cX11_placesField 69 = .ok (.aload_n 0, 1) := by decide +kernel
theorem dX11_placesField_70 : decode cX11_placesField 70 = .ok (.iload_n 2, 1) := by decide +kernel
theorem dX11_placesField_71 : decode cX11_placesField 71 = .ok (.sipush 160, 3) := by decide +kernel
theorem dX11_placesField_74 : decode cX11_placesField 74 = .ok (.iload_n 3, 1) := by decide +kernel
theorem dX11_placesField_75 : decode cX11_placesField 75 = .ok (.invokevirtual 110, 3) := by decide +kernel
theorem dX11_placesField_78 : decode cX11_placesField 78 = .ok (.iconst 1, 1) := by decide +kernel
theorem dX11_placesField_79 : decode cX11_placesField 79 = .ok (.iadd, 1) := by decide +kernel
theorem dX11_placesField_80 : decode cX11_placesField 80 = .ok (.iadd, 1) := by decide +kernel
theorem dX11_placesField_81 : decode cX11_placesField 81 = .ok (.putfield 423, 3) := by decide +kernel
theorem dX11_placesField_84 : decode cX11_placesField 84 = .ok (.return_, 1) := by decide +kernel
theorem dX11_isLaid_0 : decode cX11_isLaid 0 = .ok (.iload_n 1, 1) := by decide +kernel
theorem dX11_isLaid_1 : decode cX11_isLaid 1 = .ok (.ifCond .eq 14, 3) := by decide +kernel
theorem dX11_isLaid_4 : decode cX11_isLaid 4 = .ok (.aload_n 0, 1) := by decide +kernel
theorem dX11_isLaid_5 : decode cX11_isLaid 5 = .ok (.iload_n 2, 1) := by decide +kernel
theorem dX11_isLaid_6 : decode cX11_isLaid 6 = .ok (.invokevirtual 413, 3) := by decide +kernel
theorem dX11_isLaid_9 : decode cX11_isLaid 9 = .ok (.ifCond .eq 14, 3) := by decide +kernel
theorem dX11_isLaid_12 : decode cX11_isLaid 12 = .ok (.goto 13, 3) := by decide +kernel
theorem dX11_isLaid_15 : decode cX11_isLaid 15 = .ok (.aload_n 0, 1) := by decide +kernel
theorem dX11_isLaid_16 : decode cX11_isLaid 16 = .ok (.iload_n 2, 1) := by decide +kernel
theorem dX11_isLaid_17 : decode cX11_isLaid 17 = .ok (.invokevirtual 394, 3) := by decide +kernel
theorem dX11_isLaid_20 : decode cX11_isLaid 20 = .ok (.ifCond .ne 5, 3) := by decide +kernel
theorem dX11_isLaid_23 : decode cX11_isLaid 23 = .ok (.iconst 0, 1) := by decide +kernel
theorem dX11_isLaid_24 : decode cX11_isLaid 24 = .ok (.ireturn, 1) := by decide +kernel
theorem dX11_isLaid_25 : decode cX11_isLaid 25 = .ok (.iload_n 1, 1) := by decide +kernel
theorem dX11_isLaid_26 : decode cX11_isLaid 26 = .ok (.ifCond .ne 13, 3) := by decide +kernel
theorem dX11_isLaid_29 : decode cX11_isLaid 29 = .ok (.aload_n 0, 1) := by decide +kernel
theorem dX11_isLaid_30 : decode cX11_isLaid 30 = .ok (.aload_n 0, 1) := by decide +kernel
theorem dX11_isLaid_31 : decode cX11_isLaid 31 = .ok (.iload_n 2, 1) := by decide +kernel
theorem dX11_isLaid_32 : decode cX11_isLaid 32 = .ok (.invokevirtual 397, 3) := by decide +kernel
theorem dX11_isLaid_35 : decode cX11_isLaid 35 = .ok (.iload_n 2, 1) := by decide +kernel
theorem dX11_isLaid_36 : decode cX11_isLaid 36 = .ok (.invokevirtual 400, 3) := by decide +kernel
theorem dX11_isLaid_39 : decode cX11_isLaid 39 = .ok (.aload_n 0, 1) := by decide +kernel
theorem dX11_isLaid_40 : decode cX11_isLaid 40 = .ok (.iload_n 1, 1) := by decide +kernel
theorem dX11_isLaid_41 : decode cX11_isLaid 41 = .ok (.aload_n 0, 1) := by decide +kernel
theorem dX11_isLaid_42 : decode cX11_isLaid 42 = .ok (.iload_n 1, 1) := by decide +kernel
theorem dX11_isLaid_43 : decode cX11_isLaid 43 = .ok (.iload_n 2, 1) := by decide +kernel
theorem dX11_isLaid_44 : decode cX11_isLaid 44 = .ok (.invokevirtual 443, 3) := by decide +kernel
theorem dX11_isLaid_47 : decode cX11_isLaid 47 = .ok (.invokevirtual 447, 3) := by decide +kernel
theorem dX11_isLaid_50 : decode cX11_isLaid 50 = .ok (.iconst 1, 1) := by decide +kernel
theorem dX11_isLaid_51 : decode cX11_isLaid 51 = .ok (.ireturn, 1) := by decide +kernel
theorem dX11_formLaid_0 : decode cX11_formLaid 0 = .ok (.iload_n 1, 1) := by decide +kernel
theorem dX11_formLaid_1 : decode cX11_formLaid 1 = .ok (.ifCond .eq 10, 3) := by decide +kernel
theorem dX11_formLaid_4 : decode cX11_formLaid 4 = .ok (.iload_n 2, 1) := by decide +kernel
theorem dX11_formLaid_5 : decode cX11_formLaid 5 = .ok (.invokestatic 374, 3) := by decide +kernel
theorem dX11_formLaid_8 : decode cX11_formLaid 8 = .ok (.goto 8, 3) := by decide +kernel
theorem dX11_formLaid_11 : decode cX11_formLaid 11 = .ok (.aload_n 0, 1) := by decide +kernel
theorem dX11_formLaid_12 : decode cX11_formLaid 12 = .ok (.iload_n 2, 1) := by decide +kernel
theorem dX11_formLaid_13 : decode cX11_formLaid 13 = .ok (.invokevirtual 397, 3) := by decide +kernel
theorem dX11_formLaid_16 : decode cX11_formLaid 16 = .ok (.ireturn, 1) := by decide +kernel
theorem dX11_rows_0 : decode cX11_rows 0 = .ok (.aload_n 0, 1) := by decide +kernel
theorem dX11_rows_1 : decode cX11_rows 1 = .ok (.iload_n 1, 1) := by decide +kernel
theorem dX11_rows_2 : decode cX11_rows 2 = .ok (.iload_n 2, 1) := by decide +kernel
theorem dX11_rows_3 : decode cX11_rows 3 = .ok (.invokevirtual 451, 3) := by decide +kernel
theorem dX11_rows_6 : decode cX11_rows 6 = .ok (.ifCond .eq 10, 3) := by decide +kernel
theorem dX11_rows_9 : decode cX11_rows 9 = .ok (.aload_n 0, 1) := by decide +kernel
theorem dX11_rows_10 : decode cX11_rows 10 = .ok (.getfield 426, 3) := by decide +kernel
theorem dX11_rows_13 : decode cX11_rows 13 = .ok (.goto 4, 3) := by decide +kernel
theorem dX11_rows_16 : decode cX11_rows 16 = .ok (.iconst (-1), 1) := by decide +kernel
theorem dX11_rows_17 : decode cX11_rows 17 = .ok (.ireturn, 1) := by decide +kernel
theorem dX11_place_0 : decode cX11_place 0 = .ok (.aload_n 0, 1) := by decide +kernel
theorem dX11_place_1 : decode cX11_place 1 = .ok (.iload_n 1, 1) := by decide +kernel
theorem dX11_place_2 : decode cX11_place 2 = .ok (.iload_n 2, 1) := by decide +kernel
theorem dX11_place_3 : decode cX11_place 3 = .ok (.invokevirtual 451, 3) := by decide +kernel
theorem dX11_place_6 : decode cX11_place 6 = .ok (.ifCond .eq 17, 3) := by decide +kernel
theorem dX11_place_9 : decode cX11_place 9 = .ok (.aload_n 0, 1) := by decide +kernel
theorem dX11_place_10 : decode cX11_place 10 = .ok (.aload_n 0, 1) := by decide +kernel
theorem dX11_place_11 : decode cX11_place 11 = .ok (.iload_n 1, 1) := by decide +kernel
theorem dX11_place_12 : decode cX11_place 12 = .ok (.iload_n 2, 1) := by decide +kernel
theorem dX11_place_13 : decode cX11_place 13 = .ok (.invokevirtual 443, 3) := by decide +kernel
theorem dX11_place_16 : decode cX11_place 16 = .ok (.iload_n 3, 1) := by decide +kernel
theorem dX11_place_17 : decode cX11_place 17 = .ok (.invokevirtual 99, 3) := by decide +kernel
theorem dX11_place_20 : decode cX11_place 20 = .ok (.ifCond .ne 5, 3) := by decide +kernel
theorem dX11_place_23 : decode cX11_place 23 = .ok (.iconst (-1), 1) := by decide +kernel
theorem dX11_place_24 : decode cX11_place 24 = .ok (.ireturn, 1) := by decide +kernel
theorem dX11_place_25 : decode cX11_place 25 = .ok (.aload_n 0, 1) := by decide +kernel
theorem dX11_place_26 : decode cX11_place 26 = .ok (.getfield 74, 3) := by decide +kernel
theorem dX11_place_29 : decode cX11_place 29 = .ok (.iload_n 3, 1) := by decide +kernel
theorem dX11_place_30 : decode cX11_place 30 = .ok (.iaload, 1) := by decide +kernel
theorem dX11_place_31 : decode cX11_place 31 = .ok (.ifCond .ge 8, 3) := by decide +kernel
theorem dX11_place_34 : decode cX11_place 34 = .ok (.bipush (-2), 2) := by decide +kernel
theorem dX11_place_36 : decode cX11_place 36 = .ok (.goto 23, 3) := by decide +kernel
theorem dX11_place_39 : decode cX11_place 39 = .ok (.iload 4, 2) := by decide +kernel
theorem dX11_place_41 : decode cX11_place 41 = .ok (.ifCond .eq 12, 3) := by decide +kernel
theorem dX11_place_44 : decode cX11_place 44 = .ok (.aload_n 0, 1) := by decide +kernel
theorem dX11_place_45 : decode cX11_place 45 = .ok (.getfield 77, 3) := by decide +kernel
theorem dX11_place_48 : decode cX11_place 48 = .ok (.iload_n 3, 1) := by decide +kernel
theorem dX11_place_49 : decode cX11_place 49 = .ok (.iaload, 1) := by decide +kernel
theorem dX11_place_50 : decode cX11_place 50 = .ok (.goto 9, 3) := by decide +kernel
theorem dX11_place_53 : decode cX11_place 53 = .ok (.aload_n 0, 1) := by decide +kernel
theorem dX11_place_54 : decode cX11_place 54 = .ok (.getfield 74, 3) := by decide +kernel
theorem dX11_place_57 : decode cX11_place 57 = .ok (.iload_n 3, 1) := by decide +kernel
theorem dX11_place_58 : decode cX11_place 58 = .ok (.iaload, 1) := by decide +kernel
theorem dX11_place_59 : decode cX11_place 59 = .ok (.ireturn, 1) := by decide +kernel
theorem dX11_pages_0 : decode cX11_pages 0 = .ok (.aload_n 0, 1) := by decide +kernel
theorem dX11_pages_1 : decode cX11_pages 1 = .ok (.iconst 1, 1) := by decide +kernel
theorem dX11_pages_2 : decode cX11_pages 2 = .ok (.iload_n 1, 1) := by decide +kernel
theorem dX11_pages_3 : decode cX11_pages 3 = .ok (.invokevirtual 451, 3) := by decide +kernel
theorem dX11_pages_6 : decode cX11_pages 6 = .ok (.ifCond .eq 26, 3) := by decide +kernel
theorem dX11_pages_9 : decode cX11_pages 9 = .ok (.aload_n 0, 1) := by decide +kernel
theorem dX11_pages_10 : decode cX11_pages 10 = .ok (.getfield 426, 3) := by decide +kernel
theorem dX11_pages_13 : decode cX11_pages 13 = .ok (.aload_n 0, 1) := by decide +kernel
theorem dX11_pages_14 : decode cX11_pages 14 = .ok (.getfield 17, 3) := by decide +kernel
theorem dX11_pages_17 : decode cX11_pages 17 = .ok (.iconst 2, 1) := by decide +kernel
theorem dX11_pages_18 : decode cX11_pages 18 = .ok (.iaload, 1) := by decide +kernel
theorem dX11_pages_19 : decode cX11_pages 19 = .ok (.iadd, 1) := by decide +kernel
theorem dX11_pages_20 : decode cX11_pages 20 = .ok (.iconst 1, 1) := by decide +kernel
theorem dX11_pages_21 : decode cX11_pages 21 = .ok (.isub, 1) := by decide +kernel
theorem dX11_pages_22 : decode cX11_pages 22 = .ok (.aload_n 0, 1) := by decide +kernel
theorem dX11_pages_23 : decode cX11_pages 23 = .ok (.getfield 17, 3) := by decide +kernel
theorem dX11_pages_26 : decode cX11_pages 26 = .ok (.iconst 2, 1) := by decide +kernel
theorem dX11_pages_27 : decode cX11_pages 27 = .ok (.iaload, 1) := by decide +kernel
theorem dX11_pages_28 : decode cX11_pages 28 = .ok (.idiv, 1) := by decide +kernel
theorem dX11_pages_29 : decode cX11_pages 29 = .ok (.goto 4, 3) := by decide +kernel
theorem dX11_pages_32 : decode cX11_pages 32 = .ok (.iconst (-1), 1) := by decide +kernel
theorem dX11_pages_33 : decode cX11_pages 33 = .ok (.ireturn, 1) := by decide +kernel
theorem dX11_startsOut_0 : decode cX11_startsOut 0 = .ok (.aload_n 0, 1) := by decide +kernel
theorem dX11_startsOut_1 : decode cX11_startsOut 1 = .ok (.iconst 0, 1) := by decide +kernel
theorem dX11_startsOut_2 : decode cX11_startsOut 2 = .ok (.putfield 455, 3) := by decide +kernel
theorem dX11_startsOut_5 : decode cX11_startsOut 5 = .ok (.aload_n 0, 1) := by decide +kernel
theorem dX11_startsOut_6 : decode cX11_startsOut 6 = .ok (.iload_n 1, 1) := by decide +kernel
theorem dX11_startsOut_7 : decode cX11_startsOut 7 = .ok (.putfield 458, 3) := by decide +kernel
theorem dX11_startsOut_10 : decode cX11_startsOut 10 = .ok (.aload_n 0, 1) := by decide +kernel
theorem dX11_startsOut_11 : decode cX11_startsOut 11 = .ok (.bipush (-2), 2) := by decide +kernel
theorem dX11_startsOut_13 : decode cX11_startsOut 13 = .ok (.putfield 461, 3) := by decide +kernel
theorem dX11_startsOut_16 : decode cX11_startsOut 16 = .ok (.aload_n 0, 1) := by decide +kernel
theorem dX11_startsOut_17 : decode cX11_startsOut 17 = .ok (.ldc_w 464, 3) := by decide +kernel
theorem dX11_startsOut_20 : decode cX11_startsOut 20 = .ok (.putfield 465, 3) := by decide +kernel
theorem dX11_startsOut_23 : decode cX11_startsOut 23 = .ok (.return_, 1) := by decide +kernel
theorem dX11_says_0 : decode cX11_says 0 = .ok (.aload_n 0, 1) := by decide +kernel
theorem dX11_says_1 : decode cX11_says 1 = .ok (.getfield 455, 3) := by decide +kernel
theorem dX11_says_4 : decode cX11_says 4 = .ok (.aload_n 0, 1) := by decide +kernel
theorem dX11_says_5 : decode cX11_says 5 = .ok (.getfield 465, 3) := by decide +kernel
theorem dX11_says_8 : decode cX11_says 8 = .ok (.if_icmp .ge 36, 3) := by decide +kernel
theorem dX11_says_11 : decode cX11_says 11 = .ok (.aload_n 0, 1) := by decide +kernel
theorem dX11_says_12 : decode cX11_says 12 = .ok (.aload_n 0, 1) := by decide +kernel
theorem dX11_says_13 : decode cX11_says 13 = .ok (.getfield 455, 3) := by decide +kernel
theorem dX11_says_16 : decode cX11_says 16 = .ok (.aload_n 0, 1) := by decide +kernel
theorem dX11_says_17 : decode cX11_says 17 = .ok (.getfield 458, 3) := by decide +kernel
theorem dX11_says_20 : decode cX11_says 20 = .ok (.if_icmp .ne 7, 3) := by decide +kernel
theorem dX11_says_23 : decode cX11_says 23 = .ok (.iload_n 1, 1) := by decide +kernel
theorem dX11_says_24 : decode cX11_says 24 = .ok (.goto 7, 3) := by decide +kernel
theorem dX11_says_27 : decode cX11_says 27 = .ok (.aload_n 0, 1) := by decide +kernel
theorem dX11_says_28 : decode cX11_says 28 = .ok (.getfield 461, 3) := by decide +kernel
theorem dX11_says_31 : decode cX11_says 31 = .ok (.putfield 461, 3) := by decide +kernel
theorem dX11_says_34 : decode cX11_says 34 = .ok (.aload_n 0, 1) := by decide +kernel
theorem dX11_says_35 : decode cX11_says 35 = .ok (.dup, 1) := by decide +kernel
theorem dX11_says_36 : decode cX11_says 36 = .ok (.getfield 455, 3) := by decide +kernel
theorem dX11_says_39 : decode cX11_says 39 = .ok (.iconst 1, 1) := by decide +kernel
theorem dX11_says_40 : decode cX11_says 40 = .ok (.iadd, 1) := by decide +kernel
theorem dX11_says_41 : decode cX11_says 41 = .ok (.putfield 455, 3) := by decide +kernel
theorem dX11_says_44 : decode cX11_says 44 = .ok (.return_, 1) := by decide +kernel
theorem dX11_saysWord_0 : decode cX11_saysWord 0 = .ok (.iconst 0, 1) := by decide +kernel
theorem dX11_saysWord_1 : decode cX11_saysWord 1 = .ok (.istore_n 3, 1) := by decide +kernel
theorem dX11_saysWord_2 : decode cX11_saysWord 2 = .ok (.iload_n 3, 1) := by decide +kernel
theorem dX11_saysWord_3 : decode cX11_saysWord 3 = .ok (.lload_n 1, 1) := by decide +kernel
theorem dX11_saysWord_4 : decode cX11_saysWord 4 = .ok (.invokestatic 403, 3) := by decide +kernel
theorem dX11_saysWord_7 : decode cX11_saysWord 7 = .ok (.if_icmp .ge 18, 3) := by decide +kernel
theorem dX11_saysWord_10 : decode cX11_saysWord 10 = .ok (.aload_n 0, 1) := by decide +kernel
theorem dX11_saysWord_11 : decode cX11_saysWord 11 = .ok (.lload_n 1, 1) := by decide +kernel
theorem dX11_saysWord_12 : decode cX11_saysWord 12 = .ok (.iload_n 3, 1) := by decide +kernel
theorem dX11_saysWord_13 : decode cX11_saysWord 13 = .ok (.invokestatic 409, 3) := by decide +kernel
theorem dX11_saysWord_16 : decode cX11_saysWord 16 = .ok (.invokevirtual 468, 3) := by decide +kernel
theorem dX11_saysWord_19 : decode cX11_saysWord 19 = .ok (.iinc 3 1, 3) := by decide +kernel
theorem dX11_saysWord_22 : decode cX11_saysWord 22 = .ok (.goto (-20), 3) := by decide +kernel
theorem dX11_saysWord_25 : decode cX11_saysWord 25 = .ok (.return_, 1) := by decide +kernel
theorem dX11_saysNumber_0 : decode cX11_saysNumber 0 = .ok (.iconst 1, 1) := by decide +kernel
theorem dX11_saysNumber_1 : decode cX11_saysNumber 1 = .ok (.istore_n 2, 1) := by decide +kernel
theorem dX11_saysNumber_2 : decode cX11_saysNumber 2 = .ok (.iload_n 1, 1) := by decide +kernel
theorem dX11_saysNumber_3 : decode cX11_saysNumber 3 = .ok (.iload_n 2, 1) := by decide +kernel
theorem dX11_saysNumber_4 : decode cX11_saysNumber 4 = .ok (.idiv, 1) := by decide +kernel
theorem dX11_saysNumber_5 : decode cX11_saysNumber 5 = .ok (.bipush 9, 2) := by decide +kernel
theorem dX11_saysNumber_7 : decode cX11_saysNumber 7 = .ok (.if_icmp .le 11, 3) := by decide +kernel
theorem dX11_saysNumber_10 : decode cX11_saysNumber 10 = .ok (.iload_n 2, 1) := by decide +kernel
theorem dX11_saysNumber_11 : decode cX11_saysNumber 11 = .ok (.bipush 10, 2) := by decide +kernel
theorem dX11_saysNumber_13 : decode cX11_saysNumber 13 = .ok (.imul, 1) := by decide +kernel
theorem dX11_saysNumber_14 : decode cX11_saysNumber 14 = .ok (.istore_n 2, 1) := by decide +kernel
theorem dX11_saysNumber_15 : decode cX11_saysNumber 15 = .ok (.goto (-13), 3) := by decide +kernel
theorem dX11_saysNumber_18 : decode cX11_saysNumber 18 = .ok (.iload_n 2, 1) := by decide +kernel
theorem dX11_saysNumber_19 : decode cX11_saysNumber 19 = .ok (.ifCond .le 24, 3) := by decide +kernel
theorem dX11_saysNumber_22 : decode cX11_saysNumber 22 = .ok (.aload_n 0, 1) := by decide +kernel
theorem dX11_saysNumber_23 : decode cX11_saysNumber 23 = .ok (.bipush 48, 2) := by decide +kernel
theorem dX11_saysNumber_25 : decode cX11_saysNumber 25 = .ok (.iload_n 1, 1) := by decide +kernel
theorem dX11_saysNumber_26 : decode cX11_saysNumber 26 = .ok (.iload_n 2, 1) := by decide +kernel
theorem dX11_saysNumber_27 : decode cX11_saysNumber 27 = .ok (.idiv, 1) := by decide +kernel
theorem dX11_saysNumber_28 : decode cX11_saysNumber 28 = .ok (.bipush 10, 2) := by decide +kernel
theorem dX11_saysNumber_30 : decode cX11_saysNumber 30 = .ok (.irem, 1) := by decide +kernel
theorem dX11_saysNumber_31 : decode cX11_saysNumber 31 = .ok (.iadd, 1) := by decide +kernel
theorem dX11_saysNumber_32 : decode cX11_saysNumber 32 = .ok (.invokevirtual 468, 3) := by decide +kernel
theorem dX11_saysNumber_35 : decode cX11_saysNumber 35 = .ok (.iload_n 2, 1) := by decide +kernel
theorem dX11_saysNumber_36 : decode cX11_saysNumber 36 = .ok (.bipush 10, 2) := by decide +kernel
theorem dX11_saysNumber_38 : decode cX11_saysNumber 38 = .ok (.idiv, 1) := by decide +kernel
theorem dX11_saysNumber_39 : decode cX11_saysNumber 39 = .ok (.istore_n 2, 1) := by decide +kernel
theorem dX11_saysNumber_40 : decode cX11_saysNumber 40 = .ok (.goto (-22), 3) := by decide +kernel
theorem dX11_saysNumber_43 : decode cX11_saysNumber 43 = .ok (.return_, 1) := by decide +kernel
theorem dX11_saysNode_0 : decode cX11_saysNode 0 = .ok (.aload_n 0, 1) := by decide +kernel
theorem dX11_saysNode_1 : decode cX11_saysNode 1 = .ok (.getfield 455, 3) := by decide +kernel
theorem dX11_saysNode_4 : decode cX11_saysNode 4 = .ok (.aload_n 0, 1) := by decide +kernel
theorem dX11_saysNode_5 : decode cX11_saysNode 5 = .ok (.getfield 471, 3) := by decide +kernel
theorem dX11_saysNode_8 : decode cX11_saysNode 8 = .ok (.isub, 1) := by decide +kernel
theorem dX11_saysNode_9 : decode cX11_saysNode 9 = .ok (.aload_n 0, 1) := by decide +kernel
theorem dX11_saysNode_10 : decode cX11_saysNode 10 = .ok (.getfield 77, 3) := by decide +kernel
theorem dX11_saysNode_13 : decode cX11_saysNode 13 = .ok (.iload 4, 2) := by decide +kernel
theorem dX11_saysNode_15 : decode cX11_saysNode 15 = .ok (.iaload, 1) := by decide +kernel
theorem dX11_saysNode_16 : decode cX11_saysNode 16 = .ok (.if_icmp .ge 12, 3) := by decide +kernel
theorem dX11_saysNode_19 : decode cX11_saysNode 19 = .ok (.aload_n 0, 1) := by decide +kernel
theorem dX11_saysNode_20 : decode cX11_saysNode 20 = .ok (.bipush 32, 2) := by decide +kernel
theorem dX11_saysNode_22 : decode cX11_saysNode 22 = .ok (.invokevirtual 468, 3) := by decide +kernel
theorem dX11_saysNode_25 : decode cX11_saysNode 25 = .ok (.goto (-25), 3) := by decide +kernel
theorem dX11_saysNode_28 : decode cX11_saysNode 28 = .ok (.iload 4, 2) := by decide +kernel
theorem dX11_saysNode_30 : decode cX11_saysNode 30 = .ok (.invokestatic 107, 3) := by decide +kernel
theorem dX11_saysNode_33 : decode cX11_saysNode 33 = .ok (.ifCond .ne 26, 3) := by decide +kernel
theorem dX11_saysNode_36 : decode cX11_saysNode 36 = .ok (.aload_n 0, 1) := by decide +kernel
theorem dX11_saysNode_37 : decode cX11_saysNode 37 = .ok (.bipush 35, 2) := by decide +kernel
theorem dX11_saysNode_39 : decode cX11_saysNode 39 = .ok (.invokevirtual 468, 3) := by decide +kernel
theorem dX11_saysNode_42 : decode cX11_saysNode 42 = .ok (.aload_n 0, 1) := by decide +kernel
theorem dX11_saysNode_43 : decode cX11_saysNode 43 = .ok (.aload_n 0, 1) := by decide +kernel
theorem dX11_saysNode_44 : decode cX11_saysNode 44 = .ok (.getfield 24, 3) := by decide +kernel
theorem dX11_saysNode_47 : decode cX11_saysNode 47 = .ok (.iload_n 2, 1) := by decide +kernel
theorem dX11_saysNode_48 : decode cX11_saysNode 48 = .ok (.bipush 32, 2) := by decide +kernel
theorem dX11_saysNode_50 : decode cX11_saysNode 50 = .ok (.iadd, 1) := by decide +kernel
theorem dX11_saysNode_51 : decode cX11_saysNode 51 = .ok (.iload 4, 2) := by decide +kernel
theorem dX11_saysNode_53 : decode cX11_saysNode 53 = .ok (.iadd, 1) := by decide +kernel
theorem dX11_saysNode_54 : decode cX11_saysNode 54 = .ok (.laload, 1) := by decide +kernel
theorem dX11_saysNode_55 : decode cX11_saysNode 55 = .ok (.invokevirtual 474, 3) := by decide +kernel
theorem dX11_saysNode_58 : decode cX11_saysNode 58 = .ok (.return_, 1) := by decide +kernel
theorem dX11_saysNode_59 : decode cX11_saysNode 59 = .ok (.aload_n 0, 1) := by decide +kernel
theorem dX11_saysNode_60 : decode cX11_saysNode 60 = .ok (.getfield 455, 3) := by decide +kernel
theorem dX11_saysNode_63 : decode cX11_saysNode 63 = .ok (.aload_n 0, 1) := by decide +kernel
theorem dX11_saysNode_64 : decode cX11_saysNode 64 = .ok (.iload_n 2, 1) := by decide +kernel
theorem dX11_saysNode_65 : decode cX11_saysNode 65 = .ok (.sipush 160, 3) := by decide +kernel
theorem dX11_saysNode_68 : decode cX11_saysNode 68 = .ok (.iload 4, 2) := by decide +kernel
theorem dX11_saysNode_70 : decode cX11_saysNode 70 = .ok (.invokevirtual 110, 3) := by decide +kernel
theorem dX11_saysNode_73 : decode cX11_saysNode 73 = .ok (.iadd, 1) := by decide +kernel
theorem dX11_saysNode_74 : decode cX11_saysNode 74 = .ok (.istore 5, 2) := by decide +kernel
theorem dX11_saysNode_76 : decode cX11_saysNode 76 = .ok (.aload_n 0, 1) := by decide +kernel
theorem dX11_saysNode_77 : decode cX11_saysNode 77 = .ok (.iload 5, 2) := by decide +kernel
theorem dX11_saysNode_79 : decode cX11_saysNode 79 = .ok (.putfield 465, 3) := by decide +kernel
theorem dX11_saysNode_82 : decode cX11_saysNode 82 = .ok (.aload_n 0, 1) := by decide +kernel
theorem dX11_saysNode_83 : decode cX11_saysNode 83 = .ok (.aload_n 0, 1) := by decide +kernel
theorem dX11_saysNode_84 : decode cX11_saysNode 84 = .ok (.getfield 24, 3) := by decide +kernel
theorem dX11_saysNode_87 : decode cX11_saysNode 87 = .ok (.iload_n 2, 1) := by decide +kernel
theorem dX11_saysNode_88 : decode cX11_saysNode 88 = .ok (.bipush 32, 2) := by decide +kernel
theorem dX11_saysNode_90 : decode cX11_saysNode 90 = .ok (.iadd, 1) := by decide +kernel
theorem dX11_saysNode_91 : decode cX11_saysNode 91 = .ok (.iload 4, 2) := by decide +kernel
theorem dX11_saysNode_93 : decode cX11_saysNode 93 = .ok (.iadd, 1) := by decide +kernel
theorem dX11_saysNode_94 : decode cX11_saysNode 94 = .ok (.laload, 1) := by decide +kernel
theorem dX11_saysNode_95 : decode cX11_saysNode 95 = .ok (.invokevirtual 474, 3) := by decide +kernel
theorem dX11_saysNode_98 : decode cX11_saysNode 98 = .ok (.iload_n 1, 1) := by decide +kernel
theorem dX11_saysNode_99 : decode cX11_saysNode 99 = .ok (.ifCond .ne 30, 3) := by decide +kernel
theorem dX11_saysNode_102 : decode cX11_saysNode 102 = .ok (.aload_n 0, 1) := by decide +kernel
theorem dX11_saysNode_103 : decode cX11_saysNode 103 = .ok (.getfield 65, 3) := by decide +kernel
theorem dX11_saysNode_106 : decode cX11_saysNode 106 = .ok (.iload 4, 2) := by decide +kernel
theorem dX11_saysNode_108 : decode cX11_saysNode 108 = .ok (.baload, 1) := by decide +kernel
theorem dX11_saysNode_109 : decode cX11_saysNode 109 = .ok (.ifCond .eq 20, 3) := by decide +kernel
theorem dX11_saysNode_112 : decode cX11_saysNode 112 = .ok (.aload_n 0, 1) := by decide +kernel
theorem dX11_saysNode_113 : decode cX11_saysNode 113 = .ok (.bipush 61, 2) := by decide +kernel
theorem dX11_saysNode_115 : decode cX11_saysNode 115 = .ok (.invokevirtual 468, 3) := by decide +kernel
theorem dX11_saysNode_118 : decode cX11_saysNode 118 = .ok (.aload_n 0, 1) := by decide +kernel
theorem dX11_saysNode_119 : decode cX11_saysNode 119 = .ok (.aload_n 0, 1) := by decide +kernel
theorem dX11_saysNode_120 : decode cX11_saysNode 120 = .ok (.iload_n 3, 1) := by decide +kernel
theorem dX11_saysNode_121 : decode cX11_saysNode 121 = .ok (.iload 4, 2) := by decide +kernel
theorem dX11_saysNode_123 : decode cX11_saysNode 123 = .ok (.invokevirtual 382, 3) := by decide +kernel
theorem dX11_saysNode_126 : decode cX11_saysNode 126 = .ok (.invokevirtual 478, 3) := by decide +kernel
theorem dX11_saysNode_129 : decode cX11_saysNode 129 = .ok (.aload_n 0, 1) := by decide +kernel
theorem dX11_saysNode_130 : decode cX11_saysNode 130 = .ok (.getfield 455, 3) := by decide +kernel
theorem dX11_saysNode_133 : decode cX11_saysNode 133 = .ok (.iload 5, 2) := by decide +kernel
theorem dX11_saysNode_135 : decode cX11_saysNode 135 = .ok (.if_icmp .ge 12, 3) := by decide +kernel
theorem dX11_saysNode_138 : decode cX11_saysNode 138 = .ok (.aload_n 0, 1) := by decide +kernel
theorem dX11_saysNode_139 : decode cX11_saysNode 139 = .ok (.bipush 95, 2) := by decide +kernel
theorem dX11_saysNode_141 : decode cX11_saysNode 141 = .ok (.invokevirtual 468, 3) := by decide +kernel
theorem dX11_saysNode_144 : decode cX11_saysNode 144 = .ok (.goto (-15), 3) := by decide +kernel
theorem dX11_saysNode_147 : decode cX11_saysNode 147 = .ok (.aload_n 0, 1) := by decide +kernel
theorem dX11_saysNode_148 : decode cX11_saysNode 148 = .ok (.ldc_w 464, 3) := by decide +kernel
theorem dX11_saysNode_151 : decode cX11_saysNode 151 = .ok (.putfield 465, 3) := by decide +kernel
theorem dX11_saysNode_154 : decode cX11_saysNode 154 = .ok (.return_, 1) := by decide +kernel
theorem dX11_saysLayout_0 : decode cX11_saysLayout 0 = .ok (.aload_n 0, 1) := by decide +kernel
theorem dX11_saysLayout_1 : decode cX11_saysLayout 1 = .ok (.iload_n 3, 1) := by decide +kernel
theorem dX11_saysLayout_2 : decode cX11_saysLayout 2 = .ok (.invokevirtual 481, 3) := by decide +kernel
theorem dX11_saysLayout_5 : decode cX11_saysLayout 5 = .ok (.aload_n 0, 1) := by decide +kernel
theorem dX11_saysLayout_6 : decode cX11_saysLayout 6 = .ok (.iload_n 1, 1) := by decide +kernel
theorem dX11_saysLayout_7 : decode cX11_saysLayout 7 = .ok (.iload_n 2, 1) := by decide +kernel
theorem dX11_saysLayout_8 : decode cX11_saysLayout 8 = .ok (.invokevirtual 443, 3) := by decide +kernel
theorem dX11_saysLayout_11 : decode cX11_saysLayout 11 = .ok (.istore 4, 2) := by decide +kernel
theorem dX11_saysLayout_13 : decode cX11_saysLayout 13 = .ok (.iconst 0, 1) := by decide +kernel
theorem dX11_saysLayout_14 : decode cX11_saysLayout 14 = .ok (.istore 5, 2) := by decide +kernel
theorem dX11_saysLayout_16 : decode cX11_saysLayout 16 = .ok (.iload 5, 2) := by decide +kernel
theorem dX11_saysLayout_18 : decode cX11_saysLayout 18 = .ok (.aload_n 0, 1) := by decide +kernel
theorem dX11_saysLayout_19 : decode cX11_saysLayout 19 = .ok (.getfield 426, 3) := by decide +kernel
theorem dX11_saysLayout_22 : decode cX11_saysLayout 22 = .ok (.if_icmp .ge 77, 3) := by decide +kernel
theorem dX11_saysLayout_25 : decode cX11_saysLayout 25 = .ok (.aload_n 0, 1) := by decide +kernel
theorem dX11_saysLayout_26 : decode cX11_saysLayout 26 = .ok (.aload_n 0, 1) := by decide +kernel
theorem dX11_saysLayout_27 : decode cX11_saysLayout 27 = .ok (.getfield 455, 3) := by decide +kernel
theorem dX11_saysLayout_30 : decode cX11_saysLayout 30 = .ok (.putfield 471, 3) := by decide +kernel
theorem dX11_saysLayout_33 : decode cX11_saysLayout 33 = .ok (.iconst 0, 1) := by decide +kernel
theorem dX11_saysLayout_34 : decode cX11_saysLayout 34 = .ok (.istore 6, 2) := by decide +kernel
theorem dX11_saysLayout_36 : decode cX11_saysLayout 36 = .ok (.iload 6, 2) := by decide +kernel
theorem dX11_saysLayout_38 : decode cX11_saysLayout 38 = .ok (.aload_n 0, 1) := by decide +kernel
theorem dX11_saysLayout_39 : decode cX11_saysLayout 39 = .ok (.iload 4, 2) := by decide +kernel
theorem dX11_saysLayout_41 : decode cX11_saysLayout 41 = .ok (.invokevirtual 118, 3) := by decide +kernel
theorem dX11_saysLayout_44 : decode cX11_saysLayout 44 = .ok (.if_icmp .ge 43, 3) := by decide +kernel
theorem dX11_saysLayout_47 : decode cX11_saysLayout 47 = .ok (.aload_n 0, 1) := by decide +kernel
theorem dX11_saysLayout_48 : decode cX11_saysLayout 48 = .ok (.getfield 74, 3) := by decide +kernel
theorem dX11_saysLayout_51 : decode cX11_saysLayout 51 = .ok (.aload_n 0, 1) := by decide +kernel
theorem dX11_saysLayout_52 : decode cX11_saysLayout 52 = .ok (.iload 4, 2) := by decide +kernel
theorem dX11_saysLayout_54 : decode cX11_saysLayout 54 = .ok (.iload 6, 2) := by decide +kernel
theorem dX11_saysLayout_56 : decode cX11_saysLayout 56 = .ok (.invokevirtual 114, 3) := by decide +kernel
theorem dX11_saysLayout_59 : decode cX11_saysLayout 59 = .ok (.iaload, 1) := by decide +kernel
theorem dX11_saysLayout_60 : decode cX11_saysLayout 60 = .ok (.iload 5, 2) := by decide +kernel
theorem dX11_saysLayout_62 : decode cX11_saysLayout 62 = .ok (.if_icmp .ne 19, 3) := by decide +kernel
theorem dX11_saysLayout_65 : decode cX11_saysLayout 65 = .ok (.aload_n 0, 1) := by decide +kernel
theorem dX11_saysLayout_66 : decode cX11_saysLayout 66 = .ok (.iload_n 1, 1) := by decide +kernel
theorem dX11_saysLayout_67 : decode cX11_saysLayout 67 = .ok (.iload 4, 2) := by decide +kernel
theorem dX11_saysLayout_69 : decode cX11_saysLayout 69 = .ok (.iload_n 2, 1) := by decide +kernel
theorem dX11_saysLayout_70 : decode cX11_saysLayout 70 = .ok (.aload_n 0, 1) := by decide +kernel
theorem dX11_saysLayout_71 : decode cX11_saysLayout 71 = .ok (.iload 4, 2) := by decide +kernel
theorem dX11_saysLayout_73 : decode cX11_saysLayout 73 = .ok (.iload 6, 2) := by decide +kernel
theorem dX11_saysLayout_75 : decode cX11_saysLayout 75 = .ok (.invokevirtual 114, 3) := by decide +kernel
theorem dX11_saysLayout_78 : decode cX11_saysLayout 78 = .ok (.invokevirtual 484, 3) := by decide +kernel
theorem dX11_saysLayout_81 : decode cX11_saysLayout 81 = .ok (.iinc 6 1, 3) := by decide +kernel
theorem dX11_saysLayout_84 : decode cX11_saysLayout 84 = .ok (.goto (-48), 3) := by decide +kernel
theorem dX11_saysLayout_87 : decode cX11_saysLayout 87 = .ok (.aload_n 0, 1) := by decide +kernel
theorem dX11_saysLayout_88 : decode cX11_saysLayout 88 = .ok (.bipush 10, 2) := by decide +kernel
theorem dX11_saysLayout_90 : decode cX11_saysLayout 90 = .ok (.invokevirtual 468, 3) := by decide +kernel
theorem dX11_saysLayout_93 : decode cX11_saysLayout 93 = .ok (.iinc 5 1, 3) := by decide +kernel
theorem dX11_saysLayout_96 : decode cX11_saysLayout 96 = .ok (.goto (-80), 3) := by decide +kernel
theorem dX11_saysLayout_99 : decode cX11_saysLayout 99 = .ok (.return_, 1) := by decide +kernel
theorem dX11_textLength_0 : decode cX11_textLength 0 = .ok (.aload_n 0, 1) := by decide +kernel
theorem dX11_textLength_1 : decode cX11_textLength 1 = .ok (.iload_n 1, 1) := by decide +kernel
theorem dX11_textLength_2 : decode cX11_textLength 2 = .ok (.iload_n 2, 1) := by decide +kernel
theorem dX11_textLength_3 : decode cX11_textLength 3 = .ok (.invokevirtual 451, 3) := by decide +kernel
theorem dX11_textLength_6 : decode cX11_textLength 6 = .ok (.ifCond .ne 5, 3) := by decide +kernel
theorem dX11_textLength_9 : decode cX11_textLength 9 = .ok (.iconst (-1), 1) := by decide +kernel
theorem dX11_textLength_10 : decode cX11_textLength 10 = .ok (.ireturn, 1) := by decide +kernel
theorem dX11_textLength_11 : decode cX11_textLength 11 = .ok (.aload_n 0, 1) := by decide +kernel
theorem dX11_textLength_12 : decode cX11_textLength 12 = .ok (.iload_n 1, 1) := by decide +kernel
theorem dX11_textLength_13 : decode cX11_textLength 13 = .ok (.iload_n 2, 1) := by decide +kernel
theorem dX11_textLength_14 : decode cX11_textLength 14 = .ok (.iconst (-1), 1) := by decide +kernel
theorem dX11_textLength_15 : decode cX11_textLength 15 = .ok (.invokevirtual 487, 3) := by decide +kernel
theorem dX11_textLength_18 : decode cX11_textLength 18 = .ok (.aload_n 0, 1) := by decide +kernel
theorem dX11_textLength_19 : decode cX11_textLength 19 = .ok (.getfield 455, 3) := by decide +kernel
theorem dX11_textLength_22 : decode cX11_textLength 22 = .ok (.ireturn, 1) := by decide +kernel
theorem dX11_textByte_0 : decode cX11_textByte 0 = .ok (.aload_n 0, 1) := by decide +kernel
theorem dX11_textByte_1 : decode cX11_textByte 1 = .ok (.iload_n 1, 1) := by decide +kernel
theorem dX11_textByte_2 : decode cX11_textByte 2 = .ok (.iload_n 2, 1) := by decide +kernel
theorem dX11_textByte_3 : decode cX11_textByte 3 = .ok (.invokevirtual 451, 3) := by decide +kernel
theorem dX11_textByte_6 : decode cX11_textByte 6 = .ok (.ifCond .eq 7, 3) := by decide +kernel
theorem dX11_textByte_9 : decode cX11_textByte 9 = .ok (.iload_n 3, 1) := by decide +kernel
theorem dX11_textByte_10 : decode cX11_textByte 10 = .ok (.ifCond .ge 5, 3) := by decide +kernel
theorem dX11_textByte_13 : decode cX11_textByte 13 = .ok (.iconst (-1), 1) := by decide +kernel
theorem dX11_textByte_14 : decode cX11_textByte 14 = .ok (.ireturn, 1) := by decide +kernel
theorem dX11_textByte_15 : decode cX11_textByte 15 = .ok (.aload_n 0, 1) := by decide +kernel
theorem dX11_textByte_16 : decode cX11_textByte 16 = .ok (.iload_n 1, 1) := by decide +kernel
theorem dX11_textByte_17 : decode cX11_textByte 17 = .ok (.iload_n 2, 1) := by decide +kernel
theorem dX11_textByte_18 : decode cX11_textByte 18 = .ok (.iload_n 3, 1) := by decide +kernel
theorem dX11_textByte_19 : decode cX11_textByte 19 = .ok (.invokevirtual 487, 3) := by decide +kernel
theorem dX11_textByte_22 : decode cX11_textByte 22 = .ok (.aload_n 0, 1) := by decide +kernel
theorem dX11_textByte_23 : decode cX11_textByte 23 = .ok (.getfield 461, 3) := by decide +kernel
theorem dX11_textByte_26 : decode cX11_textByte 26 = .ok (.ireturn, 1) := by decide +kernel
theorem dX11_plans_0 : decode cX11_plans 0 = .ok (.aload_n 0, 1) := by decide +kernel
theorem dX11_plans_1 : decode cX11_plans 1 = .ok (.getfield 83, 3) := by decide +kernel
theorem dX11_plans_4 : decode cX11_plans 4 = .ok (.aload_n 0, 1) := by decide +kernel
theorem dX11_plans_5 : decode cX11_plans 5 = .ok (.getfield 491, 3) := by decide +kernel
theorem dX11_plans_8 : decode cX11_plans 8 = .ok (.iload_n 1, 1) := by decide +kernel
theorem dX11_plans_9 : decode cX11_plans 9 = .ok (.iastore, 1) := by decide +kernel
theorem dX11_plans_10 : decode cX11_plans 10 = .ok (.aload_n 0, 1) := by decide +kernel
theorem dX11_plans_11 : decode cX11_plans 11 = .ok (.getfield 86, 3) := by decide +kernel
theorem dX11_plans_14 : decode cX11_plans 14 = .ok (.aload_n 0, 1) := by decide +kernel
theorem dX11_plans_15 : decode cX11_plans 15 = .ok (.getfield 491, 3) := by decide +kernel
theorem dX11_plans_18 : decode cX11_plans 18 = .ok (.iload_n 2, 1) := by decide +kernel
theorem dX11_plans_19 : decode cX11_plans 19 = .ok (.iastore, 1) := by decide +kernel
theorem dX11_plans_20 : decode cX11_plans 20 = .ok (.aload_n 0, 1) := by decide +kernel
theorem dX11_plans_21 : decode cX11_plans 21 = .ok (.dup, 1) := by decide +kernel
theorem dX11_plans_22 : decode cX11_plans 22 = .ok (.getfield 491, 3) := by decide +kernel
theorem dX11_plans_25 : decode cX11_plans 25 = .ok (.iconst 1, 1) := by decide +kernel
theorem dX11_plans_26 : decode cX11_plans 26 = .ok (.iadd, 1) := by decide +kernel
theorem dX11_plans_27 : decode cX11_plans 27 = .ok (.putfield 491, 3) := by decide +kernel
theorem dX11_plans_30 : decode cX11_plans 30 = .ok (.return_, 1) := by decide +kernel
theorem dX11_saysCondition_0 : decode cX11_saysCondition 0 = .ok (.aload_n 0, 1) := by decide +kernel
theorem dX11_saysCondition_1 : decode cX11_saysCondition 1 = .ok (.iconst 0, 1) := by decide +kernel
theorem dX11_saysCondition_2 : decode cX11_saysCondition 2 = .ok (.sipush 192, 3) := by decide +kernel
theorem dX11_saysCondition_5 : decode cX11_saysCondition 5 = .ok (.iload_n 1, 1) := by decide +kernel
theorem dX11_saysCondition_6 : decode cX11_saysCondition 6 = .ok (.invokevirtual 110, 3) := by decide +kernel
theorem dX11_saysCondition_9 : decode cX11_saysCondition 9 = .ok (.istore_n 2, 1) := by decide +kernel
theorem dX11_saysCondition_10 : decode cX11_saysCondition 10 = .ok (.aload_n 0, 1) := by decide +kernel
theorem dX11_saysCondition_11 : decode cX11_saysCondition 11 = .ok (.iconst 0, 1) := by decide +kernel
theorem dX11_saysCondition_12 : decode cX11_saysCondition 12 = .ok (.sipush 224, 3) := by decide +kernel
theorem dX11_saysCondition_15 : decode cX11_saysCondition 15 = .ok (.iload_n 1, 1) := by decide +kernel
theorem dX11_saysCondition_16 : decode cX11_saysCondition 16 = .ok (.invokevirtual 110, 3) := by decide +kernel
theorem dX11_saysCondition_19 : decode cX11_saysCondition 19 = .ok (.istore_n 3, 1) := by decide +kernel
theorem dX11_saysCondition_20 : decode cX11_saysCondition 20 = .ok (.iconst 0, 1) := by decide +kernel
theorem dX11_saysCondition_21 : decode cX11_saysCondition 21 = .ok (.istore 4, 2) := by decide +kernel
theorem dX11_saysCondition_23 : decode cX11_saysCondition 23 = .ok (.iload 4, 2) := by decide +kernel
theorem dX11_saysCondition_25 : decode cX11_saysCondition 25 = .ok (.iload_n 3, 1) := by decide +kernel
theorem dX11_saysCondition_26 : decode cX11_saysCondition 26 = .ok (.if_icmp .ge 74, 3) := by decide +kernel
theorem dX11_saysCondition_29 : decode cX11_saysCondition 29 = .ok (.aload_n 0, 1) := by decide +kernel
theorem dX11_saysCondition_30 : decode cX11_saysCondition 30 = .ok (.getfield 34, 3) := by decide +kernel
theorem dX11_saysCondition_33 : decode cX11_saysCondition 33 = .ok (.iload_n 2, 1) := by decide +kernel
theorem dX11_saysCondition_34 : decode cX11_saysCondition 34 = .ok (.iload 4, 2) := by decide +kernel
theorem dX11_saysCondition_36 : decode cX11_saysCondition 36 = .ok (.iadd, 1) := by decide +kernel
theorem dX11_saysCondition_37 : decode cX11_saysCondition 37 = .ok (.iaload, 1) := by decide +kernel
theorem dX11_saysCondition_38 : decode cX11_saysCondition 38 = .ok (.invokestatic 134, 3) := by decide +kernel
theorem dX11_saysCondition_41 : decode cX11_saysCondition 41 = .ok (.istore 5, 2) := by decide +kernel
theorem dX11_saysCondition_43 : decode cX11_saysCondition 43 = .ok (.aload_n 0, 1) := by decide +kernel
theorem dX11_saysCondition_44 : decode cX11_saysCondition 44 = .ok (.getfield 80, 3) := by decide +kernel
theorem dX11_saysCondition_47 : decode cX11_saysCondition 47 = .ok (.iload 4, 2) := by decide +kernel
theorem dX11_saysCondition_49 : decode cX11_saysCondition 49 = .ok (.iload 5, 2) := by decide +kernel
theorem dX11_saysCondition_51 : decode cX11_saysCondition 51 = .ok (.ifCond .ne 8, 3) := by decide +kernel
theorem dX11_saysCondition_54 : decode cX11_saysCondition 54 = .ok (.iload 4, 2) := by decide +kernel
theorem dX11_saysCondition_56 : decode cX11_saysCondition 56 = .ok (.goto 37, 3) := by decide +kernel
theorem dX11_saysCondition_59 : decode cX11_saysCondition 59 = .ok (.iload 5, 2) := by decide +kernel
theorem dX11_saysCondition_61 : decode cX11_saysCondition 61 = .ok (.iconst 3, 1) := by decide +kernel
theorem dX11_saysCondition_62 : decode cX11_saysCondition 62 = .ok (.if_icmp .ne 15, 3) := by decide +kernel
theorem dX11_saysCondition_65 : decode cX11_saysCondition 65 = .ok (.aload_n 0, 1) := by decide +kernel
theorem dX11_saysCondition_66 : decode cX11_saysCondition 66 = .ok (.getfield 80, 3) := by decide +kernel
theorem dX11_saysCondition_69 : decode cX11_saysCondition 69 = .ok (.iload 4, 2) := by decide +kernel
theorem dX11_saysCondition_71 : decode cX11_saysCondition 71 = .ok (.iconst 1, 1) := by decide +kernel
theorem dX11_saysCondition_72 : decode cX11_saysCondition 72 = .ok (.isub, 1) := by decide +kernel
theorem dX11_saysCondition_73 : decode cX11_saysCondition 73 = .ok (.iaload, 1) := by decide +kernel
theorem dX11_saysCondition_74 : decode cX11_saysCondition 74 = .ok (.goto 19, 3) := by decide +kernel
theorem dX11_saysCondition_77 : decode cX11_saysCondition 77 = .ok (.aload_n 0, 1) := by decide +kernel
theorem dX11_saysCondition_78 : decode cX11_saysCondition 78 = .ok (.getfield 80, 3) := by decide +kernel
theorem dX11_saysCondition_81 : decode cX11_saysCondition 81 = .ok (.aload_n 0, 1) := by decide +kernel
theorem dX11_saysCondition_82 : decode cX11_saysCondition 82 = .ok (.getfield 80, 3) := by decide +kernel
theorem dX11_saysCondition_85 : decode cX11_saysCondition 85 = .ok (.iload 4, 2) := by decide +kernel
theorem dX11_saysCondition_87 : decode cX11_saysCondition 87 = .ok (.iconst 1, 1) := by decide +kernel
theorem dX11_saysCondition_88 : decode cX11_saysCondition 88 = .ok (.isub, 1) := by decide +kernel
theorem dX11_saysCondition_89 : decode cX11_saysCondition 89 = .ok (.iaload, 1) := by decide +kernel
theorem dX11_saysCondition_90 : decode cX11_saysCondition 90 = .ok (.iconst 1, 1) := by decide +kernel
theorem dX11_saysCondition_91 : decode cX11_saysCondition 91 = .ok (.isub, 1) := by decide +kernel
theorem dX11_saysCondition_92 : decode cX11_saysCondition 92 = .ok (.iaload, 1) := by decide +kernel
theorem dX11_saysCondition_93 : decode cX11_saysCondition 93 = .ok (.iastore, 1) := by decide +kernel
theorem dX11_saysCondition_94 : decode cX11_saysCondition 94 = .ok (.iinc 4 1, 3) := by decide +kernel
theorem dX11_saysCondition_97 : decode cX11_saysCondition 97 = .ok (.goto (-74), 3) := by decide +kernel
theorem dX11_saysCondition_100 : decode cX11_saysCondition 100 = .ok (.aload_n 0, 1) := by decide +kernel
theorem dX11_saysCondition_101 : decode cX11_saysCondition 101 = .ok (.iconst 0, 1) := by decide +kernel
theorem dX11_saysCondition_102 : decode cX11_saysCondition 102 = .ok (.putfield 491, 3) := by decide +kernel
theorem dX11_saysCondition_105 : decode cX11_saysCondition 105 = .ok (.aload_n 0, 1) := by decide +kernel
theorem dX11_saysCondition_106 : decode cX11_saysCondition 106 = .ok (.iload_n 3, 1) := by decide +kernel
theorem dX11_saysCondition_107 : decode cX11_saysCondition 107 = .ok (.iconst 1, 1) := by decide +kernel
theorem dX11_saysCondition_108 : decode cX11_saysCondition 108 = .ok (.isub, 1) := by decide +kernel
theorem dX11_saysCondition_109 : decode cX11_saysCondition 109 = .ok (.iconst 0, 1) := by decide +kernel
theorem dX11_saysCondition_110 : decode cX11_saysCondition 110 = .ok (.invokevirtual 494, 3) := by decide +kernel
theorem dX11_saysCondition_113 : decode cX11_saysCondition 113 = .ok (.aload_n 0, 1) := by decide +kernel
theorem dX11_saysCondition_114 : decode cX11_saysCondition 114 = .ok (.getfield 491, 3) := by decide +kernel
theorem dX11_saysCondition_117 : decode cX11_saysCondition 117 = .ok (.ifCond .le 100, 3) := by decide +kernel
theorem dX11_saysCondition_120 : decode cX11_saysCondition 120 = .ok (.aload_n 0, 1) := by decide +kernel
theorem dX11_saysCondition_121 : decode cX11_saysCondition 121 = .ok (.dup, 1) := by decide +kernel
theorem dX11_saysCondition_122 : decode cX11_saysCondition 122 = .ok (.getfield 491, 3) := by decide +kernel
theorem dX11_saysCondition_125 : decode cX11_saysCondition 125 = .ok (.iconst 1, 1) := by decide +kernel
theorem dX11_saysCondition_126 : decode cX11_saysCondition 126 = .ok (.isub, 1) := by decide +kernel
theorem dX11_saysCondition_127 : decode cX11_saysCondition 127 = .ok (.putfield 491, 3) := by decide +kernel
theorem dX11_saysCondition_130 : decode cX11_saysCondition 130 = .ok (.aload_n 0, 1) := by decide +kernel
theorem dX11_saysCondition_131 : decode cX11_saysCondition 131 = .ok (.getfield 83, 3) := by decide +kernel
theorem dX11_saysCondition_134 : decode cX11_saysCondition 134 = .ok (.aload_n 0, 1) := by decide +kernel
theorem dX11_saysCondition_135 : decode cX11_saysCondition 135 = .ok (.getfield 491, 3) := by decide +kernel
theorem dX11_saysCondition_138 : decode cX11_saysCondition 138 = .ok (.iaload, 1) := by decide +kernel
theorem dX11_saysCondition_139 : decode cX11_saysCondition 139 = .ok (.istore 4, 2) := by decide +kernel
theorem dX11_saysCondition_141 : decode cX11_saysCondition 141 = .ok (.iload 4, 2) := by decide +kernel
theorem dX11_saysCondition_143 : decode cX11_saysCondition 143 = .ok (.ifCond .ge 47, 3) := by decide +kernel
theorem dX11_saysCondition_146 : decode cX11_saysCondition 146 = .ok (.aload_n 0, 1) := by decide +kernel
theorem dX11_saysCondition_147 : decode cX11_saysCondition 147 = .ok (.bipush 32, 2) := by decide +kernel
theorem dX11_saysCondition_149 : decode cX11_saysCondition 149 = .ok (.invokevirtual 468, 3) := by decide +kernel
theorem dX11_saysCondition_152 : decode cX11_saysCondition 152 = .ok (.iload 4, 2) := by decide +kernel
theorem dX11_saysCondition_154 : decode cX11_saysCondition 154 = .ok (.bipush (-3), 2) := by decide +kernel
theorem dX11_saysCondition_156 : decode cX11_saysCondition 156 = .ok (.if_icmp .ne 12, 3) := by decide +kernel
theorem dX11_saysCondition_159 : decode cX11_saysCondition 159 = .ok (.aload_n 0, 1) := by decide +kernel
theorem dX11_saysCondition_160 : decode cX11_saysCondition 160 = .ok (.bipush 41, 2) := by decide +kernel
theorem dX11_saysCondition_162 : decode cX11_saysCondition 162 = .ok (.invokevirtual 468, 3) := by decide +kernel
theorem dX11_saysCondition_165 : decode cX11_saysCondition 165 = .ok (.goto 49, 3) := by decide +kernel
theorem dX11_saysCondition_168 : decode cX11_saysCondition 168 = .ok (.aload_n 0, 1) := by decide +kernel
theorem dX11_saysCondition_169 : decode cX11_saysCondition 169 = .ok (.iload 4, 2) := by decide +kernel
theorem dX11_saysCondition_171 : decode cX11_saysCondition 171 = .ok (.iconst (-1), 1) := by decide +kernel
theorem dX11_saysCondition_172 : decode cX11_saysCondition 172 = .ok (.if_icmp .ne 9, 3) := by decide +kernel
theorem dX11_saysCondition_175 : decode cX11_saysCondition 175 = .ok (.ldc2_w 176, 3) := by decide +kernel
theorem dX11_saysCondition_178 : decode cX11_saysCondition 178 = .ok (.goto 6, 3) := by decide +kernel
theorem dX11_saysCondition_181 : decode cX11_saysCondition 181 = .ok (.ldc2_w 178, 3) := by decide +kernel
theorem dX11_saysCondition_184 : decode cX11_saysCondition 184 = .ok (.invokevirtual 474, 3) := by decide +kernel
theorem dX11_saysCondition_187 : decode cX11_saysCondition 187 = .ok (.goto 27, 3) := by decide +kernel
theorem dX11_saysCondition_190 : decode cX11_saysCondition 190 = .ok (.aload_n 0, 1) := by decide +kernel
theorem dX11_saysCondition_191 : decode cX11_saysCondition 191 = .ok (.aload_n 0, 1) := by decide +kernel
theorem dX11_saysCondition_192 : decode cX11_saysCondition 192 = .ok (.getfield 34, 3) := by decide +kernel
theorem dX11_saysCondition_195 : decode cX11_saysCondition 195 = .ok (.iload_n 2, 1) := by decide +kernel
theorem dX11_saysCondition_196 : decode cX11_saysCondition 196 = .ok (.iload 4, 2) := by decide +kernel
theorem dX11_saysCondition_198 : decode cX11_saysCondition 198 = .ok (.iadd, 1) := by decide +kernel
theorem dX11_saysCondition_199 : decode cX11_saysCondition 199 = .ok (.iaload, 1) := by decide +kernel
theorem dX11_saysCondition_200 : decode cX11_saysCondition 200 = .ok (.iload 4, 2) := by decide +kernel
theorem dX11_saysCondition_202 : decode cX11_saysCondition 202 = .ok (.aload_n 0, 1) := by decide +kernel
theorem dX11_saysCondition_203 : decode cX11_saysCondition 203 = .ok (.getfield 86, 3) := by decide +kernel
theorem dX11_saysCondition_206 : decode cX11_saysCondition 206 = .ok (.aload_n 0, 1) := by decide +kernel
theorem dX11_saysCondition_207 : decode cX11_saysCondition 207 = .ok (.getfield 491, 3) := by decide +kernel
theorem dX11_saysCondition_210 : decode cX11_saysCondition 210 = .ok (.iaload, 1) := by decide +kernel
theorem dX11_saysCondition_211 : decode cX11_saysCondition 211 = .ok (.invokevirtual 497, 3) := by decide +kernel
theorem dX11_saysCondition_214 : decode cX11_saysCondition 214 = .ok (.goto (-101), 3) := by decide +kernel
theorem dX11_saysCondition_217 : decode cX11_saysCondition 217 = .ok (.return_, 1) := by decide +kernel
theorem dX11_saysPart_0 : decode cX11_saysPart 0 = .ok (.iload_n 1, 1) := by decide +kernel
theorem dX11_saysPart_1 : decode cX11_saysPart 1 = .ok (.invokestatic 134, 3) := by decide +kernel
theorem dX11_saysPart_4 : decode cX11_saysPart 4 = .ok (.istore 4, 2) := by decide +kernel
theorem dX11_saysPart_6 : decode cX11_saysPart 6 = .ok (.iload 4, 2) := by decide +kernel
theorem dX11_saysPart_8 : decode cX11_saysPart 8 = .ok (.ifCond .ne 9, 3) := by decide +kernel
theorem dX11_saysPart_11 : decode cX11_saysPart 11 = .ok (.aload_n 0, 1) := by decide +kernel
theorem dX11_saysPart_12 : decode cX11_saysPart 12 = .ok (.iload_n 1, 1) := by decide +kernel
theorem dX11_saysPart_13 : decode cX11_saysPart 13 = .ok (.invokevirtual 500, 3) := by decide +kernel
theorem dX11_saysPart_16 : decode cX11_saysPart 16 = .ok (.return_, 1) := by decide +kernel
theorem dX11_saysPart_17 : decode cX11_saysPart 17 = .ok (.iload 4, 2) := by decide +kernel
theorem dX11_saysPart_19 : decode cX11_saysPart 19 = .ok (.iconst 3, 1) := by decide +kernel
theorem dX11_saysPart_20 : decode cX11_saysPart 20 = .ok (.if_icmp .ne 25, 3) := by decide +kernel
theorem dX11_saysPart_23 : decode cX11_saysPart 23 = .ok (.aload_n 0, 1) := by decide +kernel
theorem dX11_saysPart_24 : decode cX11_saysPart 24 = .ok (.bipush 32, 2) := by decide +kernel
theorem dX11_saysPart_26 : decode cX11_saysPart 26 = .ok (.invokevirtual 468, 3) := by decide +kernel
theorem dX11_saysPart_29 : decode cX11_saysPart 29 = .ok (.aload_n 0, 1) := by decide +kernel
theorem dX11_saysPart_30 : decode cX11_saysPart 30 = .ok (.ldc2_w 180, 3) := by decide +kernel
theorem dX11_saysPart_33 : decode cX11_saysPart 33 = .ok (.invokevirtual 474, 3) := by decide +kernel
theorem dX11_saysPart_36 : decode cX11_saysPart 36 = .ok (.aload_n 0, 1) := by decide +kernel
theorem dX11_saysPart_37 : decode cX11_saysPart 37 = .ok (.iload_n 2, 1) := by decide +kernel
theorem dX11_saysPart_38 : decode cX11_saysPart 38 = .ok (.iconst 1, 1) := by decide +kernel
theorem dX11_saysPart_39 : decode cX11_saysPart 39 = .ok (.isub, 1) := by decide +kernel
theorem dX11_saysPart_40 : decode cX11_saysPart 40 = .ok (.iconst 2, 1) := by decide +kernel
theorem dX11_saysPart_41 : decode cX11_saysPart 41 = .ok (.invokevirtual 494, 3) := by decide +kernel
theorem dX11_saysPart_44 : decode cX11_saysPart 44 = .ok (.return_, 1) := by decide +kernel
theorem dX11_saysPart_45 : decode cX11_saysPart 45 = .ok (.iload_n 3, 1) := by decide +kernel
theorem dX11_saysPart_46 : decode cX11_saysPart 46 = .ok (.iconst 2, 1) := by decide +kernel
theorem dX11_saysPart_47 : decode cX11_saysPart 47 = .ok (.if_icmp .eq 14, 3) := by decide +kernel
theorem dX11_saysPart_50 : decode cX11_saysPart 50 = .ok (.iload 4, 2) := by decide +kernel
theorem dX11_saysPart_52 : decode cX11_saysPart 52 = .ok (.iconst 2, 1) := by decide +kernel
theorem dX11_saysPart_53 : decode cX11_saysPart 53 = .ok (.if_icmp .ne 12, 3) := by decide +kernel
theorem dX11_saysPart_56 : decode cX11_saysPart 56 = .ok (.iload_n 3, 1) := by decide +kernel
theorem dX11_saysPart_57 : decode cX11_saysPart 57 = .ok (.iconst 1, 1) := by decide +kernel
theorem dX11_saysPart_58 : decode cX11_saysPart 58 = .ok (.if_icmp .ne 7, 3) := by decide +kernel
theorem dX11_saysPart_61 : decode cX11_saysPart 61 = .ok (.iconst 1, 1) := by decide +kernel
theorem dX11_saysPart_62 : decode cX11_saysPart 62 = .ok (.goto 4, 3) := by decide +kernel
theorem dX11_saysPart_65 : decode cX11_saysPart 65 = .ok (.iconst 0, 1) := by decide +kernel
theorem dX11_saysPart_66 : decode cX11_saysPart 66 = .ok (.istore 5, 2) := by decide +kernel
theorem dX11_saysPart_68 : decode cX11_saysPart 68 = .ok (.iload 4, 2) := by decide +kernel
theorem dX11_saysPart_70 : decode cX11_saysPart 70 = .ok (.iconst 1, 1) := by decide +kernel
theorem dX11_saysPart_71 : decode cX11_saysPart 71 = .ok (.if_icmp .ne 7, 3) := by decide +kernel
theorem dX11_saysPart_74 : decode cX11_saysPart 74 = .ok (.iconst 1, 1) := by decide +kernel
theorem dX11_saysPart_75 : decode cX11_saysPart 75 = .ok (.goto 4, 3) := by decide +kernel
theorem dX11_saysPart_78 : decode cX11_saysPart 78 = .ok (.iconst 0, 1) := by decide +kernel
theorem dX11_saysPart_79 : decode cX11_saysPart 79 = .ok (.istore 6, 2) := by decide +kernel
theorem dX11_saysPart_81 : decode cX11_saysPart 81 = .ok (.iload 5, 2) := by decide +kernel
theorem dX11_saysPart_83 : decode cX11_saysPart 83 = .ok (.ifCond .eq 22, 3) := by decide +kernel
theorem dX11_saysPart_86 : decode cX11_saysPart 86 = .ok (.aload_n 0, 1) := by decide +kernel
theorem dX11_saysPart_87 : decode cX11_saysPart 87 = .ok (.bipush 32, 2) := by decide +kernel
theorem dX11_saysPart_89 : decode cX11_saysPart 89 = .ok (.invokevirtual 468, 3) := by decide +kernel
theorem dX11_saysPart_92 : decode cX11_saysPart 92 = .ok (.aload_n 0, 1) := by decide +kernel
theorem dX11_saysPart_93 : decode cX11_saysPart 93 = .ok (.bipush 40, 2) := by decide +kernel
theorem dX11_saysPart_95 : decode cX11_saysPart 95 = .ok (.invokevirtual 468, 3) := by decide +kernel
theorem dX11_saysPart_98 : decode cX11_saysPart 98 = .ok (.aload_n 0, 1) := by decide +kernel
theorem dX11_saysPart_99 : decode cX11_saysPart 99 = .ok (.bipush (-3), 2) := by decide +kernel
theorem dX11_saysPart_101 : decode cX11_saysPart 101 = .ok (.iconst 0, 1) := by decide +kernel
theorem dX11_saysPart_102 : decode cX11_saysPart 102 = .ok (.invokevirtual 494, 3) := by decide +kernel
theorem dX11_saysPart_105 : decode cX11_saysPart 105 = .ok (.aload_n 0, 1) := by decide +kernel
theorem dX11_saysPart_106 : decode cX11_saysPart 106 = .ok (.iload_n 2, 1) := by decide +kernel
theorem dX11_saysPart_107 : decode cX11_saysPart 107 = .ok (.iconst 1, 1) := by decide +kernel
theorem dX11_saysPart_108 : decode cX11_saysPart 108 = .ok (.isub, 1) := by decide +kernel
theorem dX11_saysPart_109 : decode cX11_saysPart 109 = .ok (.iload 6, 2) := by decide +kernel
theorem dX11_saysPart_111 : decode cX11_saysPart 111 = .ok (.invokevirtual 494, 3) := by decide +kernel
theorem dX11_saysPart_114 : decode cX11_saysPart 114 = .ok (.aload_n 0, 1) := by decide +kernel
theorem dX11_saysPart_115 : decode cX11_saysPart 115 = .ok (.iload 4, 2) := by decide +kernel
theorem dX11_saysPart_117 : decode cX11_saysPart 117 = .ok (.iconst 1, 1) := by decide +kernel
theorem dX11_saysPart_118 : decode cX11_saysPart 118 = .ok (.if_icmp .ne 8, 3) := by decide +kernel
theorem dX11_saysPart_121 : decode cX11_saysPart 121 = .ok (.bipush (-2), 2) := by decide +kernel
theorem dX11_saysPart_123 : decode cX11_saysPart 123 = .ok (.goto 4, 3) := by decide +kernel
theorem dX11_saysPart_126 : decode cX11_saysPart 126 = .ok (.iconst (-1), 1) := by decide +kernel
theorem dX11_saysPart_127 : decode cX11_saysPart 127 = .ok (.iconst 0, 1) := by decide +kernel
theorem dX11_saysPart_128 : decode cX11_saysPart 128 = .ok (.invokevirtual 494, 3) := by decide +kernel
theorem dX11_saysPart_131 : decode cX11_saysPart 131 = .ok (.aload_n 0, 1) := by decide +kernel
theorem dX11_saysPart_132 : decode cX11_saysPart 132 = .ok (.aload_n 0, 1) := by decide +kernel
theorem dX11_saysPart_133 : decode cX11_saysPart 133 = .ok (.getfield 80, 3) := by decide +kernel
theorem dX11_saysPart_136 : decode cX11_saysPart 136 = .ok (.iload_n 2, 1) := by decide +kernel
theorem dX11_saysPart_137 : decode cX11_saysPart 137 = .ok (.iconst 1, 1) := by decide +kernel
theorem dX11_saysPart_138 : decode cX11_saysPart 138 = .ok (.isub, 1) := by decide +kernel
theorem dX11_saysPart_139 : decode cX11_saysPart 139 = .ok (.iaload, 1) := by decide +kernel
theorem dX11_saysPart_140 : decode cX11_saysPart 140 = .ok (.iconst 1, 1) := by decide +kernel
theorem dX11_saysPart_141 : decode cX11_saysPart 141 = .ok (.isub, 1) := by decide +kernel
theorem dX11_saysPart_142 : decode cX11_saysPart 142 = .ok (.iload 6, 2) := by decide +kernel
theorem dX11_saysPart_144 : decode cX11_saysPart 144 = .ok (.invokevirtual 494, 3) := by decide +kernel
theorem dX11_saysPart_147 : decode cX11_saysPart 147 = .ok (.return_, 1) := by decide +kernel
theorem dX11_saysTest_0 : decode cX11_saysTest 0 = .ok (.aload_n 0, 1) := by decide +kernel
theorem dX11_saysTest_1 : decode cX11_saysTest 1 = .ok (.bipush 32, 2) := by decide +kernel
theorem dX11_saysTest_3 : decode cX11_saysTest 3 = .ok (.invokevirtual 468, 3) := by decide +kernel
theorem dX11_saysTest_6 : decode cX11_saysTest 6 = .ok (.aload_n 0, 1) := by decide +kernel
theorem dX11_saysTest_7 : decode cX11_saysTest 7 = .ok (.aload_n 0, 1) := by decide +kernel
theorem dX11_saysTest_8 : decode cX11_saysTest 8 = .ok (.getfield 24, 3) := by decide +kernel
theorem dX11_saysTest_11 : decode cX11_saysTest 11 = .ok (.bipush 32, 2) := by decide +kernel
theorem dX11_saysTest_13 : decode cX11_saysTest 13 = .ok (.iload_n 1, 1) := by decide +kernel
theorem dX11_saysTest_14 : decode cX11_saysTest 14 = .ok (.invokestatic 137, 3) := by decide +kernel
theorem dX11_saysTest_17 : decode cX11_saysTest 17 = .ok (.iadd, 1) := by decide +kernel
theorem dX11_saysTest_18 : decode cX11_saysTest 18 = .ok (.laload, 1) := by decide +kernel
theorem dX11_saysTest_19 : decode cX11_saysTest 19 = .ok (.invokevirtual 474, 3) := by decide +kernel
theorem dX11_saysTest_22 : decode cX11_saysTest 22 = .ok (.iload_n 1, 1) := by decide +kernel
theorem dX11_saysTest_23 : decode cX11_saysTest 23 = .ok (.iconst 3, 1) := by decide +kernel
theorem dX11_saysTest_24 : decode cX11_saysTest 24 = .ok (.ishr, 1) := by decide +kernel
theorem dX11_saysTest_25 : decode cX11_saysTest 25 = .ok (.iconst 3, 1) := by decide +kernel
theorem dX11_saysTest_26 : decode cX11_saysTest 26 = .ok (.iand, 1) := by decide +kernel
theorem dX11_saysTest_27 : decode cX11_saysTest 27 = .ok (.istore_n 2, 1) := by decide +kernel
theorem dX11_saysTest_28 : decode cX11_saysTest 28 = .ok (.iload_n 2, 1) := by decide +kernel
theorem dX11_saysTest_29 : decode cX11_saysTest 29 = .ok (.ifCond .eq 49, 3) := by decide +kernel
theorem dX11_saysTest_32 : decode cX11_saysTest 32 = .ok (.aload_n 0, 1) := by decide +kernel
theorem dX11_saysTest_33 : decode cX11_saysTest 33 = .ok (.bipush 32, 2) := by decide +kernel
theorem dX11_saysTest_35 : decode cX11_saysTest 35 = .ok (.invokevirtual 468, 3) := by decide +kernel
theorem dX11_saysTest_38 : decode cX11_saysTest 38 = .ok (.aload_n 0, 1) := by decide +kernel
theorem dX11_saysTest_39 : decode cX11_saysTest 39 = .ok (.iload_n 2, 1) := by decide +kernel
theorem dX11_saysTest_40 : decode cX11_saysTest 40 = .ok (.iconst 1, 1) := by decide +kernel
theorem dX11_saysTest_41 : decode cX11_saysTest 41 = .ok (.if_icmp .ne 8, 3) := by decide +kernel
theorem dX11_saysTest_44 : decode cX11_saysTest 44 = .ok (.bipush 61, 2) := by decide +kernel
theorem dX11_saysTest_46 : decode cX11_saysTest 46 = .ok (.goto 15, 3) := by decide +kernel
theorem dX11_saysTest_49 : decode cX11_saysTest 49 = .ok (.iload_n 2, 1) := by decide +kernel
theorem dX11_saysTest_50 : decode cX11_saysTest 50 = .ok (.iconst 2, 1) := by decide +kernel
theorem dX11_saysTest_51 : decode cX11_saysTest 51 = .ok (.if_icmp .ne 8, 3) := by decide +kernel
theorem dX11_saysTest_54 : decode cX11_saysTest 54 = .ok (.bipush 60, 2) := by decide +kernel
theorem dX11_saysTest_56 : decode cX11_saysTest 56 = .ok (.goto 5, 3) := by decide +kernel
theorem dX11_saysTest_59 : decode cX11_saysTest 59 = .ok (.bipush 62, 2) := by decide +kernel
theorem dX11_saysTest_61 : decode cX11_saysTest 61 = .ok (.invokevirtual 468, 3) := by decide +kernel
theorem dX11_saysTest_64 : decode cX11_saysTest 64 = .ok (.aload_n 0, 1) := by decide +kernel
theorem dX11_saysTest_65 : decode cX11_saysTest 65 = .ok (.bipush 32, 2) := by decide +kernel
theorem dX11_saysTest_67 : decode cX11_saysTest 67 = .ok (.invokevirtual 468, 3) := by decide +kernel
theorem dX11_saysTest_70 : decode cX11_saysTest 70 = .ok (.aload_n 0, 1) := by decide +kernel
theorem dX11_saysTest_71 : decode cX11_saysTest 71 = .ok (.iload_n 1, 1) := by decide +kernel
theorem dX11_saysTest_72 : decode cX11_saysTest 72 = .ok (.bipush 10, 2) := by decide +kernel
theorem dX11_saysTest_74 : decode cX11_saysTest 74 = .ok (.ishr, 1) := by decide +kernel
theorem dX11_saysTest_75 : decode cX11_saysTest 75 = .ok (.invokevirtual 478, 3) := by decide +kernel
theorem dX11_saysTest_78 : decode cX11_saysTest 78 = .ok (.return_, 1) := by decide +kernel
theorem dX11_saysBoth_0 : decode cX11_saysBoth 0 = .ok (.aload_n 0, 1) := by decide +kernel
theorem dX11_saysBoth_1 : decode cX11_saysBoth 1 = .ok (.lload_n 1, 1) := by decide +kernel
theorem dX11_saysBoth_2 : decode cX11_saysBoth 2 = .ok (.invokevirtual 474, 3) := by decide +kernel
theorem dX11_saysBoth_5 : decode cX11_saysBoth 5 = .ok (.aload_n 0, 1) := by decide +kernel
theorem dX11_saysBoth_6 : decode cX11_saysBoth 6 = .ok (.bipush 32, 2) := by decide +kernel
theorem dX11_saysBoth_8 : decode cX11_saysBoth 8 = .ok (.invokevirtual 468, 3) := by decide +kernel
theorem dX11_saysBoth_11 : decode cX11_saysBoth 11 = .ok (.aload_n 0, 1) := by decide +kernel
theorem dX11_saysBoth_12 : decode cX11_saysBoth 12 = .ok (.iload_n 3, 1) := by decide +kernel
theorem dX11_saysBoth_13 : decode cX11_saysBoth 13 = .ok (.invokevirtual 478, 3) := by decide +kernel
theorem dX11_saysBoth_16 : decode cX11_saysBoth 16 = .ok (.return_, 1) := by decide +kernel
theorem dX11_saysIf_0 : decode cX11_saysIf 0 = .ok (.aload_n 0, 1) := by decide +kernel
theorem dX11_saysIf_1 : decode cX11_saysIf 1 = .ok (.iconst 0, 1) := by decide +kernel
theorem dX11_saysIf_2 : decode cX11_saysIf 2 = .ok (.sipush 224, 3) := by decide +kernel
theorem dX11_saysIf_5 : decode cX11_saysIf 5 = .ok (.iload_n 1, 1) := by decide +kernel
theorem dX11_saysIf_6 : decode cX11_saysIf 6 = .ok (.invokevirtual 110, 3) := by decide +kernel
theorem dX11_saysIf_9 : decode cX11_saysIf 9 = .ok (.ifCond .le 21, 3) := by decide +kernel
theorem dX11_saysIf_12 : decode cX11_saysIf 12 = .ok (.aload_n 0, 1) := by decide +kernel
theorem dX11_saysIf_13 : decode cX11_saysIf 13 = .ok (.bipush 32, 2) := by decide +kernel
theorem dX11_saysIf_15 : decode cX11_saysIf 15 = .ok (.invokevirtual 468, 3) := by decide +kernel
theorem dX11_saysIf_18 : decode cX11_saysIf 18 = .ok (.aload_n 0, 1) := by decide +kernel
theorem dX11_saysIf_19 : decode cX11_saysIf 19 = .ok (.ldc2_w 166, 3) := by decide +kernel
theorem dX11_saysIf_22 : decode cX11_saysIf 22 = .ok (.invokevirtual 474, 3) := by decide +kernel
theorem dX11_saysIf_25 : decode cX11_saysIf 25 = .ok (.aload_n 0, 1) := by decide +kernel
theorem dX11_saysIf_26 : decode cX11_saysIf 26 = .ok (.iload_n 1, 1) := by decide +kernel
theorem dX11_saysIf_27 : decode cX11_saysIf 27 = .ok (.invokevirtual 503, 3) := by decide +kernel
theorem dX11_saysIf_30 : decode cX11_saysIf 30 = .ok (.return_, 1) := by decide +kernel
theorem dX11_saysField_0 : decode cX11_saysField 0 = .ok (.aload_n 0, 1) := by decide +kernel
theorem dX11_saysField_1 : decode cX11_saysField 1 = .ok (.iconst 0, 1) := by decide +kernel
theorem dX11_saysField_2 : decode cX11_saysField 2 = .ok (.bipush 64, 2) := by decide +kernel
theorem dX11_saysField_4 : decode cX11_saysField 4 = .ok (.iload_n 1, 1) := by decide +kernel
theorem dX11_saysField_5 : decode cX11_saysField 5 = .ok (.invokevirtual 110, 3) := by decide +kernel
theorem dX11_saysField_8 : decode cX11_saysField 8 = .ok (.istore_n 2, 1) := by decide +kernel
theorem dX11_saysField_9 : decode cX11_saysField 9 = .ok (.iload_n 2, 1) := by decide +kernel
theorem dX11_saysField_10 : decode cX11_saysField 10 = .ok (.ifCond .ne 40, 3) := by decide +kernel
theorem dX11_saysField_13 : decode cX11_saysField 13 = .ok (.aload_n 0, 1) := by decide +kernel
theorem dX11_saysField_14 : decode cX11_saysField 14 = .ok (.ldc2_w 170, 3) := by decide +kernel
theorem dX11_saysField_17 : decode cX11_saysField 17 = .ok (.aload_n 0, 1) := by decide +kernel
theorem dX11_saysField_18 : decode cX11_saysField 18 = .ok (.iconst 0, 1) := by decide +kernel
theorem dX11_saysField_19 : decode cX11_saysField 19 = .ok (.bipush 96, 2) := by decide +kernel
theorem dX11_saysField_21 : decode cX11_saysField 21 = .ok (.iload_n 1, 1) := by decide +kernel
theorem dX11_saysField_22 : decode cX11_saysField 22 = .ok (.invokevirtual 110, 3) := by decide +kernel
theorem dX11_saysField_25 : decode cX11_saysField 25 = .ok (.invokevirtual 506, 3) := by decide +kernel
theorem dX11_saysField_28 : decode cX11_saysField 28 = .ok (.aload_n 0, 1) := by decide +kernel
theorem dX11_saysField_29 : decode cX11_saysField 29 = .ok (.bipush 32, 2) := by decide +kernel
theorem dX11_saysField_31 : decode cX11_saysField 31 = .ok (.invokevirtual 468, 3) := by decide +kernel
theorem dX11_saysField_34 : decode cX11_saysField 34 = .ok (.aload_n 0, 1) := by decide +kernel
theorem dX11_saysField_35 : decode cX11_saysField 35 = .ok (.aload_n 0, 1) := by decide +kernel
theorem dX11_saysField_36 : decode cX11_saysField 36 = .ok (.iconst 0, 1) := by decide +kernel
theorem dX11_saysField_37 : decode cX11_saysField 37 = .ok (.sipush 128, 3) := by decide +kernel
theorem dX11_saysField_40 : decode cX11_saysField 40 = .ok (.iload_n 1, 1) := by decide +kernel
theorem dX11_saysField_41 : decode cX11_saysField 41 = .ok (.invokevirtual 110, 3) := by decide +kernel
theorem dX11_saysField_44 : decode cX11_saysField 44 = .ok (.invokevirtual 478, 3) := by decide +kernel
theorem dX11_saysField_47 : decode cX11_saysField 47 = .ok (.goto 36, 3) := by decide +kernel
theorem dX11_saysField_50 : decode cX11_saysField 50 = .ok (.iload_n 2, 1) := by decide +kernel
theorem dX11_saysField_51 : decode cX11_saysField 51 = .ok (.iconst 1, 1) := by decide +kernel
theorem dX11_saysField_52 : decode cX11_saysField 52 = .ok (.if_icmp .ne 24, 3) := by decide +kernel
theorem dX11_saysField_55 : decode cX11_saysField 55 = .ok (.aload_n 0, 1) := by decide +kernel
theorem dX11_saysField_56 : decode cX11_saysField 56 = .ok (.ldc2_w 172, 3) := by decide +kernel
theorem dX11_saysField_59 : decode cX11_saysField 59 = .ok (.aload_n 0, 1) := by decide +kernel
theorem dX11_saysField_60 : decode cX11_saysField 60 = .ok (.iconst 0, 1) := by decide +kernel
theorem dX11_saysField_61 : decode cX11_saysField 61 = .ok (.sipush 128, 3) := by decide +kernel
theorem dX11_saysField_64 : decode cX11_saysField 64 = .ok (.iload_n 1, 1) := by decide +kernel
theorem dX11_saysField_65 : decode cX11_saysField 65 = .ok (.invokevirtual 110, 3) := by decide +kernel
theorem dX11_saysField_68 : decode cX11_saysField 68 = .ok (.iconst 1, 1) := by decide +kernel
theorem dX11_saysField_69 : decode cX11_saysField 69 = .ok (.iadd, 1) := by decide +kernel
theorem dX11_saysField_70 : decode cX11_saysField 70 = .ok (.invokevirtual 506, 3) := by decide +kernel
theorem dX11_saysField_73 : decode cX11_saysField 73 = .ok (.goto 10, 3) := by decide +kernel
theorem dX11_saysField_76 : decode cX11_saysField 76 = .ok (.aload_n 0, 1) := by decide +kernel
theorem dX11_saysField_77 : decode cX11_saysField 77 = .ok (.ldc2_w 174, 3) := by decide +kernel
theorem dX11_saysField_80 : decode cX11_saysField 80 = .ok (.invokevirtual 474, 3) := by decide +kernel
theorem dX11_saysField_83 : decode cX11_saysField 83 = .ok (.aload_n 0, 1) := by decide +kernel
theorem dX11_saysField_84 : decode cX11_saysField 84 = .ok (.bipush 32, 2) := by decide +kernel
theorem dX11_saysField_86 : decode cX11_saysField 86 = .ok (.invokevirtual 468, 3) := by decide +kernel
theorem dX11_saysField_89 : decode cX11_saysField 89 = .ok (.aload_n 0, 1) := by decide +kernel
theorem dX11_saysField_90 : decode cX11_saysField 90 = .ok (.aload_n 0, 1) := by decide +kernel
theorem dX11_saysField_91 : decode cX11_saysField 91 = .ok (.getfield 24, 3) := by decide +kernel
theorem dX11_saysField_94 : decode cX11_saysField 94 = .ok (.bipush 32, 2) := by decide +kernel
theorem dX11_saysField_96 : decode cX11_saysField 96 = .ok (.iload_n 1, 1) := by decide +kernel
theorem dX11_saysField_97 : decode cX11_saysField 97 = .ok (.iadd, 1) := by decide +kernel
theorem dX11_saysField_98 : decode cX11_saysField 98 = .ok (.laload, 1) := by decide +kernel
theorem dX11_saysField_99 : decode cX11_saysField 99 = .ok (.invokevirtual 474, 3) := by decide +kernel
theorem dX11_saysField_102 : decode cX11_saysField 102 = .ok (.aload_n 0, 1) := by decide +kernel
theorem dX11_saysField_103 : decode cX11_saysField 103 = .ok (.bipush 32, 2) := by decide +kernel
theorem dX11_saysField_105 : decode cX11_saysField 105 = .ok (.invokevirtual 468, 3) := by decide +kernel
theorem dX11_saysField_108 : decode cX11_saysField 108 = .ok (.aload_n 0, 1) := by decide +kernel
theorem dX11_saysField_109 : decode cX11_saysField 109 = .ok (.ldc2_w 168, 3) := by decide +kernel
theorem dX11_saysField_112 : decode cX11_saysField 112 = .ok (.aload_n 0, 1) := by decide +kernel
theorem dX11_saysField_113 : decode cX11_saysField 113 = .ok (.iconst 0, 1) := by decide +kernel
theorem dX11_saysField_114 : decode cX11_saysField 114 = .ok (.sipush 160, 3) := by decide +kernel
theorem dX11_saysField_117 : decode cX11_saysField 117 = .ok (.iload_n 1, 1) := by decide +kernel
theorem dX11_saysField_118 : decode cX11_saysField 118 = .ok (.invokevirtual 110, 3) := by decide +kernel
theorem dX11_saysField_121 : decode cX11_saysField 121 = .ok (.invokevirtual 506, 3) := by decide +kernel
theorem dX11_saysField_124 : decode cX11_saysField 124 = .ok (.aload_n 0, 1) := by decide +kernel
theorem dX11_saysField_125 : decode cX11_saysField 125 = .ok (.iload_n 1, 1) := by decide +kernel
theorem dX11_saysField_126 : decode cX11_saysField 126 = .ok (.invokevirtual 510, 3) := by decide +kernel
theorem dX11_saysField_129 : decode cX11_saysField 129 = .ok (.aload_n 0, 1) := by decide +kernel
theorem dX11_saysField_130 : decode cX11_saysField 130 = .ok (.bipush 59, 2) := by decide +kernel
theorem dX11_saysField_132 : decode cX11_saysField 132 = .ok (.invokevirtual 468, 3) := by decide +kernel
theorem dX11_saysField_135 : decode cX11_saysField 135 = .ok (.return_, 1) := by decide +kernel
theorem dX11_saysSetup_0 : decode cX11_saysSetup 0 = .ok (.aload_n 0, 1) := by decide +kernel
theorem dX11_saysSetup_1 : decode cX11_saysSetup 1 = .ok (.iload_n 1, 1) := by decide +kernel
theorem dX11_saysSetup_2 : decode cX11_saysSetup 2 = .ok (.invokevirtual 481, 3) := by decide +kernel
theorem dX11_saysSetup_5 : decode cX11_saysSetup 5 = .ok (.aload_n 0, 1) := by decide +kernel
theorem dX11_saysSetup_6 : decode cX11_saysSetup 6 = .ok (.ldc2_w 162, 3) := by decide +kernel
theorem dX11_saysSetup_9 : decode cX11_saysSetup 9 = .ok (.aload_n 0, 1) := by decide +kernel
theorem dX11_saysSetup_10 : decode cX11_saysSetup 10 = .ok (.getfield 17, 3) := by decide +kernel
theorem dX11_saysSetup_13 : decode cX11_saysSetup 13 = .ok (.iconst 0, 1) := by decide +kernel
theorem dX11_saysSetup_14 : decode cX11_saysSetup 14 = .ok (.iaload, 1) := by decide +kernel
theorem dX11_saysSetup_15 : decode cX11_saysSetup 15 = .ok (.invokevirtual 506, 3) := by decide +kernel
theorem dX11_saysSetup_18 : decode cX11_saysSetup 18 = .ok (.aload_n 0, 1) := by decide +kernel
theorem dX11_saysSetup_19 : decode cX11_saysSetup 19 = .ok (.bipush 32, 2) := by decide +kernel
theorem dX11_saysSetup_21 : decode cX11_saysSetup 21 = .ok (.invokevirtual 468, 3) := by decide +kernel
theorem dX11_saysSetup_24 : decode cX11_saysSetup 24 = .ok (.aload_n 0, 1) := by decide +kernel
theorem dX11_saysSetup_25 : decode cX11_saysSetup 25 = .ok (.aload_n 0, 1) := by decide +kernel
theorem dX11_saysSetup_26 : decode cX11_saysSetup 26 = .ok (.getfield 17, 3) := by decide +kernel
theorem dX11_saysSetup_29 : decode cX11_saysSetup 29 = .ok (.iconst 1, 1) := by decide +kernel
theorem dX11_saysSetup_30 : decode cX11_saysSetup 30 = .ok (.iaload, 1) := by decide +kernel
theorem dX11_saysSetup_31 : decode cX11_saysSetup 31 = .ok (.invokevirtual 478, 3) := by decide +kernel
theorem dX11_saysSetup_34 : decode cX11_saysSetup 34 = .ok (.aload_n 0, 1) := by decide +kernel
theorem dX11_saysSetup_35 : decode cX11_saysSetup 35 = .ok (.bipush 32, 2) := by decide +kernel
theorem dX11_saysSetup_37 : decode cX11_saysSetup 37 = .ok (.invokevirtual 468, 3) := by decide +kernel
theorem dX11_saysSetup_40 : decode cX11_saysSetup 40 = .ok (.aload_n 0, 1) := by decide +kernel
theorem dX11_saysSetup_41 : decode cX11_saysSetup 41 = .ok (.aload_n 0, 1) := by decide +kernel
theorem dX11_saysSetup_42 : decode cX11_saysSetup 42 = .ok (.getfield 17, 3) := by decide +kernel
theorem dX11_saysSetup_45 : decode cX11_saysSetup 45 = .ok (.iconst 2, 1) := by decide +kernel
theorem dX11_saysSetup_46 : decode cX11_saysSetup 46 = .ok (.iaload, 1) := by decide +kernel
theorem dX11_saysSetup_47 : decode cX11_saysSetup 47 = .ok (.invokevirtual 478, 3) := by decide +kernel
theorem dX11_saysSetup_50 : decode cX11_saysSetup 50 = .ok (.aload_n 0, 1) := by decide +kernel
theorem dX11_saysSetup_51 : decode cX11_saysSetup 51 = .ok (.bipush 59, 2) := by decide +kernel
theorem dX11_saysSetup_53 : decode cX11_saysSetup 53 = .ok (.invokevirtual 468, 3) := by decide +kernel
theorem dX11_saysSetup_56 : decode cX11_saysSetup 56 = .ok (.iconst 0, 1) := by decide +kernel
theorem dX11_saysSetup_57 : decode cX11_saysSetup 57 = .ok (.istore_n 2, 1) := by decide +kernel
theorem dX11_saysSetup_58 : decode cX11_saysSetup 58 = .ok (.iconst 0, 1) := by decide +kernel
theorem dX11_saysSetup_59 : decode cX11_saysSetup 59 = .ok (.istore_n 3, 1) := by decide +kernel
theorem dX11_saysSetup_60 : decode cX11_saysSetup 60 = .ok (.iload_n 3, 1) := by decide +kernel
theorem dX11_saysSetup_61 : decode cX11_saysSetup 61 = .ok (.aload_n 0, 1) := by decide +kernel
theorem dX11_saysSetup_62 : decode cX11_saysSetup 62 = .ok (.iconst 0, 1) := by decide +kernel
theorem dX11_saysSetup_63 : decode cX11_saysSetup 63 = .ok (.invokevirtual 118, 3) := by decide +kernel
theorem dX11_saysSetup_66 : decode cX11_saysSetup 66 = .ok (.if_icmp .ge 99, 3) := by decide +kernel
theorem dX11_saysSetup_69 : decode cX11_saysSetup 69 = .ok (.aload_n 0, 1) := by decide +kernel
theorem dX11_saysSetup_70 : decode cX11_saysSetup 70 = .ok (.iconst 0, 1) := by decide +kernel
theorem dX11_saysSetup_71 : decode cX11_saysSetup 71 = .ok (.iload_n 3, 1) := by decide +kernel
theorem dX11_saysSetup_72 : decode cX11_saysSetup 72 = .ok (.invokevirtual 114, 3) := by decide +kernel
theorem dX11_saysSetup_75 : decode cX11_saysSetup 75 = .ok (.istore 4, 2) := by decide +kernel
theorem dX11_saysSetup_77 : decode cX11_saysSetup 77 = .ok (.iload_n 2, 1) := by decide +kernel
theorem dX11_saysSetup_78 : decode cX11_saysSetup 78 = .ok (.aload_n 0, 1) := by decide +kernel
theorem dX11_saysSetup_79 : decode cX11_saysSetup 79 = .ok (.iconst 0, 1) := by decide +kernel
theorem dX11_saysSetup_80 : decode cX11_saysSetup 80 = .ok (.iload 4, 2) := by decide +kernel
theorem dX11_saysSetup_82 : decode cX11_saysSetup 82 = .ok (.invokevirtual 128, 3) := by decide +kernel
theorem dX11_saysSetup_85 : decode cX11_saysSetup 85 = .ok (.if_icmp .le 15, 3) := by decide +kernel
theorem dX11_saysSetup_88 : decode cX11_saysSetup 88 = .ok (.iinc 2 (-1), 3) := by decide +kernel
theorem dX11_saysSetup_91 : decode cX11_saysSetup 91 = .ok (.aload_n 0, 1) := by decide +kernel
theorem dX11_saysSetup_92 : decode cX11_saysSetup 92 = .ok (.bipush 125, 2) := by decide +kernel
theorem dX11_saysSetup_94 : decode cX11_saysSetup 94 = .ok (.invokevirtual 468, 3) := by decide +kernel
theorem dX11_saysSetup_97 : decode cX11_saysSetup 97 = .ok (.goto (-20), 3) := by decide +kernel
theorem dX11_saysSetup_100 : decode cX11_saysSetup 100 = .ok (.iload 4, 2) := by decide +kernel
theorem dX11_saysSetup_102 : decode cX11_saysSetup 102 = .ok (.invokestatic 107, 3) := by decide +kernel
theorem dX11_saysSetup_105 : decode cX11_saysSetup 105 = .ok (.ifCond .eq 12, 3) := by decide +kernel
theorem dX11_saysSetup_108 : decode cX11_saysSetup 108 = .ok (.aload_n 0, 1) := by decide +kernel
theorem dX11_saysSetup_109 : decode cX11_saysSetup 109 = .ok (.iload 4, 2) := by decide +kernel
theorem dX11_saysSetup_111 : decode cX11_saysSetup 111 = .ok (.invokevirtual 513, 3) := by decide +kernel
theorem dX11_saysSetup_114 : decode cX11_saysSetup 114 = .ok (.goto 45, 3) := by decide +kernel
theorem dX11_saysSetup_117 : decode cX11_saysSetup 117 = .ok (.aload_n 0, 1) := by decide +kernel
theorem dX11_saysSetup_118 : decode cX11_saysSetup 118 = .ok (.ldc2_w 164, 3) := by decide +kernel
theorem dX11_saysSetup_121 : decode cX11_saysSetup 121 = .ok (.invokevirtual 474, 3) := by decide +kernel
theorem dX11_saysSetup_124 : decode cX11_saysSetup 124 = .ok (.aload_n 0, 1) := by decide +kernel
theorem dX11_saysSetup_125 : decode cX11_saysSetup 125 = .ok (.bipush 32, 2) := by decide +kernel
theorem dX11_saysSetup_127 : decode cX11_saysSetup 127 = .ok (.invokevirtual 468, 3) := by decide +kernel
theorem dX11_saysSetup_130 : decode cX11_saysSetup 130 = .ok (.aload_n 0, 1) := by decide +kernel
theorem dX11_saysSetup_131 : decode cX11_saysSetup 131 = .ok (.aload_n 0, 1) := by decide +kernel
theorem dX11_saysSetup_132 : decode cX11_saysSetup 132 = .ok (.getfield 24, 3) := by decide +kernel
theorem dX11_saysSetup_135 : decode cX11_saysSetup 135 = .ok (.bipush 32, 2) := by decide +kernel
theorem dX11_saysSetup_137 : decode cX11_saysSetup 137 = .ok (.iload 4, 2) := by decide +kernel
theorem dX11_saysSetup_139 : decode cX11_saysSetup 139 = .ok (.iadd, 1) := by decide +kernel
theorem dX11_saysSetup_140 : decode cX11_saysSetup 140 = .ok (.laload, 1) := by decide +kernel
theorem dX11_saysSetup_141 : decode cX11_saysSetup 141 = .ok (.invokevirtual 474, 3) := by decide +kernel
theorem dX11_saysSetup_144 : decode cX11_saysSetup 144 = .ok (.aload_n 0, 1) := by decide +kernel
theorem dX11_saysSetup_145 : decode cX11_saysSetup 145 = .ok (.iload 4, 2) := by decide +kernel
theorem dX11_saysSetup_147 : decode cX11_saysSetup 147 = .ok (.invokevirtual 510, 3) := by decide +kernel
theorem dX11_saysSetup_150 : decode cX11_saysSetup 150 = .ok (.aload_n 0, 1) := by decide +kernel
theorem dX11_saysSetup_151 : decode cX11_saysSetup 151 = .ok (.bipush 123, 2) := by decide +kernel
theorem dX11_saysSetup_153 : decode cX11_saysSetup 153 = .ok (.invokevirtual 468, 3) := by decide +kernel
theorem dX11_saysSetup_156 : decode cX11_saysSetup 156 = .ok (.iinc 2 1, 3) := by decide +kernel
theorem dX11_saysSetup_159 : decode cX11_saysSetup 159 = .ok (.iinc 3 1, 3) := by decide +kernel
theorem dX11_saysSetup_162 : decode cX11_saysSetup 162 = .ok (.goto (-102), 3) := by decide +kernel
theorem dX11_saysSetup_165 : decode cX11_saysSetup 165 = .ok (.iload_n 2, 1) := by decide +kernel
theorem dX11_saysSetup_166 : decode cX11_saysSetup 166 = .ok (.ifCond .le 15, 3) := by decide +kernel
theorem dX11_saysSetup_169 : decode cX11_saysSetup 169 = .ok (.iinc 2 (-1), 3) := by decide +kernel
theorem dX11_saysSetup_172 : decode cX11_saysSetup 172 = .ok (.aload_n 0, 1) := by decide +kernel
theorem dX11_saysSetup_173 : decode cX11_saysSetup 173 = .ok (.bipush 125, 2) := by decide +kernel
theorem dX11_saysSetup_175 : decode cX11_saysSetup 175 = .ok (.invokevirtual 468, 3) := by decide +kernel
theorem dX11_saysSetup_178 : decode cX11_saysSetup 178 = .ok (.goto (-13), 3) := by decide +kernel
theorem dX11_saysSetup_181 : decode cX11_saysSetup 181 = .ok (.return_, 1) := by decide +kernel
theorem dX11_setupLength_0 : decode cX11_setupLength 0 = .ok (.aload_n 0, 1) := by decide +kernel
theorem dX11_setupLength_1 : decode cX11_setupLength 1 = .ok (.iconst (-1), 1) := by decide +kernel
theorem dX11_setupLength_2 : decode cX11_setupLength 2 = .ok (.invokevirtual 516, 3) := by decide +kernel
theorem dX11_setupLength_5 : decode cX11_setupLength 5 = .ok (.aload_n 0, 1) := by decide +kernel
theorem dX11_setupLength_6 : decode cX11_setupLength 6 = .ok (.getfield 455, 3) := by decide +kernel
theorem dX11_setupLength_9 : decode cX11_setupLength 9 = .ok (.ireturn, 1) := by decide +kernel
theorem dX11_setupByte_0 : decode cX11_setupByte 0 = .ok (.iload_n 1, 1) := by decide +kernel
theorem dX11_setupByte_1 : decode cX11_setupByte 1 = .ok (.ifCond .ge 5, 3) := by decide +kernel
theorem dX11_setupByte_4 : decode cX11_setupByte 4 = .ok (.iconst (-1), 1) := by decide +kernel
theorem dX11_setupByte_5 : decode cX11_setupByte 5 = .ok (.ireturn, 1) := by decide +kernel
theorem dX11_setupByte_6 : decode cX11_setupByte 6 = .ok (.aload_n 0, 1) := by decide +kernel
theorem dX11_setupByte_7 : decode cX11_setupByte 7 = .ok (.iload_n 1, 1) := by decide +kernel
theorem dX11_setupByte_8 : decode cX11_setupByte 8 = .ok (.invokevirtual 516, 3) := by decide +kernel
theorem dX11_setupByte_11 : decode cX11_setupByte 11 = .ok (.aload_n 0, 1) := by decide +kernel
theorem dX11_setupByte_12 : decode cX11_setupByte 12 = .ok (.getfield 461, 3) := by decide +kernel
theorem dX11_setupByte_15 : decode cX11_setupByte 15 = .ok (.ireturn, 1) := by decide +kernel
theorem dX11_tapeLength_0 : decode cX11_tapeLength 0 = .ok (.aload_n 0, 1) := by decide +kernel
theorem dX11_tapeLength_1 : decode cX11_tapeLength 1 = .ok (.getfield 159, 3) := by decide +kernel
theorem dX11_tapeLength_4 : decode cX11_tapeLength 4 = .ok (.ireturn, 1) := by decide +kernel
