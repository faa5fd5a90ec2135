theorem dX10_init_0 : decode cX10_init 0 = .ok (.aload_n 0, 1) := by decide +kernel
theorem dX10_init_1 : decode cX10_init 1 = .ok (.invokespecial 1, 3) := by decide +kernel
theorem dX10_init_4 : decode cX10_init 4 = .ok (.aload_n 0, 1) := by decide +kernel
theorem dX10_init_5 : decode cX10_init 5 = .ok (.iconst 2, 1) := by decide +kernel
theorem dX10_init_6 : decode cX10_init 6 = .ok (.newarray .int, 2) := by decide +kernel
theorem dX10_init_8 : decode cX10_init 8 = .ok (.putfield 7, 3) := by decide +kernel
theorem dX10_init_11 : decode cX10_init 11 = .ok (.aload_n 0, 1) := by decide +kernel
theorem dX10_init_12 : decode cX10_init 12 = .ok (.bipush 62, 2) := by decide +kernel
theorem dX10_init_14 : decode cX10_init 14 = .ok (.newarray .int, 2) := by decide +kernel
theorem dX10_init_16 : decode cX10_init 16 = .ok (.putfield 13, 3) := by decide +kernel
theorem dX10_init_19 : decode cX10_init 19 = .ok (.aload_n 0, 1) := by decide +kernel
theorem dX10_init_20 : decode cX10_init 20 = .ok (.bipush 9, 2) := by decide +kernel
theorem dX10_init_22 : decode cX10_init 22 = .ok (.newarray .int, 2) := by decide +kernel
theorem dX10_init_24 : decode cX10_init 24 = .ok (.putfield 16, 3) := by decide +kernel
theorem dX10_init_27 : decode cX10_init 27 = .ok (.aload_n 0, 1) := by decide +kernel
theorem dX10_init_28 : decode cX10_init 28 = .ok (.bipush 9, 2) := by decide +kernel
theorem dX10_init_30 : decode cX10_init 30 = .ok (.newarray .int, 2) := by decide +kernel
theorem dX10_init_32 : decode cX10_init 32 = .ok (.putfield 19, 3) := by decide +kernel
theorem dX10_init_35 : decode cX10_init 35 = .ok (.aload_n 0, 1) := by decide +kernel
theorem dX10_init_36 : decode cX10_init 36 = .ok (.bipush 9, 2) := by decide +kernel
theorem dX10_init_38 : decode cX10_init 38 = .ok (.newarray .int, 2) := by decide +kernel
theorem dX10_init_40 : decode cX10_init 40 = .ok (.putfield 22, 3) := by decide +kernel
theorem dX10_init_43 : decode cX10_init 43 = .ok (.aload_n 0, 1) := by decide +kernel
theorem dX10_init_44 : decode cX10_init 44 = .ok (.bipush 20, 2) := by decide +kernel
theorem dX10_init_46 : decode cX10_init 46 = .ok (.newarray .int, 2) := by decide +kernel
theorem dX10_init_48 : decode cX10_init 48 = .ok (.putfield 25, 3) := by decide +kernel
theorem dX10_init_51 : decode cX10_init 51 = .ok (.aload_n 0, 1) := by decide +kernel
theorem dX10_init_52 : decode cX10_init 52 = .ok (.iconst 4, 1) := by decide +kernel
theorem dX10_init_53 : decode cX10_init 53 = .ok (.newarray .int, 2) := by decide +kernel
theorem dX10_init_55 : decode cX10_init 55 = .ok (.putfield 28, 3) := by decide +kernel
theorem dX10_init_58 : decode cX10_init 58 = .ok (.aload_n 0, 1) := by decide +kernel
theorem dX10_init_59 : decode cX10_init 59 = .ok (.bipush 6, 2) := by decide +kernel
theorem dX10_init_61 : decode cX10_init 61 = .ok (.newarray .int, 2) := by decide +kernel
theorem dX10_init_63 : decode cX10_init 63 = .ok (.putfield 31, 3) := by decide +kernel
theorem dX10_init_66 : decode cX10_init 66 = .ok (.aload_n 0, 1) := by decide +kernel
theorem dX10_init_67 : decode cX10_init 67 = .ok (.bipush 20, 2) := by decide +kernel
theorem dX10_init_69 : decode cX10_init 69 = .ok (.newarray .int, 2) := by decide +kernel
theorem dX10_init_71 : decode cX10_init 71 = .ok (.putfield 34, 3) := by decide +kernel
theorem dX10_init_74 : decode cX10_init 74 = .ok (.aload_n 0, 1) := by decide +kernel
theorem dX10_init_75 : decode cX10_init 75 = .ok (.bipush 8, 2) := by decide +kernel
theorem dX10_init_77 : decode cX10_init 77 = .ok (.newarray .int, 2) := by decide +kernel
theorem dX10_init_79 : decode cX10_init 79 = .ok (.putfield 37, 3) := by decide +kernel
theorem dX10_init_82 : decode cX10_init 82 = .ok (.aload_n 0, 1) := by decide +kernel
theorem dX10_init_83 : decode cX10_init 83 = .ok (.bipush 8, 2) := by decide +kernel
theorem dX10_init_85 : decode cX10_init 85 = .ok (.newarray .int, 2) := by decide +kernel
theorem dX10_init_87 : decode cX10_init 87 = .ok (.putfield 40, 3) := by decide +kernel
theorem dX10_init_90 : decode cX10_init 90 = .ok (.aload_n 0, 1) := by decide +kernel
theorem dX10_init_91 : decode cX10_init 91 = .ok (.bipush 8, 2) := by decide +kernel
theorem dX10_init_93 : decode cX10_init 93 = .ok (.newarray .int, 2) := by decide +kernel
theorem dX10_init_95 : decode cX10_init 95 = .ok (.putfield 43, 3) := by decide +kernel
theorem dX10_init_98 : decode cX10_init 98 = .ok (.aload_n 0, 1) := by decide +kernel
theorem dX10_init_99 : decode cX10_init 99 = .ok (.bipush 20, 2) := by decide +kernel
theorem dX10_init_101 : decode cX10_init 101 = .ok (.newarray .int, 2) := by decide +kernel
theorem dX10_init_103 : decode cX10_init 103 = .ok (.putfield 46, 3) := by decide +kernel
theorem dX10_init_106 : decode cX10_init 106 = .ok (.aload_n 0, 1) := by decide +kernel
theorem dX10_init_107 : decode cX10_init 107 = .ok (.bipush 20, 2) := by decide +kernel
theorem dX10_init_109 : decode cX10_init 109 = .ok (.newarray .int, 2) := by decide +kernel
theorem dX10_init_111 : decode cX10_init 111 = .ok (.putfield 49, 3) := by decide +kernel
theorem dX10_init_114 : decode cX10_init 114 = .ok (.aload_n 0, 1) := by decide +kernel
theorem dX10_init_115 : decode cX10_init 115 = .ok (.bipush 20, 2) := by decide +kernel
theorem dX10_init_117 : decode cX10_init 117 = .ok (.newarray .int, 2) := by decide +kernel
theorem dX10_init_119 : decode cX10_init 119 = .ok (.putfield 52, 3) := by decide +kernel
theorem dX10_init_122 : decode cX10_init 122 = .ok (.aload_n 0, 1) := by decide +kernel
theorem dX10_init_123 : decode cX10_init 123 = .ok (.bipush 20, 2) := by decide +kernel
theorem dX10_init_125 : decode cX10_init 125 = .ok (.newarray .int, 2) := by decide +kernel
theorem dX10_init_127 : decode cX10_init 127 = .ok (.putfield 55, 3) := by decide +kernel
theorem dX10_init_130 : decode cX10_init 130 = .ok (.aload_n 0, 1) := by decide +kernel
theorem dX10_init_131 : decode cX10_init 131 = .ok (.sipush 168, 3) := by decide +kernel
theorem dX10_init_134 : decode cX10_init 134 = .ok (.newarray .int, 2) := by decide +kernel
theorem dX10_init_136 : decode cX10_init 136 = .ok (.putfield 58, 3) := by decide +kernel
theorem dX10_init_139 : decode cX10_init 139 = .ok (.aload_n 0, 1) := by decide +kernel
theorem dX10_init_140 : decode cX10_init 140 = .ok (.sipush 168, 3) := by decide +kernel
theorem dX10_init_143 : decode cX10_init 143 = .ok (.newarray .int, 2) := by decide +kernel
theorem dX10_init_145 : decode cX10_init 145 = .ok (.putfield 61, 3) := by decide +kernel
theorem dX10_init_148 : decode cX10_init 148 = .ok (.aload_n 0, 1) := by decide +kernel
theorem dX10_init_149 : decode cX10_init 149 = .ok (.sipush 168, 3) := by decide +kernel
theorem dX10_init_152 : decode cX10_init 152 = .ok (.newarray .int, 2) := by decide +kernel
theorem dX10_init_154 : decode cX10_init 154 = .ok (.putfield 64, 3) := by decide +kernel
theorem dX10_init_157 : decode cX10_init 157 = .ok (.aload_n 0, 1) := by decide +kernel
theorem dX10_init_158 : decode cX10_init 158 = .ok (.bipush 8, 2) := by decide +kernel
theorem dX10_init_160 : decode cX10_init 160 = .ok (.newarray .int, 2) := by decide +kernel
theorem dX10_init_162 : decode cX10_init 162 = .ok (.putfield 67, 3) := by decide +kernel
theorem dX10_init_165 : decode cX10_init 165 = .ok (.aload_n 0, 1) := by decide +kernel
theorem dX10_init_166 : decode cX10_init 166 = .ok (.bipush 8, 2) := by decide +kernel
theorem dX10_init_168 : decode cX10_init 168 = .ok (.newarray .int, 2) := by decide +kernel
theorem dX10_init_170 : decode cX10_init 170 = .ok (.putfield 70, 3) := by decide +kernel
theorem dX10_init_173 : decode cX10_init 173 = .ok (.aload_n 0, 1) := by decide +kernel
theorem dX10_init_174 : decode cX10_init 174 = .ok (.bipush 8, 2) := by decide +kernel
theorem dX10_init_176 : decode cX10_init 176 = .ok (.newarray .int, 2) := by decide +kernel
theorem dX10_init_178 : decode cX10_init 178 = .ok (.putfield 73, 3) := by decide +kernel
theorem dX10_init_181 : decode cX10_init 181 = .ok (.aload_n 0, 1) := by decide +kernel
theorem dX10_init_182 : decode cX10_init 182 = .ok (.sipush 200, 3) := by decide +kernel
theorem dX10_init_185 : decode cX10_init 185 = .ok (.newarray .int, 2) := by decide +kernel
theorem dX10_init_187 : decode cX10_init 187 = .ok (.putfield 76, 3) := by decide +kernel
theorem dX10_init_190 : decode cX10_init 190 = .ok (.aload_n 0, 1) := by decide +kernel
theorem dX10_init_191 : decode cX10_init 191 = .ok (.iconst 4, 1) := by decide +kernel
theorem dX10_init_192 : decode cX10_init 192 = .ok (.newarray .boolean, 2) := by decide +kernel
theorem dX10_init_194 : decode cX10_init 194 = .ok (.putfield 79, 3) := by decide +kernel
theorem dX10_init_197 : decode cX10_init 197 = .ok (.aload_n 0, 1) := by decide +kernel
theorem dX10_init_198 : decode cX10_init 198 = .ok (.iconst 4, 1) := by decide +kernel
theorem dX10_init_199 : decode cX10_init 199 = .ok (.newarray .int, 2) := by decide +kernel
theorem dX10_init_201 : decode cX10_init 201 = .ok (.putfield 83, 3) := by decide +kernel
theorem dX10_init_204 : decode cX10_init 204 = .ok (.aload_n 0, 1) := by decide +kernel
theorem dX10_init_205 : decode cX10_init 205 = .ok (.iconst 4, 1) := by decide +kernel
theorem dX10_init_206 : decode cX10_init 206 = .ok (.newarray .int, 2) := by decide +kernel
theorem dX10_init_208 : decode cX10_init 208 = .ok (.putfield 86, 3) := by decide +kernel
theorem dX10_init_211 : decode cX10_init 211 = .ok (.aload_n 0, 1) := by decide +kernel
theorem dX10_init_212 : decode cX10_init 212 = .ok (.sipush 240, 3) := by decide +kernel
theorem dX10_init_215 : decode cX10_init 215 = .ok (.newarray .int, 2) := by decide +kernel
theorem dX10_init_217 : decode cX10_init 217 = .ok (.putfield 89, 3) := by decide +kernel
theorem dX10_init_220 : decode cX10_init 220 = .ok (.aload_n 0, 1) := by decide +kernel
theorem dX10_init_221 : decode cX10_init 221 = .ok (.bipush 60, 2) := by decide +kernel
theorem dX10_init_223 : decode cX10_init 223 = .ok (.newarray .int, 2) := by decide +kernel
theorem dX10_init_225 : decode cX10_init 225 = .ok (.putfield 92, 3) := by decide +kernel
theorem dX10_init_228 : decode cX10_init 228 = .ok (.aload_n 0, 1) := by decide +kernel
theorem dX10_init_229 : decode cX10_init 229 = .ok (.getfield 28, 3) := by decide +kernel
theorem dX10_init_232 : decode cX10_init 232 = .ok (.iconst 0, 1) := by decide +kernel
theorem dX10_init_233 : decode cX10_init 233 = .ok (.iconst 5, 1) := by decide +kernel
theorem dX10_init_234 : decode cX10_init 234 = .ok (.iastore, 1) := by decide +kernel
theorem dX10_init_235 : decode cX10_init 235 = .ok (.aload_n 0, 1) := by decide +kernel
theorem dX10_init_236 : decode cX10_init 236 = .ok (.getfield 28, 3) := by decide +kernel
theorem dX10_init_239 : decode cX10_init 239 = .ok (.iconst 1, 1) := by decide +kernel
theorem dX10_init_240 : decode cX10_init 240 = .ok (.iconst 3, 1) := by decide +kernel
theorem dX10_init_241 : decode cX10_init 241 = .ok (.iastore, 1) := by decide +kernel
theorem dX10_init_242 : decode cX10_init 242 = .ok (.aload_n 0, 1) := by decide +kernel
theorem dX10_init_243 : decode cX10_init 243 = .ok (.getfield 28, 3) := by decide +kernel
theorem dX10_init_246 : decode cX10_init 246 = .ok (.iconst 2, 1) := by decide +kernel
theorem dX10_init_247 : decode cX10_init 247 = .ok (.iconst 4, 1) := by decide +kernel
theorem dX10_init_248 : decode cX10_init 248 = .ok (.iastore, 1) := by decide +kernel
theorem dX10_init_249 : decode cX10_init 249 = .ok (.aload_n 0, 1) := by decide +kernel
theorem dX10_init_250 : decode cX10_init 250 = .ok (.getfield 28, 3) := by decide +kernel
theorem dX10_init_253 : decode cX10_init 253 = .ok (.iconst 3, 1) := by decide +kernel
theorem dX10_init_254 : decode cX10_init 254 = .ok (.bipush 9, 2) := by decide +kernel
theorem dX10_init_256 : decode cX10_init 256 = .ok (.iastore, 1) := by decide +kernel
theorem dX10_init_257 : decode cX10_init 257 = .ok (.return_, 1) := by decide +kernel
theorem dX10_in_0 : decode cX10_in 0 = .ok (.iload_n 0, 1) := by decide +kernel
theorem dX10_in_1 : decode cX10_in 1 = .ok (.iload_n 1, 1) := by decide +kernel
theorem dX10_in_2 : decode cX10_in 2 = .ok (.if_icmp .lt 12, 3) := by decide +kernel
theorem dX10_in_5 : decode cX10_in 5 = .ok (.iload_n 0, 1) := by decide +kernel
theorem dX10_in_6 : decode cX10_in 6 = .ok (.iload_n 2, 1) := by decide +kernel
theorem dX10_in_7 : decode cX10_in 7 = .ok (.if_icmp .gt 7, 3) := by decide +kernel
theorem dX10_in_10 : decode cX10_in 10 = .ok (.iconst 1, 1) := by decide +kernel
theorem dX10_in_11 : decode cX10_in 11 = .ok (.goto 4, 3) := by decide +kernel
theorem dX10_in_14 : decode cX10_in 14 = .ok (.iconst 0, 1) := by decide +kernel
theorem dX10_in_15 : decode cX10_in 15 = .ok (.ireturn, 1) := by decide +kernel
theorem dX10_isIn_0 : decode cX10_isIn 0 = .ok (.iload_n 0, 1) := by decide +kernel
theorem dX10_isIn_1 : decode cX10_isIn 1 = .ok (.iload_n 1, 1) := by decide +kernel
theorem dX10_isIn_2 : decode cX10_isIn 2 = .ok (.ishr, 1) := by decide +kernel
theorem dX10_isIn_3 : decode cX10_isIn 3 = .ok (.iconst 1, 1) := by decide +kernel
theorem dX10_isIn_4 : decode cX10_isIn 4 = .ok (.iand, 1) := by decide +kernel
theorem dX10_isIn_5 : decode cX10_isIn 5 = .ok (.iconst 1, 1) := by decide +kernel
theorem dX10_isIn_6 : decode cX10_isIn 6 = .ok (.if_icmp .ne 7, 3) := by decide +kernel
theorem dX10_isIn_9 : decode cX10_isIn 9 = .ok (.iconst 1, 1) := by decide +kernel
theorem dX10_isIn_10 : decode cX10_isIn 10 = .ok (.goto 4, 3) := by decide +kernel
theorem dX10_isIn_13 : decode cX10_isIn 13 = .ok (.iconst 0, 1) := by decide +kernel
theorem dX10_isIn_14 : decode cX10_isIn 14 = .ok (.ireturn, 1) := by decide +kernel
theorem dX10_no_0 : decode cX10_no 0 = .ok (.ldc2_w 95, 3) := by decide +kernel
theorem dX10_no_3 : decode cX10_no 3 = .ok (.iload_n 0, 1) := by decide +kernel
theorem dX10_no_4 : decode cX10_no 4 = .ok (.i2l, 1) := by decide +kernel
theorem dX10_no_5 : decode cX10_no 5 = .ok (.lsub, 1) := by decide +kernel
theorem dX10_no_6 : decode cX10_no 6 = .ok (.lreturn, 1) := by decide +kernel
theorem dX10_lowest_0 : decode cX10_lowest 0 = .ok (.lload_n 0, 1) := by decide +kernel
theorem dX10_lowest_1 : decode cX10_lowest 1 = .ok (.lstore 5, 2) := by decide +kernel
theorem dX10_lowest_3 : decode cX10_lowest 3 = .ok (.lload_n 2, 1) := by decide +kernel
theorem dX10_lowest_4 : decode cX10_lowest 4 = .ok (.lstore 7, 2) := by decide +kernel
theorem dX10_lowest_6 : decode cX10_lowest 6 = .ok (.lload 7, 2) := by decide +kernel
theorem dX10_lowest_8 : decode cX10_lowest 8 = .ok (.lconst 0, 1) := by decide +kernel
theorem dX10_lowest_9 : decode cX10_lowest 9 = .ok (.lcmp, 1) := by decide +kernel
theorem dX10_lowest_10 : decode cX10_lowest 10 = .ok (.ifCond .eq 21, 3) := by decide +kernel
theorem dX10_lowest_13 : decode cX10_lowest 13 = .ok (.lload 5, 2) := by decide +kernel
theorem dX10_lowest_15 : decode cX10_lowest 15 = .ok (.lload 7, 2) := by decide +kernel
theorem dX10_lowest_17 : decode cX10_lowest 17 = .ok (.lrem, 1) := by decide +kernel
theorem dX10_lowest_18 : decode cX10_lowest 18 = .ok (.lstore 9, 2) := by decide +kernel
theorem dX10_lowest_20 : decode cX10_lowest 20 = .ok (.lload 7, 2) := by decide +kernel
theorem dX10_lowest_22 : decode cX10_lowest 22 = .ok (.lstore 5, 2) := by decide +kernel
theorem dX10_lowest_24 : decode cX10_lowest 24 = .ok (.lload 9, 2) := by decide +kernel
theorem dX10_lowest_26 : decode cX10_lowest 26 = .ok (.lstore 7, 2) := by decide +kernel
theorem dX10_lowest_28 : decode cX10_lowest 28 = .ok (.goto (-22), 3) := by decide +kernel
theorem dX10_lowest_31 : decode cX10_lowest 31 = .ok (.iload 4, 2) := by decide +kernel
theorem dX10_lowest_33 : decode cX10_lowest 33 = .ok (.ifCond .ne 10, 3) := by decide +kernel
theorem dX10_lowest_36 : decode cX10_lowest 36 = .ok (.lload_n 0, 1) := by decide +kernel
theorem dX10_lowest_37 : decode cX10_lowest 37 = .ok (.lload 5, 2) := by decide +kernel
theorem dX10_lowest_39 : decode cX10_lowest 39 = .ok (.ldiv, 1) := by decide +kernel
theorem dX10_lowest_40 : decode cX10_lowest 40 = .ok (.goto 7, 3) := by decide +kernel
theorem dX10_lowest_43 : decode cX10_lowest 43 = .ok (.lload_n 2, 1) := by decide +kernel
theorem dX10_lowest_44 : decode cX10_lowest 44 = .ok (.lload 5, 2) := by decide +kernel
theorem dX10_lowest_46 : decode cX10_lowest 46 = .ok (.ldiv, 1) := by decide +kernel
theorem dX10_lowest_47 : decode cX10_lowest 47 = .ok (.lreturn, 1) := by decide +kernel
theorem dX10_isText_0 : decode cX10_isText 0 = .ok (.iload_n 0, 1) := by decide +kernel
theorem dX10_isText_1 : decode cX10_isText 1 = .ok (.iconst 0, 1) := by decide +kernel
theorem dX10_isText_2 : decode cX10_isText 2 = .ok (.iconst 1, 1) := by decide +kernel
theorem dX10_isText_3 : decode cX10_isText 3 = .ok (.invokestatic 97, 3) := by decide +kernel
theorem dX10_isText_6 : decode cX10_isText 6 = .ok (.ireturn, 1) := by decide +kernel
theorem dX10_isStop_0 : decode cX10_isStop 0 = .ok (.iload_n 0, 1) := by decide +kernel
theorem dX10_isStop_1 : decode cX10_isStop 1 = .ok (.iconst 0, 1) := by decide +kernel
theorem dX10_isStop_2 : decode cX10_isStop 2 = .ok (.bipush 19, 2) := by decide +kernel
theorem dX10_isStop_4 : decode cX10_isStop 4 = .ok (.invokestatic 97, 3) := by decide +kernel
theorem dX10_isStop_7 : decode cX10_isStop 7 = .ok (.ireturn, 1) := by decide +kernel
theorem dX10_type_0 : decode cX10_type 0 = .ok (.iload_n 1, 1) := by decide +kernel
theorem dX10_type_1 : decode cX10_type 1 = .ok (.invokestatic 101, 3) := by decide +kernel
theorem dX10_type_4 : decode cX10_type 4 = .ok (.ifCond .eq 14, 3) := by decide +kernel
theorem dX10_type_7 : decode cX10_type 7 = .ok (.iload_n 2, 1) := by decide +kernel
theorem dX10_type_8 : decode cX10_type 8 = .ok (.iconst 0, 1) := by decide +kernel
theorem dX10_type_9 : decode cX10_type 9 = .ok (.sipush 255, 3) := by decide +kernel
theorem dX10_type_12 : decode cX10_type 12 = .ok (.invokestatic 97, 3) := by decide +kernel
theorem dX10_type_15 : decode cX10_type 15 = .ok (.ifCond .ne 6, 3) := by decide +kernel
theorem dX10_type_18 : decode cX10_type 18 = .ok (.bipush (-2), 2) := by decide +kernel
theorem dX10_type_20 : decode cX10_type 20 = .ok (.ireturn, 1) := by decide +kernel
theorem dX10_type_21 : decode cX10_type 21 = .ok (.aload_n 0, 1) := by decide +kernel
theorem dX10_type_22 : decode cX10_type 22 = .ok (.getfield 7, 3) := by decide +kernel
theorem dX10_type_25 : decode cX10_type 25 = .ok (.iload_n 1, 1) := by decide +kernel
theorem dX10_type_26 : decode cX10_type 26 = .ok (.iaload, 1) := by decide +kernel
theorem dX10_type_27 : decode cX10_type 27 = .ok (.iload_n 1, 1) := by decide +kernel
theorem dX10_type_28 : decode cX10_type 28 = .ok (.ifCond .ne 8, 3) := by decide +kernel
theorem dX10_type_31 : decode cX10_type 31 = .ok (.bipush 31, 2) := by decide +kernel
theorem dX10_type_33 : decode cX10_type 33 = .ok (.goto 5, 3) := by decide +kernel
theorem dX10_type_36 : decode cX10_type 36 = .ok (.bipush 20, 2) := by decide +kernel
theorem dX10_type_38 : decode cX10_type 38 = .ok (.if_icmp .ne 6, 3) := by decide +kernel
theorem dX10_type_41 : decode cX10_type 41 = .ok (.bipush (-4), 2) := by decide +kernel
theorem dX10_type_43 : decode cX10_type 43 = .ok (.ireturn, 1) := by decide +kernel
theorem dX10_type_44 : decode cX10_type 44 = .ok (.aload_n 0, 1) := by decide +kernel
theorem dX10_type_45 : decode cX10_type 45 = .ok (.getfield 13, 3) := by decide +kernel
theorem dX10_type_48 : decode cX10_type 48 = .ok (.bipush 31, 2) := by decide +kernel
theorem dX10_type_50 : decode cX10_type 50 = .ok (.iload_n 1, 1) := by decide +kernel
theorem dX10_type_51 : decode cX10_type 51 = .ok (.imul, 1) := by decide +kernel
theorem dX10_type_52 : decode cX10_type 52 = .ok (.aload_n 0, 1) := by decide +kernel
theorem dX10_type_53 : decode cX10_type 53 = .ok (.getfield 7, 3) := by decide +kernel
theorem dX10_type_56 : decode cX10_type 56 = .ok (.iload_n 1, 1) := by decide +kernel
theorem dX10_type_57 : decode cX10_type 57 = .ok (.iaload, 1) := by decide +kernel
theorem dX10_type_58 : decode cX10_type 58 = .ok (.iadd, 1) := by decide +kernel
theorem dX10_type_59 : decode cX10_type 59 = .ok (.iload_n 2, 1) := by decide +kernel
theorem dX10_type_60 : decode cX10_type 60 = .ok (.iastore, 1) := by decide +kernel
theorem dX10_type_61 : decode cX10_type 61 = .ok (.aload_n 0, 1) := by decide +kernel
theorem dX10_type_62 : decode cX10_type 62 = .ok (.getfield 7, 3) := by decide +kernel
theorem dX10_type_65 : decode cX10_type 65 = .ok (.iload_n 1, 1) := by decide +kernel
theorem dX10_type_66 : decode cX10_type 66 = .ok (.dup2, 1) := by decide +kernel
theorem dX10_type_67 : decode cX10_type 67 = .ok (.iaload, 1) := by decide +kernel
theorem dX10_type_68 : decode cX10_type 68 = .ok (.iconst 1, 1) := by decide +kernel
theorem dX10_type_69 : decode cX10_type 69 = .ok (.iadd, 1) := by decide +kernel
theorem dX10_type_70 : decode cX10_type 70 = .ok (.iastore, 1) := by decide +kernel
theorem dX10_type_71 : decode cX10_type 71 = .ok (.aload_n 0, 1) := by decide +kernel
theorem dX10_type_72 : decode cX10_type 72 = .ok (.getfield 7, 3) := by decide +kernel
theorem dX10_type_75 : decode cX10_type 75 = .ok (.iload_n 1, 1) := by decide +kernel
theorem dX10_type_76 : decode cX10_type 76 = .ok (.iaload, 1) := by decide +kernel
theorem dX10_type_77 : decode cX10_type 77 = .ok (.ireturn, 1) := by decide +kernel
theorem dX10_wipe_0 : decode cX10_wipe 0 = .ok (.iload_n 1, 1) := by decide +kernel
theorem dX10_wipe_1 : decode cX10_wipe 1 = .ok (.invokestatic 101, 3) := by decide +kernel
theorem dX10_wipe_4 : decode cX10_wipe 4 = .ok (.ifCond .ne 6, 3) := by decide +kernel
theorem dX10_wipe_7 : decode cX10_wipe 7 = .ok (.bipush (-2), 2) := by decide +kernel
theorem dX10_wipe_9 : decode cX10_wipe 9 = .ok (.ireturn, 1) := by decide +kernel
theorem dX10_wipe_10 : decode cX10_wipe 10 = .ok (.aload_n 0, 1) := by decide +kernel
theorem dX10_wipe_11 : decode cX10_wipe 11 = .ok (.getfield 7, 3) := by decide +kernel
theorem dX10_wipe_14 : decode cX10_wipe 14 = .ok (.iload_n 1, 1) := by decide +kernel
theorem dX10_wipe_15 : decode cX10_wipe 15 = .ok (.iaload, 1) := by decide +kernel
theorem dX10_wipe_16 : decode cX10_wipe 16 = .ok (.istore_n 2, 1) := by decide +kernel
theorem dX10_wipe_17 : decode cX10_wipe 17 = .ok (.aload_n 0, 1) := by decide +kernel
theorem dX10_wipe_18 : decode cX10_wipe 18 = .ok (.getfield 7, 3) := by decide +kernel
theorem dX10_wipe_21 : decode cX10_wipe 21 = .ok (.iload_n 1, 1) := by decide +kernel
theorem dX10_wipe_22 : decode cX10_wipe 22 = .ok (.iconst 0, 1) := by decide +kernel
theorem dX10_wipe_23 : decode cX10_wipe 23 = .ok (.iastore, 1) := by decide +kernel
theorem dX10_wipe_24 : decode cX10_wipe 24 = .ok (.iload_n 2, 1) := by decide +kernel
theorem dX10_wipe_25 : decode cX10_wipe 25 = .ok (.ireturn, 1) := by decide +kernel
theorem dX10_undo_0 : decode cX10_undo 0 = .ok (.iload_n 1, 1) := by decide +kernel
theorem dX10_undo_1 : decode cX10_undo 1 = .ok (.invokestatic 101, 3) := by decide +kernel
theorem dX10_undo_4 : decode cX10_undo 4 = .ok (.ifCond .ne 6, 3) := by decide +kernel
theorem dX10_undo_7 : decode cX10_undo 7 = .ok (.bipush (-2), 2) := by decide +kernel
theorem dX10_undo_9 : decode cX10_undo 9 = .ok (.ireturn, 1) := by decide +kernel
theorem dX10_undo_10 : decode cX10_undo 10 = .ok (.aload_n 0, 1) := by decide +kernel
theorem dX10_undo_11 : decode cX10_undo 11 = .ok (.getfield 7, 3) := by decide +kernel
theorem dX10_undo_14 : decode cX10_undo 14 = .ok (.iload_n 1, 1) := by decide +kernel
theorem dX10_undo_15 : decode cX10_undo 15 = .ok (.iaload, 1) := by decide +kernel
theorem dX10_undo_16 : decode cX10_undo 16 = .ok (.ifCond .ne 6, 3) := by decide +kernel
theorem dX10_undo_19 : decode cX10_undo 19 = .ok (.bipush (-3), 2) := by decide +kernel
theorem dX10_undo_21 : decode cX10_undo 21 = .ok (.ireturn, 1) := by decide +kernel
theorem dX10_undo_22 : decode cX10_undo 22 = .ok (.aload_n 0, 1) := by decide +kernel
theorem dX10_undo_23 : decode cX10_undo 23 = .ok (.getfield 7, 3) := by decide +kernel
theorem dX10_undo_26 : decode cX10_undo 26 = .ok (.iload_n 1, 1) := by decide +kernel
theorem dX10_undo_27 : decode cX10_undo 27 = .ok (.dup2, 1) := by decide +kernel
theorem dX10_undo_28 : decode cX10_undo 28 = .ok (.iaload, 1) := by decide +kernel
theorem dX10_undo_29 : decode cX10_undo 29 = .ok (.iconst 1, 1) := by decide +kernel
theorem dX10_undo_30 : decode cX10_undo 30 = .ok (.isub, 1) := by decide +kernel
theorem dX10_undo_31 : decode cX10_undo 31 = .ok (.iastore, 1) := by decide +kernel
theorem dX10_undo_32 : decode cX10_undo 32 = .ok (.aload_n 0, 1) := by decide +kernel
theorem dX10_undo_33 : decode cX10_undo 33 = .ok (.getfield 7, 3) := by decide +kernel
theorem dX10_undo_36 : decode cX10_undo 36 = .ok (.iload_n 1, 1) := by decide +kernel
theorem dX10_undo_37 : decode cX10_undo 37 = .ok (.iaload, 1) := by decide +kernel
theorem dX10_undo_38 : decode cX10_undo 38 = .ok (.ireturn, 1) := by decide +kernel
theorem dX10_byteAt_0 : decode cX10_byteAt 0 = .ok (.iload_n 1, 1) := by decide +kernel
theorem dX10_byteAt_1 : decode cX10_byteAt 1 = .ok (.aload_n 0, 1) := by decide +kernel
theorem dX10_byteAt_2 : decode cX10_byteAt 2 = .ok (.getfield 7, 3) := by decide +kernel
theorem dX10_byteAt_5 : decode cX10_byteAt 5 = .ok (.iconst 0, 1) := by decide +kernel
theorem dX10_byteAt_6 : decode cX10_byteAt 6 = .ok (.iaload, 1) := by decide +kernel
theorem dX10_byteAt_7 : decode cX10_byteAt 7 = .ok (.if_icmp .ge 12, 3) := by decide +kernel
theorem dX10_byteAt_10 : decode cX10_byteAt 10 = .ok (.aload_n 0, 1) := by decide +kernel
theorem dX10_byteAt_11 : decode cX10_byteAt 11 = .ok (.getfield 13, 3) := by decide +kernel
theorem dX10_byteAt_14 : decode cX10_byteAt 14 = .ok (.iload_n 1, 1) := by decide +kernel
theorem dX10_byteAt_15 : decode cX10_byteAt 15 = .ok (.iaload, 1) := by decide +kernel
theorem dX10_byteAt_16 : decode cX10_byteAt 16 = .ok (.goto 4, 3) := by decide +kernel
theorem dX10_byteAt_19 : decode cX10_byteAt 19 = .ok (.iconst (-1), 1) := by decide +kernel
theorem dX10_byteAt_20 : decode cX10_byteAt 20 = .ok (.ireturn, 1) := by decide +kernel
theorem dX10_readsHeir_0 : decode cX10_readsHeir 0 = .ok (.aload_n 0, 1) := by decide +kernel
theorem dX10_readsHeir_1 : decode cX10_readsHeir 1 = .ok (.iload_n 2, 1) := by decide +kernel
theorem dX10_readsHeir_2 : decode cX10_readsHeir 2 = .ok (.invokevirtual 105, 3) := by decide +kernel
theorem dX10_readsHeir_5 : decode cX10_readsHeir 5 = .ok (.istore_n 3, 1) := by decide +kernel
theorem dX10_readsHeir_6 : decode cX10_readsHeir 6 = .ok (.iload_n 3, 1) := by decide +kernel
theorem dX10_readsHeir_7 : decode cX10_readsHeir 7 = .ok (.bipush 107, 2) := by decide +kernel
theorem dX10_readsHeir_9 : decode cX10_readsHeir 9 = .ok (.if_icmp .ne 7, 3) := by decide +kernel
theorem dX10_readsHeir_12 : decode cX10_readsHeir 12 = .ok (.iconst 0, 1) := by decide +kernel
theorem dX10_readsHeir_13 : decode cX10_readsHeir 13 = .ok (.goto 24, 3) := by decide +kernel
theorem dX10_readsHeir_16 : decode cX10_readsHeir 16 = .ok (.iload_n 3, 1) := by decide +kernel
theorem dX10_readsHeir_17 : decode cX10_readsHeir 17 = .ok (.bipush 109, 2) := by decide +kernel
theorem dX10_readsHeir_19 : decode cX10_readsHeir 19 = .ok (.if_icmp .ne 7, 3) := by decide +kernel
theorem dX10_readsHeir_22 : decode cX10_readsHeir 22 = .ok (.iconst 1, 1) := by decide +kernel
theorem dX10_readsHeir_23 : decode cX10_readsHeir 23 = .ok (.goto 14, 3) := by decide +kernel
theorem dX10_readsHeir_26 : decode cX10_readsHeir 26 = .ok (.iload_n 3, 1) := by decide +kernel
theorem dX10_readsHeir_27 : decode cX10_readsHeir 27 = .ok (.bipush 115, 2) := by decide +kernel
theorem dX10_readsHeir_29 : decode cX10_readsHeir 29 = .ok (.if_icmp .ne 7, 3) := by decide +kernel
theorem dX10_readsHeir_32 : decode cX10_readsHeir 32 = .ok (.iconst 2, 1) := by decide +kernel
theorem dX10_readsHeir_33 : decode cX10_readsHeir 33 = .ok (.goto 4, 3) := by decide +kernel
theorem dX10_readsHeir_36 : decode cX10_readsHeir 36 = .ok (.iconst (-1), 1) := by decide +kernel
theorem dX10_readsHeir_37 : decode cX10_readsHeir 37 = .ok (.istore 4, 2) := by decide +kernel
theorem dX10_readsHeir_39 : decode cX10_readsHeir 39 = .ok (.aload_n 0, 1) := by decide +kernel
theorem dX10_readsHeir_40 : decode cX10_readsHeir 40 = .ok (.iload_n 2, 1) := by decide +kernel
theorem dX10_readsHeir_41 : decode cX10_readsHeir 41 = .ok (.iconst 1, 1) := by decide +kernel
theorem dX10_readsHeir_42 : decode cX10_readsHeir 42 = .ok (.iadd, 1) := by decide +kernel
theorem dX10_readsHeir_43 : decode cX10_readsHeir 43 = .ok (.invokevirtual 105, 3) := by decide +kernel
theorem dX10_readsHeir_46 : decode cX10_readsHeir 46 = .ok (.istore 5, 2) := by decide +kernel
theorem dX10_readsHeir_48 : decode cX10_readsHeir 48 = .ok (.aload_n 0, 1) := by decide +kernel
theorem dX10_readsHeir_49 : decode cX10_readsHeir 49 = .ok (.iload_n 2, 1) := by decide +kernel
theorem dX10_readsHeir_50 : decode cX10_readsHeir 50 = .ok (.iconst 2, 1) := by decide +kernel
theorem dX10_readsHeir_51 : decode cX10_readsHeir 51 = .ok (.iadd, 1) := by decide +kernel
theorem dX10_readsHeir_52 : decode cX10_readsHeir 52 = .ok (.invokevirtual 105, 3) := by decide +kernel
theorem dX10_readsHeir_55 : decode cX10_readsHeir 55 = .ok (.istore 6, 2) := by decide +kernel
theorem dX10_readsHeir_57 : decode cX10_readsHeir 57 = .ok (.iload_n 1, 1) := by decide +kernel
theorem dX10_readsHeir_58 : decode cX10_readsHeir 58 = .ok (.bipush 8, 2) := by decide +kernel
theorem dX10_readsHeir_60 : decode cX10_readsHeir 60 = .ok (.if_icmp .eq 9, 3) := by decide +kernel
theorem dX10_readsHeir_63 : decode cX10_readsHeir 63 = .ok (.iload 4, 2) := by decide +kernel
theorem dX10_readsHeir_65 : decode cX10_readsHeir 65 = .ok (.iconst (-1), 1) := by decide +kernel
theorem dX10_readsHeir_66 : decode cX10_readsHeir 66 = .ok (.if_icmp .ne 5, 3) := by decide +kernel
theorem dX10_readsHeir_69 : decode cX10_readsHeir 69 = .ok (.iconst 0, 1) := by decide +kernel
theorem dX10_readsHeir_70 : decode cX10_readsHeir 70 = .ok (.ireturn, 1) := by decide +kernel
theorem dX10_readsHeir_71 : decode cX10_readsHeir 71 = .ok (.iload 5, 2) := by decide +kernel
theorem dX10_readsHeir_73 : decode cX10_readsHeir 73 = .ok (.bipush 48, 2) := by decide +kernel
theorem dX10_readsHeir_75 : decode cX10_readsHeir 75 = .ok (.bipush 57, 2) := by decide +kernel
theorem dX10_readsHeir_77 : decode cX10_readsHeir 77 = .ok (.invokestatic 97, 3) := by decide +kernel
theorem dX10_readsHeir_80 : decode cX10_readsHeir 80 = .ok (.ifCond .ne 5, 3) := by decide +kernel
theorem dX10_readsHeir_83 : decode cX10_readsHeir 83 = .ok (.iconst 1, 1) := by decide +kernel
theorem dX10_readsHeir_84 : decode cX10_readsHeir 84 = .ok (.ireturn, 1) := by decide +kernel
theorem dX10_readsHeir_85 : decode cX10_readsHeir 85 = .ok (.iload 6, 2) := by decide +kernel
theorem dX10_readsHeir_87 : decode cX10_readsHeir 87 = .ok (.bipush 48, 2) := by decide +kernel
theorem dX10_readsHeir_89 : decode cX10_readsHeir 89 = .ok (.bipush 57, 2) := by decide +kernel
theorem dX10_readsHeir_91 : decode cX10_readsHeir 91 = .ok (.invokestatic 97, 3) := by decide +kernel
theorem dX10_readsHeir_94 : decode cX10_readsHeir 94 = .ok (.ifCond .ne 5, 3) := by decide +kernel
theorem dX10_readsHeir_97 : decode cX10_readsHeir 97 = .ok (.iconst 2, 1) := by decide +kernel
theorem dX10_readsHeir_98 : decode cX10_readsHeir 98 = .ok (.ireturn, 1) := by decide +kernel
theorem dX10_readsHeir_99 : decode cX10_readsHeir 99 = .ok (.aload_n 0, 1) := by decide +kernel
theorem dX10_readsHeir_100 : decode cX10_readsHeir 100 = .ok (.getfield 16, 3) := by decide +kernel
theorem dX10_readsHeir_103 : decode cX10_readsHeir 103 = .ok (.iload_n 1, 1) := by decide +kernel
theorem dX10_readsHeir_104 : decode cX10_readsHeir 104 = .ok (.iload 4, 2) := by decide +kernel
theorem dX10_readsHeir_106 : decode cX10_readsHeir 106 = .ok (.iastore, 1) := by decide +kernel
theorem dX10_readsHeir_107 : decode cX10_readsHeir 107 = .ok (.aload_n 0, 1) := by decide +kernel
theorem dX10_readsHeir_108 : decode cX10_readsHeir 108 = .ok (.getfield 19, 3) := by decide +kernel
theorem dX10_readsHeir_111 : decode cX10_readsHeir 111 = .ok (.iload_n 1, 1) := by decide +kernel
theorem dX10_readsHeir_112 : decode cX10_readsHeir 112 = .ok (.iload 5, 2) := by decide +kernel
theorem dX10_readsHeir_114 : decode cX10_readsHeir 114 = .ok (.bipush 48, 2) := by decide +kernel
theorem dX10_readsHeir_116 : decode cX10_readsHeir 116 = .ok (.isub, 1) := by decide +kernel
theorem dX10_readsHeir_117 : decode cX10_readsHeir 117 = .ok (.iastore, 1) := by decide +kernel
theorem dX10_readsHeir_118 : decode cX10_readsHeir 118 = .ok (.aload_n 0, 1) := by decide +kernel
theorem dX10_readsHeir_119 : decode cX10_readsHeir 119 = .ok (.getfield 22, 3) := by decide +kernel
theorem dX10_readsHeir_122 : decode cX10_readsHeir 122 = .ok (.iload_n 1, 1) := by decide +kernel
theorem dX10_readsHeir_123 : decode cX10_readsHeir 123 = .ok (.iload 6, 2) := by decide +kernel
theorem dX10_readsHeir_125 : decode cX10_readsHeir 125 = .ok (.bipush 48, 2) := by decide +kernel
theorem dX10_readsHeir_127 : decode cX10_readsHeir 127 = .ok (.isub, 1) := by decide +kernel
theorem dX10_readsHeir_128 : decode cX10_readsHeir 128 = .ok (.iastore, 1) := by decide +kernel
theorem dX10_readsHeir_129 : decode cX10_readsHeir 129 = .ok (.iconst 3, 1) := by decide +kernel
theorem dX10_readsHeir_130 : decode cX10_readsHeir 130 = .ok (.ireturn, 1) := by decide +kernel
theorem dX10_readsHeirs_0 : decode cX10_readsHeirs 0 = .ok (.iconst 0, 1) := by decide +kernel
theorem dX10_readsHeirs_1 : decode cX10_readsHeirs 1 = .ok (.istore_n 1, 1) := by decide +kernel
theorem dX10_readsHeirs_2 : decode cX10_readsHeirs 2 = .ok (.iconst 0, 1) := by decide +kernel
theorem dX10_readsHeirs_3 : decode cX10_readsHeirs 3 = .ok (.istore_n 2, 1) := by decide +kernel
theorem dX10_readsHeirs_4 : decode cX10_readsHeirs 4 = .ok (.aload_n 0, 1) := by decide +kernel
theorem dX10_readsHeirs_5 : decode cX10_readsHeirs 5 = .ok (.iconst 0, 1) := by decide +kernel
theorem dX10_readsHeirs_6 : decode cX10_readsHeirs 6 = .ok (.putfield 109, 3) := by decide +kernel
theorem dX10_readsHeirs_9 : decode cX10_readsHeirs 9 = .ok (.iload_n 2, 1) := by decide +kernel
theorem dX10_readsHeirs_10 : decode cX10_readsHeirs 10 = .ok (.aload_n 0, 1) := by decide +kernel
theorem dX10_readsHeirs_11 : decode cX10_readsHeirs 11 = .ok (.getfield 7, 3) := by decide +kernel
theorem dX10_readsHeirs_14 : decode cX10_readsHeirs 14 = .ok (.iconst 0, 1) := by decide +kernel
theorem dX10_readsHeirs_15 : decode cX10_readsHeirs 15 = .ok (.iaload, 1) := by decide +kernel
theorem dX10_readsHeirs_16 : decode cX10_readsHeirs 16 = .ok (.if_icmp .lt 7, 3) := by decide +kernel
theorem dX10_readsHeirs_19 : decode cX10_readsHeirs 19 = .ok (.iload_n 2, 1) := by decide +kernel
theorem dX10_readsHeirs_20 : decode cX10_readsHeirs 20 = .ok (.ifCond .le 60, 3) := by decide +kernel
theorem dX10_readsHeirs_23 : decode cX10_readsHeirs 23 = .ok (.aload_n 0, 1) := by decide +kernel
theorem dX10_readsHeirs_24 : decode cX10_readsHeirs 24 = .ok (.iload_n 1, 1) := by decide +kernel
theorem dX10_readsHeirs_25 : decode cX10_readsHeirs 25 = .ok (.iload_n 2, 1) := by decide +kernel
theorem dX10_readsHeirs_26 : decode cX10_readsHeirs 26 = .ok (.invokevirtual 113, 3) := by decide +kernel
theorem dX10_readsHeirs_29 : decode cX10_readsHeirs 29 = .ok (.istore_n 3, 1) := by decide +kernel
theorem dX10_readsHeirs_30 : decode cX10_readsHeirs 30 = .ok (.iload_n 3, 1) := by decide +kernel
theorem dX10_readsHeirs_31 : decode cX10_readsHeirs 31 = .ok (.iconst 3, 1) := by decide +kernel
theorem dX10_readsHeirs_32 : decode cX10_readsHeirs 32 = .ok (.if_icmp .ge 7, 3) := by decide +kernel
theorem dX10_readsHeirs_35 : decode cX10_readsHeirs 35 = .ok (.iload_n 2, 1) := by decide +kernel
theorem dX10_readsHeirs_36 : decode cX10_readsHeirs 36 = .ok (.iload_n 3, 1) := by decide +kernel
theorem dX10_readsHeirs_37 : decode cX10_readsHeirs 37 = .ok (.iadd, 1) := by decide +kernel
theorem dX10_readsHeirs_38 : decode cX10_readsHeirs 38 = .ok (.ireturn, 1) := by decide +kernel
theorem dX10_readsHeirs_39 : decode cX10_readsHeirs 39 = .ok (.iinc 1 1, 3) := by decide +kernel
theorem dX10_readsHeirs_42 : decode cX10_readsHeirs 42 = .ok (.iinc 2 3, 3) := by decide +kernel
theorem dX10_readsHeirs_45 : decode cX10_readsHeirs 45 = .ok (.iload_n 2, 1) := by decide +kernel
theorem dX10_readsHeirs_46 : decode cX10_readsHeirs 46 = .ok (.aload_n 0, 1) := by decide +kernel
theorem dX10_readsHeirs_47 : decode cX10_readsHeirs 47 = .ok (.getfield 7, 3) := by decide +kernel
theorem dX10_readsHeirs_50 : decode cX10_readsHeirs 50 = .ok (.iconst 0, 1) := by decide +kernel
theorem dX10_readsHeirs_51 : decode cX10_readsHeirs 51 = .ok (.iaload, 1) := by decide +kernel
theorem dX10_readsHeirs_52 : decode cX10_readsHeirs 52 = .ok (.if_icmp .ne 10, 3) := by decide +kernel
theorem dX10_readsHeirs_55 : decode cX10_readsHeirs 55 = .ok (.aload_n 0, 1) := by decide +kernel
theorem dX10_readsHeirs_56 : decode cX10_readsHeirs 56 = .ok (.iload_n 1, 1) := by decide +kernel
theorem dX10_readsHeirs_57 : decode cX10_readsHeirs 57 = .ok (.putfield 109, 3) := by decide +kernel
theorem dX10_readsHeirs_60 : decode cX10_readsHeirs 60 = .ok (.iconst (-1), 1) := by decide +kernel
theorem dX10_readsHeirs_61 : decode cX10_readsHeirs 61 = .ok (.ireturn, 1) := by decide +kernel
theorem dX10_readsHeirs_62 : decode cX10_readsHeirs 62 = .ok (.aload_n 0, 1) := by decide +kernel
theorem dX10_readsHeirs_63 : decode cX10_readsHeirs 63 = .ok (.iload_n 2, 1) := by decide +kernel
theorem dX10_readsHeirs_64 : decode cX10_readsHeirs 64 = .ok (.invokevirtual 105, 3) := by decide +kernel
theorem dX10_readsHeirs_67 : decode cX10_readsHeirs 67 = .ok (.bipush 59, 2) := by decide +kernel
theorem dX10_readsHeirs_69 : decode cX10_readsHeirs 69 = .ok (.if_icmp .eq 5, 3) := by decide +kernel
theorem dX10_readsHeirs_72 : decode cX10_readsHeirs 72 = .ok (.iload_n 2, 1) := by decide +kernel
theorem dX10_readsHeirs_73 : decode cX10_readsHeirs 73 = .ok (.ireturn, 1) := by decide +kernel
theorem dX10_readsHeirs_74 : decode cX10_readsHeirs 74 = .ok (.iinc 2 1, 3) := by decide +kernel
theorem dX10_readsHeirs_77 : decode cX10_readsHeirs 77 = .ok (.goto (-68), 3) := by decide +kernel
theorem dX10_readsHeirs_80 : decode cX10_readsHeirs 80 = .ok (.iconst (-1), 1) := by decide +kernel
theorem dX10_readsHeirs_81 : decode cX10_readsHeirs 81 = .ok (.ireturn, 1) := by decide +kernel
theorem dX10_readsRound_0 : decode cX10_readsRound 0 = .ok (.aload_n 0, 1) := by decide +kernel
theorem dX10_readsRound_1 : decode cX10_readsRound 1 = .ok (.iconst 0, 1) := by decide +kernel
theorem dX10_readsRound_2 : decode cX10_readsRound 2 = .ok (.putfield 117, 3) := by decide +kernel
theorem dX10_readsRound_5 : decode cX10_readsRound 5 = .ok (.iconst 0, 1) := by decide +kernel
theorem dX10_readsRound_6 : decode cX10_readsRound 6 = .ok (.istore_n 1, 1) := by decide +kernel
theorem dX10_readsRound_7 : decode cX10_readsRound 7 = .ok (.iload_n 1, 1) := by decide +kernel
theorem dX10_readsRound_8 : decode cX10_readsRound 8 = .ok (.aload_n 0, 1) := by decide +kernel
theorem dX10_readsRound_9 : decode cX10_readsRound 9 = .ok (.getfield 7, 3) := by decide +kernel
theorem dX10_readsRound_12 : decode cX10_readsRound 12 = .ok (.iconst 1, 1) := by decide +kernel
theorem dX10_readsRound_13 : decode cX10_readsRound 13 = .ok (.iaload, 1) := by decide +kernel
theorem dX10_readsRound_14 : decode cX10_readsRound 14 = .ok (.if_icmp .ge 30, 3) := by decide +kernel
theorem dX10_readsRound_17 : decode cX10_readsRound 17 = .ok (.aload_n 0, 1) := by decide +kernel
theorem dX10_readsRound_18 : decode cX10_readsRound 18 = .ok (.getfield 13, 3) := by decide +kernel
theorem dX10_readsRound_21 : decode cX10_readsRound 21 = .ok (.bipush 31, 2) := by decide +kernel
theorem dX10_readsRound_23 : decode cX10_readsRound 23 = .ok (.iload_n 1, 1) := by decide +kernel
theorem dX10_readsRound_24 : decode cX10_readsRound 24 = .ok (.iadd, 1) := by decide +kernel
theorem dX10_readsRound_25 : decode cX10_readsRound 25 = .ok (.iaload, 1) := by decide +kernel
theorem dX10_readsRound_26 : decode cX10_readsRound 26 = .ok (.bipush 97, 2) := by decide +kernel
theorem dX10_readsRound_28 : decode cX10_readsRound 28 = .ok (.bipush 104, 2) := by decide +kernel
theorem dX10_readsRound_30 : decode cX10_readsRound 30 = .ok (.invokestatic 97, 3) := by decide +kernel
theorem dX10_readsRound_33 : decode cX10_readsRound 33 = .ok (.ifCond .ne 5, 3) := by decide +kernel
theorem dX10_readsRound_36 : decode cX10_readsRound 36 = .ok (.iload_n 1, 1) := by decide +kernel
theorem dX10_readsRound_37 : decode cX10_readsRound 37 = .ok (.ireturn, 1) := by decide +kernel
theorem dX10_readsRound_38 : decode cX10_readsRound 38 = .ok (.iinc 1 1, 3) := by decide +kernel
theorem dX10_readsRound_41 : decode cX10_readsRound 41 = .ok (.goto (-34), 3) := by decide +kernel
theorem dX10_readsRound_44 : decode cX10_readsRound 44 = .ok (.iconst 0, 1) := by decide +kernel
theorem dX10_readsRound_45 : decode cX10_readsRound 45 = .ok (.istore_n 1, 1) := by decide +kernel
theorem dX10_readsRound_46 : decode cX10_readsRound 46 = .ok (.iload_n 1, 1) := by decide +kernel
theorem dX10_readsRound_47 : decode cX10_readsRound 47 = .ok (.aload_n 0, 1) := by decide +kernel
theorem dX10_readsRound_48 : decode cX10_readsRound 48 = .ok (.getfield 7, 3) := by decide +kernel
theorem dX10_readsRound_51 : decode cX10_readsRound 51 = .ok (.iconst 1, 1) := by decide +kernel
theorem dX10_readsRound_52 : decode cX10_readsRound 52 = .ok (.iaload, 1) := by decide +kernel
theorem dX10_readsRound_53 : decode cX10_readsRound 53 = .ok (.if_icmp .ge 27, 3) := by decide +kernel
theorem dX10_readsRound_56 : decode cX10_readsRound 56 = .ok (.aload_n 0, 1) := by decide +kernel
theorem dX10_readsRound_57 : decode cX10_readsRound 57 = .ok (.getfield 25, 3) := by decide +kernel
theorem dX10_readsRound_60 : decode cX10_readsRound 60 = .ok (.iload_n 1, 1) := by decide +kernel
theorem dX10_readsRound_61 : decode cX10_readsRound 61 = .ok (.aload_n 0, 1) := by decide +kernel
theorem dX10_readsRound_62 : decode cX10_readsRound 62 = .ok (.getfield 13, 3) := by decide +kernel
theorem dX10_readsRound_65 : decode cX10_readsRound 65 = .ok (.bipush 31, 2) := by decide +kernel
theorem dX10_readsRound_67 : decode cX10_readsRound 67 = .ok (.iload_n 1, 1) := by decide +kernel
theorem dX10_readsRound_68 : decode cX10_readsRound 68 = .ok (.iadd, 1) := by decide +kernel
theorem dX10_readsRound_69 : decode cX10_readsRound 69 = .ok (.iaload, 1) := by decide +kernel
theorem dX10_readsRound_70 : decode cX10_readsRound 70 = .ok (.bipush 97, 2) := by decide +kernel
theorem dX10_readsRound_72 : decode cX10_readsRound 72 = .ok (.isub, 1) := by decide +kernel
theorem dX10_readsRound_73 : decode cX10_readsRound 73 = .ok (.iastore, 1) := by decide +kernel
theorem dX10_readsRound_74 : decode cX10_readsRound 74 = .ok (.iinc 1 1, 3) := by decide +kernel
theorem dX10_readsRound_77 : decode cX10_readsRound 77 = .ok (.goto (-31), 3) := by decide +kernel
theorem dX10_readsRound_80 : decode cX10_readsRound 80 = .ok (.aload_n 0, 1) := by decide +kernel
theorem dX10_readsRound_81 : decode cX10_readsRound 81 = .ok (.aload_n 0, 1) := by decide +kernel
theorem dX10_readsRound_82 : decode cX10_readsRound 82 = .ok (.getfield 7, 3) := by decide +kernel
theorem dX10_readsRound_85 : decode cX10_readsRound 85 = .ok (.iconst 1, 1) := by decide +kernel
theorem dX10_readsRound_86 : decode cX10_readsRound 86 = .ok (.iaload, 1) := by decide +kernel
theorem dX10_readsRound_87 : decode cX10_readsRound 87 = .ok (.putfield 117, 3) := by decide +kernel
theorem dX10_readsRound_90 : decode cX10_readsRound 90 = .ok (.iconst (-1), 1) := by decide +kernel
theorem dX10_readsRound_91 : decode cX10_readsRound 91 = .ok (.ireturn, 1) := by decide +kernel
theorem dX10_faultOf_0 : decode cX10_faultOf 0 = .ok (.aload_n 0, 1) := by decide +kernel
theorem dX10_faultOf_1 : decode cX10_faultOf 1 = .ok (.invokevirtual 120, 3) := by decide +kernel
theorem dX10_faultOf_4 : decode cX10_faultOf 4 = .ok (.istore_n 2, 1) := by decide +kernel
theorem dX10_faultOf_5 : decode cX10_faultOf 5 = .ok (.aload_n 0, 1) := by decide +kernel
theorem dX10_faultOf_6 : decode cX10_faultOf 6 = .ok (.invokevirtual 124, 3) := by decide +kernel
theorem dX10_faultOf_9 : decode cX10_faultOf 9 = .ok (.istore_n 3, 1) := by decide +kernel
theorem dX10_faultOf_10 : decode cX10_faultOf 10 = .ok (.iload_n 1, 1) := by decide +kernel
theorem dX10_faultOf_11 : decode cX10_faultOf 11 = .ok (.ifCond .ne 7, 3) := by decide +kernel
theorem dX10_faultOf_14 : decode cX10_faultOf 14 = .ok (.iload_n 2, 1) := by decide +kernel
theorem dX10_faultOf_15 : decode cX10_faultOf 15 = .ok (.goto 4, 3) := by decide +kernel
theorem dX10_faultOf_18 : decode cX10_faultOf 18 = .ok (.iload_n 3, 1) := by decide +kernel
theorem dX10_faultOf_19 : decode cX10_faultOf 19 = .ok (.ireturn, 1) := by decide +kernel
theorem dX10_reads_0 : decode cX10_reads 0 = .ok (.aload_n 0, 1) := by decide +kernel
theorem dX10_reads_1 : decode cX10_reads 1 = .ok (.iconst 0, 1) := by decide +kernel
theorem dX10_reads_2 : decode cX10_reads 2 = .ok (.invokevirtual 127, 3) := by decide +kernel
theorem dX10_reads_5 : decode cX10_reads 5 = .ok (.istore_n 1, 1) := by decide +kernel
theorem dX10_reads_6 : decode cX10_reads 6 = .ok (.return_, 1) := by decide +kernel
theorem dX10_fault_0 : decode cX10_fault 0 = .ok (.iload_n 1, 1) := by decide +kernel
theorem dX10_fault_1 : decode cX10_fault 1 = .ok (.invokestatic 101, 3) := by decide +kernel
theorem dX10_fault_4 : decode cX10_fault 4 = .ok (.ifCond .eq 11, 3) := by decide +kernel
theorem dX10_fault_7 : decode cX10_fault 7 = .ok (.aload_n 0, 1) := by decide +kernel
theorem dX10_fault_8 : decode cX10_fault 8 = .ok (.iload_n 1, 1) := by decide +kernel
theorem dX10_fault_9 : decode cX10_fault 9 = .ok (.invokevirtual 127, 3) := by decide +kernel
theorem dX10_fault_12 : decode cX10_fault 12 = .ok (.goto 5, 3) := by decide +kernel
theorem dX10_fault_15 : decode cX10_fault 15 = .ok (.bipush (-2), 2) := by decide +kernel
theorem dX10_fault_17 : decode cX10_fault 17 = .ok (.ireturn, 1) := by decide +kernel
theorem dX10_isHeir_0 : decode cX10_isHeir 0 = .ok (.aload_n 0, 1) := by decide +kernel
theorem dX10_isHeir_1 : decode cX10_isHeir 1 = .ok (.invokevirtual 130, 3) := by decide +kernel
theorem dX10_isHeir_4 : decode cX10_isHeir 4 = .ok (.iload_n 1, 1) := by decide +kernel
theorem dX10_isHeir_5 : decode cX10_isHeir 5 = .ok (.iconst 0, 1) := by decide +kernel
theorem dX10_isHeir_6 : decode cX10_isHeir 6 = .ok (.aload_n 0, 1) := by decide +kernel
theorem dX10_isHeir_7 : decode cX10_isHeir 7 = .ok (.getfield 109, 3) := by decide +kernel
theorem dX10_isHeir_10 : decode cX10_isHeir 10 = .ok (.iconst 1, 1) := by decide +kernel
theorem dX10_isHeir_11 : decode cX10_isHeir 11 = .ok (.isub, 1) := by decide +kernel
theorem dX10_isHeir_12 : decode cX10_isHeir 12 = .ok (.invokestatic 97, 3) := by decide +kernel
theorem dX10_isHeir_15 : decode cX10_isHeir 15 = .ok (.ireturn, 1) := by decide +kernel
theorem dX10_heirOf_0 : decode cX10_heirOf 0 = .ok (.iload_n 2, 1) := by decide +kernel
theorem dX10_heirOf_1 : decode cX10_heirOf 1 = .ok (.ifCond .ne 12, 3) := by decide +kernel
theorem dX10_heirOf_4 : decode cX10_heirOf 4 = .ok (.aload_n 0, 1) := by decide +kernel
theorem dX10_heirOf_5 : decode cX10_heirOf 5 = .ok (.getfield 16, 3) := by decide +kernel
theorem dX10_heirOf_8 : decode cX10_heirOf 8 = .ok (.iload_n 1, 1) := by decide +kernel
theorem dX10_heirOf_9 : decode cX10_heirOf 9 = .ok (.iaload, 1) := by decide +kernel
theorem dX10_heirOf_10 : decode cX10_heirOf 10 = .ok (.goto 23, 3) := by decide +kernel
theorem dX10_heirOf_13 : decode cX10_heirOf 13 = .ok (.iload_n 2, 1) := by decide +kernel
theorem dX10_heirOf_14 : decode cX10_heirOf 14 = .ok (.iconst 1, 1) := by decide +kernel
theorem dX10_heirOf_15 : decode cX10_heirOf 15 = .ok (.if_icmp .ne 12, 3) := by decide +kernel
theorem dX10_heirOf_18 : decode cX10_heirOf 18 = .ok (.aload_n 0, 1) := by decide +kernel
theorem dX10_heirOf_19 : decode cX10_heirOf 19 = .ok (.getfield 19, 3) := by decide +kernel
theorem dX10_heirOf_22 : decode cX10_heirOf 22 = .ok (.iload_n 1, 1) := by decide +kernel
theorem dX10_heirOf_23 : decode cX10_heirOf 23 = .ok (.iaload, 1) := by decide +kernel
theorem dX10_heirOf_24 : decode cX10_heirOf 24 = .ok (.goto 9, 3) := by decide +kernel
theorem dX10_heirOf_27 : decode cX10_heirOf 27 = .ok (.aload_n 0, 1) := by decide +kernel
theorem dX10_heirOf_28 : decode cX10_heirOf 28 = .ok (.getfield 22, 3) := by decide +kernel
theorem dX10_heirOf_31 : decode cX10_heirOf 31 = .ok (.iload_n 1, 1) := by decide +kernel
theorem dX10_heirOf_32 : decode cX10_heirOf 32 = .ok (.iaload, 1) := by decide +kernel
theorem dX10_heirOf_33 : decode cX10_heirOf 33 = .ok (.ireturn, 1) := by decide +kernel
theorem dX10_heir_0 : decode cX10_heir 0 = .ok (.aload_n 0, 1) := by decide +kernel
theorem dX10_heir_1 : decode cX10_heir 1 = .ok (.iload_n 1, 1) := by decide +kernel
theorem dX10_heir_2 : decode cX10_heir 2 = .ok (.invokevirtual 133, 3) := by decide +kernel
theorem dX10_heir_5 : decode cX10_heir 5 = .ok (.ifCond .eq 21, 3) := by decide +kernel
theorem dX10_heir_8 : decode cX10_heir 8 = .ok (.iload_n 2, 1) := by decide +kernel
theorem dX10_heir_9 : decode cX10_heir 9 = .ok (.iconst 0, 1) := by decide +kernel
theorem dX10_heir_10 : decode cX10_heir 10 = .ok (.iconst 2, 1) := by decide +kernel
theorem dX10_heir_11 : decode cX10_heir 11 = .ok (.invokestatic 97, 3) := by decide +kernel
theorem dX10_heir_14 : decode cX10_heir 14 = .ok (.ifCond .eq 12, 3) := by decide +kernel
theorem dX10_heir_17 : decode cX10_heir 17 = .ok (.aload_n 0, 1) := by decide +kernel
theorem dX10_heir_18 : decode cX10_heir 18 = .ok (.iload_n 1, 1) := by decide +kernel
theorem dX10_heir_19 : decode cX10_heir 19 = .ok (.iload_n 2, 1) := by decide +kernel
theorem dX10_heir_20 : decode cX10_heir 20 = .ok (.invokevirtual 136, 3) := by decide +kernel
theorem dX10_heir_23 : decode cX10_heir 23 = .ok (.goto 5, 3) := by decide +kernel
theorem dX10_heir_26 : decode cX10_heir 26 = .ok (.bipush (-2), 2) := by decide +kernel
theorem dX10_heir_28 : decode cX10_heir 28 = .ok (.ireturn, 1) := by decide +kernel
theorem dX10_roundOf_0 : decode cX10_roundOf 0 = .ok (.aload_n 0, 1) := by decide +kernel
theorem dX10_roundOf_1 : decode cX10_roundOf 1 = .ok (.invokevirtual 130, 3) := by decide +kernel
theorem dX10_roundOf_4 : decode cX10_roundOf 4 = .ok (.iload_n 1, 1) := by decide +kernel
theorem dX10_roundOf_5 : decode cX10_roundOf 5 = .ok (.aload_n 0, 1) := by decide +kernel
theorem dX10_roundOf_6 : decode cX10_roundOf 6 = .ok (.getfield 117, 3) := by decide +kernel
theorem dX10_roundOf_9 : decode cX10_roundOf 9 = .ok (.if_icmp .ge 12, 3) := by decide +kernel
theorem dX10_roundOf_12 : decode cX10_roundOf 12 = .ok (.aload_n 0, 1) := by decide +kernel
theorem dX10_roundOf_13 : decode cX10_roundOf 13 = .ok (.getfield 25, 3) := by decide +kernel
theorem dX10_roundOf_16 : decode cX10_roundOf 16 = .ok (.iload_n 1, 1) := by decide +kernel
theorem dX10_roundOf_17 : decode cX10_roundOf 17 = .ok (.iaload, 1) := by decide +kernel
theorem dX10_roundOf_18 : decode cX10_roundOf 18 = .ok (.goto 4, 3) := by decide +kernel
theorem dX10_roundOf_21 : decode cX10_roundOf 21 = .ok (.iconst (-1), 1) := by decide +kernel
theorem dX10_roundOf_22 : decode cX10_roundOf 22 = .ok (.ireturn, 1) := by decide +kernel
theorem dX10_round_0 : decode cX10_round 0 = .ok (.iload_n 1, 1) := by decide +kernel
theorem dX10_round_1 : decode cX10_round 1 = .ok (.invokestatic 139, 3) := by decide +kernel
theorem dX10_round_4 : decode cX10_round 4 = .ok (.ifCond .eq 11, 3) := by decide +kernel
theorem dX10_round_7 : decode cX10_round 7 = .ok (.aload_n 0, 1) := by decide +kernel
theorem dX10_round_8 : decode cX10_round 8 = .ok (.iload_n 1, 1) := by decide +kernel
theorem dX10_round_9 : decode cX10_round 9 = .ok (.invokevirtual 142, 3) := by decide +kernel
theorem dX10_round_12 : decode cX10_round 12 = .ok (.goto 5, 3) := by decide +kernel
theorem dX10_round_15 : decode cX10_round 15 = .ok (.bipush (-2), 2) := by decide +kernel
theorem dX10_round_17 : decode cX10_round 17 = .ok (.ireturn, 1) := by decide +kernel
theorem dX10_set_0 : decode cX10_set 0 = .ok (.iload_n 1, 1) := by decide +kernel
theorem dX10_set_1 : decode cX10_set 1 = .ok (.iconst 0, 1) := by decide +kernel
theorem dX10_set_2 : decode cX10_set 2 = .ok (.iconst 3, 1) := by decide +kernel
theorem dX10_set_3 : decode cX10_set 3 = .ok (.invokestatic 97, 3) := by decide +kernel
theorem dX10_set_6 : decode cX10_set 6 = .ok (.ifCond .eq 23, 3) := by decide +kernel
theorem dX10_set_9 : decode cX10_set 9 = .ok (.iload_n 2, 1) := by decide +kernel
theorem dX10_set_10 : decode cX10_set 10 = .ok (.iconst 0, 1) := by decide +kernel
theorem dX10_set_11 : decode cX10_set 11 = .ok (.iload_n 1, 1) := by decide +kernel
theorem dX10_set_12 : decode cX10_set 12 = .ok (.iconst 2, 1) := by decide +kernel
theorem dX10_set_13 : decode cX10_set 13 = .ok (.if_icmp .ne 8, 3) := by decide +kernel
theorem dX10_set_16 : decode cX10_set 16 = .ok (.bipush 19, 2) := by decide +kernel
theorem dX10_set_18 : decode cX10_set 18 = .ok (.goto 5, 3) := by decide +kernel
theorem dX10_set_21 : decode cX10_set 21 = .ok (.bipush 9, 2) := by decide +kernel
theorem dX10_set_23 : decode cX10_set 23 = .ok (.invokestatic 97, 3) := by decide +kernel
theorem dX10_set_26 : decode cX10_set 26 = .ok (.ifCond .ne 6, 3) := by decide +kernel
theorem dX10_set_29 : decode cX10_set 29 = .ok (.bipush (-2), 2) := by decide +kernel
theorem dX10_set_31 : decode cX10_set 31 = .ok (.ireturn, 1) := by decide +kernel
theorem dX10_set_32 : decode cX10_set 32 = .ok (.aload_n 0, 1) := by decide +kernel
theorem dX10_set_33 : decode cX10_set 33 = .ok (.getfield 28, 3) := by decide +kernel
theorem dX10_set_36 : decode cX10_set 36 = .ok (.iload_n 1, 1) := by decide +kernel
theorem dX10_set_37 : decode cX10_set 37 = .ok (.iaload, 1) := by decide +kernel
theorem dX10_set_38 : decode cX10_set 38 = .ok (.istore_n 3, 1) := by decide +kernel
theorem dX10_set_39 : decode cX10_set 39 = .ok (.aload_n 0, 1) := by decide +kernel
theorem dX10_set_40 : decode cX10_set 40 = .ok (.getfield 28, 3) := by decide +kernel
theorem dX10_set_43 : decode cX10_set 43 = .ok (.iload_n 1, 1) := by decide +kernel
theorem dX10_set_44 : decode cX10_set 44 = .ok (.iload_n 2, 1) := by decide +kernel
theorem dX10_set_45 : decode cX10_set 45 = .ok (.iastore, 1) := by decide +kernel
theorem dX10_set_46 : decode cX10_set 46 = .ok (.iload_n 3, 1) := by decide +kernel
theorem dX10_set_47 : decode cX10_set 47 = .ok (.ireturn, 1) := by decide +kernel
theorem dX10_fly_0 : decode cX10_fly 0 = .ok (.iload_n 1, 1) := by decide +kernel
theorem dX10_fly_1 : decode cX10_fly 1 = .ok (.invokestatic 139, 3) := by decide +kernel
theorem dX10_fly_4 : decode cX10_fly 4 = .ok (.ifCond .ne 6, 3) := by decide +kernel
theorem dX10_fly_7 : decode cX10_fly 7 = .ok (.bipush (-2), 2) := by decide +kernel
theorem dX10_fly_9 : decode cX10_fly 9 = .ok (.ireturn, 1) := by decide +kernel
theorem dX10_fly_10 : decode cX10_fly 10 = .ok (.aload_n 0, 1) := by decide +kernel
theorem dX10_fly_11 : decode cX10_fly 11 = .ok (.getfield 145, 3) := by decide +kernel
theorem dX10_fly_14 : decode cX10_fly 14 = .ok (.bipush 6, 2) := by decide +kernel
theorem dX10_fly_16 : decode cX10_fly 16 = .ok (.if_icmp .ne 6, 3) := by decide +kernel
theorem dX10_fly_19 : decode cX10_fly 19 = .ok (.bipush (-4), 2) := by decide +kernel
theorem dX10_fly_21 : decode cX10_fly 21 = .ok (.ireturn, 1) := by decide +kernel
theorem dX10_fly_22 : decode cX10_fly 22 = .ok (.aload_n 0, 1) := by decide +kernel
theorem dX10_fly_23 : decode cX10_fly 23 = .ok (.getfield 31, 3) := by decide +kernel
theorem dX10_fly_26 : decode cX10_fly 26 = .ok (.aload_n 0, 1) := by decide +kernel
theorem dX10_fly_27 : decode cX10_fly 27 = .ok (.getfield 145, 3) := by decide +kernel
theorem dX10_fly_30 : decode cX10_fly 30 = .ok (.iload_n 1, 1) := by decide +kernel
theorem dX10_fly_31 : decode cX10_fly 31 = .ok (.iastore, 1) := by decide +kernel
theorem dX10_fly_32 : decode cX10_fly 32 = .ok (.aload_n 0, 1) := by decide +kernel
theorem dX10_fly_33 : decode cX10_fly 33 = .ok (.dup, 1) := by decide +kernel
theorem dX10_fly_34 : decode cX10_fly 34 = .ok (.getfield 145, 3) := by decide +kernel
theorem dX10_fly_37 : decode cX10_fly 37 = .ok (.iconst 1, 1) := by decide +kernel
theorem dX10_fly_38 : decode cX10_fly 38 = .ok (.iadd, 1) := by decide +kernel
theorem dX10_fly_39 : decode cX10_fly 39 = .ok (.putfield 145, 3) := by decide +kernel
theorem dX10_fly_42 : decode cX10_fly 42 = .ok (.aload_n 0, 1) := by decide +kernel
theorem dX10_fly_43 : decode cX10_fly 43 = .ok (.getfield 145, 3) := by decide +kernel
theorem dX10_fly_46 : decode cX10_fly 46 = .ok (.ireturn, 1) := by decide +kernel
theorem dX10_back_0 : decode cX10_back 0 = .ok (.aload_n 0, 1) := by decide +kernel
theorem dX10_back_1 : decode cX10_back 1 = .ok (.getfield 145, 3) := by decide +kernel
theorem dX10_back_4 : decode cX10_back 4 = .ok (.ifCond .ne 6, 3) := by decide +kernel
theorem dX10_back_7 : decode cX10_back 7 = .ok (.bipush (-3), 2) := by decide +kernel
theorem dX10_back_9 : decode cX10_back 9 = .ok (.ireturn, 1) := by decide +kernel
theorem dX10_back_10 : decode cX10_back 10 = .ok (.aload_n 0, 1) := by decide +kernel
theorem dX10_back_11 : decode cX10_back 11 = .ok (.dup, 1) := by decide +kernel
theorem dX10_back_12 : decode cX10_back 12 = .ok (.getfield 145, 3) := by decide +kernel
theorem dX10_back_15 : decode cX10_back 15 = .ok (.iconst 1, 1) := by decide +kernel
theorem dX10_back_16 : decode cX10_back 16 = .ok (.isub, 1) := by decide +kernel
theorem dX10_back_17 : decode cX10_back 17 = .ok (.putfield 145, 3) := by decide +kernel
theorem dX10_back_20 : decode cX10_back 20 = .ok (.aload_n 0, 1) := by decide +kernel
theorem dX10_back_21 : decode cX10_back 21 = .ok (.getfield 145, 3) := by decide +kernel
theorem dX10_back_24 : decode cX10_back 24 = .ok (.ireturn, 1) := by decide +kernel
theorem dX10_read_0 : decode cX10_read 0 = .ok (.iload_n 1, 1) := by decide +kernel
theorem dX10_read_1 : decode cX10_read 1 = .ok (.invokestatic 148, 3) := by decide +kernel
theorem dX10_read_4 : decode cX10_read 4 = .ok (.ifCond .ne 6, 3) := by decide +kernel
theorem dX10_read_7 : decode cX10_read 7 = .ok (.bipush (-2), 2) := by decide +kernel
theorem dX10_read_9 : decode cX10_read 9 = .ok (.ireturn, 1) := by decide +kernel
theorem dX10_read_10 : decode cX10_read 10 = .ok (.aload_n 0, 1) := by decide +kernel
theorem dX10_read_11 : decode cX10_read 11 = .ok (.getfield 79, 3) := by decide +kernel
theorem dX10_read_14 : decode cX10_read 14 = .ok (.iload_n 1, 1) := by decide +kernel
theorem dX10_read_15 : decode cX10_read 15 = .ok (.baload, 1) := by decide +kernel
theorem dX10_read_16 : decode cX10_read 16 = .ok (.ifCond .ne 9, 3) := by decide +kernel
theorem dX10_read_19 : decode cX10_read 19 = .ok (.aload_n 0, 1) := by decide +kernel
theorem dX10_read_20 : decode cX10_read 20 = .ok (.iconst 1, 1) := by decide +kernel
theorem dX10_read_21 : decode cX10_read 21 = .ok (.invokevirtual 151, 3) := by decide +kernel
theorem dX10_read_24 : decode cX10_read 24 = .ok (.ireturn, 1) := by decide +kernel
theorem dX10_read_25 : decode cX10_read 25 = .ok (.iconst 0, 1) := by decide +kernel
theorem dX10_read_26 : decode cX10_read 26 = .ok (.istore_n 2, 1) := by decide +kernel
theorem dX10_read_27 : decode cX10_read 27 = .ok (.iload_n 2, 1) := by decide +kernel
theorem dX10_read_28 : decode cX10_read 28 = .ok (.aload_n 0, 1) := by decide +kernel
theorem dX10_read_29 : decode cX10_read 29 = .ok (.getfield 86, 3) := by decide +kernel
theorem dX10_read_32 : decode cX10_read 32 = .ok (.iload_n 1, 1) := by decide +kernel
theorem dX10_read_33 : decode cX10_read 33 = .ok (.iaload, 1) := by decide +kernel
theorem dX10_read_34 : decode cX10_read 34 = .ok (.if_icmp .ge 27, 3) := by decide +kernel
theorem dX10_read_37 : decode cX10_read 37 = .ok (.aload_n 0, 1) := by decide +kernel
theorem dX10_read_38 : decode cX10_read 38 = .ok (.aload_n 0, 1) := by decide +kernel
theorem dX10_read_39 : decode cX10_read 39 = .ok (.getfield 89, 3) := by decide +kernel
theorem dX10_read_42 : decode cX10_read 42 = .ok (.bipush 60, 2) := by decide +kernel
theorem dX10_read_44 : decode cX10_read 44 = .ok (.iload_n 1, 1) := by decide +kernel
theorem dX10_read_45 : decode cX10_read 45 = .ok (.imul, 1) := by decide +kernel
theorem dX10_read_46 : decode cX10_read 46 = .ok (.iload_n 2, 1) := by decide +kernel
theorem dX10_read_47 : decode cX10_read 47 = .ok (.iadd, 1) := by decide +kernel
theorem dX10_read_48 : decode cX10_read 48 = .ok (.iaload, 1) := by decide +kernel
theorem dX10_read_49 : decode cX10_read 49 = .ok (.invokevirtual 154, 3) := by decide +kernel
theorem dX10_read_52 : decode cX10_read 52 = .ok (.ifCond .le 9, 3) := by decide +kernel
theorem dX10_read_55 : decode cX10_read 55 = .ok (.iinc 2 1, 3) := by decide +kernel
theorem dX10_read_58 : decode cX10_read 58 = .ok (.goto (-31), 3) := by decide +kernel
theorem dX10_read_61 : decode cX10_read 61 = .ok (.iload_n 2, 1) := by decide +kernel
theorem dX10_read_62 : decode cX10_read 62 = .ok (.ireturn, 1) := by decide +kernel
theorem dX10_fliesBut_0 : decode cX10_fliesBut 0 = .ok (.iconst 0, 1) := by decide +kernel
theorem dX10_fliesBut_1 : decode cX10_fliesBut 1 = .ok (.istore_n 2, 1) := by decide +kernel
theorem dX10_fliesBut_2 : decode cX10_fliesBut 2 = .ok (.iconst 0, 1) := by decide +kernel
theorem dX10_fliesBut_3 : decode cX10_fliesBut 3 = .ok (.istore_n 3, 1) := by decide +kernel
theorem dX10_fliesBut_4 : decode cX10_fliesBut 4 = .ok (.iload_n 3, 1) := by decide +kernel
theorem dX10_fliesBut_5 : decode cX10_fliesBut 5 = .ok (.aload_n 0, 1) := by decide +kernel
theorem dX10_fliesBut_6 : decode cX10_fliesBut 6 = .ok (.getfield 145, 3) := by decide +kernel
theorem dX10_fliesBut_9 : decode cX10_fliesBut 9 = .ok (.if_icmp .ge 32, 3) := by decide +kernel
theorem dX10_fliesBut_12 : decode cX10_fliesBut 12 = .ok (.iload_n 2, 1) := by decide +kernel
theorem dX10_fliesBut_13 : decode cX10_fliesBut 13 = .ok (.iload_n 1, 1) := by decide +kernel
theorem dX10_fliesBut_14 : decode cX10_fliesBut 14 = .ok (.iload_n 3, 1) := by decide +kernel
theorem dX10_fliesBut_15 : decode cX10_fliesBut 15 = .ok (.invokestatic 157, 3) := by decide +kernel
theorem dX10_fliesBut_18 : decode cX10_fliesBut 18 = .ok (.ifCond .eq 7, 3) := by decide +kernel
theorem dX10_fliesBut_21 : decode cX10_fliesBut 21 = .ok (.iconst 0, 1) := by decide +kernel
theorem dX10_fliesBut_22 : decode cX10_fliesBut 22 = .ok (.goto 11, 3) := by decide +kernel
theorem dX10_fliesBut_25 : decode cX10_fliesBut 25 = .ok (.iconst 1, 1) := by decide +kernel
theorem dX10_fliesBut_26 : decode cX10_fliesBut 26 = .ok (.aload_n 0, 1) := by decide +kernel
theorem dX10_fliesBut_27 : decode cX10_fliesBut 27 = .ok (.getfield 31, 3) := by decide +kernel
theorem dX10_fliesBut_30 : decode cX10_fliesBut 30 = .ok (.iload_n 3, 1) := by decide +kernel
theorem dX10_fliesBut_31 : decode cX10_fliesBut 31 = .ok (.iaload, 1) := by decide +kernel
theorem dX10_fliesBut_32 : decode cX10_fliesBut 32 = .ok (.ishl, 1) := by decide +kernel
theorem dX10_fliesBut_33 : decode cX10_fliesBut 33 = .ok (.ior, 1) := by decide +kernel
theorem dX10_fliesBut_34 : decode cX10_fliesBut 34 = .ok (.istore_n 2, 1) := by decide +kernel
theorem dX10_fliesBut_35 : decode cX10_fliesBut 35 = .ok (.iinc 3 1, 3) := by decide +kernel
theorem dX10_fliesBut_38 : decode cX10_fliesBut 38 = .ok (.goto (-34), 3) := by decide +kernel
theorem dX10_fliesBut_41 : decode cX10_fliesBut 41 = .ok (.iload_n 2, 1) := by decide +kernel
theorem dX10_fliesBut_42 : decode cX10_fliesBut 42 = .ok (.ireturn, 1) := by decide +kernel
theorem dX10_asTold_0 : decode cX10_asTold 0 = .ok (.aload_n 0, 1) := by decide +kernel
theorem dX10_asTold_1 : decode cX10_asTold 1 = .ok (.invokevirtual 130, 3) := by decide +kernel
theorem dX10_asTold_4 : decode cX10_asTold 4 = .ok (.aload_n 0, 1) := by decide +kernel
theorem dX10_asTold_5 : decode cX10_asTold 5 = .ok (.aload_n 0, 1) := by decide +kernel
theorem dX10_asTold_6 : decode cX10_asTold 6 = .ok (.getfield 117, 3) := by decide +kernel
theorem dX10_asTold_9 : decode cX10_asTold 9 = .ok (.putfield 161, 3) := by decide +kernel
theorem dX10_asTold_12 : decode cX10_asTold 12 = .ok (.iconst 0, 1) := by decide +kernel
theorem dX10_asTold_13 : decode cX10_asTold 13 = .ok (.istore_n 1, 1) := by decide +kernel
theorem dX10_asTold_14 : decode cX10_asTold 14 = .ok (.iload_n 1, 1) := by decide +kernel
theorem dX10_asTold_15 : decode cX10_asTold 15 = .ok (.aload_n 0, 1) := by decide +kernel
theorem dX10_asTold_16 : decode cX10_asTold 16 = .ok (.getfield 161, 3) := by decide +kernel
theorem dX10_asTold_19 : decode cX10_asTold 19 = .ok (.if_icmp .ge 21, 3) := by decide +kernel
theorem dX10_asTold_22 : decode cX10_asTold 22 = .ok (.aload_n 0, 1) := by decide +kernel
theorem dX10_asTold_23 : decode cX10_asTold 23 = .ok (.getfield 34, 3) := by decide +kernel
theorem dX10_asTold_26 : decode cX10_asTold 26 = .ok (.iload_n 1, 1) := by decide +kernel
theorem dX10_asTold_27 : decode cX10_asTold 27 = .ok (.aload_n 0, 1) := by decide +kernel
theorem dX10_asTold_28 : decode cX10_asTold 28 = .ok (.getfield 25, 3) := by decide +kernel
theorem dX10_asTold_31 : decode cX10_asTold 31 = .ok (.iload_n 1, 1) := by decide +kernel
theorem dX10_asTold_32 : decode cX10_asTold 32 = .ok (.iaload, 1) := by decide +kernel
theorem dX10_asTold_33 : decode cX10_asTold 33 = .ok (.iastore, 1) := by decide +kernel
theorem dX10_asTold_34 : decode cX10_asTold 34 = .ok (.iinc 1 1, 3) := by decide +kernel
theorem dX10_asTold_37 : decode cX10_asTold 37 = .ok (.goto (-23), 3) := by decide +kernel
theorem dX10_asTold_40 : decode cX10_asTold 40 = .ok (.aload_n 0, 1) := by decide +kernel
theorem dX10_asTold_41 : decode cX10_asTold 41 = .ok (.aload_n 0, 1) := by decide +kernel
theorem dX10_asTold_42 : decode cX10_asTold 42 = .ok (.iconst 0, 1) := by decide +kernel
theorem dX10_asTold_43 : decode cX10_asTold 43 = .ok (.invokevirtual 164, 3) := by decide +kernel
theorem dX10_asTold_46 : decode cX10_asTold 46 = .ok (.putfield 167, 3) := by decide +kernel
theorem dX10_asTold_49 : decode cX10_asTold 49 = .ok (.aload_n 0, 1) := by decide +kernel
theorem dX10_asTold_50 : decode cX10_asTold 50 = .ok (.iconst (-1), 1) := by decide +kernel
theorem dX10_asTold_51 : decode cX10_asTold 51 = .ok (.putfield 170, 3) := by decide +kernel
theorem dX10_asTold_54 : decode cX10_asTold 54 = .ok (.return_, 1) := by decide +kernel
theorem dX10_keepsAt_0 : decode cX10_keepsAt 0 = .ok (.iconst 0, 1) := by decide +kernel
theorem dX10_keepsAt_1 : decode cX10_keepsAt 1 = .ok (.istore_n 2, 1) := by decide +kernel
theorem dX10_keepsAt_2 : decode cX10_keepsAt 2 = .ok (.iload_n 2, 1) := by decide +kernel
theorem dX10_keepsAt_3 : decode cX10_keepsAt 3 = .ok (.aload_n 0, 1) := by decide +kernel
theorem dX10_keepsAt_4 : decode cX10_keepsAt 4 = .ok (.getfield 109, 3) := by decide +kernel
theorem dX10_keepsAt_7 : decode cX10_keepsAt 7 = .ok (.if_icmp .ge 60, 3) := by decide +kernel
theorem dX10_keepsAt_10 : decode cX10_keepsAt 10 = .ok (.aload_n 0, 1) := by decide +kernel
theorem dX10_keepsAt_11 : decode cX10_keepsAt 11 = .ok (.getfield 58, 3) := by decide +kernel
theorem dX10_keepsAt_14 : decode cX10_keepsAt 14 = .ok (.bipush 8, 2) := by decide +kernel
theorem dX10_keepsAt_16 : decode cX10_keepsAt 16 = .ok (.iload_n 1, 1) := by decide +kernel
theorem dX10_keepsAt_17 : decode cX10_keepsAt 17 = .ok (.imul, 1) := by decide +kernel
theorem dX10_keepsAt_18 : decode cX10_keepsAt 18 = .ok (.iload_n 2, 1) := by decide +kernel
theorem dX10_keepsAt_19 : decode cX10_keepsAt 19 = .ok (.iadd, 1) := by decide +kernel
theorem dX10_keepsAt_20 : decode cX10_keepsAt 20 = .ok (.aload_n 0, 1) := by decide +kernel
theorem dX10_keepsAt_21 : decode cX10_keepsAt 21 = .ok (.getfield 37, 3) := by decide +kernel
theorem dX10_keepsAt_24 : decode cX10_keepsAt 24 = .ok (.iload_n 2, 1) := by decide +kernel
theorem dX10_keepsAt_25 : decode cX10_keepsAt 25 = .ok (.iaload, 1) := by decide +kernel
theorem dX10_keepsAt_26 : decode cX10_keepsAt 26 = .ok (.iastore, 1) := by decide +kernel
theorem dX10_keepsAt_27 : decode cX10_keepsAt 27 = .ok (.aload_n 0, 1) := by decide +kernel
theorem dX10_keepsAt_28 : decode cX10_keepsAt 28 = .ok (.getfield 61, 3) := by decide +kernel
theorem dX10_keepsAt_31 : decode cX10_keepsAt 31 = .ok (.bipush 8, 2) := by decide +kernel
theorem dX10_keepsAt_33 : decode cX10_keepsAt 33 = .ok (.iload_n 1, 1) := by decide +kernel
theorem dX10_keepsAt_34 : decode cX10_keepsAt 34 = .ok (.imul, 1) := by decide +kernel
theorem dX10_keepsAt_35 : decode cX10_keepsAt 35 = .ok (.iload_n 2, 1) := by decide +kernel
theorem dX10_keepsAt_36 : decode cX10_keepsAt 36 = .ok (.iadd, 1) := by decide +kernel
theorem dX10_keepsAt_37 : decode cX10_keepsAt 37 = .ok (.aload_n 0, 1) := by decide +kernel
theorem dX10_keepsAt_38 : decode cX10_keepsAt 38 = .ok (.getfield 40, 3) := by decide +kernel
theorem dX10_keepsAt_41 : decode cX10_keepsAt 41 = .ok (.iload_n 2, 1) := by decide +kernel
theorem dX10_keepsAt_42 : decode cX10_keepsAt 42 = .ok (.iaload, 1) := by decide +kernel
theorem dX10_keepsAt_43 : decode cX10_keepsAt 43 = .ok (.iastore, 1) := by decide +kernel
theorem dX10_keepsAt_44 : decode cX10_keepsAt 44 = .ok (.aload_n 0, 1) := by decide +kernel
theorem dX10_keepsAt_45 : decode cX10_keepsAt 45 = .ok (.getfield 64, 3) := by decide +kernel
theorem dX10_keepsAt_48 : decode cX10_keepsAt 48 = .ok (.bipush 8, 2) := by decide +kernel
theorem dX10_keepsAt_50 : decode cX10_keepsAt 50 = .ok (.iload_n 1, 1) := by decide +kernel
theorem dX10_keepsAt_51 : decode cX10_keepsAt 51 = .ok (.imul, 1) := by decide +kernel
theorem dX10_keepsAt_52 : decode cX10_keepsAt 52 = .ok (.iload_n 2, 1) := by decide +kernel
theorem dX10_keepsAt_53 : decode cX10_keepsAt 53 = .ok (.iadd, 1) := by decide +kernel
theorem dX10_keepsAt_54 : decode cX10_keepsAt 54 = .ok (.aload_n 0, 1) := by decide +kernel
theorem dX10_keepsAt_55 : decode cX10_keepsAt 55 = .ok (.getfield 43, 3) := by decide +kernel
theorem dX10_keepsAt_58 : decode cX10_keepsAt 58 = .ok (.iload_n 2, 1) := by decide +kernel
theorem dX10_keepsAt_59 : decode cX10_keepsAt 59 = .ok (.iaload, 1) := by decide +kernel
theorem dX10_keepsAt_60 : decode cX10_keepsAt 60 = .ok (.iastore, 1) := by decide +kernel
theorem dX10_keepsAt_61 : decode cX10_keepsAt 61 = .ok (.iinc 2 1, 3) := by decide +kernel
theorem dX10_keepsAt_64 : decode cX10_keepsAt 64 = .ok (.goto (-62), 3) := by decide +kernel
theorem dX10_keepsAt_67 : decode cX10_keepsAt 67 = .ok (.return_, 1) := by decide +kernel
theorem dX10_afraid_0 : decode cX10_afraid 0 = .ok (.aload_n 0, 1) := by decide +kernel
theorem dX10_afraid_1 : decode cX10_afraid 1 = .ok (.getfield 28, 3) := by decide +kernel
theorem dX10_afraid_4 : decode cX10_afraid 4 = .ok (.iconst 1, 1) := by decide +kernel
theorem dX10_afraid_5 : decode cX10_afraid 5 = .ok (.iaload, 1) := by decide +kernel
theorem dX10_afraid_6 : decode cX10_afraid 6 = .ok (.aload_n 0, 1) := by decide +kernel
theorem dX10_afraid_7 : decode cX10_afraid 7 = .ok (.getfield 167, 3) := by decide +kernel
theorem dX10_afraid_10 : decode cX10_afraid 10 = .ok (.iload_n 2, 1) := by decide +kernel
theorem dX10_afraid_11 : decode cX10_afraid 11 = .ok (.invokestatic 157, 3) := by decide +kernel
theorem dX10_afraid_14 : decode cX10_afraid 14 = .ok (.ifCond .eq 7, 3) := by decide +kernel
theorem dX10_afraid_17 : decode cX10_afraid 17 = .ok (.iconst 2, 1) := by decide +kernel
theorem dX10_afraid_18 : decode cX10_afraid 18 = .ok (.goto 4, 3) := by decide +kernel
theorem dX10_afraid_21 : decode cX10_afraid 21 = .ok (.iconst 0, 1) := by decide +kernel
theorem dX10_afraid_22 : decode cX10_afraid 22 = .ok (.iadd, 1) := by decide +kernel
theorem dX10_afraid_23 : decode cX10_afraid 23 = .ok (.aload_n 0, 1) := by decide +kernel
theorem dX10_afraid_24 : decode cX10_afraid 24 = .ok (.getfield 16, 3) := by decide +kernel
theorem dX10_afraid_27 : decode cX10_afraid 27 = .ok (.iload_n 1, 1) := by decide +kernel
theorem dX10_afraid_28 : decode cX10_afraid 28 = .ok (.iaload, 1) := by decide +kernel
theorem dX10_afraid_29 : decode cX10_afraid 29 = .ok (.iconst 2, 1) := by decide +kernel
theorem dX10_afraid_30 : decode cX10_afraid 30 = .ok (.if_icmp .ne 7, 3) := by decide +kernel
theorem dX10_afraid_33 : decode cX10_afraid 33 = .ok (.iconst 2, 1) := by decide +kernel
theorem dX10_afraid_34 : decode cX10_afraid 34 = .ok (.goto 4, 3) := by decide +kernel
theorem dX10_afraid_37 : decode cX10_afraid 37 = .ok (.iconst 0, 1) := by decide +kernel
theorem dX10_afraid_38 : decode cX10_afraid 38 = .ok (.iadd, 1) := by decide +kernel
theorem dX10_afraid_39 : decode cX10_afraid 39 = .ok (.aload_n 0, 1) := by decide +kernel
theorem dX10_afraid_40 : decode cX10_afraid 40 = .ok (.getfield 16, 3) := by decide +kernel
theorem dX10_afraid_43 : decode cX10_afraid 43 = .ok (.iload_n 1, 1) := by decide +kernel
theorem dX10_afraid_44 : decode cX10_afraid 44 = .ok (.iaload, 1) := by decide +kernel
theorem dX10_afraid_45 : decode cX10_afraid 45 = .ok (.iconst 1, 1) := by decide +kernel
theorem dX10_afraid_46 : decode cX10_afraid 46 = .ok (.if_icmp .ne 7, 3) := by decide +kernel
theorem dX10_afraid_49 : decode cX10_afraid 49 = .ok (.iconst 1, 1) := by decide +kernel
theorem dX10_afraid_50 : decode cX10_afraid 50 = .ok (.goto 4, 3) := by decide +kernel
theorem dX10_afraid_53 : decode cX10_afraid 53 = .ok (.iconst 0, 1) := by decide +kernel
theorem dX10_afraid_54 : decode cX10_afraid 54 = .ok (.isub, 1) := by decide +kernel
theorem dX10_afraid_55 : decode cX10_afraid 55 = .ok (.istore_n 3, 1) := by decide +kernel
theorem dX10_afraid_56 : decode cX10_afraid 56 = .ok (.iload_n 3, 1) := by decide +kernel
theorem dX10_afraid_57 : decode cX10_afraid 57 = .ok (.ifCond .le 7, 3) := by decide +kernel
theorem dX10_afraid_60 : decode cX10_afraid 60 = .ok (.iload_n 3, 1) := by decide +kernel
theorem dX10_afraid_61 : decode cX10_afraid 61 = .ok (.goto 4, 3) := by decide +kernel
theorem dX10_afraid_64 : decode cX10_afraid 64 = .ok (.iconst 0, 1) := by decide +kernel
theorem dX10_afraid_65 : decode cX10_afraid 65 = .ok (.ireturn, 1) := by decide +kernel
theorem dX10_goesBack_0 : decode cX10_goesBack 0 = .ok (.iconst 0, 1) := by decide +kernel
theorem dX10_goesBack_1 : decode cX10_goesBack 1 = .ok (.istore_n 1, 1) := by decide +kernel
theorem dX10_goesBack_2 : decode cX10_goesBack 2 = .ok (.iload_n 1, 1) := by decide +kernel
theorem dX10_goesBack_3 : decode cX10_goesBack 3 = .ok (.aload_n 0, 1) := by decide +kernel
theorem dX10_goesBack_4 : decode cX10_goesBack 4 = .ok (.getfield 109, 3) := by decide +kernel
theorem dX10_goesBack_7 : decode cX10_goesBack 7 = .ok (.if_icmp .ge 43, 3) := by decide +kernel
theorem dX10_goesBack_10 : decode cX10_goesBack 10 = .ok (.aload_n 0, 1) := by decide +kernel
theorem dX10_goesBack_11 : decode cX10_goesBack 11 = .ok (.dup, 1) := by decide +kernel
theorem dX10_goesBack_12 : decode cX10_goesBack 12 = .ok (.getfield 173, 3) := by decide +kernel
theorem dX10_goesBack_15 : decode cX10_goesBack 15 = .ok (.aload_n 0, 1) := by decide +kernel
theorem dX10_goesBack_16 : decode cX10_goesBack 16 = .ok (.getfield 37, 3) := by decide +kernel
theorem dX10_goesBack_19 : decode cX10_goesBack 19 = .ok (.iload_n 1, 1) := by decide +kernel
theorem dX10_goesBack_20 : decode cX10_goesBack 20 = .ok (.iaload, 1) := by decide +kernel
theorem dX10_goesBack_21 : decode cX10_goesBack 21 = .ok (.aload_n 0, 1) := by decide +kernel
theorem dX10_goesBack_22 : decode cX10_goesBack 22 = .ok (.getfield 37, 3) := by decide +kernel
theorem dX10_goesBack_25 : decode cX10_goesBack 25 = .ok (.iload_n 1, 1) := by decide +kernel
theorem dX10_goesBack_26 : decode cX10_goesBack 26 = .ok (.iaload, 1) := by decide +kernel
theorem dX10_goesBack_27 : decode cX10_goesBack 27 = .ok (.iconst 2, 1) := by decide +kernel
theorem dX10_goesBack_28 : decode cX10_goesBack 28 = .ok (.idiv, 1) := by decide +kernel
theorem dX10_goesBack_29 : decode cX10_goesBack 29 = .ok (.isub, 1) := by decide +kernel
theorem dX10_goesBack_30 : decode cX10_goesBack 30 = .ok (.iadd, 1) := by decide +kernel
theorem dX10_goesBack_31 : decode cX10_goesBack 31 = .ok (.putfield 173, 3) := by decide +kernel
theorem dX10_goesBack_34 : decode cX10_goesBack 34 = .ok (.aload_n 0, 1) := by decide +kernel
theorem dX10_goesBack_35 : decode cX10_goesBack 35 = .ok (.getfield 37, 3) := by decide +kernel
theorem dX10_goesBack_38 : decode cX10_goesBack 38 = .ok (.iload_n 1, 1) := by decide +kernel
theorem dX10_goesBack_39 : decode cX10_goesBack 39 = .ok (.dup2, 1) := by decide +kernel
theorem dX10_goesBack_40 : decode cX10_goesBack 40 = .ok (.iaload, 1) := by decide +kernel
theorem dX10_goesBack_41 : decode cX10_goesBack 41 = .ok (.iconst 2, 1) := by decide +kernel
theorem dX10_goesBack_42 : decode cX10_goesBack 42 = .ok (.idiv, 1) := by decide +kernel
theorem dX10_goesBack_43 : decode cX10_goesBack 43 = .ok (.iastore, 1) := by decide +kernel
theorem dX10_goesBack_44 : decode cX10_goesBack 44 = .ok (.iinc 1 1, 3) := by decide +kernel
theorem dX10_goesBack_47 : decode cX10_goesBack 47 = .ok (.goto (-45), 3) := by decide +kernel
theorem dX10_goesBack_50 : decode cX10_goesBack 50 = .ok (.return_, 1) := by decide +kernel
theorem dX10_stays_0 : decode cX10_stays 0 = .ok (.iload_n 3, 1) := by decide +kernel
theorem dX10_stays_1 : decode cX10_stays 1 = .ok (.bipush 9, 2) := by decide +kernel
theorem dX10_stays_3 : decode cX10_stays 3 = .ok (.if_icmp .ge 7, 3) := by decide +kernel
theorem dX10_stays_6 : decode cX10_stays 6 = .ok (.iload_n 3, 1) := by decide +kernel
theorem dX10_stays_7 : decode cX10_stays 7 = .ok (.goto 5, 3) := by decide +kernel
theorem dX10_stays_10 : decode cX10_stays 10 = .ok (.bipush 9, 2) := by decide +kernel
theorem dX10_stays_12 : decode cX10_stays 12 = .ok (.iload 4, 2) := by decide +kernel
theorem dX10_stays_14 : decode cX10_stays 14 = .ok (.ifCond .le 7, 3) := by decide +kernel
theorem dX10_stays_17 : decode cX10_stays 17 = .ok (.iconst 2, 1) := by decide +kernel
theorem dX10_stays_18 : decode cX10_stays 18 = .ok (.goto 4, 3) := by decide +kernel
theorem dX10_stays_21 : decode cX10_stays 21 = .ok (.iconst 1, 1) := by decide +kernel
theorem dX10_stays_22 : decode cX10_stays 22 = .ok (.imul, 1) := by decide +kernel
theorem dX10_stays_23 : decode cX10_stays 23 = .ok (.istore 5, 2) := by decide +kernel
theorem dX10_stays_25 : decode cX10_stays 25 = .ok (.aload_n 0, 1) := by decide +kernel
theorem dX10_stays_26 : decode cX10_stays 26 = .ok (.getfield 37, 3) := by decide +kernel
theorem dX10_stays_29 : decode cX10_stays 29 = .ok (.iload_n 1, 1) := by decide +kernel
theorem dX10_stays_30 : decode cX10_stays 30 = .ok (.dup2, 1) := by decide +kernel
theorem dX10_stays_31 : decode cX10_stays 31 = .ok (.iaload, 1) := by decide +kernel
theorem dX10_stays_32 : decode cX10_stays 32 = .ok (.iload 5, 2) := by decide +kernel
theorem dX10_stays_34 : decode cX10_stays 34 = .ok (.iadd, 1) := by decide +kernel
theorem dX10_stays_35 : decode cX10_stays 35 = .ok (.iastore, 1) := by decide +kernel
theorem dX10_stays_36 : decode cX10_stays 36 = .ok (.aload_n 0, 1) := by decide +kernel
theorem dX10_stays_37 : decode cX10_stays 37 = .ok (.getfield 40, 3) := by decide +kernel
theorem dX10_stays_40 : decode cX10_stays 40 = .ok (.iload_n 1, 1) := by decide +kernel
theorem dX10_stays_41 : decode cX10_stays 41 = .ok (.dup2, 1) := by decide +kernel
theorem dX10_stays_42 : decode cX10_stays 42 = .ok (.iaload, 1) := by decide +kernel
theorem dX10_stays_43 : decode cX10_stays 43 = .ok (.iload_n 3, 1) := by decide +kernel
theorem dX10_stays_44 : decode cX10_stays 44 = .ok (.bipush 9, 2) := by decide +kernel
theorem dX10_stays_46 : decode cX10_stays 46 = .ok (.if_icmp .lt 7, 3) := by decide +kernel
theorem dX10_stays_49 : decode cX10_stays 49 = .ok (.iconst 1, 1) := by decide +kernel
theorem dX10_stays_50 : decode cX10_stays 50 = .ok (.goto 4, 3) := by decide +kernel
theorem dX10_stays_53 : decode cX10_stays 53 = .ok (.iconst 0, 1) := by decide +kernel
theorem dX10_stays_54 : decode cX10_stays 54 = .ok (.iadd, 1) := by decide +kernel
theorem dX10_stays_55 : decode cX10_stays 55 = .ok (.iastore, 1) := by decide +kernel
theorem dX10_stays_56 : decode cX10_stays 56 = .ok (.aload_n 0, 1) := by decide +kernel
theorem dX10_stays_57 : decode cX10_stays 57 = .ok (.iload 5, 2) := by decide +kernel
theorem dX10_stays_59 : decode cX10_stays 59 = .ok (.aload_n 0, 1) := by decide +kernel
theorem dX10_stays_60 : decode cX10_stays 60 = .ok (.getfield 176, 3) := by decide +kernel
theorem dX10_stays_63 : decode cX10_stays 63 = .ok (.if_icmp .le 7, 3) := by decide +kernel
theorem dX10_stays_66 : decode cX10_stays 66 = .ok (.iload_n 2, 1) := by decide +kernel
theorem dX10_stays_67 : decode cX10_stays 67 = .ok (.goto 7, 3) := by decide +kernel
theorem dX10_stays_70 : decode cX10_stays 70 = .ok (.aload_n 0, 1) := by decide +kernel
theorem dX10_stays_71 : decode cX10_stays 71 = .ok (.getfield 179, 3) := by decide +kernel
theorem dX10_stays_74 : decode cX10_stays 74 = .ok (.putfield 179, 3) := by decide +kernel
theorem dX10_stays_77 : decode cX10_stays 77 = .ok (.aload_n 0, 1) := by decide +kernel
theorem dX10_stays_78 : decode cX10_stays 78 = .ok (.iload 5, 2) := by decide +kernel
theorem dX10_stays_80 : decode cX10_stays 80 = .ok (.aload_n 0, 1) := by decide +kernel
theorem dX10_stays_81 : decode cX10_stays 81 = .ok (.getfield 176, 3) := by decide +kernel
theorem dX10_stays_84 : decode cX10_stays 84 = .ok (.if_icmp .le 8, 3) := by decide +kernel
theorem dX10_stays_87 : decode cX10_stays 87 = .ok (.iload 5, 2) := by decide +kernel
theorem dX10_stays_89 : decode cX10_stays 89 = .ok (.goto 7, 3) := by decide +kernel
theorem dX10_stays_92 : decode cX10_stays 92 = .ok (.aload_n 0, 1) := by decide +kernel
theorem dX10_stays_93 : decode cX10_stays 93 = .ok (.getfield 176, 3) := by decide +kernel
theorem dX10_stays_96 : decode cX10_stays 96 = .ok (.putfield 176, 3) := by decide +kernel
theorem dX10_stays_99 : decode cX10_stays 99 = .ok (.return_, 1) := by decide +kernel
theorem dX10_visits_0 : decode cX10_visits 0 = .ok (.aload_n 0, 1) := by decide +kernel
theorem dX10_visits_1 : decode cX10_visits 1 = .ok (.getfield 43, 3) := by decide +kernel
theorem dX10_visits_4 : decode cX10_visits 4 = .ok (.iload_n 1, 1) := by decide +kernel
theorem dX10_visits_5 : decode cX10_visits 5 = .ok (.iaload, 1) := by decide +kernel
theorem dX10_visits_6 : decode cX10_visits 6 = .ok (.aload_n 0, 1) := by decide +kernel
theorem dX10_visits_7 : decode cX10_visits 7 = .ok (.getfield 182, 3) := by decide +kernel
theorem dX10_visits_10 : decode cX10_visits 10 = .ok (.if_icmp .ge 12, 3) := by decide +kernel
theorem dX10_visits_13 : decode cX10_visits 13 = .ok (.aload_n 0, 1) := by decide +kernel
theorem dX10_visits_14 : decode cX10_visits 14 = .ok (.getfield 43, 3) := by decide +kernel
theorem dX10_visits_17 : decode cX10_visits 17 = .ok (.iload_n 1, 1) := by decide +kernel
theorem dX10_visits_18 : decode cX10_visits 18 = .ok (.iaload, 1) := by decide +kernel
theorem dX10_visits_19 : decode cX10_visits 19 = .ok (.goto 7, 3) := by decide +kernel
theorem dX10_visits_22 : decode cX10_visits 22 = .ok (.aload_n 0, 1) := by decide +kernel
theorem dX10_visits_23 : decode cX10_visits 23 = .ok (.getfield 182, 3) := by decide +kernel
theorem dX10_visits_26 : decode cX10_visits 26 = .ok (.istore_n 3, 1) := by decide +kernel
theorem dX10_visits_27 : decode cX10_visits 27 = .ok (.aload_n 0, 1) := by decide +kernel
theorem dX10_visits_28 : decode cX10_visits 28 = .ok (.getfield 28, 3) := by decide +kernel
theorem dX10_visits_31 : decode cX10_visits 31 = .ok (.iconst 3, 1) := by decide +kernel
theorem dX10_visits_32 : decode cX10_visits 32 = .ok (.iaload, 1) := by decide +kernel
theorem dX10_visits_33 : decode cX10_visits 33 = .ok (.iload_n 3, 1) := by decide +kernel
theorem dX10_visits_34 : decode cX10_visits 34 = .ok (.if_icmp .ge 12, 3) := by decide +kernel
theorem dX10_visits_37 : decode cX10_visits 37 = .ok (.aload_n 0, 1) := by decide +kernel
theorem dX10_visits_38 : decode cX10_visits 38 = .ok (.getfield 28, 3) := by decide +kernel
theorem dX10_visits_41 : decode cX10_visits 41 = .ok (.iconst 3, 1) := by decide +kernel
theorem dX10_visits_42 : decode cX10_visits 42 = .ok (.iaload, 1) := by decide +kernel
theorem dX10_visits_43 : decode cX10_visits 43 = .ok (.goto 4, 3) := by decide +kernel
theorem dX10_visits_46 : decode cX10_visits 46 = .ok (.iload_n 3, 1) := by decide +kernel
theorem dX10_visits_47 : decode cX10_visits 47 = .ok (.istore_n 3, 1) := by decide +kernel
theorem dX10_visits_48 : decode cX10_visits 48 = .ok (.aload_n 0, 1) := by decide +kernel
theorem dX10_visits_49 : decode cX10_visits 49 = .ok (.getfield 19, 3) := by decide +kernel
theorem dX10_visits_52 : decode cX10_visits 52 = .ok (.iload_n 1, 1) := by decide +kernel
theorem dX10_visits_53 : decode cX10_visits 53 = .ok (.iaload, 1) := by decide +kernel
theorem dX10_visits_54 : decode cX10_visits 54 = .ok (.iload_n 3, 1) := by decide +kernel
theorem dX10_visits_55 : decode cX10_visits 55 = .ok (.iadd, 1) := by decide +kernel
theorem dX10_visits_56 : decode cX10_visits 56 = .ok (.istore 4, 2) := by decide +kernel
theorem dX10_visits_58 : decode cX10_visits 58 = .ok (.aload_n 0, 1) := by decide +kernel
theorem dX10_visits_59 : decode cX10_visits 59 = .ok (.getfield 55, 3) := by decide +kernel
theorem dX10_visits_62 : decode cX10_visits 62 = .ok (.iload_n 2, 1) := by decide +kernel
theorem dX10_visits_63 : decode cX10_visits 63 = .ok (.iload 4, 2) := by decide +kernel
theorem dX10_visits_65 : decode cX10_visits 65 = .ok (.iastore, 1) := by decide +kernel
theorem dX10_visits_66 : decode cX10_visits 66 = .ok (.iload 4, 2) := by decide +kernel
theorem dX10_visits_68 : decode cX10_visits 68 = .ok (.aload_n 0, 1) := by decide +kernel
theorem dX10_visits_69 : decode cX10_visits 69 = .ok (.iload_n 1, 1) := by decide +kernel
theorem dX10_visits_70 : decode cX10_visits 70 = .ok (.iload_n 2, 1) := by decide +kernel
theorem dX10_visits_71 : decode cX10_visits 71 = .ok (.invokevirtual 185, 3) := by decide +kernel
theorem dX10_visits_74 : decode cX10_visits 74 = .ok (.if_icmp .ge 62, 3) := by decide +kernel
theorem dX10_visits_77 : decode cX10_visits 77 = .ok (.aload_n 0, 1) := by decide +kernel
theorem dX10_visits_78 : decode cX10_visits 78 = .ok (.getfield 46, 3) := by decide +kernel
theorem dX10_visits_81 : decode cX10_visits 81 = .ok (.iload_n 2, 1) := by decide +kernel
theorem dX10_visits_82 : decode cX10_visits 82 = .ok (.iconst 1, 1) := by decide +kernel
theorem dX10_visits_83 : decode cX10_visits 83 = .ok (.iastore, 1) := by decide +kernel
theorem dX10_visits_84 : decode cX10_visits 84 = .ok (.aload_n 0, 1) := by decide +kernel
theorem dX10_visits_85 : decode cX10_visits 85 = .ok (.dup, 1) := by decide +kernel
theorem dX10_visits_86 : decode cX10_visits 86 = .ok (.getfield 188, 3) := by decide +kernel
theorem dX10_visits_89 : decode cX10_visits 89 = .ok (.iconst 1, 1) := by decide +kernel
theorem dX10_visits_90 : decode cX10_visits 90 = .ok (.iadd, 1) := by decide +kernel
theorem dX10_visits_91 : decode cX10_visits 91 = .ok (.putfield 188, 3) := by decide +kernel
theorem dX10_visits_94 : decode cX10_visits 94 = .ok (.aload_n 0, 1) := by decide +kernel
theorem dX10_visits_95 : decode cX10_visits 95 = .ok (.dup, 1) := by decide +kernel
theorem dX10_visits_96 : decode cX10_visits 96 = .ok (.getfield 191, 3) := by decide +kernel
theorem dX10_visits_99 : decode cX10_visits 99 = .ok (.iconst 1, 1) := by decide +kernel
theorem dX10_visits_100 : decode cX10_visits 100 = .ok (.iload_n 1, 1) := by decide +kernel
theorem dX10_visits_101 : decode cX10_visits 101 = .ok (.ishl, 1) := by decide +kernel
theorem dX10_visits_102 : decode cX10_visits 102 = .ok (.ior, 1) := by decide +kernel
theorem dX10_visits_103 : decode cX10_visits 103 = .ok (.putfield 191, 3) := by decide +kernel
theorem dX10_visits_106 : decode cX10_visits 106 = .ok (.aload_n 0, 1) := by decide +kernel
theorem dX10_visits_107 : decode cX10_visits 107 = .ok (.dup, 1) := by decide +kernel
theorem dX10_visits_108 : decode cX10_visits 108 = .ok (.getfield 173, 3) := by decide +kernel
theorem dX10_visits_111 : decode cX10_visits 111 = .ok (.aload_n 0, 1) := by decide +kernel
theorem dX10_visits_112 : decode cX10_visits 112 = .ok (.getfield 37, 3) := by decide +kernel
theorem dX10_visits_115 : decode cX10_visits 115 = .ok (.iload_n 1, 1) := by decide +kernel
theorem dX10_visits_116 : decode cX10_visits 116 = .ok (.iaload, 1) := by decide +kernel
theorem dX10_visits_117 : decode cX10_visits 117 = .ok (.iadd, 1) := by decide +kernel
theorem dX10_visits_118 : decode cX10_visits 118 = .ok (.putfield 173, 3) := by decide +kernel
theorem dX10_visits_121 : decode cX10_visits 121 = .ok (.aload_n 0, 1) := by decide +kernel
theorem dX10_visits_122 : decode cX10_visits 122 = .ok (.getfield 37, 3) := by decide +kernel
theorem dX10_visits_125 : decode cX10_visits 125 = .ok (.iload_n 1, 1) := by decide +kernel
theorem dX10_visits_126 : decode cX10_visits 126 = .ok (.iconst 0, 1) := by decide +kernel
theorem dX10_visits_127 : decode cX10_visits 127 = .ok (.iastore, 1) := by decide +kernel
theorem dX10_visits_128 : decode cX10_visits 128 = .ok (.aload_n 0, 1) := by decide +kernel
theorem dX10_visits_129 : decode cX10_visits 129 = .ok (.getfield 40, 3) := by decide +kernel
theorem dX10_visits_132 : decode cX10_visits 132 = .ok (.iload_n 1, 1) := by decide +kernel
theorem dX10_visits_133 : decode cX10_visits 133 = .ok (.iconst 0, 1) := by decide +kernel
theorem dX10_visits_134 : decode cX10_visits 134 = .ok (.iastore, 1) := by decide +kernel
theorem dX10_visits_135 : decode cX10_visits 135 = .ok (.return_, 1) := by decide +kernel
theorem dX10_visits_136 : decode cX10_visits 136 = .ok (.aload_n 0, 1) := by decide +kernel
theorem dX10_visits_137 : decode cX10_visits 137 = .ok (.getfield 49, 3) := by decide +kernel
theorem dX10_visits_140 : decode cX10_visits 140 = .ok (.iload_n 2, 1) := by decide +kernel
theorem dX10_visits_141 : decode cX10_visits 141 = .ok (.iload_n 3, 1) := by decide +kernel
theorem dX10_visits_142 : decode cX10_visits 142 = .ok (.iastore, 1) := by decide +kernel
theorem dX10_visits_143 : decode cX10_visits 143 = .ok (.aload_n 0, 1) := by decide +kernel
theorem dX10_visits_144 : decode cX10_visits 144 = .ok (.dup, 1) := by decide +kernel
theorem dX10_visits_145 : decode cX10_visits 145 = .ok (.getfield 182, 3) := by decide +kernel
theorem dX10_visits_148 : decode cX10_visits 148 = .ok (.iload_n 3, 1) := by decide +kernel
theorem dX10_visits_149 : decode cX10_visits 149 = .ok (.isub, 1) := by decide +kernel
theorem dX10_visits_150 : decode cX10_visits 150 = .ok (.putfield 182, 3) := by decide +kernel
theorem dX10_visits_153 : decode cX10_visits 153 = .ok (.aload_n 0, 1) := by decide +kernel
theorem dX10_visits_154 : decode cX10_visits 154 = .ok (.getfield 43, 3) := by decide +kernel
theorem dX10_visits_157 : decode cX10_visits 157 = .ok (.iload_n 1, 1) := by decide +kernel
theorem dX10_visits_158 : decode cX10_visits 158 = .ok (.dup2, 1) := by decide +kernel
theorem dX10_visits_159 : decode cX10_visits 159 = .ok (.iaload, 1) := by decide +kernel
theorem dX10_visits_160 : decode cX10_visits 160 = .ok (.iload_n 3, 1) := by decide +kernel
theorem dX10_visits_161 : decode cX10_visits 161 = .ok (.isub, 1) := by decide +kernel
theorem dX10_visits_162 : decode cX10_visits 162 = .ok (.iastore, 1) := by decide +kernel
theorem dX10_visits_163 : decode cX10_visits 163 = .ok (.aload_n 0, 1) := by decide +kernel
theorem dX10_visits_164 : decode cX10_visits 164 = .ok (.getfield 46, 3) := by decide +kernel
theorem dX10_visits_167 : decode cX10_visits 167 = .ok (.iload_n 2, 1) := by decide +kernel
theorem dX10_visits_168 : decode cX10_visits 168 = .ok (.iload 4, 2) := by decide +kernel
theorem dX10_visits_170 : decode cX10_visits 170 = .ok (.aload_n 0, 1) := by decide +kernel
theorem dX10_visits_171 : decode cX10_visits 171 = .ok (.getfield 28, 3) := by decide +kernel
theorem dX10_visits_174 : decode cX10_visits 174 = .ok (.iconst 2, 1) := by decide +kernel
theorem dX10_visits_175 : decode cX10_visits 175 = .ok (.iaload, 1) := by decide +kernel
theorem dX10_visits_176 : decode cX10_visits 176 = .ok (.if_icmp .ne 7, 3) := by decide +kernel
theorem dX10_visits_179 : decode cX10_visits 179 = .ok (.iconst 2, 1) := by decide +kernel
theorem dX10_visits_180 : decode cX10_visits 180 = .ok (.goto 15, 3) := by decide +kernel
theorem dX10_visits_183 : decode cX10_visits 183 = .ok (.iload 4, 2) := by decide +kernel
theorem dX10_visits_185 : decode cX10_visits 185 = .ok (.bipush 9, 2) := by decide +kernel
theorem dX10_visits_187 : decode cX10_visits 187 = .ok (.if_icmp .lt 7, 3) := by decide +kernel
theorem dX10_visits_190 : decode cX10_visits 190 = .ok (.iconst 4, 1) := by decide +kernel
theorem dX10_visits_191 : decode cX10_visits 191 = .ok (.goto 4, 3) := by decide +kernel
theorem dX10_visits_194 : decode cX10_visits 194 = .ok (.iconst 3, 1) := by decide +kernel
theorem dX10_visits_195 : decode cX10_visits 195 = .ok (.iastore, 1) := by decide +kernel
theorem dX10_visits_196 : decode cX10_visits 196 = .ok (.iload 4, 2) := by decide +kernel
theorem dX10_visits_198 : decode cX10_visits 198 = .ok (.aload_n 0, 1) := by decide +kernel
theorem dX10_visits_199 : decode cX10_visits 199 = .ok (.getfield 28, 3) := by decide +kernel
theorem dX10_visits_202 : decode cX10_visits 202 = .ok (.iconst 2, 1) := by decide +kernel
theorem dX10_visits_203 : decode cX10_visits 203 = .ok (.iaload, 1) := by decide +kernel
theorem dX10_visits_204 : decode cX10_visits 204 = .ok (.if_icmp .ne 10, 3) := by decide +kernel
theorem dX10_visits_207 : decode cX10_visits 207 = .ok (.aload_n 0, 1) := by decide +kernel
theorem dX10_visits_208 : decode cX10_visits 208 = .ok (.invokevirtual 194, 3) := by decide +kernel
theorem dX10_visits_211 : decode cX10_visits 211 = .ok (.goto 12, 3) := by decide +kernel
theorem dX10_visits_214 : decode cX10_visits 214 = .ok (.aload_n 0, 1) := by decide +kernel
theorem dX10_visits_215 : decode cX10_visits 215 = .ok (.iload_n 1, 1) := by decide +kernel
theorem dX10_visits_216 : decode cX10_visits 216 = .ok (.iload_n 2, 1) := by decide +kernel
theorem dX10_visits_217 : decode cX10_visits 217 = .ok (.iload 4, 2) := by decide +kernel
theorem dX10_visits_219 : decode cX10_visits 219 = .ok (.iload_n 3, 1) := by decide +kernel
theorem dX10_visits_220 : decode cX10_visits 220 = .ok (.invokevirtual 197, 3) := by decide +kernel
theorem dX10_visits_223 : decode cX10_visits 223 = .ok (.return_, 1) := by decide +kernel
theorem dX10_runs_0 : decode cX10_runs 0 = .ok (.iconst 0, 1) := by decide +kernel
theorem dX10_runs_1 : decode cX10_runs 1 = .ok (.istore_n 1, 1) := by decide +kernel
theorem dX10_runs_2 : decode cX10_runs 2 = .ok (.iload_n 1, 1) := by decide +kernel
theorem dX10_runs_3 : decode cX10_runs 3 = .ok (.aload_n 0, 1) := by decide +kernel
theorem dX10_runs_4 : decode cX10_runs 4 = .ok (.getfield 109, 3) := by decide +kernel
theorem dX10_runs_7 : decode cX10_runs 7 = .ok (.if_icmp .ge 35, 3) := by decide +kernel
theorem dX10_runs_10 : decode cX10_runs 10 = .ok (.aload_n 0, 1) := by decide +kernel
theorem dX10_runs_11 : decode cX10_runs 11 = .ok (.getfield 37, 3) := by decide +kernel
theorem dX10_runs_14 : decode cX10_runs 14 = .ok (.iload_n 1, 1) := by decide +kernel
theorem dX10_runs_15 : decode cX10_runs 15 = .ok (.iconst 0, 1) := by decide +kernel
theorem dX10_runs_16 : decode cX10_runs 16 = .ok (.iastore, 1) := by decide +kernel
theorem dX10_runs_17 : decode cX10_runs 17 = .ok (.aload_n 0, 1) := by decide +kernel
theorem dX10_runs_18 : decode cX10_runs 18 = .ok (.getfield 40, 3) := by decide +kernel
theorem dX10_runs_21 : decode cX10_runs 21 = .ok (.iload_n 1, 1) := by decide +kernel
theorem dX10_runs_22 : decode cX10_runs 22 = .ok (.iconst 0, 1) := by decide +kernel
theorem dX10_runs_23 : decode cX10_runs 23 = .ok (.iastore, 1) := by decide +kernel
theorem dX10_runs_24 : decode cX10_runs 24 = .ok (.aload_n 0, 1) := by decide +kernel
theorem dX10_runs_25 : decode cX10_runs 25 = .ok (.getfield 43, 3) := by decide +kernel
theorem dX10_runs_28 : decode cX10_runs 28 = .ok (.iload_n 1, 1) := by decide +kernel
theorem dX10_runs_29 : decode cX10_runs 29 = .ok (.aload_n 0, 1) := by decide +kernel
theorem dX10_runs_30 : decode cX10_runs 30 = .ok (.getfield 22, 3) := by decide +kernel
theorem dX10_runs_33 : decode cX10_runs 33 = .ok (.iload_n 1, 1) := by decide +kernel
theorem dX10_runs_34 : decode cX10_runs 34 = .ok (.iaload, 1) := by decide +kernel
theorem dX10_runs_35 : decode cX10_runs 35 = .ok (.iastore, 1) := by decide +kernel
theorem dX10_runs_36 : decode cX10_runs 36 = .ok (.iinc 1 1, 3) := by decide +kernel
theorem dX10_runs_39 : decode cX10_runs 39 = .ok (.goto (-37), 3) := by decide +kernel
theorem dX10_runs_42 : decode cX10_runs 42 = .ok (.aload_n 0, 1) := by decide +kernel
theorem dX10_runs_43 : decode cX10_runs 43 = .ok (.iconst 0, 1) := by decide +kernel
theorem dX10_runs_44 : decode cX10_runs 44 = .ok (.putfield 191, 3) := by decide +kernel
theorem dX10_runs_47 : decode cX10_runs 47 = .ok (.aload_n 0, 1) := by decide +kernel
theorem dX10_runs_48 : decode cX10_runs 48 = .ok (.aload_n 0, 1) := by decide +kernel
theorem dX10_runs_49 : decode cX10_runs 49 = .ok (.getfield 28, 3) := by decide +kernel
theorem dX10_runs_52 : decode cX10_runs 52 = .ok (.iconst 0, 1) := by decide +kernel
theorem dX10_runs_53 : decode cX10_runs 53 = .ok (.iaload, 1) := by decide +kernel
theorem dX10_runs_54 : decode cX10_runs 54 = .ok (.putfield 182, 3) := by decide +kernel
theorem dX10_runs_57 : decode cX10_runs 57 = .ok (.aload_n 0, 1) := by decide +kernel
theorem dX10_runs_58 : decode cX10_runs 58 = .ok (.iconst 0, 1) := by decide +kernel
theorem dX10_runs_59 : decode cX10_runs 59 = .ok (.putfield 188, 3) := by decide +kernel
theorem dX10_runs_62 : decode cX10_runs 62 = .ok (.aload_n 0, 1) := by decide +kernel
theorem dX10_runs_63 : decode cX10_runs 63 = .ok (.iconst 0, 1) := by decide +kernel
theorem dX10_runs_64 : decode cX10_runs 64 = .ok (.putfield 173, 3) := by decide +kernel
theorem dX10_runs_67 : decode cX10_runs 67 = .ok (.aload_n 0, 1) := by decide +kernel
theorem dX10_runs_68 : decode cX10_runs 68 = .ok (.iconst (-1), 1) := by decide +kernel
theorem dX10_runs_69 : decode cX10_runs 69 = .ok (.putfield 179, 3) := by decide +kernel
theorem dX10_runs_72 : decode cX10_runs 72 = .ok (.aload_n 0, 1) := by decide +kernel
theorem dX10_runs_73 : decode cX10_runs 73 = .ok (.iconst 0, 1) := by decide +kernel
theorem dX10_runs_74 : decode cX10_runs 74 = .ok (.putfield 176, 3) := by decide +kernel
theorem dX10_runs_77 : decode cX10_runs 77 = .ok (.aload_n 0, 1) := by decide +kernel
theorem dX10_runs_78 : decode cX10_runs 78 = .ok (.iconst 0, 1) := by decide +kernel
theorem dX10_runs_79 : decode cX10_runs 79 = .ok (.invokevirtual 201, 3) := by decide +kernel
theorem dX10_runs_82 : decode cX10_runs 82 = .ok (.iconst 0, 1) := by decide +kernel
theorem dX10_runs_83 : decode cX10_runs 83 = .ok (.istore_n 1, 1) := by decide +kernel
theorem dX10_runs_84 : decode cX10_runs 84 = .ok (.iload_n 1, 1) := by decide +kernel
theorem dX10_runs_85 : decode cX10_runs 85 = .ok (.aload_n 0, 1) := by decide +kernel
theorem dX10_runs_86 : decode cX10_runs 86 = .ok (.getfield 161, 3) := by decide +kernel
theorem dX10_runs_89 : decode cX10_runs 89 = .ok (.if_icmp .ge 110, 3) := by decide +kernel
theorem dX10_runs_92 : decode cX10_runs 92 = .ok (.aload_n 0, 1) := by decide +kernel
theorem dX10_runs_93 : decode cX10_runs 93 = .ok (.getfield 34, 3) := by decide +kernel
theorem dX10_runs_96 : decode cX10_runs 96 = .ok (.iload_n 1, 1) := by decide +kernel
theorem dX10_runs_97 : decode cX10_runs 97 = .ok (.iaload, 1) := by decide +kernel
theorem dX10_runs_98 : decode cX10_runs 98 = .ok (.istore_n 2, 1) := by decide +kernel
theorem dX10_runs_99 : decode cX10_runs 99 = .ok (.aload_n 0, 1) := by decide +kernel
theorem dX10_runs_100 : decode cX10_runs 100 = .ok (.getfield 46, 3) := by decide +kernel
theorem dX10_runs_103 : decode cX10_runs 103 = .ok (.iload_n 1, 1) := by decide +kernel
theorem dX10_runs_104 : decode cX10_runs 104 = .ok (.iconst 0, 1) := by decide +kernel
theorem dX10_runs_105 : decode cX10_runs 105 = .ok (.iastore, 1) := by decide +kernel
theorem dX10_runs_106 : decode cX10_runs 106 = .ok (.aload_n 0, 1) := by decide +kernel
theorem dX10_runs_107 : decode cX10_runs 107 = .ok (.getfield 49, 3) := by decide +kernel
theorem dX10_runs_110 : decode cX10_runs 110 = .ok (.iload_n 1, 1) := by decide +kernel
theorem dX10_runs_111 : decode cX10_runs 111 = .ok (.iconst 0, 1) := by decide +kernel
theorem dX10_runs_112 : decode cX10_runs 112 = .ok (.iastore, 1) := by decide +kernel
theorem dX10_runs_113 : decode cX10_runs 113 = .ok (.aload_n 0, 1) := by decide +kernel
theorem dX10_runs_114 : decode cX10_runs 114 = .ok (.getfield 52, 3) := by decide +kernel
theorem dX10_runs_117 : decode cX10_runs 117 = .ok (.iload_n 1, 1) := by decide +kernel
theorem dX10_runs_118 : decode cX10_runs 118 = .ok (.aload_n 0, 1) := by decide +kernel
theorem dX10_runs_119 : decode cX10_runs 119 = .ok (.getfield 182, 3) := by decide +kernel
theorem dX10_runs_122 : decode cX10_runs 122 = .ok (.iastore, 1) := by decide +kernel
theorem dX10_runs_123 : decode cX10_runs 123 = .ok (.aload_n 0, 1) := by decide +kernel
theorem dX10_runs_124 : decode cX10_runs 124 = .ok (.getfield 55, 3) := by decide +kernel
theorem dX10_runs_127 : decode cX10_runs 127 = .ok (.iload_n 1, 1) := by decide +kernel
theorem dX10_runs_128 : decode cX10_runs 128 = .ok (.iconst 0, 1) := by decide +kernel
theorem dX10_runs_129 : decode cX10_runs 129 = .ok (.iastore, 1) := by decide +kernel
theorem dX10_runs_130 : decode cX10_runs 130 = .ok (.iload_n 2, 1) := by decide +kernel
theorem dX10_runs_131 : decode cX10_runs 131 = .ok (.aload_n 0, 1) := by decide +kernel
theorem dX10_runs_132 : decode cX10_runs 132 = .ok (.getfield 109, 3) := by decide +kernel
theorem dX10_runs_135 : decode cX10_runs 135 = .ok (.if_icmp .ge 28, 3) := by decide +kernel
theorem dX10_runs_138 : decode cX10_runs 138 = .ok (.iload_n 2, 1) := by decide +kernel
theorem dX10_runs_139 : decode cX10_runs 139 = .ok (.aload_n 0, 1) := by decide +kernel
theorem dX10_runs_140 : decode cX10_runs 140 = .ok (.getfield 170, 3) := by decide +kernel
theorem dX10_runs_143 : decode cX10_runs 143 = .ok (.if_icmp .eq 20, 3) := by decide +kernel
theorem dX10_runs_146 : decode cX10_runs 146 = .ok (.aload_n 0, 1) := by decide +kernel
theorem dX10_runs_147 : decode cX10_runs 147 = .ok (.getfield 191, 3) := by decide +kernel
theorem dX10_runs_150 : decode cX10_runs 150 = .ok (.iload_n 2, 1) := by decide +kernel
theorem dX10_runs_151 : decode cX10_runs 151 = .ok (.invokestatic 157, 3) := by decide +kernel
theorem dX10_runs_154 : decode cX10_runs 154 = .ok (.ifCond .ne 9, 3) := by decide +kernel
theorem dX10_runs_157 : decode cX10_runs 157 = .ok (.aload_n 0, 1) := by decide +kernel
theorem dX10_runs_158 : decode cX10_runs 158 = .ok (.iload_n 2, 1) := by decide +kernel
theorem dX10_runs_159 : decode cX10_runs 159 = .ok (.iload_n 1, 1) := by decide +kernel
theorem dX10_runs_160 : decode cX10_runs 160 = .ok (.invokevirtual 205, 3) := by decide +kernel
theorem dX10_runs_163 : decode cX10_runs 163 = .ok (.aload_n 0, 1) := by decide +kernel
theorem dX10_runs_164 : decode cX10_runs 164 = .ok (.dup, 1) := by decide +kernel
theorem dX10_runs_165 : decode cX10_runs 165 = .ok (.getfield 182, 3) := by decide +kernel
theorem dX10_runs_168 : decode cX10_runs 168 = .ok (.aload_n 0, 1) := by decide +kernel
theorem dX10_runs_169 : decode cX10_runs 169 = .ok (.getfield 182, 3) := by decide +kernel
theorem dX10_runs_172 : decode cX10_runs 172 = .ok (.bipush 9, 2) := by decide +kernel
theorem dX10_runs_174 : decode cX10_runs 174 = .ok (.if_icmp .ge 7, 3) := by decide +kernel
theorem dX10_runs_177 : decode cX10_runs 177 = .ok (.iconst 1, 1) := by decide +kernel
theorem dX10_runs_178 : decode cX10_runs 178 = .ok (.goto 4, 3) := by decide +kernel
theorem dX10_runs_181 : decode cX10_runs 181 = .ok (.iconst 0, 1) := by decide +kernel
theorem dX10_runs_182 : decode cX10_runs 182 = .ok (.iadd, 1) := by decide +kernel
theorem dX10_runs_183 : decode cX10_runs 183 = .ok (.putfield 182, 3) := by decide +kernel
theorem dX10_runs_186 : decode cX10_runs 186 = .ok (.aload_n 0, 1) := by decide +kernel
theorem dX10_runs_187 : decode cX10_runs 187 = .ok (.iload_n 1, 1) := by decide +kernel
theorem dX10_runs_188 : decode cX10_runs 188 = .ok (.iconst 1, 1) := by decide +kernel
theorem dX10_runs_189 : decode cX10_runs 189 = .ok (.iadd, 1) := by decide +kernel
theorem dX10_runs_190 : decode cX10_runs 190 = .ok (.invokevirtual 201, 3) := by decide +kernel
theorem dX10_runs_193 : decode cX10_runs 193 = .ok (.iinc 1 1, 3) := by decide +kernel
theorem dX10_runs_196 : decode cX10_runs 196 = .ok (.goto (-112), 3) := by decide +kernel
theorem dX10_runs_199 : decode cX10_runs 199 = .ok (.return_, 1) := by decide +kernel
theorem dX10_runsTold_0 : decode cX10_runsTold 0 = .ok (.aload_n 0, 1) := by decide +kernel
theorem dX10_runsTold_1 : decode cX10_runsTold 1 = .ok (.invokevirtual 209, 3) := by decide +kernel
theorem dX10_runsTold_4 : decode cX10_runsTold 4 = .ok (.aload_n 0, 1) := by decide +kernel
theorem dX10_runsTold_5 : decode cX10_runsTold 5 = .ok (.invokevirtual 212, 3) := by decide +kernel
theorem dX10_runsTold_8 : decode cX10_runsTold 8 = .ok (.return_, 1) := by decide +kernel
theorem dX10_stopsMany_0 : decode cX10_stopsMany 0 = .ok (.aload_n 0, 1) := by decide +kernel
theorem dX10_stopsMany_1 : decode cX10_stopsMany 1 = .ok (.invokevirtual 130, 3) := by decide +kernel
theorem dX10_stopsMany_4 : decode cX10_stopsMany 4 = .ok (.aload_n 0, 1) := by decide +kernel
theorem dX10_stopsMany_5 : decode cX10_stopsMany 5 = .ok (.getfield 117, 3) := by decide +kernel
theorem dX10_stopsMany_8 : decode cX10_stopsMany 8 = .ok (.ireturn, 1) := by decide +kernel
theorem dX10_doesOf_0 : decode cX10_doesOf 0 = .ok (.aload_n 0, 1) := by decide +kernel
theorem dX10_doesOf_1 : decode cX10_doesOf 1 = .ok (.invokevirtual 215, 3) := by decide +kernel
theorem dX10_doesOf_4 : decode cX10_doesOf 4 = .ok (.iload_n 2, 1) := by decide +kernel
theorem dX10_doesOf_5 : decode cX10_doesOf 5 = .ok (.ifCond .ne 12, 3) := by decide +kernel
theorem dX10_doesOf_8 : decode cX10_doesOf 8 = .ok (.aload_n 0, 1) := by decide +kernel
theorem dX10_doesOf_9 : decode cX10_doesOf 9 = .ok (.getfield 46, 3) := by decide +kernel
theorem dX10_doesOf_12 : decode cX10_doesOf 12 = .ok (.iload_n 1, 1) := by decide +kernel
theorem dX10_doesOf_13 : decode cX10_doesOf 13 = .ok (.iaload, 1) := by decide +kernel
theorem dX10_doesOf_14 : decode cX10_doesOf 14 = .ok (.goto 37, 3) := by decide +kernel
theorem dX10_doesOf_17 : decode cX10_doesOf 17 = .ok (.iload_n 2, 1) := by decide +kernel
theorem dX10_doesOf_18 : decode cX10_doesOf 18 = .ok (.iconst 1, 1) := by decide +kernel
theorem dX10_doesOf_19 : decode cX10_doesOf 19 = .ok (.if_icmp .ne 12, 3) := by decide +kernel
theorem dX10_doesOf_22 : decode cX10_doesOf 22 = .ok (.aload_n 0, 1) := by decide +kernel
theorem dX10_doesOf_23 : decode cX10_doesOf 23 = .ok (.getfield 49, 3) := by decide +kernel
theorem dX10_doesOf_26 : decode cX10_doesOf 26 = .ok (.iload_n 1, 1) := by decide +kernel
theorem dX10_doesOf_27 : decode cX10_doesOf 27 = .ok (.iaload, 1) := by decide +kernel
theorem dX10_doesOf_28 : decode cX10_doesOf 28 = .ok (.goto 23, 3) := by decide +kernel
theorem dX10_doesOf_31 : decode cX10_doesOf 31 = .ok (.iload_n 2, 1) := by decide +kernel
theorem dX10_doesOf_32 : decode cX10_doesOf 32 = .ok (.iconst 2, 1) := by decide +kernel
theorem dX10_doesOf_33 : decode cX10_doesOf 33 = .ok (.if_icmp .ne 12, 3) := by decide +kernel
theorem dX10_doesOf_36 : decode cX10_doesOf 36 = .ok (.aload_n 0, 1) := by decide +kernel
theorem dX10_doesOf_37 : decode cX10_doesOf 37 = .ok (.getfield 52, 3) := by decide +kernel
theorem dX10_doesOf_40 : decode cX10_doesOf 40 = .ok (.iload_n 1, 1) := by decide +kernel
theorem dX10_doesOf_41 : decode cX10_doesOf 41 = .ok (.iaload, 1) := by decide +kernel
theorem dX10_doesOf_42 : decode cX10_doesOf 42 = .ok (.goto 9, 3) := by decide +kernel
theorem dX10_doesOf_45 : decode cX10_doesOf 45 = .ok (.aload_n 0, 1) := by decide +kernel
theorem dX10_doesOf_46 : decode cX10_doesOf 46 = .ok (.getfield 55, 3) := by decide +kernel
theorem dX10_doesOf_49 : decode cX10_doesOf 49 = .ok (.iload_n 1, 1) := by decide +kernel
theorem dX10_doesOf_50 : decode cX10_doesOf 50 = .ok (.iaload, 1) := by decide +kernel
theorem dX10_doesOf_51 : decode cX10_doesOf 51 = .ok (.ireturn, 1) := by decide +kernel
theorem dX10_does_0 : decode cX10_does 0 = .ok (.iload_n 1, 1) := by decide +kernel
theorem dX10_does_1 : decode cX10_does 1 = .ok (.iconst 0, 1) := by decide +kernel
theorem dX10_does_2 : decode cX10_does 2 = .ok (.aload_n 0, 1) := by decide +kernel
theorem dX10_does_3 : decode cX10_does 3 = .ok (.invokevirtual 218, 3) := by decide +kernel
theorem dX10_does_6 : decode cX10_does 6 = .ok (.iconst 1, 1) := by decide +kernel
theorem dX10_does_7 : decode cX10_does 7 = .ok (.isub, 1) := by decide +kernel
theorem dX10_does_8 : decode cX10_does 8 = .ok (.invokestatic 97, 3) := by decide +kernel
theorem dX10_does_11 : decode cX10_does 11 = .ok (.ifCond .eq 21, 3) := by decide +kernel
theorem dX10_does_14 : decode cX10_does 14 = .ok (.iload_n 2, 1) := by decide +kernel
theorem dX10_does_15 : decode cX10_does 15 = .ok (.iconst 0, 1) := by decide +kernel
theorem dX10_does_16 : decode cX10_does 16 = .ok (.iconst 3, 1) := by decide +kernel
theorem dX10_does_17 : decode cX10_does 17 = .ok (.invokestatic 97, 3) := by decide +kernel
theorem dX10_does_20 : decode cX10_does 20 = .ok (.ifCond .eq 12, 3) := by decide +kernel
theorem dX10_does_23 : decode cX10_does 23 = .ok (.aload_n 0, 1) := by decide +kernel
theorem dX10_does_24 : decode cX10_does 24 = .ok (.iload_n 1, 1) := by decide +kernel
theorem dX10_does_25 : decode cX10_does 25 = .ok (.iload_n 2, 1) := by decide +kernel
theorem dX10_does_26 : decode cX10_does 26 = .ok (.invokevirtual 221, 3) := by decide +kernel
theorem dX10_does_29 : decode cX10_does 29 = .ok (.goto 5, 3) := by decide +kernel
theorem dX10_does_32 : decode cX10_does 32 = .ok (.bipush (-2), 2) := by decide +kernel
theorem dX10_does_34 : decode cX10_does 34 = .ok (.ireturn, 1) := by decide +kernel
theorem dX10_shareOf_0 : decode cX10_shareOf 0 = .ok (.aload_n 0, 1) := by decide +kernel
theorem dX10_shareOf_1 : decode cX10_shareOf 1 = .ok (.invokevirtual 215, 3) := by decide +kernel
theorem dX10_shareOf_4 : decode cX10_shareOf 4 = .ok (.iload_n 3, 1) := by decide +kernel
theorem dX10_shareOf_5 : decode cX10_shareOf 5 = .ok (.ifCond .ne 17, 3) := by decide +kernel
theorem dX10_shareOf_8 : decode cX10_shareOf 8 = .ok (.aload_n 0, 1) := by decide +kernel
theorem dX10_shareOf_9 : decode cX10_shareOf 9 = .ok (.getfield 58, 3) := by decide +kernel
theorem dX10_shareOf_12 : decode cX10_shareOf 12 = .ok (.bipush 8, 2) := by decide +kernel
theorem dX10_shareOf_14 : decode cX10_shareOf 14 = .ok (.iload_n 1, 1) := by decide +kernel
theorem dX10_shareOf_15 : decode cX10_shareOf 15 = .ok (.imul, 1) := by decide +kernel
theorem dX10_shareOf_16 : decode cX10_shareOf 16 = .ok (.iload_n 2, 1) := by decide +kernel
theorem dX10_shareOf_17 : decode cX10_shareOf 17 = .ok (.iadd, 1) := by decide +kernel
theorem dX10_shareOf_18 : decode cX10_shareOf 18 = .ok (.iaload, 1) := by decide +kernel
theorem dX10_shareOf_19 : decode cX10_shareOf 19 = .ok (.goto 33, 3) := by decide +kernel
theorem dX10_shareOf_22 : decode cX10_shareOf 22 = .ok (.iload_n 3, 1) := by decide +kernel
theorem dX10_shareOf_23 : decode cX10_shareOf 23 = .ok (.iconst 1, 1) := by decide +kernel
theorem dX10_shareOf_24 : decode cX10_shareOf 24 = .ok (.if_icmp .ne 17, 3) := by decide +kernel
theorem dX10_shareOf_27 : decode cX10_shareOf 27 = .ok (.aload_n 0, 1) := by decide +kernel
theorem dX10_shareOf_28 : decode cX10_shareOf 28 = .ok (.getfield 61, 3) := by decide +kernel
theorem dX10_shareOf_31 : decode cX10_shareOf 31 = .ok (.bipush 8, 2) := by decide +kernel
theorem dX10_shareOf_33 : decode cX10_shareOf 33 = .ok (.iload_n 1, 1) := by decide +kernel
theorem dX10_shareOf_34 : decode cX10_shareOf 34 = .ok (.imul, 1) := by decide +kernel
theorem dX10_shareOf_35 : decode cX10_shareOf 35 = .ok (.iload_n 2, 1) := by decide +kernel
theorem dX10_shareOf_36 : decode cX10_shareOf 36 = .ok (.iadd, 1) := by decide +kernel
theorem dX10_shareOf_37 : decode cX10_shareOf 37 = .ok (.iaload, 1) := by decide +kernel
theorem dX10_shareOf_38 : decode cX10_shareOf 38 = .ok (.goto 14, 3) := by decide +kernel
theorem dX10_shareOf_41 : decode cX10_shareOf 41 = .ok (.aload_n 0, 1) := by decide +kernel
theorem dX10_shareOf_42 : decode cX10_shareOf 42 = .ok (.getfield 64, 3) := by decide +kernel
theorem dX10_shareOf_45 : decode cX10_shareOf 45 = .ok (.bipush 8, 2) := by decide +kernel
theorem dX10_shareOf_47 : decode cX10_shareOf 47 = .ok (.iload_n 1, 1) := by decide +kernel
theorem dX10_shareOf_48 : decode cX10_shareOf 48 = .ok (.imul, 1) := by decide +kernel
theorem dX10_shareOf_49 : decode cX10_shareOf 49 = .ok (.iload_n 2, 1) := by decide +kernel
theorem dX10_shareOf_50 : decode cX10_shareOf 50 = .ok (.iadd, 1) := by decide +kernel
theorem dX10_shareOf_51 : decode cX10_shareOf 51 = .ok (.iaload, 1) := by decide +kernel
theorem dX10_shareOf_52 : decode cX10_shareOf 52 = .ok (.ireturn, 1) := by decide +kernel
theorem dX10_share_0 : decode cX10_share 0 = .ok (.iload_n 1, 1) := by decide +kernel
theorem dX10_share_1 : decode cX10_share 1 = .ok (.iconst 0, 1) := by decide +kernel
theorem dX10_share_2 : decode cX10_share 2 = .ok (.aload_n 0, 1) := by decide +kernel
theorem dX10_share_3 : decode cX10_share 3 = .ok (.invokevirtual 218, 3) := by decide +kernel
theorem dX10_share_6 : decode cX10_share 6 = .ok (.invokestatic 97, 3) := by decide +kernel
theorem dX10_share_9 : decode cX10_share 9 = .ok (.ifCond .eq 30, 3) := by decide +kernel
theorem dX10_share_12 : decode cX10_share 12 = .ok (.aload_n 0, 1) := by decide +kernel
theorem dX10_share_13 : decode cX10_share 13 = .ok (.iload_n 2, 1) := by decide +kernel
theorem dX10_share_14 : decode cX10_share 14 = .ok (.invokevirtual 133, 3) := by decide +kernel
theorem dX10_share_17 : decode cX10_share 17 = .ok (.ifCond .eq 22, 3) := by decide +kernel
theorem dX10_share_20 : decode cX10_share 20 = .ok (.iload_n 3, 1) := by decide +kernel
theorem dX10_share_21 : decode cX10_share 21 = .ok (.iconst 0, 1) := by decide +kernel
theorem dX10_share_22 : decode cX10_share 22 = .ok (.iconst 2, 1) := by decide +kernel
theorem dX10_share_23 : decode cX10_share 23 = .ok (.invokestatic 97, 3) := by decide +kernel
theorem dX10_share_26 : decode cX10_share 26 = .ok (.ifCond .eq 13, 3) := by decide +kernel
theorem dX10_share_29 : decode cX10_share 29 = .ok (.aload_n 0, 1) := by decide +kernel
theorem dX10_share_30 : decode cX10_share 30 = .ok (.iload_n 1, 1) := by decide +kernel
theorem dX10_share_31 : decode cX10_share 31 = .ok (.iload_n 2, 1) := by decide +kernel
theorem dX10_share_32 : decode cX10_share 32 = .ok (.iload_n 3, 1) := by decide +kernel
theorem dX10_share_33 : decode cX10_share 33 = .ok (.invokevirtual 224, 3) := by decide +kernel
theorem dX10_share_36 : decode cX10_share 36 = .ok (.goto 5, 3) := by decide +kernel
theorem dX10_share_39 : decode cX10_share 39 = .ok (.bipush (-2), 2) := by decide +kernel
theorem dX10_share_41 : decode cX10_share 41 = .ok (.ireturn, 1) := by decide +kernel
theorem dX10_outOf_0 : decode cX10_outOf 0 = .ok (.aload_n 0, 1) := by decide +kernel
theorem dX10_outOf_1 : decode cX10_outOf 1 = .ok (.invokevirtual 215, 3) := by decide +kernel
theorem dX10_outOf_4 : decode cX10_outOf 4 = .ok (.aload_n 0, 1) := by decide +kernel
theorem dX10_outOf_5 : decode cX10_outOf 5 = .ok (.getfield 191, 3) := by decide +kernel
theorem dX10_outOf_8 : decode cX10_outOf 8 = .ok (.ireturn, 1) := by decide +kernel
theorem dX10_out_0 : decode cX10_out 0 = .ok (.aload_n 0, 1) := by decide +kernel
theorem dX10_out_1 : decode cX10_out 1 = .ok (.invokevirtual 228, 3) := by decide +kernel
theorem dX10_out_4 : decode cX10_out 4 = .ok (.ireturn, 1) := by decide +kernel
theorem dX10_estateNow_0 : decode cX10_estateNow 0 = .ok (.iconst 0, 1) := by decide +kernel
theorem dX10_estateNow_1 : decode cX10_estateNow 1 = .ok (.istore_n 1, 1) := by decide +kernel
theorem dX10_estateNow_2 : decode cX10_estateNow 2 = .ok (.iconst 0, 1) := by decide +kernel
theorem dX10_estateNow_3 : decode cX10_estateNow 3 = .ok (.istore_n 2, 1) := by decide +kernel
theorem dX10_estateNow_4 : decode cX10_estateNow 4 = .ok (.iload_n 2, 1) := by decide +kernel
theorem dX10_estateNow_5 : decode cX10_estateNow 5 = .ok (.aload_n 0, 1) := by decide +kernel
theorem dX10_estateNow_6 : decode cX10_estateNow 6 = .ok (.getfield 109, 3) := by decide +kernel
theorem dX10_estateNow_9 : decode cX10_estateNow 9 = .ok (.if_icmp .ge 18, 3) := by decide +kernel
theorem dX10_estateNow_12 : decode cX10_estateNow 12 = .ok (.iload_n 1, 1) := by decide +kernel
theorem dX10_estateNow_13 : decode cX10_estateNow 13 = .ok (.aload_n 0, 1) := by decide +kernel
theorem dX10_estateNow_14 : decode cX10_estateNow 14 = .ok (.getfield 37, 3) := by decide +kernel
theorem dX10_estateNow_17 : decode cX10_estateNow 17 = .ok (.iload_n 2, 1) := by decide +kernel
theorem dX10_estateNow_18 : decode cX10_estateNow 18 = .ok (.iaload, 1) := by decide +kernel
theorem dX10_estateNow_19 : decode cX10_estateNow 19 = .ok (.iadd, 1) := by decide +kernel
theorem dX10_estateNow_20 : decode cX10_estateNow 20 = .ok (.istore_n 1, 1) := by decide +kernel
theorem dX10_estateNow_21 : decode cX10_estateNow 21 = .ok (.iinc 2 1, 3) := by decide +kernel
theorem dX10_estateNow_24 : decode cX10_estateNow 24 = .ok (.goto (-20), 3) := by decide +kernel
theorem dX10_estateNow_27 : decode cX10_estateNow 27 = .ok (.iload_n 1, 1) := by decide +kernel
theorem dX10_estateNow_28 : decode cX10_estateNow 28 = .ok (.ireturn, 1) := by decide +kernel
theorem dX10_estateOf_0 : decode cX10_estateOf 0 = .ok (.aload_n 0, 1) := by decide +kernel
theorem dX10_estateOf_1 : decode cX10_estateOf 1 = .ok (.invokevirtual 215, 3) := by decide +kernel
theorem dX10_estateOf_4 : decode cX10_estateOf 4 = .ok (.aload_n 0, 1) := by decide +kernel
theorem dX10_estateOf_5 : decode cX10_estateOf 5 = .ok (.invokevirtual 231, 3) := by decide +kernel
theorem dX10_estateOf_8 : decode cX10_estateOf 8 = .ok (.ireturn, 1) := by decide +kernel
theorem dX10_estate_0 : decode cX10_estate 0 = .ok (.aload_n 0, 1) := by decide +kernel
theorem dX10_estate_1 : decode cX10_estate 1 = .ok (.invokevirtual 234, 3) := by decide +kernel
theorem dX10_estate_4 : decode cX10_estate 4 = .ok (.ireturn, 1) := by decide +kernel
theorem dX10_richestNow_0 : decode cX10_richestNow 0 = .ok (.iconst (-1), 1) := by decide +kernel
theorem dX10_richestNow_1 : decode cX10_richestNow 1 = .ok (.istore_n 1, 1) := by decide +kernel
theorem dX10_richestNow_2 : decode cX10_richestNow 2 = .ok (.iconst 0, 1) := by decide +kernel
theorem dX10_richestNow_3 : decode cX10_richestNow 3 = .ok (.istore_n 2, 1) := by decide +kernel
theorem dX10_richestNow_4 : decode cX10_richestNow 4 = .ok (.iconst 0, 1) := by decide +kernel
theorem dX10_richestNow_5 : decode cX10_richestNow 5 = .ok (.istore_n 3, 1) := by decide +kernel
theorem dX10_richestNow_6 : decode cX10_richestNow 6 = .ok (.iload_n 3, 1) := by decide +kernel
theorem dX10_richestNow_7 : decode cX10_richestNow 7 = .ok (.aload_n 0, 1) := by decide +kernel
theorem dX10_richestNow_8 : decode cX10_richestNow 8 = .ok (.getfield 109, 3) := by decide +kernel
theorem dX10_richestNow_11 : decode cX10_richestNow 11 = .ok (.if_icmp .ge 46, 3) := by decide +kernel
theorem dX10_richestNow_14 : decode cX10_richestNow 14 = .ok (.aload_n 0, 1) := by decide +kernel
theorem dX10_richestNow_15 : decode cX10_richestNow 15 = .ok (.getfield 37, 3) := by decide +kernel
theorem dX10_richestNow_18 : decode cX10_richestNow 18 = .ok (.iload_n 3, 1) := by decide +kernel
theorem dX10_richestNow_19 : decode cX10_richestNow 19 = .ok (.iaload, 1) := by decide +kernel
theorem dX10_richestNow_20 : decode cX10_richestNow 20 = .ok (.iload_n 2, 1) := by decide +kernel
theorem dX10_richestNow_21 : decode cX10_richestNow 21 = .ok (.if_icmp .le 7, 3) := by decide +kernel
theorem dX10_richestNow_24 : decode cX10_richestNow 24 = .ok (.iload_n 3, 1) := by decide +kernel
theorem dX10_richestNow_25 : decode cX10_richestNow 25 = .ok (.goto 4, 3) := by decide +kernel
theorem dX10_richestNow_28 : decode cX10_richestNow 28 = .ok (.iload_n 1, 1) := by decide +kernel
theorem dX10_richestNow_29 : decode cX10_richestNow 29 = .ok (.istore_n 1, 1) := by decide +kernel
theorem dX10_richestNow_30 : decode cX10_richestNow 30 = .ok (.aload_n 0, 1) := by decide +kernel
theorem dX10_richestNow_31 : decode cX10_richestNow 31 = .ok (.getfield 37, 3) := by decide +kernel
theorem dX10_richestNow_34 : decode cX10_richestNow 34 = .ok (.iload_n 3, 1) := by decide +kernel
theorem dX10_richestNow_35 : decode cX10_richestNow 35 = .ok (.iaload, 1) := by decide +kernel
theorem dX10_richestNow_36 : decode cX10_richestNow 36 = .ok (.iload_n 2, 1) := by decide +kernel
theorem dX10_richestNow_37 : decode cX10_richestNow 37 = .ok (.if_icmp .le 12, 3) := by decide +kernel
theorem dX10_richestNow_40 : decode cX10_richestNow 40 = .ok (.aload_n 0, 1) := by decide +kernel
theorem dX10_richestNow_41 : decode cX10_richestNow 41 = .ok (.getfield 37, 3) := by decide +kernel
theorem dX10_richestNow_44 : decode cX10_richestNow 44 = .ok (.iload_n 3, 1) := by decide +kernel
theorem dX10_richestNow_45 : decode cX10_richestNow 45 = .ok (.iaload, 1) := by decide +kernel
theorem dX10_richestNow_46 : decode cX10_richestNow 46 = .ok (.goto 4, 3) := by decide +kernel
theorem dX10_richestNow_49 : decode cX10_richestNow 49 = .ok (.iload_n 2, 1) := by decide +kernel
theorem dX10_richestNow_50 : decode cX10_richestNow 50 = .ok (.istore_n 2, 1) := by decide +kernel
theorem dX10_richestNow_51 : decode cX10_richestNow 51 = .ok (.iinc 3 1, 3) := by decide +kernel
theorem dX10_richestNow_54 : decode cX10_richestNow 54 = .ok (.goto (-48), 3) := by decide +kernel
theorem dX10_richestNow_57 : decode cX10_richestNow 57 = .ok (.iload_n 1, 1) := by decide +kernel
theorem dX10_richestNow_58 : decode cX10_richestNow 58 = .ok (.ireturn, 1) := by decide +kernel
theorem dX10_richestOf_0 : decode cX10_richestOf 0 = .ok (.aload_n 0, 1) := by decide +kernel
theorem dX10_richestOf_1 : decode cX10_richestOf 1 = .ok (.invokevirtual 215, 3) := by decide +kernel
theorem dX10_richestOf_4 : decode cX10_richestOf 4 = .ok (.aload_n 0, 1) := by decide +kernel
theorem dX10_richestOf_5 : decode cX10_richestOf 5 = .ok (.invokevirtual 237, 3) := by decide +kernel
theorem dX10_richestOf_8 : decode cX10_richestOf 8 = .ok (.ireturn, 1) := by decide +kernel
theorem dX10_richest_0 : decode cX10_richest 0 = .ok (.aload_n 0, 1) := by decide +kernel
theorem dX10_richest_1 : decode cX10_richest 1 = .ok (.invokevirtual 240, 3) := by decide +kernel
theorem dX10_richest_4 : decode cX10_richest 4 = .ok (.ireturn, 1) := by decide +kernel
theorem dX10_longestOf_0 : decode cX10_longestOf 0 = .ok (.aload_n 0, 1) := by decide +kernel
theorem dX10_longestOf_1 : decode cX10_longestOf 1 = .ok (.invokevirtual 215, 3) := by decide +kernel
theorem dX10_longestOf_4 : decode cX10_longestOf 4 = .ok (.aload_n 0, 1) := by decide +kernel
theorem dX10_longestOf_5 : decode cX10_longestOf 5 = .ok (.getfield 179, 3) := by decide +kernel
theorem dX10_longestOf_8 : decode cX10_longestOf 8 = .ok (.ireturn, 1) := by decide +kernel
theorem dX10_longest_0 : decode cX10_longest 0 = .ok (.aload_n 0, 1) := by decide +kernel
theorem dX10_longest_1 : decode cX10_longest 1 = .ok (.invokevirtual 243, 3) := by decide +kernel
theorem dX10_longest_4 : decode cX10_longest 4 = .ok (.ireturn, 1) := by decide +kernel
theorem dX10_ditchOf_0 : decode cX10_ditchOf 0 = .ok (.aload_n 0, 1) := by decide +kernel
theorem dX10_ditchOf_1 : decode cX10_ditchOf 1 = .ok (.invokevirtual 215, 3) := by decide +kernel
theorem dX10_ditchOf_4 : decode cX10_ditchOf 4 = .ok (.aload_n 0, 1) := by decide +kernel
theorem dX10_ditchOf_5 : decode cX10_ditchOf 5 = .ok (.getfield 173, 3) := by decide +kernel
theorem dX10_ditchOf_8 : decode cX10_ditchOf 8 = .ok (.ireturn, 1) := by decide +kernel
theorem dX10_ditch_0 : decode cX10_ditch 0 = .ok (.aload_n 0, 1) := by decide +kernel
theorem dX10_ditch_1 : decode cX10_ditch 1 = .ok (.invokevirtual 246, 3) := by decide +kernel
theorem dX10_ditch_4 : decode cX10_ditch 4 = .ok (.ireturn, 1) := by decide +kernel
theorem dX10_isFirst_0 : decode cX10_isFirst 0 = .ok (.aload_n 0, 1) := by decide +kernel
theorem dX10_isFirst_1 : decode cX10_isFirst 1 = .ok (.getfield 37, 3) := by decide +kernel
theorem dX10_isFirst_4 : decode cX10_isFirst 4 = .ok (.iload_n 1, 1) := by decide +kernel
theorem dX10_isFirst_5 : decode cX10_isFirst 5 = .ok (.iaload, 1) := by decide +kernel
theorem dX10_isFirst_6 : decode cX10_isFirst 6 = .ok (.ifCond .le 7, 3) := by decide +kernel
theorem dX10_isFirst_9 : decode cX10_isFirst 9 = .ok (.iconst 1, 1) := by decide +kernel
theorem dX10_isFirst_10 : decode cX10_isFirst 10 = .ok (.goto 4, 3) := by decide +kernel
theorem dX10_isFirst_13 : decode cX10_isFirst 13 = .ok (.iconst 0, 1) := by decide +kernel
theorem dX10_isFirst_14 : decode cX10_isFirst 14 = .ok (.istore_n 2, 1) := by decide +kernel
theorem dX10_isFirst_15 : decode cX10_isFirst 15 = .ok (.iconst 0, 1) := by decide +kernel
theorem dX10_isFirst_16 : decode cX10_isFirst 16 = .ok (.istore_n 3, 1) := by decide +kernel
theorem dX10_isFirst_17 : decode cX10_isFirst 17 = .ok (.iload_n 3, 1) := by decide +kernel
theorem dX10_isFirst_18 : decode cX10_isFirst 18 = .ok (.aload_n 0, 1) := by decide +kernel
theorem dX10_isFirst_19 : decode cX10_isFirst 19 = .ok (.getfield 109, 3) := by decide +kernel
theorem dX10_isFirst_22 : decode cX10_isFirst 22 = .ok (.if_icmp .ge 39, 3) := by decide +kernel
theorem dX10_isFirst_25 : decode cX10_isFirst 25 = .ok (.iload_n 2, 1) := by decide +kernel
theorem dX10_isFirst_26 : decode cX10_isFirst 26 = .ok (.ifCond .eq 27, 3) := by decide +kernel
theorem dX10_isFirst_29 : decode cX10_isFirst 29 = .ok (.iload_n 3, 1) := by decide +kernel
theorem dX10_isFirst_30 : decode cX10_isFirst 30 = .ok (.iload_n 1, 1) := by decide +kernel
theorem dX10_isFirst_31 : decode cX10_isFirst 31 = .ok (.if_icmp .eq 18, 3) := by decide +kernel
theorem dX10_isFirst_34 : decode cX10_isFirst 34 = .ok (.aload_n 0, 1) := by decide +kernel
theorem dX10_isFirst_35 : decode cX10_isFirst 35 = .ok (.getfield 37, 3) := by decide +kernel
theorem dX10_isFirst_38 : decode cX10_isFirst 38 = .ok (.iload_n 3, 1) := by decide +kernel
theorem dX10_isFirst_39 : decode cX10_isFirst 39 = .ok (.iaload, 1) := by decide +kernel
theorem dX10_isFirst_40 : decode cX10_isFirst 40 = .ok (.aload_n 0, 1) := by decide +kernel
theorem dX10_isFirst_41 : decode cX10_isFirst 41 = .ok (.getfield 37, 3) := by decide +kernel
theorem dX10_isFirst_44 : decode cX10_isFirst 44 = .ok (.iload_n 1, 1) := by decide +kernel
theorem dX10_isFirst_45 : decode cX10_isFirst 45 = .ok (.iaload, 1) := by decide +kernel
theorem dX10_isFirst_46 : decode cX10_isFirst 46 = .ok (.if_icmp .ge 7, 3) := by decide +kernel
theorem dX10_isFirst_49 : decode cX10_isFirst 49 = .ok (.iconst 1, 1) := by decide +kernel
theorem dX10_isFirst_50 : decode cX10_isFirst 50 = .ok (.goto 4, 3) := by decide +kernel
theorem dX10_isFirst_53 : decode cX10_isFirst 53 = .ok (.iconst 0, 1) := by decide +kernel
theorem dX10_isFirst_54 : decode cX10_isFirst 54 = .ok (.istore_n 2, 1) := by decide +kernel
theorem dX10_isFirst_55 : decode cX10_isFirst 55 = .ok (.iinc 3 1, 3) := by decide +kernel
theorem dX10_isFirst_58 : decode cX10_isFirst 58 = .ok (.goto (-41), 3) := by decide +kernel
theorem dX10_isFirst_61 : decode cX10_isFirst 61 = .ok (.iload_n 2, 1) := by decide +kernel
theorem dX10_isFirst_62 : decode cX10_isFirst 62 = .ok (.ireturn, 1) := by decide +kernel
theorem dX10_baitOf_0 : decode cX10_baitOf 0 = .ok (.aload_n 0, 1) := by decide +kernel
theorem dX10_baitOf_1 : decode cX10_baitOf 1 = .ok (.invokevirtual 209, 3) := by decide +kernel
theorem dX10_baitOf_4 : decode cX10_baitOf 4 = .ok (.aload_n 0, 1) := by decide +kernel
theorem dX10_baitOf_5 : decode cX10_baitOf 5 = .ok (.getfield 22, 3) := by decide +kernel
theorem dX10_baitOf_8 : decode cX10_baitOf 8 = .ok (.iload_n 1, 1) := by decide +kernel
theorem dX10_baitOf_9 : decode cX10_baitOf 9 = .ok (.iaload, 1) := by decide +kernel
theorem dX10_baitOf_10 : decode cX10_baitOf 10 = .ok (.istore_n 2, 1) := by decide +kernel
theorem dX10_baitOf_11 : decode cX10_baitOf 11 = .ok (.iconst (-1), 1) := by decide +kernel
theorem dX10_baitOf_12 : decode cX10_baitOf 12 = .ok (.istore_n 3, 1) := by decide +kernel
theorem dX10_baitOf_13 : decode cX10_baitOf 13 = .ok (.iconst 0, 1) := by decide +kernel
theorem dX10_baitOf_14 : decode cX10_baitOf 14 = .ok (.istore 4, 2) := by decide +kernel
theorem dX10_baitOf_16 : decode cX10_baitOf 16 = .ok (.iload 4, 2) := by decide +kernel
theorem dX10_baitOf_18 : decode cX10_baitOf 18 = .ok (.bipush 10, 2) := by decide +kernel
theorem dX10_baitOf_20 : decode cX10_baitOf 20 = .ok (.if_icmp .ge 41, 3) := by decide +kernel
theorem dX10_baitOf_23 : decode cX10_baitOf 23 = .ok (.iload_n 3, 1) := by decide +kernel
theorem dX10_baitOf_24 : decode cX10_baitOf 24 = .ok (.iconst (-1), 1) := by decide +kernel
theorem dX10_baitOf_25 : decode cX10_baitOf 25 = .ok (.if_icmp .ne 36, 3) := by decide +kernel
theorem dX10_baitOf_28 : decode cX10_baitOf 28 = .ok (.aload_n 0, 1) := by decide +kernel
theorem dX10_baitOf_29 : decode cX10_baitOf 29 = .ok (.getfield 22, 3) := by decide +kernel
theorem dX10_baitOf_32 : decode cX10_baitOf 32 = .ok (.iload_n 1, 1) := by decide +kernel
theorem dX10_baitOf_33 : decode cX10_baitOf 33 = .ok (.iload 4, 2) := by decide +kernel
theorem dX10_baitOf_35 : decode cX10_baitOf 35 = .ok (.iastore, 1) := by decide +kernel
theorem dX10_baitOf_36 : decode cX10_baitOf 36 = .ok (.aload_n 0, 1) := by decide +kernel
theorem dX10_baitOf_37 : decode cX10_baitOf 37 = .ok (.invokevirtual 212, 3) := by decide +kernel
theorem dX10_baitOf_40 : decode cX10_baitOf 40 = .ok (.aload_n 0, 1) := by decide +kernel
theorem dX10_baitOf_41 : decode cX10_baitOf 41 = .ok (.iload_n 1, 1) := by decide +kernel
theorem dX10_baitOf_42 : decode cX10_baitOf 42 = .ok (.invokevirtual 249, 3) := by decide +kernel
theorem dX10_baitOf_45 : decode cX10_baitOf 45 = .ok (.ifCond .eq 8, 3) := by decide +kernel
theorem dX10_baitOf_48 : decode cX10_baitOf 48 = .ok (.iload 4, 2) := by decide +kernel
theorem dX10_baitOf_50 : decode cX10_baitOf 50 = .ok (.goto 4, 3) := by decide +kernel
theorem dX10_baitOf_53 : decode cX10_baitOf 53 = .ok (.iconst (-1), 1) := by decide +kernel
theorem dX10_baitOf_54 : decode cX10_baitOf 54 = .ok (.istore_n 3, 1) := by decide +kernel
theorem dX10_baitOf_55 : decode cX10_baitOf 55 = .ok (.iinc 4 1, 3) := by decide +kernel
theorem dX10_baitOf_58 : decode cX10_baitOf 58 = .ok (.goto (-42), 3) := by decide +kernel
theorem dX10_baitOf_61 : decode cX10_baitOf 61 = .ok (.aload_n 0, 1) := by decide +kernel
theorem dX10_baitOf_62 : decode cX10_baitOf 62 = .ok (.getfield 22, 3) := by decide +kernel
theorem dX10_baitOf_65 : decode cX10_baitOf 65 = .ok (.iload_n 1, 1) := by decide +kernel
theorem dX10_baitOf_66 : decode cX10_baitOf 66 = .ok (.iload_n 2, 1) := by decide +kernel
theorem dX10_baitOf_67 : decode cX10_baitOf 67 = .ok (.iastore, 1) := by decide +kernel
theorem dX10_baitOf_68 : decode cX10_baitOf 68 = .ok (.iload_n 3, 1) := by decide +kernel
theorem dX10_baitOf_69 : decode cX10_baitOf 69 = .ok (.ireturn, 1) := by decide +kernel
theorem dX10_bait_0 : decode cX10_bait 0 = .ok (.aload_n 0, 1) := by decide +kernel
theorem dX10_bait_1 : decode cX10_bait 1 = .ok (.iload_n 1, 1) := by decide +kernel
theorem dX10_bait_2 : decode cX10_bait 2 = .ok (.invokevirtual 133, 3) := by decide +kernel
theorem dX10_bait_5 : decode cX10_bait 5 = .ok (.ifCond .eq 11, 3) := by decide +kernel
theorem dX10_bait_8 : decode cX10_bait 8 = .ok (.aload_n 0, 1) := by decide +kernel
theorem dX10_bait_9 : decode cX10_bait 9 = .ok (.iload_n 1, 1) := by decide +kernel
theorem dX10_bait_10 : decode cX10_bait 10 = .ok (.invokevirtual 252, 3) := by decide +kernel
theorem dX10_bait_13 : decode cX10_bait 13 = .ok (.goto 5, 3) := by decide +kernel
theorem dX10_bait_16 : decode cX10_bait 16 = .ok (.bipush (-2), 2) := by decide +kernel
theorem dX10_bait_18 : decode cX10_bait 18 = .ok (.ireturn, 1) := by decide +kernel
theorem dX10_leastNow_0 : decode cX10_leastNow 0 = .ok (.aload_n 0, 1) := by decide +kernel
theorem dX10_leastNow_1 : decode cX10_leastNow 1 = .ok (.getfield 37, 3) := by decide +kernel
theorem dX10_leastNow_4 : decode cX10_leastNow 4 = .ok (.iconst 0, 1) := by decide +kernel
theorem dX10_leastNow_5 : decode cX10_leastNow 5 = .ok (.iaload, 1) := by decide +kernel
theorem dX10_leastNow_6 : decode cX10_leastNow 6 = .ok (.istore_n 1, 1) := by decide +kernel
theorem dX10_leastNow_7 : decode cX10_leastNow 7 = .ok (.iconst 1, 1) := by decide +kernel
theorem dX10_leastNow_8 : decode cX10_leastNow 8 = .ok (.istore_n 2, 1) := by decide +kernel
theorem dX10_leastNow_9 : decode cX10_leastNow 9 = .ok (.iload_n 2, 1) := by decide +kernel
theorem dX10_leastNow_10 : decode cX10_leastNow 10 = .ok (.aload_n 0, 1) := by decide +kernel
theorem dX10_leastNow_11 : decode cX10_leastNow 11 = .ok (.getfield 109, 3) := by decide +kernel
theorem dX10_leastNow_14 : decode cX10_leastNow 14 = .ok (.if_icmp .ge 30, 3) := by decide +kernel
theorem dX10_leastNow_17 : decode cX10_leastNow 17 = .ok (.aload_n 0, 1) := by decide +kernel
theorem dX10_leastNow_18 : decode cX10_leastNow 18 = .ok (.getfield 37, 3) := by decide +kernel
theorem dX10_leastNow_21 : decode cX10_leastNow 21 = .ok (.iload_n 2, 1) := by decide +kernel
theorem dX10_leastNow_22 : decode cX10_leastNow 22 = .ok (.iaload, 1) := by decide +kernel
theorem dX10_leastNow_23 : decode cX10_leastNow 23 = .ok (.iload_n 1, 1) := by decide +kernel
theorem dX10_leastNow_24 : decode cX10_leastNow 24 = .ok (.if_icmp .ge 12, 3) := by decide +kernel
theorem dX10_leastNow_27 : decode cX10_leastNow 27 = .ok (.aload_n 0, 1) := by decide +kernel
theorem dX10_leastNow_28 : decode cX10_leastNow 28 = .ok (.getfield 37, 3) := by decide +kernel
theorem dX10_leastNow_31 : decode cX10_leastNow 31 = .ok (.iload_n 2, 1) := by decide +kernel
theorem dX10_leastNow_32 : decode cX10_leastNow 32 = .ok (.iaload, 1) := by decide +kernel
theorem dX10_leastNow_33 : decode cX10_leastNow 33 = .ok (.goto 4, 3) := by decide +kernel
theorem dX10_leastNow_36 : decode cX10_leastNow 36 = .ok (.iload_n 1, 1) := by decide +kernel
theorem dX10_leastNow_37 : decode cX10_leastNow 37 = .ok (.istore_n 1, 1) := by decide +kernel
theorem dX10_leastNow_38 : decode cX10_leastNow 38 = .ok (.iinc 2 1, 3) := by decide +kernel
theorem dX10_leastNow_41 : decode cX10_leastNow 41 = .ok (.goto (-32), 3) := by decide +kernel
theorem dX10_leastNow_44 : decode cX10_leastNow 44 = .ok (.iload_n 1, 1) := by decide +kernel
theorem dX10_leastNow_45 : decode cX10_leastNow 45 = .ok (.ireturn, 1) := by decide +kernel
theorem dX10_nextRow_0 : decode cX10_nextRow 0 = .ok (.aload_n 0, 1) := by decide +kernel
theorem dX10_nextRow_1 : decode cX10_nextRow 1 = .ok (.getfield 109, 3) := by decide +kernel
theorem dX10_nextRow_4 : decode cX10_nextRow 4 = .ok (.iconst 2, 1) := by decide +kernel
theorem dX10_nextRow_5 : decode cX10_nextRow 5 = .ok (.isub, 1) := by decide +kernel
theorem dX10_nextRow_6 : decode cX10_nextRow 6 = .ok (.istore_n 1, 1) := by decide +kernel
theorem dX10_nextRow_7 : decode cX10_nextRow 7 = .ok (.iload_n 1, 1) := by decide +kernel
theorem dX10_nextRow_8 : decode cX10_nextRow 8 = .ok (.ifCond .lt 26, 3) := by decide +kernel
theorem dX10_nextRow_11 : decode cX10_nextRow 11 = .ok (.aload_n 0, 1) := by decide +kernel
theorem dX10_nextRow_12 : decode cX10_nextRow 12 = .ok (.getfield 34, 3) := by decide +kernel
theorem dX10_nextRow_15 : decode cX10_nextRow 15 = .ok (.iload_n 1, 1) := by decide +kernel
theorem dX10_nextRow_16 : decode cX10_nextRow 16 = .ok (.iaload, 1) := by decide +kernel
theorem dX10_nextRow_17 : decode cX10_nextRow 17 = .ok (.aload_n 0, 1) := by decide +kernel
theorem dX10_nextRow_18 : decode cX10_nextRow 18 = .ok (.getfield 34, 3) := by decide +kernel
theorem dX10_nextRow_21 : decode cX10_nextRow 21 = .ok (.iload_n 1, 1) := by decide +kernel
theorem dX10_nextRow_22 : decode cX10_nextRow 22 = .ok (.iconst 1, 1) := by decide +kernel
theorem dX10_nextRow_23 : decode cX10_nextRow 23 = .ok (.iadd, 1) := by decide +kernel
theorem dX10_nextRow_24 : decode cX10_nextRow 24 = .ok (.iaload, 1) := by decide +kernel
theorem dX10_nextRow_25 : decode cX10_nextRow 25 = .ok (.if_icmp .le 9, 3) := by decide +kernel
theorem dX10_nextRow_28 : decode cX10_nextRow 28 = .ok (.iinc 1 (-1), 3) := by decide +kernel
theorem dX10_nextRow_31 : decode cX10_nextRow 31 = .ok (.goto (-24), 3) := by decide +kernel
theorem dX10_nextRow_34 : decode cX10_nextRow 34 = .ok (.iload_n 1, 1) := by decide +kernel
theorem dX10_nextRow_35 : decode cX10_nextRow 35 = .ok (.ifCond .ge 5, 3) := by decide +kernel
theorem dX10_nextRow_38 : decode cX10_nextRow 38 = .ok (.iconst 0, 1) := by decide +kernel
theorem dX10_nextRow_39 : decode cX10_nextRow 39 = .ok (.ireturn, 1) := by decide +kernel
theorem dX10_nextRow_40 : decode cX10_nextRow 40 = .ok (.aload_n 0, 1) := by decide +kernel
theorem dX10_nextRow_41 : decode cX10_nextRow 41 = .ok (.getfield 109, 3) := by decide +kernel
theorem dX10_nextRow_44 : decode cX10_nextRow 44 = .ok (.iconst 1, 1) := by decide +kernel
theorem dX10_nextRow_45 : decode cX10_nextRow 45 = .ok (.isub, 1) := by decide +kernel
theorem dX10_nextRow_46 : decode cX10_nextRow 46 = .ok (.istore_n 2, 1) := by decide +kernel
theorem dX10_nextRow_47 : decode cX10_nextRow 47 = .ok (.aload_n 0, 1) := by decide +kernel
theorem dX10_nextRow_48 : decode cX10_nextRow 48 = .ok (.getfield 34, 3) := by decide +kernel
theorem dX10_nextRow_51 : decode cX10_nextRow 51 = .ok (.iload_n 2, 1) := by decide +kernel
theorem dX10_nextRow_52 : decode cX10_nextRow 52 = .ok (.iaload, 1) := by decide +kernel
theorem dX10_nextRow_53 : decode cX10_nextRow 53 = .ok (.aload_n 0, 1) := by decide +kernel
theorem dX10_nextRow_54 : decode cX10_nextRow 54 = .ok (.getfield 34, 3) := by decide +kernel
theorem dX10_nextRow_57 : decode cX10_nextRow 57 = .ok (.iload_n 1, 1) := by decide +kernel
theorem dX10_nextRow_58 : decode cX10_nextRow 58 = .ok (.iaload, 1) := by decide +kernel
theorem dX10_nextRow_59 : decode cX10_nextRow 59 = .ok (.if_icmp .ge 9, 3) := by decide +kernel
theorem dX10_nextRow_62 : decode cX10_nextRow 62 = .ok (.iinc 2 (-1), 3) := by decide +kernel
theorem dX10_nextRow_65 : decode cX10_nextRow 65 = .ok (.goto (-18), 3) := by decide +kernel
theorem dX10_nextRow_68 : decode cX10_nextRow 68 = .ok (.aload_n 0, 1) := by decide +kernel
theorem dX10_nextRow_69 : decode cX10_nextRow 69 = .ok (.getfield 34, 3) := by decide +kernel
theorem dX10_nextRow_72 : decode cX10_nextRow 72 = .ok (.iload_n 1, 1) := by decide +kernel
theorem dX10_nextRow_73 : decode cX10_nextRow 73 = .ok (.iaload, 1) := by decide +kernel
theorem dX10_nextRow_74 : decode cX10_nextRow 74 = .ok (.istore_n 3, 1) := by decide +kernel
theorem dX10_nextRow_75 : decode cX10_nextRow 75 = .ok (.aload_n 0, 1) := by decide +kernel
theorem dX10_nextRow_76 : decode cX10_nextRow 76 = .ok (.getfield 34, 3) := by decide +kernel
theorem dX10_nextRow_79 : decode cX10_nextRow 79 = .ok (.iload_n 1, 1) := by decide +kernel
theorem dX10_nextRow_80 : decode cX10_nextRow 80 = .ok (.aload_n 0, 1) := by decide +kernel
theorem dX10_nextRow_81 : decode cX10_nextRow 81 = .ok (.getfield 34, 3) := by decide +kernel
theorem dX10_nextRow_84 : decode cX10_nextRow 84 = .ok (.iload_n 2, 1) := by decide +kernel
theorem dX10_nextRow_85 : decode cX10_nextRow 85 = .ok (.iaload, 1) := by decide +kernel
theorem dX10_nextRow_86 : decode cX10_nextRow 86 = .ok (.iastore, 1) := by decide +kernel
theorem dX10_nextRow_87 : decode cX10_nextRow 87 = .ok (.aload_n 0, 1) := by decide +kernel
theorem dX10_nextRow_88 : decode cX10_nextRow 88 = .ok (.getfield 34, 3) := by decide +kernel
theorem dX10_nextRow_91 : decode cX10_nextRow 91 = .ok (.iload_n 2, 1) := by decide +kernel
theorem dX10_nextRow_92 : decode cX10_nextRow 92 = .ok (.iload_n 3, 1) := by decide +kernel
theorem dX10_nextRow_93 : decode cX10_nextRow 93 = .ok (.iastore, 1) := by decide +kernel
theorem dX10_nextRow_94 : decode cX10_nextRow 94 = .ok (.iload_n 1, 1) := by decide +kernel
theorem dX10_nextRow_95 : decode cX10_nextRow 95 = .ok (.iconst 1, 1) := by decide +kernel
theorem dX10_nextRow_96 : decode cX10_nextRow 96 = .ok (.iadd, 1) := by decide +kernel
theorem dX10_nextRow_97 : decode cX10_nextRow 97 = .ok (.istore 4, 2) := by decide +kernel
theorem dX10_nextRow_99 : decode cX10_nextRow 99 = .ok (.aload_n 0, 1) := by decide +kernel
theorem dX10_nextRow_100 : decode cX10_nextRow 100 = .ok (.getfield 109, 3) := by decide +kernel
theorem dX10_nextRow_103 : decode cX10_nextRow 103 = .ok (.iconst 1, 1) := by decide +kernel
theorem dX10_nextRow_104 : decode cX10_nextRow 104 = .ok (.isub, 1) := by decide +kernel
theorem dX10_nextRow_105 : decode cX10_nextRow 105 = .ok (.istore 5, 2) := by decide +kernel
theorem dX10_nextRow_107 : decode cX10_nextRow 107 = .ok (.iload 4, 2) := by decide +kernel
theorem dX10_nextRow_109 : decode cX10_nextRow 109 = .ok (.iload 5, 2) := by decide +kernel
theorem dX10_nextRow_111 : decode cX10_nextRow 111 = .ok (.if_icmp .ge 44, 3) := by decide +kernel
theorem dX10_nextRow_114 : decode cX10_nextRow 114 = .ok (.aload_n 0, 1) := by decide +kernel
theorem dX10_nextRow_115 : decode cX10_nextRow 115 = .ok (.getfield 34, 3) := by decide +kernel
theorem dX10_nextRow_118 : decode cX10_nextRow 118 = .ok (.iload 4, 2) := by decide +kernel
theorem dX10_nextRow_120 : decode cX10_nextRow 120 = .ok (.iaload, 1) := by decide +kernel
theorem dX10_nextRow_121 : decode cX10_nextRow 121 = .ok (.istore 6, 2) := by decide +kernel
theorem dX10_nextRow_123 : decode cX10_nextRow 123 = .ok (.aload_n 0, 1) := by decide +kernel
theorem dX10_nextRow_124 : decode cX10_nextRow 124 = .ok (.getfield 34, 3) := by decide +kernel
theorem dX10_nextRow_127 : decode cX10_nextRow 127 = .ok (.iload 4, 2) := by decide +kernel
theorem dX10_nextRow_129 : decode cX10_nextRow 129 = .ok (.aload_n 0, 1) := by decide +kernel
theorem dX10_nextRow_130 : decode cX10_nextRow 130 = .ok (.getfield 34, 3) := by decide +kernel
theorem dX10_nextRow_133 : decode cX10_nextRow 133 = .ok (.iload 5, 2) := by decide +kernel
theorem dX10_nextRow_135 : decode cX10_nextRow 135 = .ok (.iaload, 1) := by decide +kernel
theorem dX10_nextRow_136 : decode cX10_nextRow 136 = .ok (.iastore, 1) := by decide +kernel
theorem dX10_nextRow_137 : decode cX10_nextRow 137 = .ok (.aload_n 0, 1) := by decide +kernel
theorem dX10_nextRow_138 : decode cX10_nextRow 138 = .ok (.getfield 34, 3) := by decide +kernel
theorem dX10_nextRow_141 : decode cX10_nextRow 141 = .ok (.iload 5, 2) := by decide +kernel
theorem dX10_nextRow_143 : decode cX10_nextRow 143 = .ok (.iload 6, 2) := by decide +kernel
theorem dX10_nextRow_145 : decode cX10_nextRow 145 = .ok (.iastore, 1) := by decide +kernel
theorem dX10_nextRow_146 : decode cX10_nextRow 146 = .ok (.iinc 4 1, 3) := by decide +kernel
theorem dX10_nextRow_149 : decode cX10_nextRow 149 = .ok (.iinc 5 (-1), 3) := by decide +kernel
theorem dX10_nextRow_152 : decode cX10_nextRow 152 = .ok (.goto (-45), 3) := by decide +kernel
theorem dX10_nextRow_155 : decode cX10_nextRow 155 = .ok (.iconst 1, 1) := by decide +kernel
theorem dX10_nextRow_156 : decode cX10_nextRow 156 = .ok (.ireturn, 1) := by decide +kernel
theorem dX10_fairBy_0 : decode cX10_fairBy 0 = .ok (.aload_n 0, 1) := by decide +kernel
theorem dX10_fairBy_1 : decode cX10_fairBy 1 = .ok (.invokevirtual 209, 3) := by decide +kernel
theorem dX10_fairBy_4 : decode cX10_fairBy 4 = .ok (.iconst (-1), 1) := by decide +kernel
theorem dX10_fairBy_5 : decode cX10_fairBy 5 = .ok (.istore_n 1, 1) := by decide +kernel
theorem dX10_fairBy_6 : decode cX10_fairBy 6 = .ok (.aload_n 0, 1) := by decide +kernel
theorem dX10_fairBy_7 : decode cX10_fairBy 7 = .ok (.aload_n 0, 1) := by decide +kernel
theorem dX10_fairBy_8 : decode cX10_fairBy 8 = .ok (.getfield 109, 3) := by decide +kernel
theorem dX10_fairBy_11 : decode cX10_fairBy 11 = .ok (.putfield 161, 3) := by decide +kernel
theorem dX10_fairBy_14 : decode cX10_fairBy 14 = .ok (.iconst 0, 1) := by decide +kernel
theorem dX10_fairBy_15 : decode cX10_fairBy 15 = .ok (.istore_n 2, 1) := by decide +kernel
theorem dX10_fairBy_16 : decode cX10_fairBy 16 = .ok (.iload_n 2, 1) := by decide +kernel
theorem dX10_fairBy_17 : decode cX10_fairBy 17 = .ok (.aload_n 0, 1) := by decide +kernel
theorem dX10_fairBy_18 : decode cX10_fairBy 18 = .ok (.getfield 109, 3) := by decide +kernel
theorem dX10_fairBy_21 : decode cX10_fairBy 21 = .ok (.if_icmp .ge 16, 3) := by decide +kernel
theorem dX10_fairBy_24 : decode cX10_fairBy 24 = .ok (.aload_n 0, 1) := by decide +kernel
theorem dX10_fairBy_25 : decode cX10_fairBy 25 = .ok (.getfield 34, 3) := by decide +kernel
theorem dX10_fairBy_28 : decode cX10_fairBy 28 = .ok (.iload_n 2, 1) := by decide +kernel
theorem dX10_fairBy_29 : decode cX10_fairBy 29 = .ok (.iload_n 2, 1) := by decide +kernel
theorem dX10_fairBy_30 : decode cX10_fairBy 30 = .ok (.iastore, 1) := by decide +kernel
theorem dX10_fairBy_31 : decode cX10_fairBy 31 = .ok (.iinc 2 1, 3) := by decide +kernel
theorem dX10_fairBy_34 : decode cX10_fairBy 34 = .ok (.goto (-18), 3) := by decide +kernel
theorem dX10_fairBy_37 : decode cX10_fairBy 37 = .ok (.aload_n 0, 1) := by decide +kernel
theorem dX10_fairBy_38 : decode cX10_fairBy 38 = .ok (.getfield 109, 3) := by decide +kernel
theorem dX10_fairBy_41 : decode cX10_fairBy 41 = .ok (.ifCond .le 7, 3) := by decide +kernel
theorem dX10_fairBy_44 : decode cX10_fairBy 44 = .ok (.iconst 1, 1) := by decide +kernel
theorem dX10_fairBy_45 : decode cX10_fairBy 45 = .ok (.goto 4, 3) := by decide +kernel
theorem dX10_fairBy_48 : decode cX10_fairBy 48 = .ok (.iconst 0, 1) := by decide +kernel
theorem dX10_fairBy_49 : decode cX10_fairBy 49 = .ok (.istore_n 2, 1) := by decide +kernel
theorem dX10_fairBy_50 : decode cX10_fairBy 50 = .ok (.iload_n 2, 1) := by decide +kernel
theorem dX10_fairBy_51 : decode cX10_fairBy 51 = .ok (.ifCond .eq 68, 3) := by decide +kernel
theorem dX10_fairBy_54 : decode cX10_fairBy 54 = .ok (.aload_n 0, 1) := by decide +kernel
theorem dX10_fairBy_55 : decode cX10_fairBy 55 = .ok (.invokevirtual 212, 3) := by decide +kernel
theorem dX10_fairBy_58 : decode cX10_fairBy 58 = .ok (.aload_n 0, 1) := by decide +kernel
theorem dX10_fairBy_59 : decode cX10_fairBy 59 = .ok (.invokevirtual 255, 3) := by decide +kernel
theorem dX10_fairBy_62 : decode cX10_fairBy 62 = .ok (.istore_n 3, 1) := by decide +kernel
theorem dX10_fairBy_63 : decode cX10_fairBy 63 = .ok (.iconst 0, 1) := by decide +kernel
theorem dX10_fairBy_64 : decode cX10_fairBy 64 = .ok (.istore 4, 2) := by decide +kernel
theorem dX10_fairBy_66 : decode cX10_fairBy 66 = .ok (.iload 4, 2) := by decide +kernel
theorem dX10_fairBy_68 : decode cX10_fairBy 68 = .ok (.aload_n 0, 1) := by decide +kernel
theorem dX10_fairBy_69 : decode cX10_fairBy 69 = .ok (.getfield 109, 3) := by decide +kernel
theorem dX10_fairBy_72 : decode cX10_fairBy 72 = .ok (.if_icmp .ge 28, 3) := by decide +kernel
theorem dX10_fairBy_75 : decode cX10_fairBy 75 = .ok (.iload_n 3, 1) := by decide +kernel
theorem dX10_fairBy_76 : decode cX10_fairBy 76 = .ok (.iload_n 1, 1) := by decide +kernel
theorem dX10_fairBy_77 : decode cX10_fairBy 77 = .ok (.if_icmp .le 23, 3) := by decide +kernel
theorem dX10_fairBy_80 : decode cX10_fairBy 80 = .ok (.aload_n 0, 1) := by decide +kernel
theorem dX10_fairBy_81 : decode cX10_fairBy 81 = .ok (.getfield 67, 3) := by decide +kernel
theorem dX10_fairBy_84 : decode cX10_fairBy 84 = .ok (.iload 4, 2) := by decide +kernel
theorem dX10_fairBy_86 : decode cX10_fairBy 86 = .ok (.aload_n 0, 1) := by decide +kernel
theorem dX10_fairBy_87 : decode cX10_fairBy 87 = .ok (.getfield 34, 3) := by decide +kernel
theorem dX10_fairBy_90 : decode cX10_fairBy 90 = .ok (.iload 4, 2) := by decide +kernel
theorem dX10_fairBy_92 : decode cX10_fairBy 92 = .ok (.iaload, 1) := by decide +kernel
theorem dX10_fairBy_93 : decode cX10_fairBy 93 = .ok (.iastore, 1) := by decide +kernel
theorem dX10_fairBy_94 : decode cX10_fairBy 94 = .ok (.iinc 4 1, 3) := by decide +kernel
theorem dX10_fairBy_97 : decode cX10_fairBy 97 = .ok (.goto (-31), 3) := by decide +kernel
theorem dX10_fairBy_100 : decode cX10_fairBy 100 = .ok (.iload_n 3, 1) := by decide +kernel
theorem dX10_fairBy_101 : decode cX10_fairBy 101 = .ok (.iload_n 1, 1) := by decide +kernel
theorem dX10_fairBy_102 : decode cX10_fairBy 102 = .ok (.if_icmp .le 7, 3) := by decide +kernel
theorem dX10_fairBy_105 : decode cX10_fairBy 105 = .ok (.iload_n 3, 1) := by decide +kernel
theorem dX10_fairBy_106 : decode cX10_fairBy 106 = .ok (.goto 4, 3) := by decide +kernel
theorem dX10_fairBy_109 : decode cX10_fairBy 109 = .ok (.iload_n 1, 1) := by decide +kernel
theorem dX10_fairBy_110 : decode cX10_fairBy 110 = .ok (.istore_n 1, 1) := by decide +kernel
theorem dX10_fairBy_111 : decode cX10_fairBy 111 = .ok (.aload_n 0, 1) := by decide +kernel
theorem dX10_fairBy_112 : decode cX10_fairBy 112 = .ok (.invokevirtual 258, 3) := by decide +kernel
theorem dX10_fairBy_115 : decode cX10_fairBy 115 = .ok (.istore_n 2, 1) := by decide +kernel
theorem dX10_fairBy_116 : decode cX10_fairBy 116 = .ok (.goto (-66), 3) := by decide +kernel
theorem dX10_fairBy_119 : decode cX10_fairBy 119 = .ok (.iload_n 1, 1) := by decide +kernel
theorem dX10_fairBy_120 : decode cX10_fairBy 120 = .ok (.ireturn, 1) := by decide +kernel
theorem dX10_fairOf_0 : decode cX10_fairOf 0 = .ok (.aload_n 0, 1) := by decide +kernel
theorem dX10_fairOf_1 : decode cX10_fairOf 1 = .ok (.invokevirtual 262, 3) := by decide +kernel
theorem dX10_fairOf_4 : decode cX10_fairOf 4 = .ok (.istore_n 2, 1) := by decide +kernel
theorem dX10_fairOf_5 : decode cX10_fairOf 5 = .ok (.iload_n 1, 1) := by decide +kernel
theorem dX10_fairOf_6 : decode cX10_fairOf 6 = .ok (.ifCond .ne 7, 3) := by decide +kernel
theorem dX10_fairOf_9 : decode cX10_fairOf 9 = .ok (.iload_n 2, 1) := by decide +kernel
theorem dX10_fairOf_10 : decode cX10_fairOf 10 = .ok (.goto 25, 3) := by decide +kernel
theorem dX10_fairOf_13 : decode cX10_fairOf 13 = .ok (.iload_n 1, 1) := by decide +kernel
theorem dX10_fairOf_14 : decode cX10_fairOf 14 = .ok (.iconst 1, 1) := by decide +kernel
theorem dX10_fairOf_15 : decode cX10_fairOf 15 = .ok (.isub, 1) := by decide +kernel
theorem dX10_fairOf_16 : decode cX10_fairOf 16 = .ok (.aload_n 0, 1) := by decide +kernel
theorem dX10_fairOf_17 : decode cX10_fairOf 17 = .ok (.getfield 109, 3) := by decide +kernel
theorem dX10_fairOf_20 : decode cX10_fairOf 20 = .ok (.if_icmp .ge 14, 3) := by decide +kernel
theorem dX10_fairOf_23 : decode cX10_fairOf 23 = .ok (.aload_n 0, 1) := by decide +kernel
theorem dX10_fairOf_24 : decode cX10_fairOf 24 = .ok (.getfield 67, 3) := by decide +kernel
theorem dX10_fairOf_27 : decode cX10_fairOf 27 = .ok (.iload_n 1, 1) := by decide +kernel
theorem dX10_fairOf_28 : decode cX10_fairOf 28 = .ok (.iconst 1, 1) := by decide +kernel
theorem dX10_fairOf_29 : decode cX10_fairOf 29 = .ok (.isub, 1) := by decide +kernel
theorem dX10_fairOf_30 : decode cX10_fairOf 30 = .ok (.iaload, 1) := by decide +kernel
theorem dX10_fairOf_31 : decode cX10_fairOf 31 = .ok (.goto 4, 3) := by decide +kernel
theorem dX10_fairOf_34 : decode cX10_fairOf 34 = .ok (.iconst (-1), 1) := by decide +kernel
theorem dX10_fairOf_35 : decode cX10_fairOf 35 = .ok (.ireturn, 1) := by decide +kernel
theorem dX10_fair_0 : decode cX10_fair 0 = .ok (.iload_n 1, 1) := by decide +kernel
theorem dX10_fair_1 : decode cX10_fair 1 = .ok (.iconst 0, 1) := by decide +kernel
theorem dX10_fair_2 : decode cX10_fair 2 = .ok (.bipush 8, 2) := by decide +kernel
theorem dX10_fair_4 : decode cX10_fair 4 = .ok (.invokestatic 97, 3) := by decide +kernel
theorem dX10_fair_7 : decode cX10_fair 7 = .ok (.ifCond .eq 11, 3) := by decide +kernel
theorem dX10_fair_10 : decode cX10_fair 10 = .ok (.aload_n 0, 1) := by decide +kernel
theorem dX10_fair_11 : decode cX10_fair 11 = .ok (.iload_n 1, 1) := by decide +kernel
theorem dX10_fair_12 : decode cX10_fair 12 = .ok (.invokevirtual 265, 3) := by decide +kernel
theorem dX10_fair_15 : decode cX10_fair 15 = .ok (.goto 5, 3) := by decide +kernel
theorem dX10_fair_18 : decode cX10_fair 18 = .ok (.bipush (-2), 2) := by decide +kernel
theorem dX10_fair_20 : decode cX10_fair 20 = .ok (.ireturn, 1) := by decide +kernel
theorem dX10_careOf_0 : decode cX10_careOf 0 = .ok (.aload_n 0, 1) := by decide +kernel
theorem dX10_careOf_1 : decode cX10_careOf 1 = .ok (.invokevirtual 209, 3) := by decide +kernel
theorem dX10_careOf_4 : decode cX10_careOf 4 = .ok (.aload_n 0, 1) := by decide +kernel
theorem dX10_careOf_5 : decode cX10_careOf 5 = .ok (.getfield 19, 3) := by decide +kernel
theorem dX10_careOf_8 : decode cX10_careOf 8 = .ok (.iload_n 1, 1) := by decide +kernel
theorem dX10_careOf_9 : decode cX10_careOf 9 = .ok (.iaload, 1) := by decide +kernel
theorem dX10_careOf_10 : decode cX10_careOf 10 = .ok (.istore_n 2, 1) := by decide +kernel
theorem dX10_careOf_11 : decode cX10_careOf 11 = .ok (.iconst (-1), 1) := by decide +kernel
theorem dX10_careOf_12 : decode cX10_careOf 12 = .ok (.istore_n 3, 1) := by decide +kernel
theorem dX10_careOf_13 : decode cX10_careOf 13 = .ok (.iconst 0, 1) := by decide +kernel
theorem dX10_careOf_14 : decode cX10_careOf 14 = .ok (.istore 4, 2) := by decide +kernel
theorem dX10_careOf_16 : decode cX10_careOf 16 = .ok (.iload 4, 2) := by decide +kernel
theorem dX10_careOf_18 : decode cX10_careOf 18 = .ok (.bipush 10, 2) := by decide +kernel
theorem dX10_careOf_20 : decode cX10_careOf 20 = .ok (.if_icmp .ge 44, 3) := by decide +kernel
theorem dX10_careOf_23 : decode cX10_careOf 23 = .ok (.iload_n 3, 1) := by decide +kernel
theorem dX10_careOf_24 : decode cX10_careOf 24 = .ok (.iconst (-1), 1) := by decide +kernel
theorem dX10_careOf_25 : decode cX10_careOf 25 = .ok (.if_icmp .ne 39, 3) := by decide +kernel
theorem dX10_careOf_28 : decode cX10_careOf 28 = .ok (.aload_n 0, 1) := by decide +kernel
theorem dX10_careOf_29 : decode cX10_careOf 29 = .ok (.getfield 19, 3) := by decide +kernel
theorem dX10_careOf_32 : decode cX10_careOf 32 = .ok (.iload_n 1, 1) := by decide +kernel
theorem dX10_careOf_33 : decode cX10_careOf 33 = .ok (.iload 4, 2) := by decide +kernel
theorem dX10_careOf_35 : decode cX10_careOf 35 = .ok (.iastore, 1) := by decide +kernel
theorem dX10_careOf_36 : decode cX10_careOf 36 = .ok (.aload_n 0, 1) := by decide +kernel
theorem dX10_careOf_37 : decode cX10_careOf 37 = .ok (.invokevirtual 212, 3) := by decide +kernel
theorem dX10_careOf_40 : decode cX10_careOf 40 = .ok (.aload_n 0, 1) := by decide +kernel
theorem dX10_careOf_41 : decode cX10_careOf 41 = .ok (.getfield 191, 3) := by decide +kernel
theorem dX10_careOf_44 : decode cX10_careOf 44 = .ok (.iload_n 1, 1) := by decide +kernel
theorem dX10_careOf_45 : decode cX10_careOf 45 = .ok (.invokestatic 157, 3) := by decide +kernel
theorem dX10_careOf_48 : decode cX10_careOf 48 = .ok (.ifCond .eq 7, 3) := by decide +kernel
theorem dX10_careOf_51 : decode cX10_careOf 51 = .ok (.iconst (-1), 1) := by decide +kernel
theorem dX10_careOf_52 : decode cX10_careOf 52 = .ok (.goto 5, 3) := by decide +kernel
theorem dX10_careOf_55 : decode cX10_careOf 55 = .ok (.iload 4, 2) := by decide +kernel
theorem dX10_careOf_57 : decode cX10_careOf 57 = .ok (.istore_n 3, 1) := by decide +kernel
theorem dX10_careOf_58 : decode cX10_careOf 58 = .ok (.iinc 4 1, 3) := by decide +kernel
theorem dX10_careOf_61 : decode cX10_careOf 61 = .ok (.goto (-45), 3) := by decide +kernel
theorem dX10_careOf_64 : decode cX10_careOf 64 = .ok (.aload_n 0, 1) := by decide +kernel
theorem dX10_careOf_65 : decode cX10_careOf 65 = .ok (.getfield 19, 3) := by decide +kernel
theorem dX10_careOf_68 : decode cX10_careOf 68 = .ok (.iload_n 1, 1) := by decide +kernel
theorem dX10_careOf_69 : decode cX10_careOf 69 = .ok (.iload_n 2, 1) := by decide +kernel
theorem dX10_careOf_70 : decode cX10_careOf 70 = .ok (.iastore, 1) := by decide +kernel
theorem dX10_careOf_71 : decode cX10_careOf 71 = .ok (.iload_n 3, 1) := by decide +kernel
theorem dX10_careOf_72 : decode cX10_careOf 72 = .ok (.ireturn, 1) := by decide +kernel
theorem dX10_care_0 : decode cX10_care 0 = .ok (.aload_n 0, 1) := by decide +kernel
theorem dX10_care_1 : decode cX10_care 1 = .ok (.iload_n 1, 1) := by decide +kernel
theorem dX10_care_2 : decode cX10_care 2 = .ok (.invokevirtual 133, 3) := by decide +kernel
theorem dX10_care_5 : decode cX10_care 5 = .ok (.ifCond .eq 11, 3) := by decide +kernel
theorem dX10_care_8 : decode cX10_care 8 = .ok (.aload_n 0, 1) := by decide +kernel
theorem dX10_care_9 : decode cX10_care 9 = .ok (.iload_n 1, 1) := by decide +kernel
theorem dX10_care_10 : decode cX10_care 10 = .ok (.invokevirtual 268, 3) := by decide +kernel
theorem dX10_care_13 : decode cX10_care 13 = .ok (.goto 5, 3) := by decide +kernel
theorem dX10_care_16 : decode cX10_care 16 = .ok (.bipush (-2), 2) := by decide +kernel
theorem dX10_care_18 : decode cX10_care 18 = .ok (.ireturn, 1) := by decide +kernel
theorem dX10_skipOf_0 : decode cX10_skipOf 0 = .ok (.aload_n 0, 1) := by decide +kernel
theorem dX10_skipOf_1 : decode cX10_skipOf 1 = .ok (.invokevirtual 209, 3) := by decide +kernel
theorem dX10_skipOf_4 : decode cX10_skipOf 4 = .ok (.iconst (-1), 1) := by decide +kernel
theorem dX10_skipOf_5 : decode cX10_skipOf 5 = .ok (.istore_n 3, 1) := by decide +kernel
theorem dX10_skipOf_6 : decode cX10_skipOf 6 = .ok (.iconst (-1), 1) := by decide +kernel
theorem dX10_skipOf_7 : decode cX10_skipOf 7 = .ok (.istore 4, 2) := by decide +kernel
theorem dX10_skipOf_9 : decode cX10_skipOf 9 = .ok (.iconst 0, 1) := by decide +kernel
theorem dX10_skipOf_10 : decode cX10_skipOf 10 = .ok (.istore 5, 2) := by decide +kernel
theorem dX10_skipOf_12 : decode cX10_skipOf 12 = .ok (.iload 5, 2) := by decide +kernel
theorem dX10_skipOf_14 : decode cX10_skipOf 14 = .ok (.aload_n 0, 1) := by decide +kernel
theorem dX10_skipOf_15 : decode cX10_skipOf 15 = .ok (.getfield 109, 3) := by decide +kernel
theorem dX10_skipOf_18 : decode cX10_skipOf 18 = .ok (.if_icmp .ge 67, 3) := by decide +kernel
theorem dX10_skipOf_21 : decode cX10_skipOf 21 = .ok (.iload 5, 2) := by decide +kernel
theorem dX10_skipOf_23 : decode cX10_skipOf 23 = .ok (.iload_n 1, 1) := by decide +kernel
theorem dX10_skipOf_24 : decode cX10_skipOf 24 = .ok (.if_icmp .eq 55, 3) := by decide +kernel
theorem dX10_skipOf_27 : decode cX10_skipOf 27 = .ok (.aload_n 0, 1) := by decide +kernel
theorem dX10_skipOf_28 : decode cX10_skipOf 28 = .ok (.iload 5, 2) := by decide +kernel
theorem dX10_skipOf_30 : decode cX10_skipOf 30 = .ok (.putfield 170, 3) := by decide +kernel
theorem dX10_skipOf_33 : decode cX10_skipOf 33 = .ok (.aload_n 0, 1) := by decide +kernel
theorem dX10_skipOf_34 : decode cX10_skipOf 34 = .ok (.invokevirtual 212, 3) := by decide +kernel
theorem dX10_skipOf_37 : decode cX10_skipOf 37 = .ok (.aload_n 0, 1) := by decide +kernel
theorem dX10_skipOf_38 : decode cX10_skipOf 38 = .ok (.getfield 37, 3) := by decide +kernel
theorem dX10_skipOf_41 : decode cX10_skipOf 41 = .ok (.iload_n 1, 1) := by decide +kernel
theorem dX10_skipOf_42 : decode cX10_skipOf 42 = .ok (.iaload, 1) := by decide +kernel
theorem dX10_skipOf_43 : decode cX10_skipOf 43 = .ok (.iload 4, 2) := by decide +kernel
theorem dX10_skipOf_45 : decode cX10_skipOf 45 = .ok (.if_icmp .le 8, 3) := by decide +kernel
theorem dX10_skipOf_48 : decode cX10_skipOf 48 = .ok (.iload 5, 2) := by decide +kernel
theorem dX10_skipOf_50 : decode cX10_skipOf 50 = .ok (.goto 4, 3) := by decide +kernel
theorem dX10_skipOf_53 : decode cX10_skipOf 53 = .ok (.iload_n 3, 1) := by decide +kernel
theorem dX10_skipOf_54 : decode cX10_skipOf 54 = .ok (.istore_n 3, 1) := by decide +kernel
theorem dX10_skipOf_55 : decode cX10_skipOf 55 = .ok (.aload_n 0, 1) := by decide +kernel
theorem dX10_skipOf_56 : decode cX10_skipOf 56 = .ok (.getfield 37, 3) := by decide +kernel
theorem dX10_skipOf_59 : decode cX10_skipOf 59 = .ok (.iload_n 1, 1) := by decide +kernel
theorem dX10_skipOf_60 : decode cX10_skipOf 60 = .ok (.iaload, 1) := by decide +kernel
theorem dX10_skipOf_61 : decode cX10_skipOf 61 = .ok (.iload 4, 2) := by decide +kernel
theorem dX10_skipOf_63 : decode cX10_skipOf 63 = .ok (.if_icmp .le 12, 3) := by decide +kernel
theorem dX10_skipOf_66 : decode cX10_skipOf 66 = .ok (.aload_n 0, 1) := by decide +kernel
theorem dX10_skipOf_67 : decode cX10_skipOf 67 = .ok (.getfield 37, 3) := by decide +kernel
theorem dX10_skipOf_70 : decode cX10_skipOf 70 = .ok (.iload_n 1, 1) := by decide +kernel
theorem dX10_skipOf_71 : decode cX10_skipOf 71 = .ok (.iaload, 1) := by decide +kernel
theorem dX10_skipOf_72 : decode cX10_skipOf 72 = .ok (.goto 5, 3) := by decide +kernel
theorem dX10_skipOf_75 : decode cX10_skipOf 75 = .ok (.iload 4, 2) := by decide +kernel
theorem dX10_skipOf_77 : decode cX10_skipOf 77 = .ok (.istore 4, 2) := by decide +kernel
theorem dX10_skipOf_79 : decode cX10_skipOf 79 = .ok (.iinc 5 1, 3) := by decide +kernel
theorem dX10_skipOf_82 : decode cX10_skipOf 82 = .ok (.goto (-70), 3) := by decide +kernel
theorem dX10_skipOf_85 : decode cX10_skipOf 85 = .ok (.iload_n 2, 1) := by decide +kernel
theorem dX10_skipOf_86 : decode cX10_skipOf 86 = .ok (.ifCond .ne 7, 3) := by decide +kernel
theorem dX10_skipOf_89 : decode cX10_skipOf 89 = .ok (.iload_n 3, 1) := by decide +kernel
theorem dX10_skipOf_90 : decode cX10_skipOf 90 = .ok (.goto 5, 3) := by decide +kernel
theorem dX10_skipOf_93 : decode cX10_skipOf 93 = .ok (.iload 4, 2) := by decide +kernel
theorem dX10_skipOf_95 : decode cX10_skipOf 95 = .ok (.ireturn, 1) := by decide +kernel
theorem dX10_skip_0 : decode cX10_skip 0 = .ok (.aload_n 0, 1) := by decide +kernel
theorem dX10_skip_1 : decode cX10_skip 1 = .ok (.iload_n 1, 1) := by decide +kernel
theorem dX10_skip_2 : decode cX10_skip 2 = .ok (.invokevirtual 133, 3) := by decide +kernel
theorem dX10_skip_5 : decode cX10_skip 5 = .ok (.ifCond .eq 21, 3) := by decide +kernel
theorem dX10_skip_8 : decode cX10_skip 8 = .ok (.iload_n 2, 1) := by decide +kernel
theorem dX10_skip_9 : decode cX10_skip 9 = .ok (.iconst 0, 1) := by decide +kernel
theorem dX10_skip_10 : decode cX10_skip 10 = .ok (.iconst 1, 1) := by decide +kernel
theorem dX10_skip_11 : decode cX10_skip 11 = .ok (.invokestatic 97, 3) := by decide +kernel
theorem dX10_skip_14 : decode cX10_skip 14 = .ok (.ifCond .eq 12, 3) := by decide +kernel
theorem dX10_skip_17 : decode cX10_skip 17 = .ok (.aload_n 0, 1) := by decide +kernel
theorem dX10_skip_18 : decode cX10_skip 18 = .ok (.iload_n 1, 1) := by decide +kernel
theorem dX10_skip_19 : decode cX10_skip 19 = .ok (.iload_n 2, 1) := by decide +kernel
theorem dX10_skip_20 : decode cX10_skip 20 = .ok (.invokevirtual 271, 3) := by decide +kernel
theorem dX10_skip_23 : decode cX10_skip 23 = .ok (.goto 5, 3) := by decide +kernel
theorem dX10_skip_26 : decode cX10_skip 26 = .ok (.bipush (-2), 2) := by decide +kernel
theorem dX10_skip_28 : decode cX10_skip 28 = .ok (.ireturn, 1) := by decide +kernel
theorem dX10_seen_0 : decode cX10_seen 0 = .ok (.iload_n 1, 1) := by decide +kernel
theorem dX10_seen_1 : decode cX10_seen 1 = .ok (.invokestatic 139, 3) := by decide +kernel
theorem dX10_seen_4 : decode cX10_seen 4 = .ok (.ifCond .eq 12, 3) := by decide +kernel
theorem dX10_seen_7 : decode cX10_seen 7 = .ok (.iload_n 2, 1) := by decide +kernel
theorem dX10_seen_8 : decode cX10_seen 8 = .ok (.iconst 0, 1) := by decide +kernel
theorem dX10_seen_9 : decode cX10_seen 9 = .ok (.iconst 4, 1) := by decide +kernel
theorem dX10_seen_10 : decode cX10_seen 10 = .ok (.invokestatic 97, 3) := by decide +kernel
theorem dX10_seen_13 : decode cX10_seen 13 = .ok (.ifCond .ne 6, 3) := by decide +kernel
theorem dX10_seen_16 : decode cX10_seen 16 = .ok (.bipush (-2), 2) := by decide +kernel
theorem dX10_seen_18 : decode cX10_seen 18 = .ok (.ireturn, 1) := by decide +kernel
theorem dX10_seen_19 : decode cX10_seen 19 = .ok (.aload_n 0, 1) := by decide +kernel
theorem dX10_seen_20 : decode cX10_seen 20 = .ok (.getfield 274, 3) := by decide +kernel
theorem dX10_seen_23 : decode cX10_seen 23 = .ok (.bipush 8, 2) := by decide +kernel
theorem dX10_seen_25 : decode cX10_seen 25 = .ok (.if_icmp .ne 6, 3) := by decide +kernel
theorem dX10_seen_28 : decode cX10_seen 28 = .ok (.bipush (-4), 2) := by decide +kernel
theorem dX10_seen_30 : decode cX10_seen 30 = .ok (.ireturn, 1) := by decide +kernel
theorem dX10_seen_31 : decode cX10_seen 31 = .ok (.aload_n 0, 1) := by decide +kernel
theorem dX10_seen_32 : decode cX10_seen 32 = .ok (.getfield 70, 3) := by decide +kernel
theorem dX10_seen_35 : decode cX10_seen 35 = .ok (.aload_n 0, 1) := by decide +kernel
theorem dX10_seen_36 : decode cX10_seen 36 = .ok (.getfield 274, 3) := by decide +kernel
theorem dX10_seen_39 : decode cX10_seen 39 = .ok (.iload_n 1, 1) := by decide +kernel
theorem dX10_seen_40 : decode cX10_seen 40 = .ok (.iastore, 1) := by decide +kernel
theorem dX10_seen_41 : decode cX10_seen 41 = .ok (.aload_n 0, 1) := by decide +kernel
theorem dX10_seen_42 : decode cX10_seen 42 = .ok (.getfield 73, 3) := by decide +kernel
theorem dX10_seen_45 : decode cX10_seen 45 = .ok (.aload_n 0, 1) := by decide +kernel
theorem dX10_seen_46 : decode cX10_seen 46 = .ok (.getfield 274, 3) := by decide +kernel
theorem dX10_seen_49 : decode cX10_seen 49 = .ok (.iload_n 2, 1) := by decide +kernel
theorem dX10_seen_50 : decode cX10_seen 50 = .ok (.iastore, 1) := by decide +kernel
theorem dX10_seen_51 : decode cX10_seen 51 = .ok (.aload_n 0, 1) := by decide +kernel
theorem dX10_seen_52 : decode cX10_seen 52 = .ok (.dup, 1) := by decide +kernel
theorem dX10_seen_53 : decode cX10_seen 53 = .ok (.getfield 274, 3) := by decide +kernel
theorem dX10_seen_56 : decode cX10_seen 56 = .ok (.iconst 1, 1) := by decide +kernel
theorem dX10_seen_57 : decode cX10_seen 57 = .ok (.iadd, 1) := by decide +kernel
theorem dX10_seen_58 : decode cX10_seen 58 = .ok (.putfield 274, 3) := by decide +kernel
theorem dX10_seen_61 : decode cX10_seen 61 = .ok (.aload_n 0, 1) := by decide +kernel
theorem dX10_seen_62 : decode cX10_seen 62 = .ok (.getfield 274, 3) := by decide +kernel
theorem dX10_seen_65 : decode cX10_seen 65 = .ok (.ireturn, 1) := by decide +kernel
theorem dX10_forget_0 : decode cX10_forget 0 = .ok (.aload_n 0, 1) := by decide +kernel
theorem dX10_forget_1 : decode cX10_forget 1 = .ok (.getfield 274, 3) := by decide +kernel
theorem dX10_forget_4 : decode cX10_forget 4 = .ok (.istore_n 1, 1) := by decide +kernel
theorem dX10_forget_5 : decode cX10_forget 5 = .ok (.aload_n 0, 1) := by decide +kernel
theorem dX10_forget_6 : decode cX10_forget 6 = .ok (.iconst 0, 1) := by decide +kernel
theorem dX10_forget_7 : decode cX10_forget 7 = .ok (.putfield 274, 3) := by decide +kernel
theorem dX10_forget_10 : decode cX10_forget 10 = .ok (.iload_n 1, 1) := by decide +kernel
theorem dX10_forget_11 : decode cX10_forget 11 = .ok (.ireturn, 1) := by decide +kernel
theorem dX10_isSeen_0 : decode cX10_isSeen 0 = .ok (.aload_n 0, 1) := by decide +kernel
theorem dX10_isSeen_1 : decode cX10_isSeen 1 = .ok (.invokevirtual 212, 3) := by decide +kernel
theorem dX10_isSeen_4 : decode cX10_isSeen 4 = .ok (.iconst 1, 1) := by decide +kernel
theorem dX10_isSeen_5 : decode cX10_isSeen 5 = .ok (.istore_n 1, 1) := by decide +kernel
theorem dX10_isSeen_6 : decode cX10_isSeen 6 = .ok (.iconst 0, 1) := by decide +kernel
theorem dX10_isSeen_7 : decode cX10_isSeen 7 = .ok (.istore_n 2, 1) := by decide +kernel
theorem dX10_isSeen_8 : decode cX10_isSeen 8 = .ok (.iload_n 2, 1) := by decide +kernel
theorem dX10_isSeen_9 : decode cX10_isSeen 9 = .ok (.aload_n 0, 1) := by decide +kernel
theorem dX10_isSeen_10 : decode cX10_isSeen 10 = .ok (.getfield 274, 3) := by decide +kernel
theorem dX10_isSeen_13 : decode cX10_isSeen 13 = .ok (.if_icmp .ge 52, 3) := by decide +kernel
theorem dX10_isSeen_16 : decode cX10_isSeen 16 = .ok (.iload_n 1, 1) := by decide +kernel
theorem dX10_isSeen_17 : decode cX10_isSeen 17 = .ok (.ifCond .eq 48, 3) := by decide +kernel
theorem dX10_isSeen_20 : decode cX10_isSeen 20 = .ok (.aload_n 0, 1) := by decide +kernel
theorem dX10_isSeen_21 : decode cX10_isSeen 21 = .ok (.getfield 70, 3) := by decide +kernel
theorem dX10_isSeen_24 : decode cX10_isSeen 24 = .ok (.iload_n 2, 1) := by decide +kernel
theorem dX10_isSeen_25 : decode cX10_isSeen 25 = .ok (.iaload, 1) := by decide +kernel
theorem dX10_isSeen_26 : decode cX10_isSeen 26 = .ok (.aload_n 0, 1) := by decide +kernel
theorem dX10_isSeen_27 : decode cX10_isSeen 27 = .ok (.getfield 161, 3) := by decide +kernel
theorem dX10_isSeen_30 : decode cX10_isSeen 30 = .ok (.if_icmp .ge 27, 3) := by decide +kernel
theorem dX10_isSeen_33 : decode cX10_isSeen 33 = .ok (.aload_n 0, 1) := by decide +kernel
theorem dX10_isSeen_34 : decode cX10_isSeen 34 = .ok (.getfield 46, 3) := by decide +kernel
theorem dX10_isSeen_37 : decode cX10_isSeen 37 = .ok (.aload_n 0, 1) := by decide +kernel
theorem dX10_isSeen_38 : decode cX10_isSeen 38 = .ok (.getfield 70, 3) := by decide +kernel
theorem dX10_isSeen_41 : decode cX10_isSeen 41 = .ok (.iload_n 2, 1) := by decide +kernel
theorem dX10_isSeen_42 : decode cX10_isSeen 42 = .ok (.iaload, 1) := by decide +kernel
theorem dX10_isSeen_43 : decode cX10_isSeen 43 = .ok (.iaload, 1) := by decide +kernel
theorem dX10_isSeen_44 : decode cX10_isSeen 44 = .ok (.aload_n 0, 1) := by decide +kernel
theorem dX10_isSeen_45 : decode cX10_isSeen 45 = .ok (.getfield 73, 3) := by decide +kernel
theorem dX10_isSeen_48 : decode cX10_isSeen 48 = .ok (.iload_n 2, 1) := by decide +kernel
theorem dX10_isSeen_49 : decode cX10_isSeen 49 = .ok (.iaload, 1) := by decide +kernel
theorem dX10_isSeen_50 : decode cX10_isSeen 50 = .ok (.if_icmp .ne 7, 3) := by decide +kernel
theorem dX10_isSeen_53 : decode cX10_isSeen 53 = .ok (.iconst 1, 1) := by decide +kernel
theorem dX10_isSeen_54 : decode cX10_isSeen 54 = .ok (.goto 4, 3) := by decide +kernel
theorem dX10_isSeen_57 : decode cX10_isSeen 57 = .ok (.iconst 0, 1) := by decide +kernel
theorem dX10_isSeen_58 : decode cX10_isSeen 58 = .ok (.istore_n 1, 1) := by decide +kernel
theorem dX10_isSeen_59 : decode cX10_isSeen 59 = .ok (.iinc 2 1, 3) := by decide +kernel
theorem dX10_isSeen_62 : decode cX10_isSeen 62 = .ok (.goto (-54), 3) := by decide +kernel
theorem dX10_isSeen_65 : decode cX10_isSeen 65 = .ok (.iload_n 1, 1) := by decide +kernel
theorem dX10_isSeen_66 : decode cX10_isSeen 66 = .ok (.ireturn, 1) := by decide +kernel
theorem dX10_neverNow_0 : decode cX10_neverNow 0 = .ok (.aload_n 0, 1) := by decide +kernel
theorem dX10_neverNow_1 : decode cX10_neverNow 1 = .ok (.invokevirtual 209, 3) := by decide +kernel
theorem dX10_neverNow_4 : decode cX10_neverNow 4 = .ok (.iconst 0, 1) := by decide +kernel
theorem dX10_neverNow_5 : decode cX10_neverNow 5 = .ok (.istore_n 1, 1) := by decide +kernel
theorem dX10_neverNow_6 : decode cX10_neverNow 6 = .ok (.iconst 0, 1) := by decide +kernel
theorem dX10_neverNow_7 : decode cX10_neverNow 7 = .ok (.istore_n 2, 1) := by decide +kernel
theorem dX10_neverNow_8 : decode cX10_neverNow 8 = .ok (.iload_n 2, 1) := by decide +kernel
theorem dX10_neverNow_9 : decode cX10_neverNow 9 = .ok (.aload_n 0, 1) := by decide +kernel
theorem dX10_neverNow_10 : decode cX10_neverNow 10 = .ok (.getfield 145, 3) := by decide +kernel
theorem dX10_neverNow_13 : decode cX10_neverNow 13 = .ok (.if_icmp .ge 37, 3) := by decide +kernel
theorem dX10_neverNow_16 : decode cX10_neverNow 16 = .ok (.aload_n 0, 1) := by decide +kernel
theorem dX10_neverNow_17 : decode cX10_neverNow 17 = .ok (.aload_n 0, 1) := by decide +kernel
theorem dX10_neverNow_18 : decode cX10_neverNow 18 = .ok (.iconst 1, 1) := by decide +kernel
theorem dX10_neverNow_19 : decode cX10_neverNow 19 = .ok (.iload_n 2, 1) := by decide +kernel
theorem dX10_neverNow_20 : decode cX10_neverNow 20 = .ok (.ishl, 1) := by decide +kernel
theorem dX10_neverNow_21 : decode cX10_neverNow 21 = .ok (.invokevirtual 164, 3) := by decide +kernel
theorem dX10_neverNow_24 : decode cX10_neverNow 24 = .ok (.putfield 167, 3) := by decide +kernel
theorem dX10_neverNow_27 : decode cX10_neverNow 27 = .ok (.iload_n 1, 1) := by decide +kernel
theorem dX10_neverNow_28 : decode cX10_neverNow 28 = .ok (.aload_n 0, 1) := by decide +kernel
theorem dX10_neverNow_29 : decode cX10_neverNow 29 = .ok (.invokevirtual 277, 3) := by decide +kernel
theorem dX10_neverNow_32 : decode cX10_neverNow 32 = .ok (.ifCond .eq 9, 3) := by decide +kernel
theorem dX10_neverNow_35 : decode cX10_neverNow 35 = .ok (.iconst 1, 1) := by decide +kernel
theorem dX10_neverNow_36 : decode cX10_neverNow 36 = .ok (.iload_n 2, 1) := by decide +kernel
theorem dX10_neverNow_37 : decode cX10_neverNow 37 = .ok (.ishl, 1) := by decide +kernel
theorem dX10_neverNow_38 : decode cX10_neverNow 38 = .ok (.goto 4, 3) := by decide +kernel
theorem dX10_neverNow_41 : decode cX10_neverNow 41 = .ok (.iconst 0, 1) := by decide +kernel
theorem dX10_neverNow_42 : decode cX10_neverNow 42 = .ok (.ior, 1) := by decide +kernel
theorem dX10_neverNow_43 : decode cX10_neverNow 43 = .ok (.istore_n 1, 1) := by decide +kernel
theorem dX10_neverNow_44 : decode cX10_neverNow 44 = .ok (.iinc 2 1, 3) := by decide +kernel
theorem dX10_neverNow_47 : decode cX10_neverNow 47 = .ok (.goto (-39), 3) := by decide +kernel
theorem dX10_neverNow_50 : decode cX10_neverNow 50 = .ok (.iload_n 1, 1) := by decide +kernel
theorem dX10_neverNow_51 : decode cX10_neverNow 51 = .ok (.ireturn, 1) := by decide +kernel
theorem dX10_never_0 : decode cX10_never 0 = .ok (.aload_n 0, 1) := by decide +kernel
theorem dX10_never_1 : decode cX10_never 1 = .ok (.invokevirtual 280, 3) := by decide +kernel
theorem dX10_never_4 : decode cX10_never 4 = .ok (.ireturn, 1) := by decide +kernel
theorem dX10_wasBy_0 : decode cX10_wasBy 0 = .ok (.aload_n 0, 1) := by decide +kernel
theorem dX10_wasBy_1 : decode cX10_wasBy 1 = .ok (.invokevirtual 209, 3) := by decide +kernel
theorem dX10_wasBy_4 : decode cX10_wasBy 4 = .ok (.aload_n 0, 1) := by decide +kernel
theorem dX10_wasBy_5 : decode cX10_wasBy 5 = .ok (.getfield 22, 3) := by decide +kernel
theorem dX10_wasBy_8 : decode cX10_wasBy 8 = .ok (.iload_n 1, 1) := by decide +kernel
theorem dX10_wasBy_9 : decode cX10_wasBy 9 = .ok (.iaload, 1) := by decide +kernel
theorem dX10_wasBy_10 : decode cX10_wasBy 10 = .ok (.istore_n 3, 1) := by decide +kernel
theorem dX10_wasBy_11 : decode cX10_wasBy 11 = .ok (.aload_n 0, 1) := by decide +kernel
theorem dX10_wasBy_12 : decode cX10_wasBy 12 = .ok (.getfield 19, 3) := by decide +kernel
theorem dX10_wasBy_15 : decode cX10_wasBy 15 = .ok (.iload_n 1, 1) := by decide +kernel
theorem dX10_wasBy_16 : decode cX10_wasBy 16 = .ok (.iaload, 1) := by decide +kernel
theorem dX10_wasBy_17 : decode cX10_wasBy 17 = .ok (.istore 4, 2) := by decide +kernel
theorem dX10_wasBy_19 : decode cX10_wasBy 19 = .ok (.iconst 0, 1) := by decide +kernel
theorem dX10_wasBy_20 : decode cX10_wasBy 20 = .ok (.istore 5, 2) := by decide +kernel
theorem dX10_wasBy_22 : decode cX10_wasBy 22 = .ok (.iconst 0, 1) := by decide +kernel
theorem dX10_wasBy_23 : decode cX10_wasBy 23 = .ok (.istore 6, 2) := by decide +kernel
theorem dX10_wasBy_25 : decode cX10_wasBy 25 = .ok (.iload 6, 2) := by decide +kernel
theorem dX10_wasBy_27 : decode cX10_wasBy 27 = .ok (.bipush 10, 2) := by decide +kernel
theorem dX10_wasBy_29 : decode cX10_wasBy 29 = .ok (.if_icmp .ge 101, 3) := by decide +kernel
theorem dX10_wasBy_32 : decode cX10_wasBy 32 = .ok (.aload_n 0, 1) := by decide +kernel
theorem dX10_wasBy_33 : decode cX10_wasBy 33 = .ok (.getfield 22, 3) := by decide +kernel
theorem dX10_wasBy_36 : decode cX10_wasBy 36 = .ok (.iload_n 1, 1) := by decide +kernel
theorem dX10_wasBy_37 : decode cX10_wasBy 37 = .ok (.iload_n 2, 1) := by decide +kernel
theorem dX10_wasBy_38 : decode cX10_wasBy 38 = .ok (.ifCond .ne 8, 3) := by decide +kernel
theorem dX10_wasBy_41 : decode cX10_wasBy 41 = .ok (.iload 6, 2) := by decide +kernel
theorem dX10_wasBy_43 : decode cX10_wasBy 43 = .ok (.goto 4, 3) := by decide +kernel
theorem dX10_wasBy_46 : decode cX10_wasBy 46 = .ok (.iload_n 3, 1) := by decide +kernel
theorem dX10_wasBy_47 : decode cX10_wasBy 47 = .ok (.iastore, 1) := by decide +kernel
theorem dX10_wasBy_48 : decode cX10_wasBy 48 = .ok (.aload_n 0, 1) := by decide +kernel
theorem dX10_wasBy_49 : decode cX10_wasBy 49 = .ok (.getfield 19, 3) := by decide +kernel
theorem dX10_wasBy_52 : decode cX10_wasBy 52 = .ok (.iload_n 1, 1) := by decide +kernel
theorem dX10_wasBy_53 : decode cX10_wasBy 53 = .ok (.iload_n 2, 1) := by decide +kernel
theorem dX10_wasBy_54 : decode cX10_wasBy 54 = .ok (.iconst 1, 1) := by decide +kernel
theorem dX10_wasBy_55 : decode cX10_wasBy 55 = .ok (.if_icmp .ne 8, 3) := by decide +kernel
theorem dX10_wasBy_58 : decode cX10_wasBy 58 = .ok (.iload 6, 2) := by decide +kernel
theorem dX10_wasBy_60 : decode cX10_wasBy 60 = .ok (.goto 5, 3) := by decide +kernel
theorem dX10_wasBy_63 : decode cX10_wasBy 63 = .ok (.iload 4, 2) := by decide +kernel
theorem dX10_wasBy_65 : decode cX10_wasBy 65 = .ok (.iastore, 1) := by decide +kernel
theorem dX10_wasBy_66 : decode cX10_wasBy 66 = .ok (.iload 5, 2) := by decide +kernel
theorem dX10_wasBy_68 : decode cX10_wasBy 68 = .ok (.aload_n 0, 1) := by decide +kernel
theorem dX10_wasBy_69 : decode cX10_wasBy 69 = .ok (.invokevirtual 277, 3) := by decide +kernel
theorem dX10_wasBy_72 : decode cX10_wasBy 72 = .ok (.ifCond .eq 10, 3) := by decide +kernel
theorem dX10_wasBy_75 : decode cX10_wasBy 75 = .ok (.iconst 1, 1) := by decide +kernel
theorem dX10_wasBy_76 : decode cX10_wasBy 76 = .ok (.iload 6, 2) := by decide +kernel
theorem dX10_wasBy_78 : decode cX10_wasBy 78 = .ok (.ishl, 1) := by decide +kernel
theorem dX10_wasBy_79 : decode cX10_wasBy 79 = .ok (.goto 4, 3) := by decide +kernel
theorem dX10_wasBy_82 : decode cX10_wasBy 82 = .ok (.iconst 0, 1) := by decide +kernel
theorem dX10_wasBy_83 : decode cX10_wasBy 83 = .ok (.ior, 1) := by decide +kernel
theorem dX10_wasBy_84 : decode cX10_wasBy 84 = .ok (.istore 5, 2) := by decide +kernel
theorem dX10_wasBy_86 : decode cX10_wasBy 86 = .ok (.iconst 0, 1) := by decide +kernel
theorem dX10_wasBy_87 : decode cX10_wasBy 87 = .ok (.istore 7, 2) := by decide +kernel
theorem dX10_wasBy_89 : decode cX10_wasBy 89 = .ok (.iload 7, 2) := by decide +kernel
theorem dX10_wasBy_91 : decode cX10_wasBy 91 = .ok (.aload_n 0, 1) := by decide +kernel
theorem dX10_wasBy_92 : decode cX10_wasBy 92 = .ok (.getfield 161, 3) := by decide +kernel
theorem dX10_wasBy_95 : decode cX10_wasBy 95 = .ok (.if_icmp .ge 29, 3) := by decide +kernel
theorem dX10_wasBy_98 : decode cX10_wasBy 98 = .ok (.aload_n 0, 1) := by decide +kernel
theorem dX10_wasBy_99 : decode cX10_wasBy 99 = .ok (.getfield 76, 3) := by decide +kernel
theorem dX10_wasBy_102 : decode cX10_wasBy 102 = .ok (.bipush 20, 2) := by decide +kernel
theorem dX10_wasBy_104 : decode cX10_wasBy 104 = .ok (.iload 6, 2) := by decide +kernel
theorem dX10_wasBy_106 : decode cX10_wasBy 106 = .ok (.imul, 1) := by decide +kernel
theorem dX10_wasBy_107 : decode cX10_wasBy 107 = .ok (.iload 7, 2) := by decide +kernel
theorem dX10_wasBy_109 : decode cX10_wasBy 109 = .ok (.iadd, 1) := by decide +kernel
theorem dX10_wasBy_110 : decode cX10_wasBy 110 = .ok (.aload_n 0, 1) := by decide +kernel
theorem dX10_wasBy_111 : decode cX10_wasBy 111 = .ok (.getfield 46, 3) := by decide +kernel
theorem dX10_wasBy_114 : decode cX10_wasBy 114 = .ok (.iload 7, 2) := by decide +kernel
theorem dX10_wasBy_116 : decode cX10_wasBy 116 = .ok (.iaload, 1) := by decide +kernel
theorem dX10_wasBy_117 : decode cX10_wasBy 117 = .ok (.iastore, 1) := by decide +kernel
theorem dX10_wasBy_118 : decode cX10_wasBy 118 = .ok (.iinc 7 1, 3) := by decide +kernel
theorem dX10_wasBy_121 : decode cX10_wasBy 121 = .ok (.goto (-32), 3) := by decide +kernel
theorem dX10_wasBy_124 : decode cX10_wasBy 124 = .ok (.iinc 6 1, 3) := by decide +kernel
theorem dX10_wasBy_127 : decode cX10_wasBy 127 = .ok (.goto (-102), 3) := by decide +kernel
theorem dX10_wasBy_130 : decode cX10_wasBy 130 = .ok (.aload_n 0, 1) := by decide +kernel
theorem dX10_wasBy_131 : decode cX10_wasBy 131 = .ok (.getfield 22, 3) := by decide +kernel
theorem dX10_wasBy_134 : decode cX10_wasBy 134 = .ok (.iload_n 1, 1) := by decide +kernel
theorem dX10_wasBy_135 : decode cX10_wasBy 135 = .ok (.iload_n 3, 1) := by decide +kernel
theorem dX10_wasBy_136 : decode cX10_wasBy 136 = .ok (.iastore, 1) := by decide +kernel
theorem dX10_wasBy_137 : decode cX10_wasBy 137 = .ok (.aload_n 0, 1) := by decide +kernel
theorem dX10_wasBy_138 : decode cX10_wasBy 138 = .ok (.getfield 19, 3) := by decide +kernel
theorem dX10_wasBy_141 : decode cX10_wasBy 141 = .ok (.iload_n 1, 1) := by decide +kernel
theorem dX10_wasBy_142 : decode cX10_wasBy 142 = .ok (.iload 4, 2) := by decide +kernel
theorem dX10_wasBy_144 : decode cX10_wasBy 144 = .ok (.iastore, 1) := by decide +kernel
theorem dX10_wasBy_145 : decode cX10_wasBy 145 = .ok (.iload 5, 2) := by decide +kernel
theorem dX10_wasBy_147 : decode cX10_wasBy 147 = .ok (.ireturn, 1) := by decide +kernel
theorem dX10_was_0 : decode cX10_was 0 = .ok (.aload_n 0, 1) := by decide +kernel
theorem dX10_was_1 : decode cX10_was 1 = .ok (.iload_n 1, 1) := by decide +kernel
theorem dX10_was_2 : decode cX10_was 2 = .ok (.invokevirtual 133, 3) := by decide +kernel
theorem dX10_was_5 : decode cX10_was 5 = .ok (.ifCond .eq 21, 3) := by decide +kernel
theorem dX10_was_8 : decode cX10_was 8 = .ok (.iload_n 2, 1) := by decide +kernel
theorem dX10_was_9 : decode cX10_was 9 = .ok (.iconst 0, 1) := by decide +kernel
theorem dX10_was_10 : decode cX10_was 10 = .ok (.iconst 1, 1) := by decide +kernel
theorem dX10_was_11 : decode cX10_was 11 = .ok (.invokestatic 97, 3) := by decide +kernel
theorem dX10_was_14 : decode cX10_was 14 = .ok (.ifCond .eq 12, 3) := by decide +kernel
theorem dX10_was_17 : decode cX10_was 17 = .ok (.aload_n 0, 1) := by decide +kernel
theorem dX10_was_18 : decode cX10_was 18 = .ok (.iload_n 1, 1) := by decide +kernel
theorem dX10_was_19 : decode cX10_was 19 = .ok (.iload_n 2, 1) := by decide +kernel
theorem dX10_was_20 : decode cX10_was 20 = .ok (.invokevirtual 283, 3) := by decide +kernel
theorem dX10_was_23 : decode cX10_was 23 = .ok (.goto 5, 3) := by decide +kernel
theorem dX10_was_26 : decode cX10_was 26 = .ok (.bipush (-2), 2) := by decide +kernel
theorem dX10_was_28 : decode cX10_was 28 = .ok (.ireturn, 1) := by decide +kernel
theorem dX10_askOf_0 : decode cX10_askOf 0 = .ok (.aload_n 0, 1) := by decide +kernel
theorem dX10_askOf_1 : decode cX10_askOf 1 = .ok (.iload_n 1, 1) := by decide +kernel
theorem dX10_askOf_2 : decode cX10_askOf 2 = .ok (.iconst 0, 1) := by decide +kernel
theorem dX10_askOf_3 : decode cX10_askOf 3 = .ok (.invokevirtual 283, 3) := by decide +kernel
theorem dX10_askOf_6 : decode cX10_askOf 6 = .ok (.istore_n 2, 1) := by decide +kernel
theorem dX10_askOf_7 : decode cX10_askOf 7 = .ok (.iconst (-1), 1) := by decide +kernel
theorem dX10_askOf_8 : decode cX10_askOf 8 = .ok (.istore_n 3, 1) := by decide +kernel
theorem dX10_askOf_9 : decode cX10_askOf 9 = .ok (.iconst 0, 1) := by decide +kernel
theorem dX10_askOf_10 : decode cX10_askOf 10 = .ok (.istore 4, 2) := by decide +kernel
theorem dX10_askOf_12 : decode cX10_askOf 12 = .ok (.iconst 0, 1) := by decide +kernel
theorem dX10_askOf_13 : decode cX10_askOf 13 = .ok (.istore 5, 2) := by decide +kernel
theorem dX10_askOf_15 : decode cX10_askOf 15 = .ok (.iload 5, 2) := by decide +kernel
theorem dX10_askOf_17 : decode cX10_askOf 17 = .ok (.aload_n 0, 1) := by decide +kernel
theorem dX10_askOf_18 : decode cX10_askOf 18 = .ok (.getfield 161, 3) := by decide +kernel
theorem dX10_askOf_21 : decode cX10_askOf 21 = .ok (.if_icmp .ge 165, 3) := by decide +kernel
theorem dX10_askOf_24 : decode cX10_askOf 24 = .ok (.iconst 0, 1) := by decide +kernel
theorem dX10_askOf_25 : decode cX10_askOf 25 = .ok (.istore 6, 2) := by decide +kernel
theorem dX10_askOf_27 : decode cX10_askOf 27 = .ok (.iconst 0, 1) := by decide +kernel
theorem dX10_askOf_28 : decode cX10_askOf 28 = .ok (.istore 7, 2) := by decide +kernel
theorem dX10_askOf_30 : decode cX10_askOf 30 = .ok (.iload 7, 2) := by decide +kernel
theorem dX10_askOf_32 : decode cX10_askOf 32 = .ok (.bipush 10, 2) := by decide +kernel
theorem dX10_askOf_34 : decode cX10_askOf 34 = .ok (.if_icmp .ge 101, 3) := by decide +kernel
theorem dX10_askOf_37 : decode cX10_askOf 37 = .ok (.iconst 0, 1) := by decide +kernel
theorem dX10_askOf_38 : decode cX10_askOf 38 = .ok (.istore 8, 2) := by decide +kernel
theorem dX10_askOf_40 : decode cX10_askOf 40 = .ok (.iconst 0, 1) := by decide +kernel
theorem dX10_askOf_41 : decode cX10_askOf 41 = .ok (.istore 9, 2) := by decide +kernel
theorem dX10_askOf_43 : decode cX10_askOf 43 = .ok (.iload 9, 2) := by decide +kernel
theorem dX10_askOf_45 : decode cX10_askOf 45 = .ok (.bipush 10, 2) := by decide +kernel
theorem dX10_askOf_47 : decode cX10_askOf 47 = .ok (.if_icmp .ge 66, 3) := by decide +kernel
theorem dX10_askOf_50 : decode cX10_askOf 50 = .ok (.iload 8, 2) := by decide +kernel
theorem dX10_askOf_52 : decode cX10_askOf 52 = .ok (.iload_n 2, 1) := by decide +kernel
theorem dX10_askOf_53 : decode cX10_askOf 53 = .ok (.iload 7, 2) := by decide +kernel
theorem dX10_askOf_55 : decode cX10_askOf 55 = .ok (.invokestatic 157, 3) := by decide +kernel
theorem dX10_askOf_58 : decode cX10_askOf 58 = .ok (.ifCond .eq 45, 3) := by decide +kernel
theorem dX10_askOf_61 : decode cX10_askOf 61 = .ok (.iload_n 2, 1) := by decide +kernel
theorem dX10_askOf_62 : decode cX10_askOf 62 = .ok (.iload 9, 2) := by decide +kernel
theorem dX10_askOf_64 : decode cX10_askOf 64 = .ok (.invokestatic 157, 3) := by decide +kernel
theorem dX10_askOf_67 : decode cX10_askOf 67 = .ok (.ifCond .eq 36, 3) := by decide +kernel
theorem dX10_askOf_70 : decode cX10_askOf 70 = .ok (.aload_n 0, 1) := by decide +kernel
theorem dX10_askOf_71 : decode cX10_askOf 71 = .ok (.getfield 76, 3) := by decide +kernel
theorem dX10_askOf_74 : decode cX10_askOf 74 = .ok (.bipush 20, 2) := by decide +kernel
theorem dX10_askOf_76 : decode cX10_askOf 76 = .ok (.iload 7, 2) := by decide +kernel
theorem dX10_askOf_78 : decode cX10_askOf 78 = .ok (.imul, 1) := by decide +kernel
theorem dX10_askOf_79 : decode cX10_askOf 79 = .ok (.iload 5, 2) := by decide +kernel
theorem dX10_askOf_81 : decode cX10_askOf 81 = .ok (.iadd, 1) := by decide +kernel
theorem dX10_askOf_82 : decode cX10_askOf 82 = .ok (.iaload, 1) := by decide +kernel
theorem dX10_askOf_83 : decode cX10_askOf 83 = .ok (.aload_n 0, 1) := by decide +kernel
theorem dX10_askOf_84 : decode cX10_askOf 84 = .ok (.getfield 76, 3) := by decide +kernel
theorem dX10_askOf_87 : decode cX10_askOf 87 = .ok (.bipush 20, 2) := by decide +kernel
theorem dX10_askOf_89 : decode cX10_askOf 89 = .ok (.iload 9, 2) := by decide +kernel
theorem dX10_askOf_91 : decode cX10_askOf 91 = .ok (.imul, 1) := by decide +kernel
theorem dX10_askOf_92 : decode cX10_askOf 92 = .ok (.iload 5, 2) := by decide +kernel
theorem dX10_askOf_94 : decode cX10_askOf 94 = .ok (.iadd, 1) := by decide +kernel
theorem dX10_askOf_95 : decode cX10_askOf 95 = .ok (.iaload, 1) := by decide +kernel
theorem dX10_askOf_96 : decode cX10_askOf 96 = .ok (.if_icmp .ne 7, 3) := by decide +kernel
theorem dX10_askOf_99 : decode cX10_askOf 99 = .ok (.iconst 1, 1) := by decide +kernel
theorem dX10_askOf_100 : decode cX10_askOf 100 = .ok (.goto 4, 3) := by decide +kernel
theorem dX10_askOf_103 : decode cX10_askOf 103 = .ok (.iconst 0, 1) := by decide +kernel
theorem dX10_askOf_104 : decode cX10_askOf 104 = .ok (.iadd, 1) := by decide +kernel
theorem dX10_askOf_105 : decode cX10_askOf 105 = .ok (.istore 8, 2) := by decide +kernel
theorem dX10_askOf_107 : decode cX10_askOf 107 = .ok (.iinc 9 1, 3) := by decide +kernel
theorem dX10_askOf_110 : decode cX10_askOf 110 = .ok (.goto (-67), 3) := by decide +kernel
theorem dX10_askOf_113 : decode cX10_askOf 113 = .ok (.iload 8, 2) := by decide +kernel
theorem dX10_askOf_115 : decode cX10_askOf 115 = .ok (.iload 6, 2) := by decide +kernel
theorem dX10_askOf_117 : decode cX10_askOf 117 = .ok (.if_icmp .le 8, 3) := by decide +kernel
theorem dX10_askOf_120 : decode cX10_askOf 120 = .ok (.iload 8, 2) := by decide +kernel
theorem dX10_askOf_122 : decode cX10_askOf 122 = .ok (.goto 5, 3) := by decide +kernel
theorem dX10_askOf_125 : decode cX10_askOf 125 = .ok (.iload 6, 2) := by decide +kernel
theorem dX10_askOf_127 : decode cX10_askOf 127 = .ok (.istore 6, 2) := by decide +kernel
theorem dX10_askOf_129 : decode cX10_askOf 129 = .ok (.iinc 7 1, 3) := by decide +kernel
theorem dX10_askOf_132 : decode cX10_askOf 132 = .ok (.goto (-102), 3) := by decide +kernel
theorem dX10_askOf_135 : decode cX10_askOf 135 = .ok (.iload_n 3, 1) := by decide +kernel
theorem dX10_askOf_136 : decode cX10_askOf 136 = .ok (.iconst (-1), 1) := by decide +kernel
theorem dX10_askOf_137 : decode cX10_askOf 137 = .ok (.if_icmp .eq 10, 3) := by decide +kernel
theorem dX10_askOf_140 : decode cX10_askOf 140 = .ok (.iload 6, 2) := by decide +kernel
theorem dX10_askOf_142 : decode cX10_askOf 142 = .ok (.iload 4, 2) := by decide +kernel
theorem dX10_askOf_144 : decode cX10_askOf 144 = .ok (.if_icmp .ge 7, 3) := by decide +kernel
theorem dX10_askOf_147 : decode cX10_askOf 147 = .ok (.iconst 1, 1) := by decide +kernel
theorem dX10_askOf_148 : decode cX10_askOf 148 = .ok (.goto 4, 3) := by decide +kernel
theorem dX10_askOf_151 : decode cX10_askOf 151 = .ok (.iconst 0, 1) := by decide +kernel
theorem dX10_askOf_152 : decode cX10_askOf 152 = .ok (.istore 7, 2) := by decide +kernel
theorem dX10_askOf_154 : decode cX10_askOf 154 = .ok (.iload 7, 2) := by decide +kernel
theorem dX10_askOf_156 : decode cX10_askOf 156 = .ok (.ifCond .eq 8, 3) := by decide +kernel
theorem dX10_askOf_159 : decode cX10_askOf 159 = .ok (.iload 5, 2) := by decide +kernel
theorem dX10_askOf_161 : decode cX10_askOf 161 = .ok (.goto 4, 3) := by decide +kernel
theorem dX10_askOf_164 : decode cX10_askOf 164 = .ok (.iload_n 3, 1) := by decide +kernel
theorem dX10_askOf_165 : decode cX10_askOf 165 = .ok (.istore_n 3, 1) := by decide +kernel
theorem dX10_askOf_166 : decode cX10_askOf 166 = .ok (.iload 7, 2) := by decide +kernel
theorem dX10_askOf_168 : decode cX10_askOf 168 = .ok (.ifCond .eq 8, 3) := by decide +kernel
theorem dX10_askOf_171 : decode cX10_askOf 171 = .ok (.iload 6, 2) := by decide +kernel
theorem dX10_askOf_173 : decode cX10_askOf 173 = .ok (.goto 5, 3) := by decide +kernel
theorem dX10_askOf_176 : decode cX10_askOf 176 = .ok (.iload 4, 2) := by decide +kernel
theorem dX10_askOf_178 : decode cX10_askOf 178 = .ok (.istore 4, 2) := by decide +kernel
theorem dX10_askOf_180 : decode cX10_askOf 180 = .ok (.iinc 5 1, 3) := by decide +kernel
theorem dX10_askOf_183 : decode cX10_askOf 183 = .ok (.goto (-168), 3) := by decide +kernel
theorem dX10_askOf_186 : decode cX10_askOf 186 = .ok (.iload_n 3, 1) := by decide +kernel
theorem dX10_askOf_187 : decode cX10_askOf 187 = .ok (.ireturn, 1) := by decide +kernel
theorem dX10_ask_0 : decode cX10_ask 0 = .ok (.aload_n 0, 1) := by decide +kernel
theorem dX10_ask_1 : decode cX10_ask 1 = .ok (.iload_n 1, 1) := by decide +kernel
theorem dX10_ask_2 : decode cX10_ask 2 = .ok (.invokevirtual 133, 3) := by decide +kernel
theorem dX10_ask_5 : decode cX10_ask 5 = .ok (.ifCond .eq 11, 3) := by decide +kernel
theorem dX10_ask_8 : decode cX10_ask 8 = .ok (.aload_n 0, 1) := by decide +kernel
theorem dX10_ask_9 : decode cX10_ask 9 = .ok (.iload_n 1, 1) := by decide +kernel
theorem dX10_ask_10 : decode cX10_ask 10 = .ok (.invokevirtual 286, 3) := by decide +kernel
theorem dX10_ask_13 : decode cX10_ask 13 = .ok (.goto 5, 3) := by decide +kernel
theorem dX10_ask_16 : decode cX10_ask 16 = .ok (.bipush (-2), 2) := by decide +kernel
theorem dX10_ask_18 : decode cX10_ask 18 = .ok (.ireturn, 1) := by decide +kernel
theorem dX10_swarmOf_0 : decode cX10_swarmOf 0 = .ok (.aload_n 0, 1) := by decide +kernel
theorem dX10_swarmOf_1 : decode cX10_swarmOf 1 = .ok (.invokevirtual 209, 3) := by decide +kernel
theorem dX10_swarmOf_4 : decode cX10_swarmOf 4 = .ok (.lconst 0, 1) := by decide +kernel
theorem dX10_swarmOf_5 : decode cX10_swarmOf 5 = .ok (.lstore 4, 2) := by decide +kernel
theorem dX10_swarmOf_7 : decode cX10_swarmOf 7 = .ok (.iconst 0, 1) := by decide +kernel
theorem dX10_swarmOf_8 : decode cX10_swarmOf 8 = .ok (.istore 6, 2) := by decide +kernel
theorem dX10_swarmOf_10 : decode cX10_swarmOf 10 = .ok (.iload 6, 2) := by decide +kernel
theorem dX10_swarmOf_12 : decode cX10_swarmOf 12 = .ok (.iconst 1, 1) := by decide +kernel
theorem dX10_swarmOf_13 : decode cX10_swarmOf 13 = .ok (.aload_n 0, 1) := by decide +kernel
theorem dX10_swarmOf_14 : decode cX10_swarmOf 14 = .ok (.getfield 145, 3) := by decide +kernel
theorem dX10_swarmOf_17 : decode cX10_swarmOf 17 = .ok (.ishl, 1) := by decide +kernel
theorem dX10_swarmOf_18 : decode cX10_swarmOf 18 = .ok (.if_icmp .ge 88, 3) := by decide +kernel
theorem dX10_swarmOf_21 : decode cX10_swarmOf 21 = .ok (.lconst 1, 1) := by decide +kernel
theorem dX10_swarmOf_22 : decode cX10_swarmOf 22 = .ok (.lstore 7, 2) := by decide +kernel
theorem dX10_swarmOf_24 : decode cX10_swarmOf 24 = .ok (.iconst 0, 1) := by decide +kernel
theorem dX10_swarmOf_25 : decode cX10_swarmOf 25 = .ok (.istore 9, 2) := by decide +kernel
theorem dX10_swarmOf_27 : decode cX10_swarmOf 27 = .ok (.iload 9, 2) := by decide +kernel
theorem dX10_swarmOf_29 : decode cX10_swarmOf 29 = .ok (.aload_n 0, 1) := by decide +kernel
theorem dX10_swarmOf_30 : decode cX10_swarmOf 30 = .ok (.getfield 145, 3) := by decide +kernel
theorem dX10_swarmOf_33 : decode cX10_swarmOf 33 = .ok (.if_icmp .ge 34, 3) := by decide +kernel
theorem dX10_swarmOf_36 : decode cX10_swarmOf 36 = .ok (.lload 7, 2) := by decide +kernel
theorem dX10_swarmOf_38 : decode cX10_swarmOf 38 = .ok (.iload 6, 2) := by decide +kernel
theorem dX10_swarmOf_40 : decode cX10_swarmOf 40 = .ok (.iload 9, 2) := by decide +kernel
theorem dX10_swarmOf_42 : decode cX10_swarmOf 42 = .ok (.invokestatic 157, 3) := by decide +kernel
theorem dX10_swarmOf_45 : decode cX10_swarmOf 45 = .ok (.ifCond .eq 11, 3) := by decide +kernel
theorem dX10_swarmOf_48 : decode cX10_swarmOf 48 = .ok (.bipush 16, 2) := by decide +kernel
theorem dX10_swarmOf_50 : decode cX10_swarmOf 50 = .ok (.iload_n 1, 1) := by decide +kernel
theorem dX10_swarmOf_51 : decode cX10_swarmOf 51 = .ok (.isub, 1) := by decide +kernel
theorem dX10_swarmOf_52 : decode cX10_swarmOf 52 = .ok (.i2l, 1) := by decide +kernel
theorem dX10_swarmOf_53 : decode cX10_swarmOf 53 = .ok (.goto 5, 3) := by decide +kernel
theorem dX10_swarmOf_56 : decode cX10_swarmOf 56 = .ok (.iload_n 1, 1) := by decide +kernel
theorem dX10_swarmOf_57 : decode cX10_swarmOf 57 = .ok (.i2l, 1) := by decide +kernel
theorem dX10_swarmOf_58 : decode cX10_swarmOf 58 = .ok (.lmul, 1) := by decide +kernel
theorem dX10_swarmOf_59 : decode cX10_swarmOf 59 = .ok (.lstore 7, 2) := by decide +kernel
theorem dX10_swarmOf_61 : decode cX10_swarmOf 61 = .ok (.iinc 9 1, 3) := by decide +kernel
theorem dX10_swarmOf_64 : decode cX10_swarmOf 64 = .ok (.goto (-37), 3) := by decide +kernel
theorem dX10_swarmOf_67 : decode cX10_swarmOf 67 = .ok (.aload_n 0, 1) := by decide +kernel
theorem dX10_swarmOf_68 : decode cX10_swarmOf 68 = .ok (.aload_n 0, 1) := by decide +kernel
theorem dX10_swarmOf_69 : decode cX10_swarmOf 69 = .ok (.iload 6, 2) := by decide +kernel
theorem dX10_swarmOf_71 : decode cX10_swarmOf 71 = .ok (.invokevirtual 164, 3) := by decide +kernel
theorem dX10_swarmOf_74 : decode cX10_swarmOf 74 = .ok (.putfield 167, 3) := by decide +kernel
theorem dX10_swarmOf_77 : decode cX10_swarmOf 77 = .ok (.aload_n 0, 1) := by decide +kernel
theorem dX10_swarmOf_78 : decode cX10_swarmOf 78 = .ok (.invokevirtual 212, 3) := by decide +kernel
theorem dX10_swarmOf_81 : decode cX10_swarmOf 81 = .ok (.lload 4, 2) := by decide +kernel
theorem dX10_swarmOf_83 : decode cX10_swarmOf 83 = .ok (.aload_n 0, 1) := by decide +kernel
theorem dX10_swarmOf_84 : decode cX10_swarmOf 84 = .ok (.invokevirtual 237, 3) := by decide +kernel
theorem dX10_swarmOf_87 : decode cX10_swarmOf 87 = .ok (.iload_n 2, 1) := by decide +kernel
theorem dX10_swarmOf_88 : decode cX10_swarmOf 88 = .ok (.if_icmp .ne 8, 3) := by decide +kernel
theorem dX10_swarmOf_91 : decode cX10_swarmOf 91 = .ok (.lload 7, 2) := by decide +kernel
theorem dX10_swarmOf_93 : decode cX10_swarmOf 93 = .ok (.goto 4, 3) := by decide +kernel
theorem dX10_swarmOf_96 : decode cX10_swarmOf 96 = .ok (.lconst 0, 1) := by decide +kernel
theorem dX10_swarmOf_97 : decode cX10_swarmOf 97 = .ok (.ladd, 1) := by decide +kernel
theorem dX10_swarmOf_98 : decode cX10_swarmOf 98 = .ok (.lstore 4, 2) := by decide +kernel
theorem dX10_swarmOf_100 : decode cX10_swarmOf 100 = .ok (.iinc 6 1, 3) := by decide +kernel
theorem dX10_swarmOf_103 : decode cX10_swarmOf 103 = .ok (.goto (-93), 3) := by decide +kernel
theorem dX10_swarmOf_106 : decode cX10_swarmOf 106 = .ok (.lload 4, 2) := by decide +kernel
theorem dX10_swarmOf_108 : decode cX10_swarmOf 108 = .ok (.lconst 1, 1) := by decide +kernel
theorem dX10_swarmOf_109 : decode cX10_swarmOf 109 = .ok (.iconst 4, 1) := by decide +kernel
theorem dX10_swarmOf_110 : decode cX10_swarmOf 110 = .ok (.aload_n 0, 1) := by decide +kernel
theorem dX10_swarmOf_111 : decode cX10_swarmOf 111 = .ok (.getfield 145, 3) := by decide +kernel
theorem dX10_swarmOf_114 : decode cX10_swarmOf 114 = .ok (.imul, 1) := by decide +kernel
theorem dX10_swarmOf_115 : decode cX10_swarmOf 115 = .ok (.lshl, 1) := by decide +kernel
theorem dX10_swarmOf_116 : decode cX10_swarmOf 116 = .ok (.iload_n 3, 1) := by decide +kernel
theorem dX10_swarmOf_117 : decode cX10_swarmOf 117 = .ok (.invokestatic 289, 3) := by decide +kernel
theorem dX10_swarmOf_120 : decode cX10_swarmOf 120 = .ok (.lreturn, 1) := by decide +kernel
theorem dX10_swarm_0 : decode cX10_swarm 0 = .ok (.iload_n 1, 1) := by decide +kernel
theorem dX10_swarm_1 : decode cX10_swarm 1 = .ok (.iconst 0, 1) := by decide +kernel
theorem dX10_swarm_2 : decode cX10_swarm 2 = .ok (.bipush 16, 2) := by decide +kernel
theorem dX10_swarm_4 : decode cX10_swarm 4 = .ok (.invokestatic 97, 3) := by decide +kernel
theorem dX10_swarm_7 : decode cX10_swarm 7 = .ok (.ifCond .eq 30, 3) := by decide +kernel
theorem dX10_swarm_10 : decode cX10_swarm 10 = .ok (.aload_n 0, 1) := by decide +kernel
theorem dX10_swarm_11 : decode cX10_swarm 11 = .ok (.iload_n 2, 1) := by decide +kernel
theorem dX10_swarm_12 : decode cX10_swarm 12 = .ok (.invokevirtual 133, 3) := by decide +kernel
theorem dX10_swarm_15 : decode cX10_swarm 15 = .ok (.ifCond .eq 22, 3) := by decide +kernel
theorem dX10_swarm_18 : decode cX10_swarm 18 = .ok (.iload_n 3, 1) := by decide +kernel
theorem dX10_swarm_19 : decode cX10_swarm 19 = .ok (.iconst 0, 1) := by decide +kernel
theorem dX10_swarm_20 : decode cX10_swarm 20 = .ok (.iconst 1, 1) := by decide +kernel
theorem dX10_swarm_21 : decode cX10_swarm 21 = .ok (.invokestatic 97, 3) := by decide +kernel
theorem dX10_swarm_24 : decode cX10_swarm 24 = .ok (.ifCond .eq 13, 3) := by decide +kernel
theorem dX10_swarm_27 : decode cX10_swarm 27 = .ok (.aload_n 0, 1) := by decide +kernel
theorem dX10_swarm_28 : decode cX10_swarm 28 = .ok (.iload_n 1, 1) := by decide +kernel
theorem dX10_swarm_29 : decode cX10_swarm 29 = .ok (.iload_n 2, 1) := by decide +kernel
theorem dX10_swarm_30 : decode cX10_swarm 30 = .ok (.iload_n 3, 1) := by decide +kernel
theorem dX10_swarm_31 : decode cX10_swarm 31 = .ok (.invokevirtual 293, 3) := by decide +kernel
theorem dX10_swarm_34 : decode cX10_swarm 34 = .ok (.goto 8, 3) := by decide +kernel
theorem dX10_swarm_37 : decode cX10_swarm 37 = .ok (.bipush (-2), 2) := by decide +kernel
theorem dX10_swarm_39 : decode cX10_swarm 39 = .ok (.invokestatic 297, 3) := by decide +kernel
theorem dX10_swarm_42 : decode cX10_swarm 42 = .ok (.lreturn, 1) := by decide +kernel
theorem dX10_againOf_0 : decode cX10_againOf 0 = .ok (.aload_n 0, 1) := by decide +kernel
theorem dX10_againOf_1 : decode cX10_againOf 1 = .ok (.invokevirtual 209, 3) := by decide +kernel
theorem dX10_againOf_4 : decode cX10_againOf 4 = .ok (.iload_n 1, 1) := by decide +kernel
theorem dX10_againOf_5 : decode cX10_againOf 5 = .ok (.istore 4, 2) := by decide +kernel
theorem dX10_againOf_7 : decode cX10_againOf 7 = .ok (.aload_n 0, 1) := by decide +kernel
theorem dX10_againOf_8 : decode cX10_againOf 8 = .ok (.aload_n 0, 1) := by decide +kernel
theorem dX10_againOf_9 : decode cX10_againOf 9 = .ok (.getfield 109, 3) := by decide +kernel
theorem dX10_againOf_12 : decode cX10_againOf 12 = .ok (.ifCond .ne 7, 3) := by decide +kernel
theorem dX10_againOf_15 : decode cX10_againOf 15 = .ok (.iconst 0, 1) := by decide +kernel
theorem dX10_againOf_16 : decode cX10_againOf 16 = .ok (.goto 4, 3) := by decide +kernel
theorem dX10_againOf_19 : decode cX10_againOf 19 = .ok (.iload_n 2, 1) := by decide +kernel
theorem dX10_againOf_20 : decode cX10_againOf 20 = .ok (.putfield 161, 3) := by decide +kernel
theorem dX10_againOf_23 : decode cX10_againOf 23 = .ok (.iconst 0, 1) := by decide +kernel
theorem dX10_againOf_24 : decode cX10_againOf 24 = .ok (.istore 5, 2) := by decide +kernel
theorem dX10_againOf_26 : decode cX10_againOf 26 = .ok (.iload 5, 2) := by decide +kernel
theorem dX10_againOf_28 : decode cX10_againOf 28 = .ok (.aload_n 0, 1) := by decide +kernel
theorem dX10_againOf_29 : decode cX10_againOf 29 = .ok (.getfield 161, 3) := by decide +kernel
theorem dX10_againOf_32 : decode cX10_againOf 32 = .ok (.if_icmp .ge 38, 3) := by decide +kernel
theorem dX10_againOf_35 : decode cX10_againOf 35 = .ok (.ldc_w 301, 3) := by decide +kernel
theorem dX10_againOf_38 : decode cX10_againOf 38 = .ok (.iload 4, 2) := by decide +kernel
theorem dX10_againOf_40 : decode cX10_againOf 40 = .ok (.imul, 1) := by decide +kernel
theorem dX10_againOf_41 : decode cX10_againOf 41 = .ok (.sipush 12345, 3) := by decide +kernel
theorem dX10_againOf_44 : decode cX10_againOf 44 = .ok (.iadd, 1) := by decide +kernel
theorem dX10_againOf_45 : decode cX10_againOf 45 = .ok (.istore 4, 2) := by decide +kernel
theorem dX10_againOf_47 : decode cX10_againOf 47 = .ok (.aload_n 0, 1) := by decide +kernel
theorem dX10_againOf_48 : decode cX10_againOf 48 = .ok (.getfield 34, 3) := by decide +kernel
theorem dX10_againOf_51 : decode cX10_againOf 51 = .ok (.iload 5, 2) := by decide +kernel
theorem dX10_againOf_53 : decode cX10_againOf 53 = .ok (.iload 4, 2) := by decide +kernel
theorem dX10_againOf_55 : decode cX10_againOf 55 = .ok (.bipush 16, 2) := by decide +kernel
theorem dX10_againOf_57 : decode cX10_againOf 57 = .ok (.iushr, 1) := by decide +kernel
theorem dX10_againOf_58 : decode cX10_againOf 58 = .ok (.aload_n 0, 1) := by decide +kernel
theorem dX10_againOf_59 : decode cX10_againOf 59 = .ok (.getfield 109, 3) := by decide +kernel
theorem dX10_againOf_62 : decode cX10_againOf 62 = .ok (.irem, 1) := by decide +kernel
theorem dX10_againOf_63 : decode cX10_againOf 63 = .ok (.iastore, 1) := by decide +kernel
theorem dX10_againOf_64 : decode cX10_againOf 64 = .ok (.iinc 5 1, 3) := by decide +kernel
theorem dX10_againOf_67 : decode cX10_againOf 67 = .ok (.goto (-41), 3) := by decide +kernel
theorem dX10_againOf_70 : decode cX10_againOf 70 = .ok (.aload_n 0, 1) := by decide +kernel
theorem dX10_againOf_71 : decode cX10_againOf 71 = .ok (.invokevirtual 212, 3) := by decide +kernel
theorem dX10_againOf_74 : decode cX10_againOf 74 = .ok (.iload_n 3, 1) := by decide +kernel
theorem dX10_againOf_75 : decode cX10_againOf 75 = .ok (.ifCond .ne 10, 3) := by decide +kernel
theorem dX10_againOf_78 : decode cX10_againOf 78 = .ok (.aload_n 0, 1) := by decide +kernel
theorem dX10_againOf_79 : decode cX10_againOf 79 = .ok (.invokevirtual 231, 3) := by decide +kernel
theorem dX10_againOf_82 : decode cX10_againOf 82 = .ok (.goto 7, 3) := by decide +kernel
theorem dX10_againOf_85 : decode cX10_againOf 85 = .ok (.aload_n 0, 1) := by decide +kernel
theorem dX10_againOf_86 : decode cX10_againOf 86 = .ok (.getfield 188, 3) := by decide +kernel
theorem dX10_againOf_89 : decode cX10_againOf 89 = .ok (.ireturn, 1) := by decide +kernel
theorem dX10_again_0 : decode cX10_again 0 = .ok (.iload_n 2, 1) := by decide +kernel
theorem dX10_again_1 : decode cX10_again 1 = .ok (.iconst 1, 1) := by decide +kernel
theorem dX10_again_2 : decode cX10_again 2 = .ok (.bipush 20, 2) := by decide +kernel
theorem dX10_again_4 : decode cX10_again 4 = .ok (.invokestatic 97, 3) := by decide +kernel
theorem dX10_again_7 : decode cX10_again 7 = .ok (.ifCond .eq 22, 3) := by decide +kernel
theorem dX10_again_10 : decode cX10_again 10 = .ok (.iload_n 3, 1) := by decide +kernel
theorem dX10_again_11 : decode cX10_again 11 = .ok (.iconst 0, 1) := by decide +kernel
theorem dX10_again_12 : decode cX10_again 12 = .ok (.iconst 1, 1) := by decide +kernel
theorem dX10_again_13 : decode cX10_again 13 = .ok (.invokestatic 97, 3) := by decide +kernel
theorem dX10_again_16 : decode cX10_again 16 = .ok (.ifCond .eq 13, 3) := by decide +kernel
theorem dX10_again_19 : decode cX10_again 19 = .ok (.aload_n 0, 1) := by decide +kernel
theorem dX10_again_20 : decode cX10_again 20 = .ok (.iload_n 1, 1) := by decide +kernel
theorem dX10_again_21 : decode cX10_again 21 = .ok (.iload_n 2, 1) := by decide +kernel
theorem dX10_again_22 : decode cX10_again 22 = .ok (.iload_n 3, 1) := by decide +kernel
theorem dX10_again_23 : decode cX10_again 23 = .ok (.invokevirtual 302, 3) := by decide +kernel
theorem dX10_again_26 : decode cX10_again 26 = .ok (.goto 5, 3) := by decide +kernel
theorem dX10_again_29 : decode cX10_again 29 = .ok (.bipush (-2), 2) := by decide +kernel
theorem dX10_again_31 : decode cX10_again 31 = .ok (.ireturn, 1) := by decide +kernel
theorem dX10_meets_0 : decode cX10_meets 0 = .ok (.aload_n 0, 1) := by decide +kernel
theorem dX10_meets_1 : decode cX10_meets 1 = .ok (.iload_n 1, 1) := by decide +kernel
theorem dX10_meets_2 : decode cX10_meets 2 = .ok (.putfield 305, 3) := by decide +kernel
theorem dX10_meets_5 : decode cX10_meets 5 = .ok (.bipush (-10), 2) := by decide +kernel
theorem dX10_meets_7 : decode cX10_meets 7 = .ok (.iload_n 1, 1) := by decide +kernel
theorem dX10_meets_8 : decode cX10_meets 8 = .ok (.isub, 1) := by decide +kernel
theorem dX10_meets_9 : decode cX10_meets 9 = .ok (.ireturn, 1) := by decide +kernel
theorem dX10_isSheet_0 : decode cX10_isSheet 0 = .ok (.iload_n 0, 1) := by decide +kernel
theorem dX10_isSheet_1 : decode cX10_isSheet 1 = .ok (.iconst 0, 1) := by decide +kernel
theorem dX10_isSheet_2 : decode cX10_isSheet 2 = .ok (.iconst 3, 1) := by decide +kernel
theorem dX10_isSheet_3 : decode cX10_isSheet 3 = .ok (.invokestatic 97, 3) := by decide +kernel
theorem dX10_isSheet_6 : decode cX10_isSheet 6 = .ok (.ireturn, 1) := by decide +kernel
theorem dX10_sheet_0 : decode cX10_sheet 0 = .ok (.iload_n 1, 1) := by decide +kernel
theorem dX10_sheet_1 : decode cX10_sheet 1 = .ok (.invokestatic 148, 3) := by decide +kernel
theorem dX10_sheet_4 : decode cX10_sheet 4 = .ok (.ifCond .eq 18, 3) := by decide +kernel
theorem dX10_sheet_7 : decode cX10_sheet 7 = .ok (.iload_n 2, 1) := by decide +kernel
theorem dX10_sheet_8 : decode cX10_sheet 8 = .ok (.iconst 0, 1) := by decide +kernel
theorem dX10_sheet_9 : decode cX10_sheet 9 = .ok (.iconst 2, 1) := by decide +kernel
theorem dX10_sheet_10 : decode cX10_sheet 10 = .ok (.invokestatic 97, 3) := by decide +kernel
theorem dX10_sheet_13 : decode cX10_sheet 13 = .ok (.ifCond .eq 9, 3) := by decide +kernel
theorem dX10_sheet_16 : decode cX10_sheet 16 = .ok (.iload_n 3, 1) := by decide +kernel
theorem dX10_sheet_17 : decode cX10_sheet 17 = .ok (.bipush 60, 2) := by decide +kernel
theorem dX10_sheet_19 : decode cX10_sheet 19 = .ok (.if_icmp .le 6, 3) := by decide +kernel
theorem dX10_sheet_22 : decode cX10_sheet 22 = .ok (.bipush (-2), 2) := by decide +kernel
theorem dX10_sheet_24 : decode cX10_sheet 24 = .ok (.ireturn, 1) := by decide +kernel
theorem dX10_sheet_25 : decode cX10_sheet 25 = .ok (.iload_n 3, 1) := by decide +kernel
theorem dX10_sheet_26 : decode cX10_sheet 26 = .ok (.ifCond .ge 9, 3) := by decide +kernel
theorem dX10_sheet_29 : decode cX10_sheet 29 = .ok (.aload_n 0, 1) := by decide +kernel
theorem dX10_sheet_30 : decode cX10_sheet 30 = .ok (.iconst 5, 1) := by decide +kernel
theorem dX10_sheet_31 : decode cX10_sheet 31 = .ok (.invokevirtual 151, 3) := by decide +kernel
theorem dX10_sheet_34 : decode cX10_sheet 34 = .ok (.ireturn, 1) := by decide +kernel
theorem dX10_sheet_35 : decode cX10_sheet 35 = .ok (.aload_n 0, 1) := by decide +kernel
theorem dX10_sheet_36 : decode cX10_sheet 36 = .ok (.getfield 79, 3) := by decide +kernel
theorem dX10_sheet_39 : decode cX10_sheet 39 = .ok (.iload_n 1, 1) := by decide +kernel
theorem dX10_sheet_40 : decode cX10_sheet 40 = .ok (.iconst 1, 1) := by decide +kernel
theorem dX10_sheet_41 : decode cX10_sheet 41 = .ok (.bastore, 1) := by decide +kernel
theorem dX10_sheet_42 : decode cX10_sheet 42 = .ok (.aload_n 0, 1) := by decide +kernel
theorem dX10_sheet_43 : decode cX10_sheet 43 = .ok (.getfield 83, 3) := by decide +kernel
theorem dX10_sheet_46 : decode cX10_sheet 46 = .ok (.iload_n 1, 1) := by decide +kernel
theorem dX10_sheet_47 : decode cX10_sheet 47 = .ok (.iload_n 2, 1) := by decide +kernel
theorem dX10_sheet_48 : decode cX10_sheet 48 = .ok (.iastore, 1) := by decide +kernel
theorem dX10_sheet_49 : decode cX10_sheet 49 = .ok (.aload_n 0, 1) := by decide +kernel
theorem dX10_sheet_50 : decode cX10_sheet 50 = .ok (.getfield 86, 3) := by decide +kernel
theorem dX10_sheet_53 : decode cX10_sheet 53 = .ok (.iload_n 1, 1) := by decide +kernel
theorem dX10_sheet_54 : decode cX10_sheet 54 = .ok (.iload_n 3, 1) := by decide +kernel
theorem dX10_sheet_55 : decode cX10_sheet 55 = .ok (.iastore, 1) := by decide +kernel
theorem dX10_sheet_56 : decode cX10_sheet 56 = .ok (.iconst 0, 1) := by decide +kernel
theorem dX10_sheet_57 : decode cX10_sheet 57 = .ok (.istore 4, 2) := by decide +kernel
theorem dX10_sheet_59 : decode cX10_sheet 59 = .ok (.iload 4, 2) := by decide +kernel
theorem dX10_sheet_61 : decode cX10_sheet 61 = .ok (.bipush 60, 2) := by decide +kernel
theorem dX10_sheet_63 : decode cX10_sheet 63 = .ok (.if_icmp .ge 22, 3) := by decide +kernel
theorem dX10_sheet_66 : decode cX10_sheet 66 = .ok (.aload_n 0, 1) := by decide +kernel
theorem dX10_sheet_67 : decode cX10_sheet 67 = .ok (.getfield 89, 3) := by decide +kernel
theorem dX10_sheet_70 : decode cX10_sheet 70 = .ok (.bipush 60, 2) := by decide +kernel
theorem dX10_sheet_72 : decode cX10_sheet 72 = .ok (.iload_n 1, 1) := by decide +kernel
theorem dX10_sheet_73 : decode cX10_sheet 73 = .ok (.imul, 1) := by decide +kernel
theorem dX10_sheet_74 : decode cX10_sheet 74 = .ok (.iload 4, 2) := by decide +kernel
theorem dX10_sheet_76 : decode cX10_sheet 76 = .ok (.iadd, 1) := by decide +kernel
theorem dX10_sheet_77 : decode cX10_sheet 77 = .ok (.iconst 0, 1) := by decide +kernel
theorem dX10_sheet_78 : decode cX10_sheet 78 = .ok (.iastore, 1) := by decide +kernel
theorem dX10_sheet_79 : decode cX10_sheet 79 = .ok (.iinc 4 1, 3) := by decide +kernel
theorem dX10_sheet_82 : decode cX10_sheet 82 = .ok (.goto (-23), 3) := by decide +kernel
theorem dX10_sheet_85 : decode cX10_sheet 85 = .ok (.iload_n 3, 1) := by decide +kernel
theorem dX10_sheet_86 : decode cX10_sheet 86 = .ok (.ireturn, 1) := by decide +kernel
theorem dX10_lose_0 : decode cX10_lose 0 = .ok (.iload_n 1, 1) := by decide +kernel
theorem dX10_lose_1 : decode cX10_lose 1 = .ok (.invokestatic 148, 3) := by decide +kernel
theorem dX10_lose_4 : decode cX10_lose 4 = .ok (.ifCond .ne 6, 3) := by decide +kernel
theorem dX10_lose_7 : decode cX10_lose 7 = .ok (.bipush (-2), 2) := by decide +kernel
theorem dX10_lose_9 : decode cX10_lose 9 = .ok (.ireturn, 1) := by decide +kernel
theorem dX10_lose_10 : decode cX10_lose 10 = .ok (.aload_n 0, 1) := by decide +kernel
theorem dX10_lose_11 : decode cX10_lose 11 = .ok (.getfield 79, 3) := by decide +kernel
theorem dX10_lose_14 : decode cX10_lose 14 = .ok (.iload_n 1, 1) := by decide +kernel
theorem dX10_lose_15 : decode cX10_lose 15 = .ok (.baload, 1) := by decide +kernel
theorem dX10_lose_16 : decode cX10_lose 16 = .ok (.ifCond .ne 9, 3) := by decide +kernel
theorem dX10_lose_19 : decode cX10_lose 19 = .ok (.aload_n 0, 1) := by decide +kernel
theorem dX10_lose_20 : decode cX10_lose 20 = .ok (.iconst 1, 1) := by decide +kernel
theorem dX10_lose_21 : decode cX10_lose 21 = .ok (.invokevirtual 151, 3) := by decide +kernel
theorem dX10_lose_24 : decode cX10_lose 24 = .ok (.ireturn, 1) := by decide +kernel
theorem dX10_lose_25 : decode cX10_lose 25 = .ok (.aload_n 0, 1) := by decide +kernel
theorem dX10_lose_26 : decode cX10_lose 26 = .ok (.getfield 79, 3) := by decide +kernel
theorem dX10_lose_29 : decode cX10_lose 29 = .ok (.iload_n 1, 1) := by decide +kernel
theorem dX10_lose_30 : decode cX10_lose 30 = .ok (.iconst 0, 1) := by decide +kernel
theorem dX10_lose_31 : decode cX10_lose 31 = .ok (.bastore, 1) := by decide +kernel
theorem dX10_lose_32 : decode cX10_lose 32 = .ok (.aload_n 0, 1) := by decide +kernel
theorem dX10_lose_33 : decode cX10_lose 33 = .ok (.getfield 86, 3) := by decide +kernel
theorem dX10_lose_36 : decode cX10_lose 36 = .ok (.iload_n 1, 1) := by decide +kernel
theorem dX10_lose_37 : decode cX10_lose 37 = .ok (.iaload, 1) := by decide +kernel
theorem dX10_lose_38 : decode cX10_lose 38 = .ok (.ireturn, 1) := by decide +kernel
theorem dX10_lacks_0 : decode cX10_lacks 0 = .ok (.aload_n 0, 1) := by decide +kernel
theorem dX10_lacks_1 : decode cX10_lacks 1 = .ok (.getfield 79, 3) := by decide +kernel
theorem dX10_lacks_4 : decode cX10_lacks 4 = .ok (.iload_n 1, 1) := by decide +kernel
theorem dX10_lacks_5 : decode cX10_lacks 5 = .ok (.baload, 1) := by decide +kernel
theorem dX10_lacks_6 : decode cX10_lacks 6 = .ok (.ifCond .ne 7, 3) := by decide +kernel
theorem dX10_lacks_9 : decode cX10_lacks 9 = .ok (.iconst 1, 1) := by decide +kernel
theorem dX10_lacks_10 : decode cX10_lacks 10 = .ok (.goto 38, 3) := by decide +kernel
theorem dX10_lacks_13 : decode cX10_lacks 13 = .ok (.aload_n 0, 1) := by decide +kernel
theorem dX10_lacks_14 : decode cX10_lacks 14 = .ok (.getfield 83, 3) := by decide +kernel
theorem dX10_lacks_17 : decode cX10_lacks 17 = .ok (.iload_n 1, 1) := by decide +kernel
theorem dX10_lacks_18 : decode cX10_lacks 18 = .ok (.iaload, 1) := by decide +kernel
theorem dX10_lacks_19 : decode cX10_lacks 19 = .ok (.iload_n 2, 1) := by decide +kernel
theorem dX10_lacks_20 : decode cX10_lacks 20 = .ok (.if_icmp .eq 7, 3) := by decide +kernel
theorem dX10_lacks_23 : decode cX10_lacks 23 = .ok (.iconst 3, 1) := by decide +kernel
theorem dX10_lacks_24 : decode cX10_lacks 24 = .ok (.goto 24, 3) := by decide +kernel
theorem dX10_lacks_27 : decode cX10_lacks 27 = .ok (.iload_n 3, 1) := by decide +kernel
theorem dX10_lacks_28 : decode cX10_lacks 28 = .ok (.iconst 0, 1) := by decide +kernel
theorem dX10_lacks_29 : decode cX10_lacks 29 = .ok (.aload_n 0, 1) := by decide +kernel
theorem dX10_lacks_30 : decode cX10_lacks 30 = .ok (.getfield 86, 3) := by decide +kernel
theorem dX10_lacks_33 : decode cX10_lacks 33 = .ok (.iload_n 1, 1) := by decide +kernel
theorem dX10_lacks_34 : decode cX10_lacks 34 = .ok (.iaload, 1) := by decide +kernel
theorem dX10_lacks_35 : decode cX10_lacks 35 = .ok (.iconst 1, 1) := by decide +kernel
theorem dX10_lacks_36 : decode cX10_lacks 36 = .ok (.isub, 1) := by decide +kernel
theorem dX10_lacks_37 : decode cX10_lacks 37 = .ok (.invokestatic 97, 3) := by decide +kernel
theorem dX10_lacks_40 : decode cX10_lacks 40 = .ok (.ifCond .eq 7, 3) := by decide +kernel
theorem dX10_lacks_43 : decode cX10_lacks 43 = .ok (.iconst 0, 1) := by decide +kernel
theorem dX10_lacks_44 : decode cX10_lacks 44 = .ok (.goto 4, 3) := by decide +kernel
theorem dX10_lacks_47 : decode cX10_lacks 47 = .ok (.iconst 2, 1) := by decide +kernel
theorem dX10_lacks_48 : decode cX10_lacks 48 = .ok (.ireturn, 1) := by decide +kernel
theorem dX10_keep_0 : decode cX10_keep 0 = .ok (.aload_n 0, 1) := by decide +kernel
theorem dX10_keep_1 : decode cX10_keep 1 = .ok (.getfield 89, 3) := by decide +kernel
theorem dX10_keep_4 : decode cX10_keep 4 = .ok (.bipush 60, 2) := by decide +kernel
theorem dX10_keep_6 : decode cX10_keep 6 = .ok (.iload_n 1, 1) := by decide +kernel
theorem dX10_keep_7 : decode cX10_keep 7 = .ok (.imul, 1) := by decide +kernel
theorem dX10_keep_8 : decode cX10_keep 8 = .ok (.iload_n 2, 1) := by decide +kernel
theorem dX10_keep_9 : decode cX10_keep 9 = .ok (.iadd, 1) := by decide +kernel
theorem dX10_keep_10 : decode cX10_keep 10 = .ok (.aload_n 0, 1) := by decide +kernel
theorem dX10_keep_11 : decode cX10_keep 11 = .ok (.getfield 83, 3) := by decide +kernel
theorem dX10_keep_14 : decode cX10_keep 14 = .ok (.iload_n 1, 1) := by decide +kernel
theorem dX10_keep_15 : decode cX10_keep 15 = .ok (.iaload, 1) := by decide +kernel
theorem dX10_keep_16 : decode cX10_keep 16 = .ok (.ifCond .ne 8, 3) := by decide +kernel
theorem dX10_keep_19 : decode cX10_keep 19 = .ok (.iload_n 3, 1) := by decide +kernel
theorem dX10_keep_20 : decode cX10_keep 20 = .ok (.i2b, 1) := by decide +kernel
theorem dX10_keep_21 : decode cX10_keep 21 = .ok (.goto 19, 3) := by decide +kernel
theorem dX10_keep_24 : decode cX10_keep 24 = .ok (.aload_n 0, 1) := by decide +kernel
theorem dX10_keep_25 : decode cX10_keep 25 = .ok (.getfield 83, 3) := by decide +kernel
theorem dX10_keep_28 : decode cX10_keep 28 = .ok (.iload_n 1, 1) := by decide +kernel
theorem dX10_keep_29 : decode cX10_keep 29 = .ok (.iaload, 1) := by decide +kernel
theorem dX10_keep_30 : decode cX10_keep 30 = .ok (.iconst 1, 1) := by decide +kernel
theorem dX10_keep_31 : decode cX10_keep 31 = .ok (.if_icmp .ne 8, 3) := by decide +kernel
theorem dX10_keep_34 : decode cX10_keep 34 = .ok (.iload_n 3, 1) := by decide +kernel
theorem dX10_keep_35 : decode cX10_keep 35 = .ok (.i2s, 1) := by decide +kernel
theorem dX10_keep_36 : decode cX10_keep 36 = .ok (.goto 4, 3) := by decide +kernel
theorem dX10_keep_39 : decode cX10_keep 39 = .ok (.iload_n 3, 1) := by decide +kernel
theorem dX10_keep_40 : decode cX10_keep 40 = .ok (.iastore, 1) := by decide +kernel
theorem dX10_keep_41 : decode cX10_keep 41 = .ok (.return_, 1) := by decide +kernel
theorem dX10_put_0 : decode cX10_put 0 = .ok (.iload_n 1, 1) := by decide +kernel
theorem dX10_put_1 : decode cX10_put 1 = .ok (.invokestatic 148, 3) := by decide +kernel
theorem dX10_put_4 : decode cX10_put 4 = .ok (.ifCond .eq 12, 3) := by decide +kernel
theorem dX10_put_7 : decode cX10_put 7 = .ok (.iload_n 2, 1) := by decide +kernel
theorem dX10_put_8 : decode cX10_put 8 = .ok (.iconst 0, 1) := by decide +kernel
theorem dX10_put_9 : decode cX10_put 9 = .ok (.iconst 2, 1) := by decide +kernel
theorem dX10_put_10 : decode cX10_put 10 = .ok (.invokestatic 97, 3) := by decide +kernel
theorem dX10_put_13 : decode cX10_put 13 = .ok (.ifCond .ne 6, 3) := by decide +kernel
theorem dX10_put_16 : decode cX10_put 16 = .ok (.bipush (-2), 2) := by decide +kernel
theorem dX10_put_18 : decode cX10_put 18 = .ok (.ireturn, 1) := by decide +kernel
theorem dX10_put_19 : decode cX10_put 19 = .ok (.aload_n 0, 1) := by decide +kernel
theorem dX10_put_20 : decode cX10_put 20 = .ok (.iload_n 1, 1) := by decide +kernel
theorem dX10_put_21 : decode cX10_put 21 = .ok (.iload_n 2, 1) := by decide +kernel
theorem dX10_put_22 : decode cX10_put 22 = .ok (.iload_n 3, 1) := by decide +kernel
theorem dX10_put_23 : decode cX10_put 23 = .ok (.invokevirtual 308, 3) := by decide +kernel
theorem dX10_put_26 : decode cX10_put 26 = .ok (.istore 5, 2) := by decide +kernel
theorem dX10_put_28 : decode cX10_put 28 = .ok (.iload 5, 2) := by decide +kernel
theorem dX10_put_30 : decode cX10_put 30 = .ok (.ifCond .le 10, 3) := by decide +kernel
theorem dX10_put_33 : decode cX10_put 33 = .ok (.aload_n 0, 1) := by decide +kernel
theorem dX10_put_34 : decode cX10_put 34 = .ok (.iload 5, 2) := by decide +kernel
theorem dX10_put_36 : decode cX10_put 36 = .ok (.invokevirtual 151, 3) := by decide +kernel
theorem dX10_put_39 : decode cX10_put 39 = .ok (.ireturn, 1) := by decide +kernel
theorem dX10_put_40 : decode cX10_put 40 = .ok (.aload_n 0, 1) := by decide +kernel
theorem dX10_put_41 : decode cX10_put 41 = .ok (.iload_n 1, 1) := by decide +kernel
theorem dX10_put_42 : decode cX10_put 42 = .ok (.iload_n 3, 1) := by decide +kernel
theorem dX10_put_43 : decode cX10_put 43 = .ok (.iload 4, 2) := by decide +kernel
theorem dX10_put_45 : decode cX10_put 45 = .ok (.invokevirtual 311, 3) := by decide +kernel
theorem dX10_put_48 : decode cX10_put 48 = .ok (.iconst 1, 1) := by decide +kernel
theorem dX10_put_49 : decode cX10_put 49 = .ok (.ireturn, 1) := by decide +kernel
theorem dX10_get_0 : decode cX10_get 0 = .ok (.iload_n 1, 1) := by decide +kernel
theorem dX10_get_1 : decode cX10_get 1 = .ok (.invokestatic 148, 3) := by decide +kernel
theorem dX10_get_4 : decode cX10_get 4 = .ok (.ifCond .eq 12, 3) := by decide +kernel
theorem dX10_get_7 : decode cX10_get 7 = .ok (.iload_n 2, 1) := by decide +kernel
theorem dX10_get_8 : decode cX10_get 8 = .ok (.iconst 0, 1) := by decide +kernel
theorem dX10_get_9 : decode cX10_get 9 = .ok (.iconst 2, 1) := by decide +kernel
theorem dX10_get_10 : decode cX10_get 10 = .ok (.invokestatic 97, 3) := by decide +kernel
theorem dX10_get_13 : decode cX10_get 13 = .ok (.ifCond .ne 7, 3) := by decide +kernel
theorem dX10_get_16 : decode cX10_get 16 = .ok (.ldc_w 315, 3) := by decide +kernel
theorem dX10_get_19 : decode cX10_get 19 = .ok (.ireturn, 1) := by decide +kernel
theorem dX10_get_20 : decode cX10_get 20 = .ok (.aload_n 0, 1) := by decide +kernel
theorem dX10_get_21 : decode cX10_get 21 = .ok (.iload_n 1, 1) := by decide +kernel
theorem dX10_get_22 : decode cX10_get 22 = .ok (.iload_n 2, 1) := by decide +kernel
theorem dX10_get_23 : decode cX10_get 23 = .ok (.iload_n 3, 1) := by decide +kernel
theorem dX10_get_24 : decode cX10_get 24 = .ok (.invokevirtual 308, 3) := by decide +kernel
theorem dX10_get_27 : decode cX10_get 27 = .ok (.istore 4, 2) := by decide +kernel
theorem dX10_get_29 : decode cX10_get 29 = .ok (.iload 4, 2) := by decide +kernel
theorem dX10_get_31 : decode cX10_get 31 = .ok (.ifCond .le 13, 3) := by decide +kernel
theorem dX10_get_34 : decode cX10_get 34 = .ok (.aload_n 0, 1) := by decide +kernel
theorem dX10_get_35 : decode cX10_get 35 = .ok (.iload 4, 2) := by decide +kernel
theorem dX10_get_37 : decode cX10_get 37 = .ok (.putfield 305, 3) := by decide +kernel
theorem dX10_get_40 : decode cX10_get 40 = .ok (.ldc_w 315, 3) := by decide +kernel
theorem dX10_get_43 : decode cX10_get 43 = .ok (.ireturn, 1) := by decide +kernel
theorem dX10_get_44 : decode cX10_get 44 = .ok (.aload_n 0, 1) := by decide +kernel
theorem dX10_get_45 : decode cX10_get 45 = .ok (.getfield 89, 3) := by decide +kernel
theorem dX10_get_48 : decode cX10_get 48 = .ok (.bipush 60, 2) := by decide +kernel
theorem dX10_get_50 : decode cX10_get 50 = .ok (.iload_n 1, 1) := by decide +kernel
theorem dX10_get_51 : decode cX10_get 51 = .ok (.imul, 1) := by decide +kernel
theorem dX10_get_52 : decode cX10_get 52 = .ok (.iload_n 3, 1) := by decide +kernel
theorem dX10_get_53 : decode cX10_get 53 = .ok (.iadd, 1) := by decide +kernel
theorem dX10_get_54 : decode cX10_get 54 = .ok (.iaload, 1) := by decide +kernel
theorem dX10_get_55 : decode cX10_get 55 = .ok (.ireturn, 1) := by decide +kernel
theorem dX10_copy_0 : decode cX10_copy 0 = .ok (.iload_n 1, 1) := by decide +kernel
theorem dX10_copy_1 : decode cX10_copy 1 = .ok (.invokestatic 148, 3) := by decide +kernel
theorem dX10_copy_4 : decode cX10_copy 4 = .ok (.ifCond .eq 10, 3) := by decide +kernel
theorem dX10_copy_7 : decode cX10_copy 7 = .ok (.iload_n 3, 1) := by decide +kernel
theorem dX10_copy_8 : decode cX10_copy 8 = .ok (.invokestatic 148, 3) := by decide +kernel
theorem dX10_copy_11 : decode cX10_copy 11 = .ok (.ifCond .ne 6, 3) := by decide +kernel
theorem dX10_copy_14 : decode cX10_copy 14 = .ok (.bipush (-2), 2) := by decide +kernel
theorem dX10_copy_16 : decode cX10_copy 16 = .ok (.ireturn, 1) := by decide +kernel
theorem dX10_copy_17 : decode cX10_copy 17 = .ok (.aload_n 0, 1) := by decide +kernel
theorem dX10_copy_18 : decode cX10_copy 18 = .ok (.getfield 79, 3) := by decide +kernel
theorem dX10_copy_21 : decode cX10_copy 21 = .ok (.iload_n 1, 1) := by decide +kernel
theorem dX10_copy_22 : decode cX10_copy 22 = .ok (.baload, 1) := by decide +kernel
theorem dX10_copy_23 : decode cX10_copy 23 = .ok (.ifCond .eq 12, 3) := by decide +kernel
theorem dX10_copy_26 : decode cX10_copy 26 = .ok (.aload_n 0, 1) := by decide +kernel
theorem dX10_copy_27 : decode cX10_copy 27 = .ok (.getfield 79, 3) := by decide +kernel
theorem dX10_copy_30 : decode cX10_copy 30 = .ok (.iload_n 3, 1) := by decide +kernel
theorem dX10_copy_31 : decode cX10_copy 31 = .ok (.baload, 1) := by decide +kernel
theorem dX10_copy_32 : decode cX10_copy 32 = .ok (.ifCond .ne 9, 3) := by decide +kernel
theorem dX10_copy_35 : decode cX10_copy 35 = .ok (.aload_n 0, 1) := by decide +kernel
theorem dX10_copy_36 : decode cX10_copy 36 = .ok (.iconst 1, 1) := by decide +kernel
theorem dX10_copy_37 : decode cX10_copy 37 = .ok (.invokevirtual 151, 3) := by decide +kernel
theorem dX10_copy_40 : decode cX10_copy 40 = .ok (.ireturn, 1) := by decide +kernel
theorem dX10_copy_41 : decode cX10_copy 41 = .ok (.aload_n 0, 1) := by decide +kernel
theorem dX10_copy_42 : decode cX10_copy 42 = .ok (.getfield 83, 3) := by decide +kernel
theorem dX10_copy_45 : decode cX10_copy 45 = .ok (.iload_n 1, 1) := by decide +kernel
theorem dX10_copy_46 : decode cX10_copy 46 = .ok (.iaload, 1) := by decide +kernel
theorem dX10_copy_47 : decode cX10_copy 47 = .ok (.aload_n 0, 1) := by decide +kernel
theorem dX10_copy_48 : decode cX10_copy 48 = .ok (.getfield 83, 3) := by decide +kernel
theorem dX10_copy_51 : decode cX10_copy 51 = .ok (.iload_n 3, 1) := by decide +kernel
theorem dX10_copy_52 : decode cX10_copy 52 = .ok (.iaload, 1) := by decide +kernel
theorem dX10_copy_53 : decode cX10_copy 53 = .ok (.if_icmp .eq 9, 3) := by decide +kernel
theorem dX10_copy_56 : decode cX10_copy 56 = .ok (.aload_n 0, 1) := by decide +kernel
theorem dX10_copy_57 : decode cX10_copy 57 = .ok (.iconst 4, 1) := by decide +kernel
theorem dX10_copy_58 : decode cX10_copy 58 = .ok (.invokevirtual 151, 3) := by decide +kernel
theorem dX10_copy_61 : decode cX10_copy 61 = .ok (.ireturn, 1) := by decide +kernel
theorem dX10_copy_62 : decode cX10_copy 62 = .ok (.iload_n 2, 1) := by decide +kernel
theorem dX10_copy_63 : decode cX10_copy 63 = .ok (.ifCond .lt 48, 3) := by decide +kernel
theorem dX10_copy_66 : decode cX10_copy 66 = .ok (.iload 4, 2) := by decide +kernel
theorem dX10_copy_68 : decode cX10_copy 68 = .ok (.ifCond .lt 43, 3) := by decide +kernel
theorem dX10_copy_71 : decode cX10_copy 71 = .ok (.iload 5, 2) := by decide +kernel
theorem dX10_copy_73 : decode cX10_copy 73 = .ok (.ifCond .lt 38, 3) := by decide +kernel
theorem dX10_copy_76 : decode cX10_copy 76 = .ok (.iload_n 2, 1) := by decide +kernel
theorem dX10_copy_77 : decode cX10_copy 77 = .ok (.i2l, 1) := by decide +kernel
theorem dX10_copy_78 : decode cX10_copy 78 = .ok (.iload 5, 2) := by decide +kernel
theorem dX10_copy_80 : decode cX10_copy 80 = .ok (.i2l, 1) := by decide +kernel
theorem dX10_copy_81 : decode cX10_copy 81 = .ok (.ladd, 1) := by decide +kernel
theorem dX10_copy_82 : decode cX10_copy 82 = .ok (.aload_n 0, 1) := by decide +kernel
theorem dX10_copy_83 : decode cX10_copy 83 = .ok (.getfield 86, 3) := by decide +kernel
theorem dX10_copy_86 : decode cX10_copy 86 = .ok (.iload_n 1, 1) := by decide +kernel
theorem dX10_copy_87 : decode cX10_copy 87 = .ok (.iaload, 1) := by decide +kernel
theorem dX10_copy_88 : decode cX10_copy 88 = .ok (.i2l, 1) := by decide +kernel
theorem dX10_copy_89 : decode cX10_copy 89 = .ok (.lcmp, 1) := by decide +kernel
theorem dX10_copy_90 : decode cX10_copy 90 = .ok (.ifCond .gt 21, 3) := by decide +kernel
theorem dX10_copy_93 : decode cX10_copy 93 = .ok (.iload 4, 2) := by decide +kernel
theorem dX10_copy_95 : decode cX10_copy 95 = .ok (.i2l, 1) := by decide +kernel
theorem dX10_copy_96 : decode cX10_copy 96 = .ok (.iload 5, 2) := by decide +kernel
theorem dX10_copy_98 : decode cX10_copy 98 = .ok (.i2l, 1) := by decide +kernel
theorem dX10_copy_99 : decode cX10_copy 99 = .ok (.ladd, 1) := by decide +kernel
theorem dX10_copy_100 : decode cX10_copy 100 = .ok (.aload_n 0, 1) := by decide +kernel
theorem dX10_copy_101 : decode cX10_copy 101 = .ok (.getfield 86, 3) := by decide +kernel
theorem dX10_copy_104 : decode cX10_copy 104 = .ok (.iload_n 3, 1) := by decide +kernel
theorem dX10_copy_105 : decode cX10_copy 105 = .ok (.iaload, 1) := by decide +kernel
theorem dX10_copy_106 : decode cX10_copy 106 = .ok (.i2l, 1) := by decide +kernel
theorem dX10_copy_107 : decode cX10_copy 107 = .ok (.lcmp, 1) := by decide +kernel
theorem dX10_copy_108 : decode cX10_copy 108 = .ok (.ifCond .le 9, 3) := by decide +kernel
theorem dX10_copy_111 : decode cX10_copy 111 = .ok (.aload_n 0, 1) := by decide +kernel
theorem dX10_copy_112 : decode cX10_copy 112 = .ok (.iconst 2, 1) := by decide +kernel
theorem dX10_copy_113 : decode cX10_copy 113 = .ok (.invokevirtual 151, 3) := by decide +kernel
theorem dX10_copy_116 : decode cX10_copy 116 = .ok (.ireturn, 1) := by decide +kernel
theorem dX10_copy_117 : decode cX10_copy 117 = .ok (.iconst 0, 1) := by decide +kernel
theorem dX10_copy_118 : decode cX10_copy 118 = .ok (.istore 6, 2) := by decide +kernel
theorem dX10_copy_120 : decode cX10_copy 120 = .ok (.iload 6, 2) := by decide +kernel
theorem dX10_copy_122 : decode cX10_copy 122 = .ok (.iload 5, 2) := by decide +kernel
theorem dX10_copy_124 : decode cX10_copy 124 = .ok (.if_icmp .ge 30, 3) := by decide +kernel
theorem dX10_copy_127 : decode cX10_copy 127 = .ok (.aload_n 0, 1) := by decide +kernel
theorem dX10_copy_128 : decode cX10_copy 128 = .ok (.getfield 92, 3) := by decide +kernel
theorem dX10_copy_131 : decode cX10_copy 131 = .ok (.iload 6, 2) := by decide +kernel
theorem dX10_copy_133 : decode cX10_copy 133 = .ok (.aload_n 0, 1) := by decide +kernel
theorem dX10_copy_134 : decode cX10_copy 134 = .ok (.getfield 89, 3) := by decide +kernel
theorem dX10_copy_137 : decode cX10_copy 137 = .ok (.bipush 60, 2) := by decide +kernel
theorem dX10_copy_139 : decode cX10_copy 139 = .ok (.iload_n 1, 1) := by decide +kernel
theorem dX10_copy_140 : decode cX10_copy 140 = .ok (.imul, 1) := by decide +kernel
theorem dX10_copy_141 : decode cX10_copy 141 = .ok (.iload_n 2, 1) := by decide +kernel
theorem dX10_copy_142 : decode cX10_copy 142 = .ok (.iadd, 1) := by decide +kernel
theorem dX10_copy_143 : decode cX10_copy 143 = .ok (.iload 6, 2) := by decide +kernel
theorem dX10_copy_145 : decode cX10_copy 145 = .ok (.iadd, 1) := by decide +kernel
theorem dX10_copy_146 : decode cX10_copy 146 = .ok (.iaload, 1) := by decide +kernel
theorem dX10_copy_147 : decode cX10_copy 147 = .ok (.iastore, 1) := by decide +kernel
theorem dX10_copy_148 : decode cX10_copy 148 = .ok (.iinc 6 1, 3) := by decide +kernel
theorem dX10_copy_151 : decode cX10_copy 151 = .ok (.goto (-31), 3) := by decide +kernel
theorem dX10_copy_154 : decode cX10_copy 154 = .ok (.iconst 0, 1) := by decide +kernel
theorem dX10_copy_155 : decode cX10_copy 155 = .ok (.istore 6, 2) := by decide +kernel
theorem dX10_copy_157 : decode cX10_copy 157 = .ok (.iload 6, 2) := by decide +kernel
theorem dX10_copy_159 : decode cX10_copy 159 = .ok (.iload 5, 2) := by decide +kernel
theorem dX10_copy_161 : decode cX10_copy 161 = .ok (.if_icmp .ge 31, 3) := by decide +kernel
theorem dX10_copy_164 : decode cX10_copy 164 = .ok (.aload_n 0, 1) := by decide +kernel
theorem dX10_copy_165 : decode cX10_copy 165 = .ok (.getfield 89, 3) := by decide +kernel
theorem dX10_copy_168 : decode cX10_copy 168 = .ok (.bipush 60, 2) := by decide +kernel
theorem dX10_copy_170 : decode cX10_copy 170 = .ok (.iload_n 3, 1) := by decide +kernel
theorem dX10_copy_171 : decode cX10_copy 171 = .ok (.imul, 1) := by decide +kernel
theorem dX10_copy_172 : decode cX10_copy 172 = .ok (.iload 4, 2) := by decide +kernel
theorem dX10_copy_174 : decode cX10_copy 174 = .ok (.iadd, 1) := by decide +kernel
theorem dX10_copy_175 : decode cX10_copy 175 = .ok (.iload 6, 2) := by decide +kernel
theorem dX10_copy_177 : decode cX10_copy 177 = .ok (.iadd, 1) := by decide +kernel
theorem dX10_copy_178 : decode cX10_copy 178 = .ok (.aload_n 0, 1) := by decide +kernel
theorem dX10_copy_179 : decode cX10_copy 179 = .ok (.getfield 92, 3) := by decide +kernel
theorem dX10_copy_182 : decode cX10_copy 182 = .ok (.iload 6, 2) := by decide +kernel
theorem dX10_copy_184 : decode cX10_copy 184 = .ok (.iaload, 1) := by decide +kernel
theorem dX10_copy_185 : decode cX10_copy 185 = .ok (.iastore, 1) := by decide +kernel
theorem dX10_copy_186 : decode cX10_copy 186 = .ok (.iinc 6 1, 3) := by decide +kernel
theorem dX10_copy_189 : decode cX10_copy 189 = .ok (.goto (-32), 3) := by decide +kernel
theorem dX10_copy_192 : decode cX10_copy 192 = .ok (.iconst 1, 1) := by decide +kernel
theorem dX10_copy_193 : decode cX10_copy 193 = .ok (.ireturn, 1) := by decide +kernel
theorem dX10_write_0 : decode cX10_write 0 = .ok (.iload_n 1, 1) := by decide +kernel
theorem dX10_write_1 : decode cX10_write 1 = .ok (.iconst 0, 1) := by decide +kernel
theorem dX10_write_2 : decode cX10_write 2 = .ok (.aload_n 0, 1) := by decide +kernel
theorem dX10_write_3 : decode cX10_write 3 = .ok (.invokevirtual 218, 3) := by decide +kernel
theorem dX10_write_6 : decode cX10_write 6 = .ok (.invokestatic 97, 3) := by decide +kernel
theorem dX10_write_9 : decode cX10_write 9 = .ok (.ifCond .eq 10, 3) := by decide +kernel
theorem dX10_write_12 : decode cX10_write 12 = .ok (.iload_n 2, 1) := by decide +kernel
theorem dX10_write_13 : decode cX10_write 13 = .ok (.invokestatic 148, 3) := by decide +kernel
theorem dX10_write_16 : decode cX10_write 16 = .ok (.ifCond .ne 6, 3) := by decide +kernel
theorem dX10_write_19 : decode cX10_write 19 = .ok (.bipush (-2), 2) := by decide +kernel
theorem dX10_write_21 : decode cX10_write 21 = .ok (.ireturn, 1) := by decide +kernel
theorem dX10_write_22 : decode cX10_write 22 = .ok (.aload_n 0, 1) := by decide +kernel
theorem dX10_write_23 : decode cX10_write 23 = .ok (.getfield 79, 3) := by decide +kernel
theorem dX10_write_26 : decode cX10_write 26 = .ok (.iload_n 2, 1) := by decide +kernel
theorem dX10_write_27 : decode cX10_write 27 = .ok (.baload, 1) := by decide +kernel
theorem dX10_write_28 : decode cX10_write 28 = .ok (.ifCond .ne 9, 3) := by decide +kernel
theorem dX10_write_31 : decode cX10_write 31 = .ok (.aload_n 0, 1) := by decide +kernel
theorem dX10_write_32 : decode cX10_write 32 = .ok (.iconst 1, 1) := by decide +kernel
theorem dX10_write_33 : decode cX10_write 33 = .ok (.invokevirtual 151, 3) := by decide +kernel
theorem dX10_write_36 : decode cX10_write 36 = .ok (.ireturn, 1) := by decide +kernel
theorem dX10_write_37 : decode cX10_write 37 = .ok (.aload_n 0, 1) := by decide +kernel
theorem dX10_write_38 : decode cX10_write 38 = .ok (.invokevirtual 215, 3) := by decide +kernel
theorem dX10_write_41 : decode cX10_write 41 = .ok (.iconst 0, 1) := by decide +kernel
theorem dX10_write_42 : decode cX10_write 42 = .ok (.istore_n 3, 1) := by decide +kernel
theorem dX10_write_43 : decode cX10_write 43 = .ok (.iload_n 3, 1) := by decide +kernel
theorem dX10_write_44 : decode cX10_write 44 = .ok (.aload_n 0, 1) := by decide +kernel
theorem dX10_write_45 : decode cX10_write 45 = .ok (.getfield 86, 3) := by decide +kernel
theorem dX10_write_48 : decode cX10_write 48 = .ok (.iload_n 2, 1) := by decide +kernel
theorem dX10_write_49 : decode cX10_write 49 = .ok (.iaload, 1) := by decide +kernel
theorem dX10_write_50 : decode cX10_write 50 = .ok (.if_icmp .ge 34, 3) := by decide +kernel
theorem dX10_write_53 : decode cX10_write 53 = .ok (.iload_n 3, 1) := by decide +kernel
theorem dX10_write_54 : decode cX10_write 54 = .ok (.aload_n 0, 1) := by decide +kernel
theorem dX10_write_55 : decode cX10_write 55 = .ok (.getfield 109, 3) := by decide +kernel
theorem dX10_write_58 : decode cX10_write 58 = .ok (.if_icmp .ge 26, 3) := by decide +kernel
theorem dX10_write_61 : decode cX10_write 61 = .ok (.aload_n 0, 1) := by decide +kernel
theorem dX10_write_62 : decode cX10_write 62 = .ok (.iload_n 2, 1) := by decide +kernel
theorem dX10_write_63 : decode cX10_write 63 = .ok (.iload_n 3, 1) := by decide +kernel
theorem dX10_write_64 : decode cX10_write 64 = .ok (.aload_n 0, 1) := by decide +kernel
theorem dX10_write_65 : decode cX10_write 65 = .ok (.getfield 58, 3) := by decide +kernel
theorem dX10_write_68 : decode cX10_write 68 = .ok (.bipush 8, 2) := by decide +kernel
theorem dX10_write_70 : decode cX10_write 70 = .ok (.iload_n 1, 1) := by decide +kernel
theorem dX10_write_71 : decode cX10_write 71 = .ok (.imul, 1) := by decide +kernel
theorem dX10_write_72 : decode cX10_write 72 = .ok (.iload_n 3, 1) := by decide +kernel
theorem dX10_write_73 : decode cX10_write 73 = .ok (.iadd, 1) := by decide +kernel
theorem dX10_write_74 : decode cX10_write 74 = .ok (.iaload, 1) := by decide +kernel
theorem dX10_write_75 : decode cX10_write 75 = .ok (.invokevirtual 311, 3) := by decide +kernel
theorem dX10_write_78 : decode cX10_write 78 = .ok (.iinc 3 1, 3) := by decide +kernel
theorem dX10_write_81 : decode cX10_write 81 = .ok (.goto (-38), 3) := by decide +kernel
theorem dX10_write_84 : decode cX10_write 84 = .ok (.iload_n 3, 1) := by decide +kernel
theorem dX10_write_85 : decode cX10_write 85 = .ok (.ireturn, 1) := by decide +kernel
theorem dX10_sumOf_0 : decode cX10_sumOf 0 = .ok (.aload_n 0, 1) := by decide +kernel
theorem dX10_sumOf_1 : decode cX10_sumOf 1 = .ok (.invokevirtual 215, 3) := by decide +kernel
theorem dX10_sumOf_4 : decode cX10_sumOf 4 = .ok (.iconst 0, 1) := by decide +kernel
theorem dX10_sumOf_5 : decode cX10_sumOf 5 = .ok (.istore_n 2, 1) := by decide +kernel
theorem dX10_sumOf_6 : decode cX10_sumOf 6 = .ok (.iconst 0, 1) := by decide +kernel
theorem dX10_sumOf_7 : decode cX10_sumOf 7 = .ok (.istore_n 3, 1) := by decide +kernel
theorem dX10_sumOf_8 : decode cX10_sumOf 8 = .ok (.iload_n 3, 1) := by decide +kernel
theorem dX10_sumOf_9 : decode cX10_sumOf 9 = .ok (.aload_n 0, 1) := by decide +kernel
theorem dX10_sumOf_10 : decode cX10_sumOf 10 = .ok (.getfield 109, 3) := by decide +kernel
theorem dX10_sumOf_13 : decode cX10_sumOf 13 = .ok (.if_icmp .ge 18, 3) := by decide +kernel
theorem dX10_sumOf_16 : decode cX10_sumOf 16 = .ok (.iload_n 2, 1) := by decide +kernel
theorem dX10_sumOf_17 : decode cX10_sumOf 17 = .ok (.aload_n 0, 1) := by decide +kernel
theorem dX10_sumOf_18 : decode cX10_sumOf 18 = .ok (.getfield 40, 3) := by decide +kernel
theorem dX10_sumOf_21 : decode cX10_sumOf 21 = .ok (.iload_n 3, 1) := by decide +kernel
theorem dX10_sumOf_22 : decode cX10_sumOf 22 = .ok (.iaload, 1) := by decide +kernel
theorem dX10_sumOf_23 : decode cX10_sumOf 23 = .ok (.iadd, 1) := by decide +kernel
theorem dX10_sumOf_24 : decode cX10_sumOf 24 = .ok (.istore_n 2, 1) := by decide +kernel
theorem dX10_sumOf_25 : decode cX10_sumOf 25 = .ok (.iinc 3 1, 3) := by decide +kernel
theorem dX10_sumOf_28 : decode cX10_sumOf 28 = .ok (.goto (-20), 3) := by decide +kernel
theorem dX10_sumOf_31 : decode cX10_sumOf 31 = .ok (.iload_n 1, 1) := by decide +kernel
theorem dX10_sumOf_32 : decode cX10_sumOf 32 = .ok (.ifCond .ne 10, 3) := by decide +kernel
theorem dX10_sumOf_35 : decode cX10_sumOf 35 = .ok (.aload_n 0, 1) := by decide +kernel
theorem dX10_sumOf_36 : decode cX10_sumOf 36 = .ok (.getfield 109, 3) := by decide +kernel
theorem dX10_sumOf_39 : decode cX10_sumOf 39 = .ok (.goto 28, 3) := by decide +kernel
theorem dX10_sumOf_42 : decode cX10_sumOf 42 = .ok (.iload_n 1, 1) := by decide +kernel
theorem dX10_sumOf_43 : decode cX10_sumOf 43 = .ok (.iconst 1, 1) := by decide +kernel
theorem dX10_sumOf_44 : decode cX10_sumOf 44 = .ok (.if_icmp .ne 10, 3) := by decide +kernel
theorem dX10_sumOf_47 : decode cX10_sumOf 47 = .ok (.aload_n 0, 1) := by decide +kernel
theorem dX10_sumOf_48 : decode cX10_sumOf 48 = .ok (.getfield 117, 3) := by decide +kernel
theorem dX10_sumOf_51 : decode cX10_sumOf 51 = .ok (.goto 16, 3) := by decide +kernel
theorem dX10_sumOf_54 : decode cX10_sumOf 54 = .ok (.iload_n 1, 1) := by decide +kernel
theorem dX10_sumOf_55 : decode cX10_sumOf 55 = .ok (.iconst 5, 1) := by decide +kernel
theorem dX10_sumOf_56 : decode cX10_sumOf 56 = .ok (.if_icmp .ne 10, 3) := by decide +kernel
theorem dX10_sumOf_59 : decode cX10_sumOf 59 = .ok (.aload_n 0, 1) := by decide +kernel
theorem dX10_sumOf_60 : decode cX10_sumOf 60 = .ok (.getfield 188, 3) := by decide +kernel
theorem dX10_sumOf_63 : decode cX10_sumOf 63 = .ok (.goto 4, 3) := by decide +kernel
theorem dX10_sumOf_66 : decode cX10_sumOf 66 = .ok (.iload_n 2, 1) := by decide +kernel
theorem dX10_sumOf_67 : decode cX10_sumOf 67 = .ok (.ireturn, 1) := by decide +kernel
theorem dX10_count_0 : decode cX10_count 0 = .ok (.iload_n 1, 1) := by decide +kernel
theorem dX10_count_1 : decode cX10_count 1 = .ok (.tableswitch 81 0 8 #[51, 51, 57, 57, 66, 51, 51, 71, 76], 51) := by decide +kernel
theorem dX10_count_52 : decode cX10_count 52 = .ok (.aload_n 0, 1) := by decide +kernel
theorem dX10_count_53 : decode cX10_count 53 = .ok (.iload_n 1, 1) := by decide +kernel
theorem dX10_count_54 : decode cX10_count 54 = .ok (.invokevirtual 316, 3) := by decide +kernel
theorem dX10_count_57 : decode cX10_count 57 = .ok (.ireturn, 1) := by decide +kernel
theorem dX10_count_58 : decode cX10_count 58 = .ok (.aload_n 0, 1) := by decide +kernel
theorem dX10_count_59 : decode cX10_count 59 = .ok (.getfield 7, 3) := by decide +kernel
theorem dX10_count_62 : decode cX10_count 62 = .ok (.iload_n 1, 1) := by decide +kernel
theorem dX10_count_63 : decode cX10_count 63 = .ok (.iconst 2, 1) := by decide +kernel
theorem dX10_count_64 : decode cX10_count 64 = .ok (.isub, 1) := by decide +kernel
theorem dX10_count_65 : decode cX10_count 65 = .ok (.iaload, 1) := by decide +kernel
theorem dX10_count_66 : decode cX10_count 66 = .ok (.ireturn, 1) := by decide +kernel
theorem dX10_count_67 : decode cX10_count 67 = .ok (.aload_n 0, 1) := by decide +kernel
theorem dX10_count_68 : decode cX10_count 68 = .ok (.getfield 145, 3) := by decide +kernel
theorem dX10_count_71 : decode cX10_count 71 = .ok (.ireturn, 1) := by decide +kernel
theorem dX10_count_72 : decode cX10_count 72 = .ok (.aload_n 0, 1) := by decide +kernel
theorem dX10_count_73 : decode cX10_count 73 = .ok (.getfield 274, 3) := by decide +kernel
theorem dX10_count_76 : decode cX10_count 76 = .ok (.ireturn, 1) := by decide +kernel
theorem dX10_count_77 : decode cX10_count 77 = .ok (.aload_n 0, 1) := by decide +kernel
theorem dX10_count_78 : decode cX10_count 78 = .ok (.getfield 305, 3) := by decide +kernel
theorem dX10_count_81 : decode cX10_count 81 = .ok (.ireturn, 1) := by decide +kernel
theorem dX10_count_82 : decode cX10_count 82 = .ok (.bipush (-2), 2) := by decide +kernel
theorem dX10_count_84 : decode cX10_count 84 = .ok (.ireturn, 1) := by decide +kernel
theorem dX10_heirDigest_0 : decode cX10_heirDigest 0 = .ok (.lload_n 1, 1) := by decide +kernel
theorem dX10_heirDigest_1 : decode cX10_heirDigest 1 = .ok (.lstore 4, 2) := by decide +kernel
theorem dX10_heirDigest_3 : decode cX10_heirDigest 3 = .ok (.iconst 0, 1) := by decide +kernel
theorem dX10_heirDigest_4 : decode cX10_heirDigest 4 = .ok (.istore 6, 2) := by decide +kernel
theorem dX10_heirDigest_6 : decode cX10_heirDigest 6 = .ok (.iload 6, 2) := by decide +kernel
theorem dX10_heirDigest_8 : decode cX10_heirDigest 8 = .ok (.iconst 3, 1) := by decide +kernel
theorem dX10_heirDigest_9 : decode cX10_heirDigest 9 = .ok (.if_icmp .ge 26, 3) := by decide +kernel
theorem dX10_heirDigest_12 : decode cX10_heirDigest 12 = .ok (.ldc2_w 319, 3) := by decide +kernel
theorem dX10_heirDigest_15 : decode cX10_heirDigest 15 = .ok (.lload 4, 2) := by decide +kernel
theorem dX10_heirDigest_17 : decode cX10_heirDigest 17 = .ok (.lmul, 1) := by decide +kernel
theorem dX10_heirDigest_18 : decode cX10_heirDigest 18 = .ok (.aload_n 0, 1) := by decide +kernel
theorem dX10_heirDigest_19 : decode cX10_heirDigest 19 = .ok (.iload_n 3, 1) := by decide +kernel
theorem dX10_heirDigest_20 : decode cX10_heirDigest 20 = .ok (.iload 6, 2) := by decide +kernel
theorem dX10_heirDigest_22 : decode cX10_heirDigest 22 = .ok (.invokevirtual 136, 3) := by decide +kernel
theorem dX10_heirDigest_25 : decode cX10_heirDigest 25 = .ok (.i2l, 1) := by decide +kernel
theorem dX10_heirDigest_26 : decode cX10_heirDigest 26 = .ok (.ladd, 1) := by decide +kernel
theorem dX10_heirDigest_27 : decode cX10_heirDigest 27 = .ok (.lstore 4, 2) := by decide +kernel
theorem dX10_heirDigest_29 : decode cX10_heirDigest 29 = .ok (.iinc 6 1, 3) := by decide +kernel
theorem dX10_heirDigest_32 : decode cX10_heirDigest 32 = .ok (.goto (-26), 3) := by decide +kernel
theorem dX10_heirDigest_35 : decode cX10_heirDigest 35 = .ok (.iconst 0, 1) := by decide +kernel
theorem dX10_heirDigest_36 : decode cX10_heirDigest 36 = .ok (.istore 6, 2) := by decide +kernel
theorem dX10_heirDigest_38 : decode cX10_heirDigest 38 = .ok (.iload 6, 2) := by decide +kernel
theorem dX10_heirDigest_40 : decode cX10_heirDigest 40 = .ok (.iconst 3, 1) := by decide +kernel
theorem dX10_heirDigest_41 : decode cX10_heirDigest 41 = .ok (.if_icmp .ge 30, 3) := by decide +kernel
theorem dX10_heirDigest_44 : decode cX10_heirDigest 44 = .ok (.ldc2_w 319, 3) := by decide +kernel
theorem dX10_heirDigest_47 : decode cX10_heirDigest 47 = .ok (.lload 4, 2) := by decide +kernel
theorem dX10_heirDigest_49 : decode cX10_heirDigest 49 = .ok (.lmul, 1) := by decide +kernel
theorem dX10_heirDigest_50 : decode cX10_heirDigest 50 = .ok (.aload_n 0, 1) := by decide +kernel
theorem dX10_heirDigest_51 : decode cX10_heirDigest 51 = .ok (.aload_n 0, 1) := by decide +kernel
theorem dX10_heirDigest_52 : decode cX10_heirDigest 52 = .ok (.getfield 117, 3) := by decide +kernel
theorem dX10_heirDigest_55 : decode cX10_heirDigest 55 = .ok (.iload_n 3, 1) := by decide +kernel
theorem dX10_heirDigest_56 : decode cX10_heirDigest 56 = .ok (.iload 6, 2) := by decide +kernel
theorem dX10_heirDigest_58 : decode cX10_heirDigest 58 = .ok (.invokevirtual 224, 3) := by decide +kernel
theorem dX10_heirDigest_61 : decode cX10_heirDigest 61 = .ok (.i2l, 1) := by decide +kernel
theorem dX10_heirDigest_62 : decode cX10_heirDigest 62 = .ok (.ladd, 1) := by decide +kernel
theorem dX10_heirDigest_63 : decode cX10_heirDigest 63 = .ok (.lstore 4, 2) := by decide +kernel
theorem dX10_heirDigest_65 : decode cX10_heirDigest 65 = .ok (.iinc 6 1, 3) := by decide +kernel
theorem dX10_heirDigest_68 : decode cX10_heirDigest 68 = .ok (.goto (-30), 3) := by decide +kernel
theorem dX10_heirDigest_71 : decode cX10_heirDigest 71 = .ok (.ldc2_w 319, 3) := by decide +kernel
theorem dX10_heirDigest_74 : decode cX10_heirDigest 74 = .ok (.lload 4, 2) := by decide +kernel
theorem dX10_heirDigest_76 : decode cX10_heirDigest 76 = .ok (.lmul, 1) := by decide +kernel
theorem dX10_heirDigest_77 : decode cX10_heirDigest 77 = .ok (.aload_n 0, 1) := by decide +kernel
theorem dX10_heirDigest_78 : decode cX10_heirDigest 78 = .ok (.iload_n 3, 1) := by decide +kernel
theorem dX10_heirDigest_79 : decode cX10_heirDigest 79 = .ok (.invokevirtual 252, 3) := by decide +kernel
theorem dX10_heirDigest_82 : decode cX10_heirDigest 82 = .ok (.i2l, 1) := by decide +kernel
theorem dX10_heirDigest_83 : decode cX10_heirDigest 83 = .ok (.ladd, 1) := by decide +kernel
theorem dX10_heirDigest_84 : decode cX10_heirDigest 84 = .ok (.lstore 4, 2) := by decide +kernel
theorem dX10_heirDigest_86 : decode cX10_heirDigest 86 = .ok (.ldc2_w 319, 3) := by decide +kernel
theorem dX10_heirDigest_89 : decode cX10_heirDigest 89 = .ok (.lload 4, 2) := by decide +kernel
theorem dX10_heirDigest_91 : decode cX10_heirDigest 91 = .ok (.lmul, 1) := by decide +kernel
theorem dX10_heirDigest_92 : decode cX10_heirDigest 92 = .ok (.aload_n 0, 1) := by decide +kernel
theorem dX10_heirDigest_93 : decode cX10_heirDigest 93 = .ok (.iload_n 3, 1) := by decide +kernel
theorem dX10_heirDigest_94 : decode cX10_heirDigest 94 = .ok (.invokevirtual 268, 3) := by decide +kernel
theorem dX10_heirDigest_97 : decode cX10_heirDigest 97 = .ok (.i2l, 1) := by decide +kernel
theorem dX10_heirDigest_98 : decode cX10_heirDigest 98 = .ok (.ladd, 1) := by decide +kernel
theorem dX10_heirDigest_99 : decode cX10_heirDigest 99 = .ok (.lstore 4, 2) := by decide +kernel
theorem dX10_heirDigest_101 : decode cX10_heirDigest 101 = .ok (.ldc2_w 319, 3) := by decide +kernel
theorem dX10_heirDigest_104 : decode cX10_heirDigest 104 = .ok (.lload 4, 2) := by decide +kernel
theorem dX10_heirDigest_106 : decode cX10_heirDigest 106 = .ok (.lmul, 1) := by decide +kernel
theorem dX10_heirDigest_107 : decode cX10_heirDigest 107 = .ok (.aload_n 0, 1) := by decide +kernel
theorem dX10_heirDigest_108 : decode cX10_heirDigest 108 = .ok (.iload_n 3, 1) := by decide +kernel
theorem dX10_heirDigest_109 : decode cX10_heirDigest 109 = .ok (.iconst 0, 1) := by decide +kernel
theorem dX10_heirDigest_110 : decode cX10_heirDigest 110 = .ok (.invokevirtual 271, 3) := by decide +kernel
theorem dX10_heirDigest_113 : decode cX10_heirDigest 113 = .ok (.i2l, 1) := by decide +kernel
theorem dX10_heirDigest_114 : decode cX10_heirDigest 114 = .ok (.ladd, 1) := by decide +kernel
theorem dX10_heirDigest_115 : decode cX10_heirDigest 115 = .ok (.lstore 4, 2) := by decide +kernel
theorem dX10_heirDigest_117 : decode cX10_heirDigest 117 = .ok (.ldc2_w 319, 3) := by decide +kernel
theorem dX10_heirDigest_120 : decode cX10_heirDigest 120 = .ok (.lload 4, 2) := by decide +kernel
theorem dX10_heirDigest_122 : decode cX10_heirDigest 122 = .ok (.lmul, 1) := by decide +kernel
theorem dX10_heirDigest_123 : decode cX10_heirDigest 123 = .ok (.aload_n 0, 1) := by decide +kernel
theorem dX10_heirDigest_124 : decode cX10_heirDigest 124 = .ok (.iload_n 3, 1) := by decide +kernel
theorem dX10_heirDigest_125 : decode cX10_heirDigest 125 = .ok (.iconst 1, 1) := by decide +kernel
theorem dX10_heirDigest_126 : decode cX10_heirDigest 126 = .ok (.invokevirtual 271, 3) := by decide +kernel
theorem dX10_heirDigest_129 : decode cX10_heirDigest 129 = .ok (.i2l, 1) := by decide +kernel
theorem dX10_heirDigest_130 : decode cX10_heirDigest 130 = .ok (.ladd, 1) := by decide +kernel
theorem dX10_heirDigest_131 : decode cX10_heirDigest 131 = .ok (.lstore 4, 2) := by decide +kernel
theorem dX10_heirDigest_133 : decode cX10_heirDigest 133 = .ok (.ldc2_w 319, 3) := by decide +kernel
theorem dX10_heirDigest_136 : decode cX10_heirDigest 136 = .ok (.lload 4, 2) := by decide +kernel
theorem dX10_heirDigest_138 : decode cX10_heirDigest 138 = .ok (.lmul, 1) := by decide +kernel
theorem dX10_heirDigest_139 : decode cX10_heirDigest 139 = .ok (.aload_n 0, 1) := by decide +kernel
theorem dX10_heirDigest_140 : decode cX10_heirDigest 140 = .ok (.iload_n 3, 1) := by decide +kernel
theorem dX10_heirDigest_141 : decode cX10_heirDigest 141 = .ok (.iconst 0, 1) := by decide +kernel
theorem dX10_heirDigest_142 : decode cX10_heirDigest 142 = .ok (.invokevirtual 283, 3) := by decide +kernel
theorem dX10_heirDigest_145 : decode cX10_heirDigest 145 = .ok (.i2l, 1) := by decide +kernel
theorem dX10_heirDigest_146 : decode cX10_heirDigest 146 = .ok (.ladd, 1) := by decide +kernel
theorem dX10_heirDigest_147 : decode cX10_heirDigest 147 = .ok (.lstore 4, 2) := by decide +kernel
theorem dX10_heirDigest_149 : decode cX10_heirDigest 149 = .ok (.ldc2_w 319, 3) := by decide +kernel
theorem dX10_heirDigest_152 : decode cX10_heirDigest 152 = .ok (.lload 4, 2) := by decide +kernel
theorem dX10_heirDigest_154 : decode cX10_heirDigest 154 = .ok (.lmul, 1) := by decide +kernel
theorem dX10_heirDigest_155 : decode cX10_heirDigest 155 = .ok (.aload_n 0, 1) := by decide +kernel
theorem dX10_heirDigest_156 : decode cX10_heirDigest 156 = .ok (.iload_n 3, 1) := by decide +kernel
theorem dX10_heirDigest_157 : decode cX10_heirDigest 157 = .ok (.iconst 1, 1) := by decide +kernel
theorem dX10_heirDigest_158 : decode cX10_heirDigest 158 = .ok (.invokevirtual 283, 3) := by decide +kernel
theorem dX10_heirDigest_161 : decode cX10_heirDigest 161 = .ok (.i2l, 1) := by decide +kernel
theorem dX10_heirDigest_162 : decode cX10_heirDigest 162 = .ok (.ladd, 1) := by decide +kernel
theorem dX10_heirDigest_163 : decode cX10_heirDigest 163 = .ok (.lstore 4, 2) := by decide +kernel
theorem dX10_heirDigest_165 : decode cX10_heirDigest 165 = .ok (.ldc2_w 319, 3) := by decide +kernel
theorem dX10_heirDigest_168 : decode cX10_heirDigest 168 = .ok (.lload 4, 2) := by decide +kernel
theorem dX10_heirDigest_170 : decode cX10_heirDigest 170 = .ok (.lmul, 1) := by decide +kernel
theorem dX10_heirDigest_171 : decode cX10_heirDigest 171 = .ok (.aload_n 0, 1) := by decide +kernel
theorem dX10_heirDigest_172 : decode cX10_heirDigest 172 = .ok (.iload_n 3, 1) := by decide +kernel
theorem dX10_heirDigest_173 : decode cX10_heirDigest 173 = .ok (.invokevirtual 286, 3) := by decide +kernel
theorem dX10_heirDigest_176 : decode cX10_heirDigest 176 = .ok (.i2l, 1) := by decide +kernel
theorem dX10_heirDigest_177 : decode cX10_heirDigest 177 = .ok (.ladd, 1) := by decide +kernel
theorem dX10_heirDigest_178 : decode cX10_heirDigest 178 = .ok (.lstore 4, 2) := by decide +kernel
theorem dX10_heirDigest_180 : decode cX10_heirDigest 180 = .ok (.ldc2_w 319, 3) := by decide +kernel
theorem dX10_heirDigest_183 : decode cX10_heirDigest 183 = .ok (.lload 4, 2) := by decide +kernel
theorem dX10_heirDigest_185 : decode cX10_heirDigest 185 = .ok (.lmul, 1) := by decide +kernel
theorem dX10_heirDigest_186 : decode cX10_heirDigest 186 = .ok (.aload_n 0, 1) := by decide +kernel
theorem dX10_heirDigest_187 : decode cX10_heirDigest 187 = .ok (.iconst 5, 1) := by decide +kernel
theorem dX10_heirDigest_188 : decode cX10_heirDigest 188 = .ok (.iload_n 3, 1) := by decide +kernel
theorem dX10_heirDigest_189 : decode cX10_heirDigest 189 = .ok (.iconst 0, 1) := by decide +kernel
theorem dX10_heirDigest_190 : decode cX10_heirDigest 190 = .ok (.invokevirtual 293, 3) := by decide +kernel
theorem dX10_heirDigest_193 : decode cX10_heirDigest 193 = .ok (.ladd, 1) := by decide +kernel
theorem dX10_heirDigest_194 : decode cX10_heirDigest 194 = .ok (.lstore 4, 2) := by decide +kernel
theorem dX10_heirDigest_196 : decode cX10_heirDigest 196 = .ok (.ldc2_w 319, 3) := by decide +kernel
theorem dX10_heirDigest_199 : decode cX10_heirDigest 199 = .ok (.lload 4, 2) := by decide +kernel
theorem dX10_heirDigest_201 : decode cX10_heirDigest 201 = .ok (.lmul, 1) := by decide +kernel
theorem dX10_heirDigest_202 : decode cX10_heirDigest 202 = .ok (.aload_n 0, 1) := by decide +kernel
theorem dX10_heirDigest_203 : decode cX10_heirDigest 203 = .ok (.iconst 5, 1) := by decide +kernel
theorem dX10_heirDigest_204 : decode cX10_heirDigest 204 = .ok (.iload_n 3, 1) := by decide +kernel
theorem dX10_heirDigest_205 : decode cX10_heirDigest 205 = .ok (.iconst 1, 1) := by decide +kernel
theorem dX10_heirDigest_206 : decode cX10_heirDigest 206 = .ok (.invokevirtual 293, 3) := by decide +kernel
theorem dX10_heirDigest_209 : decode cX10_heirDigest 209 = .ok (.ladd, 1) := by decide +kernel
theorem dX10_heirDigest_210 : decode cX10_heirDigest 210 = .ok (.lreturn, 1) := by decide +kernel
theorem dX10_stopDigest_0 : decode cX10_stopDigest 0 = .ok (.ldc2_w 319, 3) := by decide +kernel
theorem dX10_stopDigest_3 : decode cX10_stopDigest 3 = .ok (.lload_n 1, 1) := by decide +kernel
theorem dX10_stopDigest_4 : decode cX10_stopDigest 4 = .ok (.lmul, 1) := by decide +kernel
theorem dX10_stopDigest_5 : decode cX10_stopDigest 5 = .ok (.aload_n 0, 1) := by decide +kernel
theorem dX10_stopDigest_6 : decode cX10_stopDigest 6 = .ok (.getfield 25, 3) := by decide +kernel
theorem dX10_stopDigest_9 : decode cX10_stopDigest 9 = .ok (.iload_n 3, 1) := by decide +kernel
theorem dX10_stopDigest_10 : decode cX10_stopDigest 10 = .ok (.iaload, 1) := by decide +kernel
theorem dX10_stopDigest_11 : decode cX10_stopDigest 11 = .ok (.i2l, 1) := by decide +kernel
theorem dX10_stopDigest_12 : decode cX10_stopDigest 12 = .ok (.ladd, 1) := by decide +kernel
theorem dX10_stopDigest_13 : decode cX10_stopDigest 13 = .ok (.lstore 4, 2) := by decide +kernel
theorem dX10_stopDigest_15 : decode cX10_stopDigest 15 = .ok (.iconst 0, 1) := by decide +kernel
theorem dX10_stopDigest_16 : decode cX10_stopDigest 16 = .ok (.istore 6, 2) := by decide +kernel
theorem dX10_stopDigest_18 : decode cX10_stopDigest 18 = .ok (.iload 6, 2) := by decide +kernel
theorem dX10_stopDigest_20 : decode cX10_stopDigest 20 = .ok (.iconst 4, 1) := by decide +kernel
theorem dX10_stopDigest_21 : decode cX10_stopDigest 21 = .ok (.if_icmp .ge 26, 3) := by decide +kernel
theorem dX10_stopDigest_24 : decode cX10_stopDigest 24 = .ok (.ldc2_w 319, 3) := by decide +kernel
theorem dX10_stopDigest_27 : decode cX10_stopDigest 27 = .ok (.lload 4, 2) := by decide +kernel
theorem dX10_stopDigest_29 : decode cX10_stopDigest 29 = .ok (.lmul, 1) := by decide +kernel
theorem dX10_stopDigest_30 : decode cX10_stopDigest 30 = .ok (.aload_n 0, 1) := by decide +kernel
theorem dX10_stopDigest_31 : decode cX10_stopDigest 31 = .ok (.iload_n 3, 1) := by decide +kernel
theorem dX10_stopDigest_32 : decode cX10_stopDigest 32 = .ok (.iload 6, 2) := by decide +kernel
theorem dX10_stopDigest_34 : decode cX10_stopDigest 34 = .ok (.invokevirtual 221, 3) := by decide +kernel
theorem dX10_stopDigest_37 : decode cX10_stopDigest 37 = .ok (.i2l, 1) := by decide +kernel
theorem dX10_stopDigest_38 : decode cX10_stopDigest 38 = .ok (.ladd, 1) := by decide +kernel
theorem dX10_stopDigest_39 : decode cX10_stopDigest 39 = .ok (.lstore 4, 2) := by decide +kernel
theorem dX10_stopDigest_41 : decode cX10_stopDigest 41 = .ok (.iinc 6 1, 3) := by decide +kernel
theorem dX10_stopDigest_44 : decode cX10_stopDigest 44 = .ok (.goto (-26), 3) := by decide +kernel
theorem dX10_stopDigest_47 : decode cX10_stopDigest 47 = .ok (.iconst 0, 1) := by decide +kernel
theorem dX10_stopDigest_48 : decode cX10_stopDigest 48 = .ok (.istore 6, 2) := by decide +kernel
theorem dX10_stopDigest_50 : decode cX10_stopDigest 50 = .ok (.iload 6, 2) := by decide +kernel
theorem dX10_stopDigest_52 : decode cX10_stopDigest 52 = .ok (.aload_n 0, 1) := by decide +kernel
theorem dX10_stopDigest_53 : decode cX10_stopDigest 53 = .ok (.getfield 109, 3) := by decide +kernel
theorem dX10_stopDigest_56 : decode cX10_stopDigest 56 = .ok (.if_icmp .ge 27, 3) := by decide +kernel
theorem dX10_stopDigest_59 : decode cX10_stopDigest 59 = .ok (.ldc2_w 319, 3) := by decide +kernel
theorem dX10_stopDigest_62 : decode cX10_stopDigest 62 = .ok (.lload 4, 2) := by decide +kernel
theorem dX10_stopDigest_64 : decode cX10_stopDigest 64 = .ok (.lmul, 1) := by decide +kernel
theorem dX10_stopDigest_65 : decode cX10_stopDigest 65 = .ok (.aload_n 0, 1) := by decide +kernel
theorem dX10_stopDigest_66 : decode cX10_stopDigest 66 = .ok (.iload_n 3, 1) := by decide +kernel
theorem dX10_stopDigest_67 : decode cX10_stopDigest 67 = .ok (.iload 6, 2) := by decide +kernel
theorem dX10_stopDigest_69 : decode cX10_stopDigest 69 = .ok (.iconst 0, 1) := by decide +kernel
theorem dX10_stopDigest_70 : decode cX10_stopDigest 70 = .ok (.invokevirtual 224, 3) := by decide +kernel
theorem dX10_stopDigest_73 : decode cX10_stopDigest 73 = .ok (.i2l, 1) := by decide +kernel
theorem dX10_stopDigest_74 : decode cX10_stopDigest 74 = .ok (.ladd, 1) := by decide +kernel
theorem dX10_stopDigest_75 : decode cX10_stopDigest 75 = .ok (.lstore 4, 2) := by decide +kernel
theorem dX10_stopDigest_77 : decode cX10_stopDigest 77 = .ok (.iinc 6 1, 3) := by decide +kernel
theorem dX10_stopDigest_80 : decode cX10_stopDigest 80 = .ok (.goto (-30), 3) := by decide +kernel
theorem dX10_stopDigest_83 : decode cX10_stopDigest 83 = .ok (.lload 4, 2) := by decide +kernel
theorem dX10_stopDigest_85 : decode cX10_stopDigest 85 = .ok (.lreturn, 1) := by decide +kernel
theorem dX10_digest_0 : decode cX10_digest 0 = .ok (.ldc2_w 321, 3) := by decide +kernel
theorem dX10_digest_3 : decode cX10_digest 3 = .ok (.lstore_n 1, 1) := by decide +kernel
theorem dX10_digest_4 : decode cX10_digest 4 = .ok (.iconst 0, 1) := by decide +kernel
theorem dX10_digest_5 : decode cX10_digest 5 = .ok (.istore_n 3, 1) := by decide +kernel
theorem dX10_digest_6 : decode cX10_digest 6 = .ok (.iload_n 3, 1) := by decide +kernel
theorem dX10_digest_7 : decode cX10_digest 7 = .ok (.bipush 8, 2) := by decide +kernel
theorem dX10_digest_9 : decode cX10_digest 9 = .ok (.if_icmp .ge 22, 3) := by decide +kernel
theorem dX10_digest_12 : decode cX10_digest 12 = .ok (.ldc2_w 319, 3) := by decide +kernel
theorem dX10_digest_15 : decode cX10_digest 15 = .ok (.lload_n 1, 1) := by decide +kernel
theorem dX10_digest_16 : decode cX10_digest 16 = .ok (.lmul, 1) := by decide +kernel
theorem dX10_digest_17 : decode cX10_digest 17 = .ok (.aload_n 0, 1) := by decide +kernel
theorem dX10_digest_18 : decode cX10_digest 18 = .ok (.iload_n 3, 1) := by decide +kernel
theorem dX10_digest_19 : decode cX10_digest 19 = .ok (.invokevirtual 323, 3) := by decide +kernel
theorem dX10_digest_22 : decode cX10_digest 22 = .ok (.i2l, 1) := by decide +kernel
theorem dX10_digest_23 : decode cX10_digest 23 = .ok (.ladd, 1) := by decide +kernel
theorem dX10_digest_24 : decode cX10_digest 24 = .ok (.lstore_n 1, 1) := by decide +kernel
theorem dX10_digest_25 : decode cX10_digest 25 = .ok (.iinc 3 1, 3) := by decide +kernel
theorem dX10_digest_28 : decode cX10_digest 28 = .ok (.goto (-22), 3) := by decide +kernel
theorem dX10_digest_31 : decode cX10_digest 31 = .ok (.ldc2_w 319, 3) := by decide +kernel
theorem dX10_digest_34 : decode cX10_digest 34 = .ok (.lload_n 1, 1) := by decide +kernel
theorem dX10_digest_35 : decode cX10_digest 35 = .ok (.lmul, 1) := by decide +kernel
theorem dX10_digest_36 : decode cX10_digest 36 = .ok (.aload_n 0, 1) := by decide +kernel
theorem dX10_digest_37 : decode cX10_digest 37 = .ok (.iconst 0, 1) := by decide +kernel
theorem dX10_digest_38 : decode cX10_digest 38 = .ok (.invokevirtual 127, 3) := by decide +kernel
theorem dX10_digest_41 : decode cX10_digest 41 = .ok (.i2l, 1) := by decide +kernel
theorem dX10_digest_42 : decode cX10_digest 42 = .ok (.ladd, 1) := by decide +kernel
theorem dX10_digest_43 : decode cX10_digest 43 = .ok (.lstore_n 1, 1) := by decide +kernel
theorem dX10_digest_44 : decode cX10_digest 44 = .ok (.ldc2_w 319, 3) := by decide +kernel
theorem dX10_digest_47 : decode cX10_digest 47 = .ok (.lload_n 1, 1) := by decide +kernel
theorem dX10_digest_48 : decode cX10_digest 48 = .ok (.lmul, 1) := by decide +kernel
theorem dX10_digest_49 : decode cX10_digest 49 = .ok (.aload_n 0, 1) := by decide +kernel
theorem dX10_digest_50 : decode cX10_digest 50 = .ok (.iconst 1, 1) := by decide +kernel
theorem dX10_digest_51 : decode cX10_digest 51 = .ok (.invokevirtual 127, 3) := by decide +kernel
theorem dX10_digest_54 : decode cX10_digest 54 = .ok (.i2l, 1) := by decide +kernel
theorem dX10_digest_55 : decode cX10_digest 55 = .ok (.ladd, 1) := by decide +kernel
theorem dX10_digest_56 : decode cX10_digest 56 = .ok (.lstore_n 1, 1) := by decide +kernel
theorem dX10_digest_57 : decode cX10_digest 57 = .ok (.iconst 0, 1) := by decide +kernel
theorem dX10_digest_58 : decode cX10_digest 58 = .ok (.istore_n 3, 1) := by decide +kernel
theorem dX10_digest_59 : decode cX10_digest 59 = .ok (.iload_n 3, 1) := by decide +kernel
theorem dX10_digest_60 : decode cX10_digest 60 = .ok (.aload_n 0, 1) := by decide +kernel
theorem dX10_digest_61 : decode cX10_digest 61 = .ok (.getfield 109, 3) := by decide +kernel
theorem dX10_digest_64 : decode cX10_digest 64 = .ok (.if_icmp .ge 16, 3) := by decide +kernel
theorem dX10_digest_67 : decode cX10_digest 67 = .ok (.aload_n 0, 1) := by decide +kernel
theorem dX10_digest_68 : decode cX10_digest 68 = .ok (.lload_n 1, 1) := by decide +kernel
theorem dX10_digest_69 : decode cX10_digest 69 = .ok (.iload_n 3, 1) := by decide +kernel
theorem dX10_digest_70 : decode cX10_digest 70 = .ok (.invokevirtual 326, 3) := by decide +kernel
theorem dX10_digest_73 : decode cX10_digest 73 = .ok (.lstore_n 1, 1) := by decide +kernel
theorem dX10_digest_74 : decode cX10_digest 74 = .ok (.iinc 3 1, 3) := by decide +kernel
theorem dX10_digest_77 : decode cX10_digest 77 = .ok (.goto (-18), 3) := by decide +kernel
theorem dX10_digest_80 : decode cX10_digest 80 = .ok (.iconst 0, 1) := by decide +kernel
theorem dX10_digest_81 : decode cX10_digest 81 = .ok (.istore_n 3, 1) := by decide +kernel
theorem dX10_digest_82 : decode cX10_digest 82 = .ok (.iload_n 3, 1) := by decide +kernel
theorem dX10_digest_83 : decode cX10_digest 83 = .ok (.aload_n 0, 1) := by decide +kernel
theorem dX10_digest_84 : decode cX10_digest 84 = .ok (.getfield 117, 3) := by decide +kernel
theorem dX10_digest_87 : decode cX10_digest 87 = .ok (.if_icmp .ge 16, 3) := by decide +kernel
theorem dX10_digest_90 : decode cX10_digest 90 = .ok (.aload_n 0, 1) := by decide +kernel
theorem dX10_digest_91 : decode cX10_digest 91 = .ok (.lload_n 1, 1) := by decide +kernel
theorem dX10_digest_92 : decode cX10_digest 92 = .ok (.iload_n 3, 1) := by decide +kernel
theorem dX10_digest_93 : decode cX10_digest 93 = .ok (.invokevirtual 330, 3) := by decide +kernel
theorem dX10_digest_96 : decode cX10_digest 96 = .ok (.lstore_n 1, 1) := by decide +kernel
theorem dX10_digest_97 : decode cX10_digest 97 = .ok (.iinc 3 1, 3) := by decide +kernel
theorem dX10_digest_100 : decode cX10_digest 100 = .ok (.goto (-18), 3) := by decide +kernel
theorem dX10_digest_103 : decode cX10_digest 103 = .ok (.ldc2_w 319, 3) := by decide +kernel
theorem dX10_digest_106 : decode cX10_digest 106 = .ok (.lload_n 1, 1) := by decide +kernel
theorem dX10_digest_107 : decode cX10_digest 107 = .ok (.lmul, 1) := by decide +kernel
theorem dX10_digest_108 : decode cX10_digest 108 = .ok (.aload_n 0, 1) := by decide +kernel
theorem dX10_digest_109 : decode cX10_digest 109 = .ok (.invokevirtual 228, 3) := by decide +kernel
theorem dX10_digest_112 : decode cX10_digest 112 = .ok (.i2l, 1) := by decide +kernel
theorem dX10_digest_113 : decode cX10_digest 113 = .ok (.ladd, 1) := by decide +kernel
theorem dX10_digest_114 : decode cX10_digest 114 = .ok (.lstore_n 1, 1) := by decide +kernel
theorem dX10_digest_115 : decode cX10_digest 115 = .ok (.ldc2_w 319, 3) := by decide +kernel
theorem dX10_digest_118 : decode cX10_digest 118 = .ok (.lload_n 1, 1) := by decide +kernel
theorem dX10_digest_119 : decode cX10_digest 119 = .ok (.lmul, 1) := by decide +kernel
theorem dX10_digest_120 : decode cX10_digest 120 = .ok (.aload_n 0, 1) := by decide +kernel
theorem dX10_digest_121 : decode cX10_digest 121 = .ok (.invokevirtual 234, 3) := by decide +kernel
theorem dX10_digest_124 : decode cX10_digest 124 = .ok (.i2l, 1) := by decide +kernel
theorem dX10_digest_125 : decode cX10_digest 125 = .ok (.ladd, 1) := by decide +kernel
theorem dX10_digest_126 : decode cX10_digest 126 = .ok (.lstore_n 1, 1) := by decide +kernel
theorem dX10_digest_127 : decode cX10_digest 127 = .ok (.ldc2_w 319, 3) := by decide +kernel
theorem dX10_digest_130 : decode cX10_digest 130 = .ok (.lload_n 1, 1) := by decide +kernel
theorem dX10_digest_131 : decode cX10_digest 131 = .ok (.lmul, 1) := by decide +kernel
theorem dX10_digest_132 : decode cX10_digest 132 = .ok (.aload_n 0, 1) := by decide +kernel
theorem dX10_digest_133 : decode cX10_digest 133 = .ok (.invokevirtual 240, 3) := by decide +kernel
theorem dX10_digest_136 : decode cX10_digest 136 = .ok (.i2l, 1) := by decide +kernel
theorem dX10_digest_137 : decode cX10_digest 137 = .ok (.ladd, 1) := by decide +kernel
theorem dX10_digest_138 : decode cX10_digest 138 = .ok (.lstore_n 1, 1) := by decide +kernel
theorem dX10_digest_139 : decode cX10_digest 139 = .ok (.ldc2_w 319, 3) := by decide +kernel
theorem dX10_digest_142 : decode cX10_digest 142 = .ok (.lload_n 1, 1) := by decide +kernel
theorem dX10_digest_143 : decode cX10_digest 143 = .ok (.lmul, 1) := by decide +kernel
theorem dX10_digest_144 : decode cX10_digest 144 = .ok (.aload_n 0, 1) := by decide +kernel
theorem dX10_digest_145 : decode cX10_digest 145 = .ok (.invokevirtual 243, 3) := by decide +kernel
theorem dX10_digest_148 : decode cX10_digest 148 = .ok (.i2l, 1) := by decide +kernel
theorem dX10_digest_149 : decode cX10_digest 149 = .ok (.ladd, 1) := by decide +kernel
theorem dX10_digest_150 : decode cX10_digest 150 = .ok (.lstore_n 1, 1) := by decide +kernel
theorem dX10_digest_151 : decode cX10_digest 151 = .ok (.ldc2_w 319, 3) := by decide +kernel
theorem dX10_digest_154 : decode cX10_digest 154 = .ok (.lload_n 1, 1) := by decide +kernel
theorem dX10_digest_155 : decode cX10_digest 155 = .ok (.lmul, 1) := by decide +kernel
theorem dX10_digest_156 : decode cX10_digest 156 = .ok (.aload_n 0, 1) := by decide +kernel
theorem dX10_digest_157 : decode cX10_digest 157 = .ok (.invokevirtual 246, 3) := by decide +kernel
theorem dX10_digest_160 : decode cX10_digest 160 = .ok (.i2l, 1) := by decide +kernel
theorem dX10_digest_161 : decode cX10_digest 161 = .ok (.ladd, 1) := by decide +kernel
theorem dX10_digest_162 : decode cX10_digest 162 = .ok (.lstore_n 1, 1) := by decide +kernel
theorem dX10_digest_163 : decode cX10_digest 163 = .ok (.aload_n 0, 1) := by decide +kernel
theorem dX10_digest_164 : decode cX10_digest 164 = .ok (.invokevirtual 262, 3) := by decide +kernel
theorem dX10_digest_167 : decode cX10_digest 167 = .ok (.istore_n 3, 1) := by decide +kernel
theorem dX10_digest_168 : decode cX10_digest 168 = .ok (.ldc2_w 319, 3) := by decide +kernel
theorem dX10_digest_171 : decode cX10_digest 171 = .ok (.lload_n 1, 1) := by decide +kernel
theorem dX10_digest_172 : decode cX10_digest 172 = .ok (.lmul, 1) := by decide +kernel
theorem dX10_digest_173 : decode cX10_digest 173 = .ok (.iload_n 3, 1) := by decide +kernel
theorem dX10_digest_174 : decode cX10_digest 174 = .ok (.i2l, 1) := by decide +kernel
theorem dX10_digest_175 : decode cX10_digest 175 = .ok (.ladd, 1) := by decide +kernel
theorem dX10_digest_176 : decode cX10_digest 176 = .ok (.lstore_n 1, 1) := by decide +kernel
theorem dX10_digest_177 : decode cX10_digest 177 = .ok (.iconst 0, 1) := by decide +kernel
theorem dX10_digest_178 : decode cX10_digest 178 = .ok (.istore 4, 2) := by decide +kernel
theorem dX10_digest_180 : decode cX10_digest 180 = .ok (.iload 4, 2) := by decide +kernel
theorem dX10_digest_182 : decode cX10_digest 182 = .ok (.iconst 3, 1) := by decide +kernel
theorem dX10_digest_183 : decode cX10_digest 183 = .ok (.if_icmp .ge 37, 3) := by decide +kernel
theorem dX10_digest_186 : decode cX10_digest 186 = .ok (.ldc2_w 319, 3) := by decide +kernel
theorem dX10_digest_189 : decode cX10_digest 189 = .ok (.lload_n 1, 1) := by decide +kernel
theorem dX10_digest_190 : decode cX10_digest 190 = .ok (.lmul, 1) := by decide +kernel
theorem dX10_digest_191 : decode cX10_digest 191 = .ok (.iload 4, 2) := by decide +kernel
theorem dX10_digest_193 : decode cX10_digest 193 = .ok (.aload_n 0, 1) := by decide +kernel
theorem dX10_digest_194 : decode cX10_digest 194 = .ok (.getfield 109, 3) := by decide +kernel
theorem dX10_digest_197 : decode cX10_digest 197 = .ok (.if_icmp .ge 13, 3) := by decide +kernel
theorem dX10_digest_200 : decode cX10_digest 200 = .ok (.aload_n 0, 1) := by decide +kernel
theorem dX10_digest_201 : decode cX10_digest 201 = .ok (.getfield 67, 3) := by decide +kernel
theorem dX10_digest_204 : decode cX10_digest 204 = .ok (.iload 4, 2) := by decide +kernel
theorem dX10_digest_206 : decode cX10_digest 206 = .ok (.iaload, 1) := by decide +kernel
theorem dX10_digest_207 : decode cX10_digest 207 = .ok (.goto 4, 3) := by decide +kernel
theorem dX10_digest_210 : decode cX10_digest 210 = .ok (.iconst (-1), 1) := by decide +kernel
theorem dX10_digest_211 : decode cX10_digest 211 = .ok (.i2l, 1) := by decide +kernel
theorem dX10_digest_212 : decode cX10_digest 212 = .ok (.ladd, 1) := by decide +kernel
theorem dX10_digest_213 : decode cX10_digest 213 = .ok (.lstore_n 1, 1) := by decide +kernel
theorem dX10_digest_214 : decode cX10_digest 214 = .ok (.iinc 4 1, 3) := by decide +kernel
theorem dX10_digest_217 : decode cX10_digest 217 = .ok (.goto (-37), 3) := by decide +kernel
theorem dX10_digest_220 : decode cX10_digest 220 = .ok (.ldc2_w 319, 3) := by decide +kernel
theorem dX10_digest_223 : decode cX10_digest 223 = .ok (.lload_n 1, 1) := by decide +kernel
theorem dX10_digest_224 : decode cX10_digest 224 = .ok (.lmul, 1) := by decide +kernel
theorem dX10_digest_225 : decode cX10_digest 225 = .ok (.aload_n 0, 1) := by decide +kernel
theorem dX10_digest_226 : decode cX10_digest 226 = .ok (.invokevirtual 280, 3) := by decide +kernel
theorem dX10_digest_229 : decode cX10_digest 229 = .ok (.i2l, 1) := by decide +kernel
theorem dX10_digest_230 : decode cX10_digest 230 = .ok (.ladd, 1) := by decide +kernel
theorem dX10_digest_231 : decode cX10_digest 231 = .ok (.lstore_n 1, 1) := by decide +kernel
theorem dX10_digest_232 : decode cX10_digest 232 = .ok (.ldc2_w 319, 3) := by decide +kernel
theorem dX10_digest_235 : decode cX10_digest 235 = .ok (.lload_n 1, 1) := by decide +kernel
theorem dX10_digest_236 : decode cX10_digest 236 = .ok (.lmul, 1) := by decide +kernel
theorem dX10_digest_237 : decode cX10_digest 237 = .ok (.aload_n 0, 1) := by decide +kernel
theorem dX10_digest_238 : decode cX10_digest 238 = .ok (.bipush 7, 2) := by decide +kernel
theorem dX10_digest_240 : decode cX10_digest 240 = .ok (.bipush 15, 2) := by decide +kernel
theorem dX10_digest_242 : decode cX10_digest 242 = .ok (.iconst 0, 1) := by decide +kernel
theorem dX10_digest_243 : decode cX10_digest 243 = .ok (.invokevirtual 302, 3) := by decide +kernel
theorem dX10_digest_246 : decode cX10_digest 246 = .ok (.i2l, 1) := by decide +kernel
theorem dX10_digest_247 : decode cX10_digest 247 = .ok (.ladd, 1) := by decide +kernel
theorem dX10_digest_248 : decode cX10_digest 248 = .ok (.lstore_n 1, 1) := by decide +kernel
theorem dX10_digest_249 : decode cX10_digest 249 = .ok (.ldc2_w 319, 3) := by decide +kernel
theorem dX10_digest_252 : decode cX10_digest 252 = .ok (.lload_n 1, 1) := by decide +kernel
theorem dX10_digest_253 : decode cX10_digest 253 = .ok (.lmul, 1) := by decide +kernel
theorem dX10_digest_254 : decode cX10_digest 254 = .ok (.aload_n 0, 1) := by decide +kernel
theorem dX10_digest_255 : decode cX10_digest 255 = .ok (.bipush 7, 2) := by decide +kernel
theorem dX10_digest_257 : decode cX10_digest 257 = .ok (.bipush 15, 2) := by decide +kernel
theorem dX10_digest_259 : decode cX10_digest 259 = .ok (.iconst 1, 1) := by decide +kernel
theorem dX10_digest_260 : decode cX10_digest 260 = .ok (.invokevirtual 302, 3) := by decide +kernel
theorem dX10_digest_263 : decode cX10_digest 263 = .ok (.i2l, 1) := by decide +kernel
theorem dX10_digest_264 : decode cX10_digest 264 = .ok (.ladd, 1) := by decide +kernel
theorem dX10_digest_265 : decode cX10_digest 265 = .ok (.lreturn, 1) := by decide +kernel
