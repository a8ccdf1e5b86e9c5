theorem dX10_init_0 : decode cX10_init 0 = .ok (.aload_n 0, 1) := by decide +kernel
theorem dX10_init_1 : decode cX10_init 1 = .ok (.invokespecial 1, 3) := by decide +kernel
theorem dX10_init_4 : decode cX10_init 4 = .ok (.aload_n 0, 1) := by decide +kernel
theorem dX10_init_5 : decode cX10_init 5 = .ok (.bipush 6, 2) := by decide +kernel
theorem dX10_init_7 : decode cX10_init 7 = .ok (.anewarray 9, 3) := by decide +kernel
theorem dX10_init_10 : decode cX10_init 10 = .ok (.putfield 11, 3) := by decide +kernel
theorem dX10_init_13 : decode cX10_init 13 = .ok (.iconst 0, 1) := by decide +kernel
theorem dX10_init_14 : decode cX10_init 14 = .ok (.istore_n 1, 1) := by decide +kernel
theorem dX10_init_15 : decode cX10_init 15 = .ok (.iload_n 1, 1) := by decide +kernel
theorem dX10_init_16 : decode cX10_init 16 = .ok (.bipush 6, 2) := by decide +kernel
theorem dX10_init_18 : decode cX10_init 18 = .ok (.if_icmp .ge 22, 3) := by decide +kernel
theorem dX10_init_21 : decode cX10_init 21 = .ok (.aload_n 0, 1) := by decide +kernel
theorem dX10_init_22 : decode cX10_init 22 = .ok (.getfield 11, 3) := by decide +kernel
theorem dX10_init_25 : decode cX10_init 25 = .ok (.iload_n 1, 1) := by decide +kernel
theorem dX10_init_26 : decode cX10_init 26 = .ok (.new 9, 3) := by decide +kernel
theorem dX10_init_29 : decode cX10_init 29 = .ok (.dup, 1) := by decide +kernel
theorem dX10_init_30 : decode cX10_init 30 = .ok (.invokespecial 15, 3) := by decide +kernel
theorem dX10_init_33 : decode cX10_init 33 = .ok (.aastore, 1) := by decide +kernel
theorem dX10_init_34 : decode cX10_init 34 = .ok (.iinc 1 1, 3) := by decide +kernel
theorem dX10_init_37 : decode cX10_init 37 = .ok (.goto (-22), 3) := by decide +kernel
theorem dX10_init_40 : decode cX10_init 40 = .ok (.aload_n 0, 1) := by decide +kernel
theorem dX10_init_41 : decode cX10_init 41 = .ok (.iconst 4, 1) := by decide +kernel
theorem dX10_init_42 : decode cX10_init 42 = .ok (.anewarray 16, 3) := by decide +kernel
theorem dX10_init_45 : decode cX10_init 45 = .ok (.putfield 18, 3) := by decide +kernel
theorem dX10_init_48 : decode cX10_init 48 = .ok (.iconst 0, 1) := by decide +kernel
theorem dX10_init_49 : decode cX10_init 49 = .ok (.istore_n 1, 1) := by decide +kernel
theorem dX10_init_50 : decode cX10_init 50 = .ok (.iload_n 1, 1) := by decide +kernel
theorem dX10_init_51 : decode cX10_init 51 = .ok (.iconst 4, 1) := by decide +kernel
theorem dX10_init_52 : decode cX10_init 52 = .ok (.if_icmp .ge 22, 3) := by decide +kernel
theorem dX10_init_55 : decode cX10_init 55 = .ok (.aload_n 0, 1) := by decide +kernel
theorem dX10_init_56 : decode cX10_init 56 = .ok (.getfield 18, 3) := by decide +kernel
theorem dX10_init_59 : decode cX10_init 59 = .ok (.iload_n 1, 1) := by decide +kernel
theorem dX10_init_60 : decode cX10_init 60 = .ok (.new 16, 3) := by decide +kernel
theorem dX10_init_63 : decode cX10_init 63 = .ok (.dup, 1) := by decide +kernel
theorem dX10_init_64 : decode cX10_init 64 = .ok (.invokespecial 22, 3) := by decide +kernel
theorem dX10_init_67 : decode cX10_init 67 = .ok (.aastore, 1) := by decide +kernel
theorem dX10_init_68 : decode cX10_init 68 = .ok (.iinc 1 1, 3) := by decide +kernel
theorem dX10_init_71 : decode cX10_init 71 = .ok (.goto (-21), 3) := by decide +kernel
theorem dX10_init_74 : decode cX10_init 74 = .ok (.aload_n 0, 1) := by decide +kernel
theorem dX10_init_75 : decode cX10_init 75 = .ok (.new 23, 3) := by decide +kernel
theorem dX10_init_78 : decode cX10_init 78 = .ok (.dup, 1) := by decide +kernel
theorem dX10_init_79 : decode cX10_init 79 = .ok (.invokespecial 25, 3) := by decide +kernel
theorem dX10_init_82 : decode cX10_init 82 = .ok (.putfield 26, 3) := by decide +kernel
theorem dX10_init_85 : decode cX10_init 85 = .ok (.aload_n 0, 1) := by decide +kernel
theorem dX10_init_86 : decode cX10_init 86 = .ok (.new 30, 3) := by decide +kernel
theorem dX10_init_89 : decode cX10_init 89 = .ok (.dup, 1) := by decide +kernel
theorem dX10_init_90 : decode cX10_init 90 = .ok (.aload_n 0, 1) := by decide +kernel
theorem dX10_init_91 : decode cX10_init 91 = .ok (.getfield 26, 3) := by decide +kernel
theorem dX10_init_94 : decode cX10_init 94 = .ok (.invokespecial 32, 3) := by decide +kernel
theorem dX10_init_97 : decode cX10_init 97 = .ok (.putfield 35, 3) := by decide +kernel
theorem dX10_init_100 : decode cX10_init 100 = .ok (.aload_n 0, 1) := by decide +kernel
theorem dX10_init_101 : decode cX10_init 101 = .ok (.iconst 3, 1) := by decide +kernel
theorem dX10_init_102 : decode cX10_init 102 = .ok (.anewarray 30, 3) := by decide +kernel
theorem dX10_init_105 : decode cX10_init 105 = .ok (.putfield 39, 3) := by decide +kernel
theorem dX10_init_108 : decode cX10_init 108 = .ok (.iconst 0, 1) := by decide +kernel
theorem dX10_init_109 : decode cX10_init 109 = .ok (.istore_n 1, 1) := by decide +kernel
theorem dX10_init_110 : decode cX10_init 110 = .ok (.iload_n 1, 1) := by decide +kernel
theorem dX10_init_111 : decode cX10_init 111 = .ok (.iconst 3, 1) := by decide +kernel
theorem dX10_init_112 : decode cX10_init 112 = .ok (.if_icmp .ge 26, 3) := by decide +kernel
theorem dX10_init_115 : decode cX10_init 115 = .ok (.aload_n 0, 1) := by decide +kernel
theorem dX10_init_116 : decode cX10_init 116 = .ok (.getfield 39, 3) := by decide +kernel
theorem dX10_init_119 : decode cX10_init 119 = .ok (.iload_n 1, 1) := by decide +kernel
theorem dX10_init_120 : decode cX10_init 120 = .ok (.new 30, 3) := by decide +kernel
theorem dX10_init_123 : decode cX10_init 123 = .ok (.dup, 1) := by decide +kernel
theorem dX10_init_124 : decode cX10_init 124 = .ok (.aload_n 0, 1) := by decide +kernel
theorem dX10_init_125 : decode cX10_init 125 = .ok (.getfield 26, 3) := by decide +kernel
theorem dX10_init_128 : decode cX10_init 128 = .ok (.invokespecial 32, 3) := by decide +kernel
theorem dX10_init_131 : decode cX10_init 131 = .ok (.aastore, 1) := by decide +kernel
theorem dX10_init_132 : decode cX10_init 132 = .ok (.iinc 1 1, 3) := by decide +kernel
theorem dX10_init_135 : decode cX10_init 135 = .ok (.goto (-25), 3) := by decide +kernel
theorem dX10_init_138 : decode cX10_init 138 = .ok (.aload_n 0, 1) := by decide +kernel
theorem dX10_init_139 : decode cX10_init 139 = .ok (.new 43, 3) := by decide +kernel
theorem dX10_init_142 : decode cX10_init 142 = .ok (.dup, 1) := by decide +kernel
theorem dX10_init_143 : decode cX10_init 143 = .ok (.invokespecial 45, 3) := by decide +kernel
theorem dX10_init_146 : decode cX10_init 146 = .ok (.putfield 46, 3) := by decide +kernel
theorem dX10_init_149 : decode cX10_init 149 = .ok (.aload_n 0, 1) := by decide +kernel
theorem dX10_init_150 : decode cX10_init 150 = .ok (.new 23, 3) := by decide +kernel
theorem dX10_init_153 : decode cX10_init 153 = .ok (.dup, 1) := by decide +kernel
theorem dX10_init_154 : decode cX10_init 154 = .ok (.invokespecial 25, 3) := by decide +kernel
theorem dX10_init_157 : decode cX10_init 157 = .ok (.putfield 50, 3) := by decide +kernel
theorem dX10_init_160 : decode cX10_init 160 = .ok (.aload_n 0, 1) := by decide +kernel
theorem dX10_init_161 : decode cX10_init 161 = .ok (.new 53, 3) := by decide +kernel
theorem dX10_init_164 : decode cX10_init 164 = .ok (.dup, 1) := by decide +kernel
theorem dX10_init_165 : decode cX10_init 165 = .ok (.aload_n 0, 1) := by decide +kernel
theorem dX10_init_166 : decode cX10_init 166 = .ok (.getfield 50, 3) := by decide +kernel
theorem dX10_init_169 : decode cX10_init 169 = .ok (.invokespecial 55, 3) := by decide +kernel
theorem dX10_init_172 : decode cX10_init 172 = .ok (.putfield 56, 3) := by decide +kernel
theorem dX10_init_175 : decode cX10_init 175 = .ok (.aload_n 0, 1) := by decide +kernel
theorem dX10_init_176 : decode cX10_init 176 = .ok (.new 53, 3) := by decide +kernel
theorem dX10_init_179 : decode cX10_init 179 = .ok (.dup, 1) := by decide +kernel
theorem dX10_init_180 : decode cX10_init 180 = .ok (.aload_n 0, 1) := by decide +kernel
theorem dX10_init_181 : decode cX10_init 181 = .ok (.getfield 26, 3) := by decide +kernel
theorem dX10_init_184 : decode cX10_init 184 = .ok (.invokespecial 55, 3) := by decide +kernel
theorem dX10_init_187 : decode cX10_init 187 = .ok (.putfield 60, 3) := by decide +kernel
theorem dX10_init_190 : decode cX10_init 190 = .ok (.aload_n 0, 1) := by decide +kernel
theorem dX10_init_191 : decode cX10_init 191 = .ok (.new 63, 3) := by decide +kernel
theorem dX10_init_194 : decode cX10_init 194 = .ok (.dup, 1) := by decide +kernel
theorem dX10_init_195 : decode cX10_init 195 = .ok (.aload_n 0, 1) := by decide +kernel
theorem dX10_init_196 : decode cX10_init 196 = .ok (.getfield 26, 3) := by decide +kernel
theorem dX10_init_199 : decode cX10_init 199 = .ok (.invokespecial 65, 3) := by decide +kernel
theorem dX10_init_202 : decode cX10_init 202 = .ok (.putfield 66, 3) := by decide +kernel
theorem dX10_init_205 : decode cX10_init 205 = .ok (.aload_n 0, 1) := by decide +kernel
theorem dX10_init_206 : decode cX10_init 206 = .ok (.new 70, 3) := by decide +kernel
theorem dX10_init_209 : decode cX10_init 209 = .ok (.dup, 1) := by decide +kernel
theorem dX10_init_210 : decode cX10_init 210 = .ok (.aload_n 0, 1) := by decide +kernel
theorem dX10_init_211 : decode cX10_init 211 = .ok (.getfield 26, 3) := by decide +kernel
theorem dX10_init_214 : decode cX10_init 214 = .ok (.invokespecial 72, 3) := by decide +kernel
theorem dX10_init_217 : decode cX10_init 217 = .ok (.putfield 73, 3) := by decide +kernel
theorem dX10_init_220 : decode cX10_init 220 = .ok (.aload_n 0, 1) := by decide +kernel
theorem dX10_init_221 : decode cX10_init 221 = .ok (.new 77, 3) := by decide +kernel
theorem dX10_init_224 : decode cX10_init 224 = .ok (.dup, 1) := by decide +kernel
theorem dX10_init_225 : decode cX10_init 225 = .ok (.aload_n 0, 1) := by decide +kernel
theorem dX10_init_226 : decode cX10_init 226 = .ok (.getfield 26, 3) := by decide +kernel
theorem dX10_init_229 : decode cX10_init 229 = .ok (.invokespecial 79, 3) := by decide +kernel
theorem dX10_init_232 : decode cX10_init 232 = .ok (.putfield 80, 3) := by decide +kernel
theorem dX10_init_235 : decode cX10_init 235 = .ok (.aload_n 0, 1) := by decide +kernel
theorem dX10_init_236 : decode cX10_init 236 = .ok (.bipush 6, 2) := by decide +kernel
theorem dX10_init_238 : decode cX10_init 238 = .ok (.newarray .int, 2) := by decide +kernel
theorem dX10_init_240 : decode cX10_init 240 = .ok (.putfield 84, 3) := by decide +kernel
theorem dX10_init_243 : decode cX10_init 243 = .ok (.aload_n 0, 1) := by decide +kernel
theorem dX10_init_244 : decode cX10_init 244 = .ok (.iconst 0, 1) := by decide +kernel
theorem dX10_init_245 : decode cX10_init 245 = .ok (.putfield 88, 3) := by decide +kernel
theorem dX10_init_248 : decode cX10_init 248 = .ok (.aload_n 0, 1) := by decide +kernel
theorem dX10_init_249 : decode cX10_init 249 = .ok (.iconst 0, 1) := by decide +kernel
theorem dX10_init_250 : decode cX10_init 250 = .ok (.putfield 92, 3) := by decide +kernel
theorem dX10_init_253 : decode cX10_init 253 = .ok (.aload_n 0, 1) := by decide +kernel
theorem dX10_init_254 : decode cX10_init 254 = .ok (.lconst 0, 1) := by decide +kernel
theorem dX10_init_255 : decode cX10_init 255 = .ok (.putfield 95, 3) := by decide +kernel
theorem dX10_init_258 : decode cX10_init 258 = .ok (.aload_n 0, 1) := by decide +kernel
theorem dX10_init_259 : decode cX10_init 259 = .ok (.lconst 1, 1) := by decide +kernel
theorem dX10_init_260 : decode cX10_init 260 = .ok (.putfield 99, 3) := by decide +kernel
theorem dX10_init_263 : decode cX10_init 263 = .ok (.return_, 1) := by decide +kernel
theorem dX10_row_0 : decode cX10_row 0 = .ok (.iload_n 1, 1) := by decide +kernel
theorem dX10_row_1 : decode cX10_row 1 = .ok (.invokestatic 102, 3) := by decide +kernel
theorem dX10_row_4 : decode cX10_row 4 = .ok (.ifCond .eq 9, 3) := by decide +kernel
theorem dX10_row_7 : decode cX10_row 7 = .ok (.iload_n 2, 1) := by decide +kernel
theorem dX10_row_8 : decode cX10_row 8 = .ok (.bipush 40, 2) := by decide +kernel
theorem dX10_row_10 : decode cX10_row 10 = .ok (.if_icmp .le 5, 3) := by decide +kernel
theorem dX10_row_13 : decode cX10_row 13 = .ok (.iconst (-1), 1) := by decide +kernel
theorem dX10_row_14 : decode cX10_row 14 = .ok (.ireturn, 1) := by decide +kernel
theorem dX10_row_15 : decode cX10_row 15 = .ok (.iload_n 2, 1) := by decide +kernel
theorem dX10_row_16 : decode cX10_row 16 = .ok (.ifCond .ge 9, 3) := by decide +kernel
theorem dX10_row_19 : decode cX10_row 19 = .ok (.aload_n 0, 1) := by decide +kernel
theorem dX10_row_20 : decode cX10_row 20 = .ok (.iconst 5, 1) := by decide +kernel
theorem dX10_row_21 : decode cX10_row 21 = .ok (.invokevirtual 106, 3) := by decide +kernel
theorem dX10_row_24 : decode cX10_row 24 = .ok (.ireturn, 1) := by decide +kernel
theorem dX10_row_25 : decode cX10_row 25 = .ok (.aload_n 0, 1) := by decide +kernel
theorem dX10_row_26 : decode cX10_row 26 = .ok (.getfield 11, 3) := by decide +kernel
theorem dX10_row_29 : decode cX10_row 29 = .ok (.iload_n 1, 1) := by decide +kernel
theorem dX10_row_30 : decode cX10_row 30 = .ok (.aaload, 1) := by decide +kernel
theorem dX10_row_31 : decode cX10_row 31 = .ok (.iload_n 2, 1) := by decide +kernel
theorem dX10_row_32 : decode cX10_row 32 = .ok (.invokevirtual 110, 3) := by decide +kernel
theorem dX10_row_35 : decode cX10_row 35 = .ok (.iload_n 2, 1) := by decide +kernel
theorem dX10_row_36 : decode cX10_row 36 = .ok (.ireturn, 1) := by decide +kernel
theorem dX10_lay_0 : decode cX10_lay 0 = .ok (.iload_n 1, 1) := by decide +kernel
theorem dX10_lay_1 : decode cX10_lay 1 = .ok (.invokestatic 102, 3) := by decide +kernel
theorem dX10_lay_4 : decode cX10_lay 4 = .ok (.ifCond .ne 5, 3) := by decide +kernel
theorem dX10_lay_7 : decode cX10_lay 7 = .ok (.iconst (-1), 1) := by decide +kernel
theorem dX10_lay_8 : decode cX10_lay 8 = .ok (.ireturn, 1) := by decide +kernel
theorem dX10_lay_9 : decode cX10_lay 9 = .ok (.aload_n 0, 1) := by decide +kernel
theorem dX10_lay_10 : decode cX10_lay 10 = .ok (.getfield 11, 3) := by decide +kernel
theorem dX10_lay_13 : decode cX10_lay 13 = .ok (.iload_n 1, 1) := by decide +kernel
theorem dX10_lay_14 : decode cX10_lay 14 = .ok (.aaload, 1) := by decide +kernel
theorem dX10_lay_15 : decode cX10_lay 15 = .ok (.astore 4, 2) := by decide +kernel
theorem dX10_lay_17 : decode cX10_lay 17 = .ok (.aload 4, 2) := by decide +kernel
theorem dX10_lay_19 : decode cX10_lay 19 = .ok (.iload_n 2, 1) := by decide +kernel
theorem dX10_lay_20 : decode cX10_lay 20 = .ok (.invokevirtual 114, 3) := by decide +kernel
theorem dX10_lay_23 : decode cX10_lay 23 = .ok (.istore 5, 2) := by decide +kernel
theorem dX10_lay_25 : decode cX10_lay 25 = .ok (.iload 5, 2) := by decide +kernel
theorem dX10_lay_27 : decode cX10_lay 27 = .ok (.ifCond .eq 10, 3) := by decide +kernel
theorem dX10_lay_30 : decode cX10_lay 30 = .ok (.aload_n 0, 1) := by decide +kernel
theorem dX10_lay_31 : decode cX10_lay 31 = .ok (.iload 5, 2) := by decide +kernel
theorem dX10_lay_33 : decode cX10_lay 33 = .ok (.invokevirtual 106, 3) := by decide +kernel
theorem dX10_lay_36 : decode cX10_lay 36 = .ok (.ireturn, 1) := by decide +kernel
theorem dX10_lay_37 : decode cX10_lay 37 = .ok (.aload_n 0, 1) := by decide +kernel
theorem dX10_lay_38 : decode cX10_lay 38 = .ok (.aload 4, 2) := by decide +kernel
theorem dX10_lay_40 : decode cX10_lay 40 = .ok (.iload_n 2, 1) := by decide +kernel
theorem dX10_lay_41 : decode cX10_lay 41 = .ok (.invokevirtual 117, 3) := by decide +kernel
theorem dX10_lay_44 : decode cX10_lay 44 = .ok (.putfield 92, 3) := by decide +kernel
theorem dX10_lay_47 : decode cX10_lay 47 = .ok (.aload 4, 2) := by decide +kernel
theorem dX10_lay_49 : decode cX10_lay 49 = .ok (.iload_n 2, 1) := by decide +kernel
theorem dX10_lay_50 : decode cX10_lay 50 = .ok (.iload_n 3, 1) := by decide +kernel
theorem dX10_lay_51 : decode cX10_lay 51 = .ok (.invokevirtual 120, 3) := by decide +kernel
theorem dX10_lay_54 : decode cX10_lay 54 = .ok (.iconst 1, 1) := by decide +kernel
theorem dX10_lay_55 : decode cX10_lay 55 = .ok (.ireturn, 1) := by decide +kernel
theorem dX10_at_0 : decode cX10_at 0 = .ok (.iload_n 1, 1) := by decide +kernel
theorem dX10_at_1 : decode cX10_at 1 = .ok (.invokestatic 102, 3) := by decide +kernel
theorem dX10_at_4 : decode cX10_at 4 = .ok (.ifCond .ne 5, 3) := by decide +kernel
theorem dX10_at_7 : decode cX10_at 7 = .ok (.iconst (-1), 1) := by decide +kernel
theorem dX10_at_8 : decode cX10_at 8 = .ok (.ireturn, 1) := by decide +kernel
theorem dX10_at_9 : decode cX10_at 9 = .ok (.aload_n 0, 1) := by decide +kernel
theorem dX10_at_10 : decode cX10_at 10 = .ok (.getfield 11, 3) := by decide +kernel
theorem dX10_at_13 : decode cX10_at 13 = .ok (.iload_n 1, 1) := by decide +kernel
theorem dX10_at_14 : decode cX10_at 14 = .ok (.aaload, 1) := by decide +kernel
theorem dX10_at_15 : decode cX10_at 15 = .ok (.iload_n 2, 1) := by decide +kernel
theorem dX10_at_16 : decode cX10_at 16 = .ok (.invokevirtual 114, 3) := by decide +kernel
theorem dX10_at_19 : decode cX10_at 19 = .ok (.istore_n 3, 1) := by decide +kernel
theorem dX10_at_20 : decode cX10_at 20 = .ok (.iload_n 3, 1) := by decide +kernel
theorem dX10_at_21 : decode cX10_at 21 = .ok (.ifCond .eq 9, 3) := by decide +kernel
theorem dX10_at_24 : decode cX10_at 24 = .ok (.aload_n 0, 1) := by decide +kernel
theorem dX10_at_25 : decode cX10_at 25 = .ok (.iload_n 3, 1) := by decide +kernel
theorem dX10_at_26 : decode cX10_at 26 = .ok (.invokevirtual 106, 3) := by decide +kernel
theorem dX10_at_29 : decode cX10_at 29 = .ok (.ireturn, 1) := by decide +kernel
theorem dX10_at_30 : decode cX10_at 30 = .ok (.aload_n 0, 1) := by decide +kernel
theorem dX10_at_31 : decode cX10_at 31 = .ok (.aload_n 0, 1) := by decide +kernel
theorem dX10_at_32 : decode cX10_at 32 = .ok (.getfield 11, 3) := by decide +kernel
theorem dX10_at_35 : decode cX10_at 35 = .ok (.iload_n 1, 1) := by decide +kernel
theorem dX10_at_36 : decode cX10_at 36 = .ok (.aaload, 1) := by decide +kernel
theorem dX10_at_37 : decode cX10_at 37 = .ok (.iload_n 2, 1) := by decide +kernel
theorem dX10_at_38 : decode cX10_at 38 = .ok (.invokevirtual 117, 3) := by decide +kernel
theorem dX10_at_41 : decode cX10_at 41 = .ok (.putfield 92, 3) := by decide +kernel
theorem dX10_at_44 : decode cX10_at 44 = .ok (.iconst 1, 1) := by decide +kernel
theorem dX10_at_45 : decode cX10_at 45 = .ok (.ireturn, 1) := by decide +kernel
theorem dX10_tear_0 : decode cX10_tear 0 = .ok (.iload_n 1, 1) := by decide +kernel
theorem dX10_tear_1 : decode cX10_tear 1 = .ok (.invokestatic 102, 3) := by decide +kernel
theorem dX10_tear_4 : decode cX10_tear 4 = .ok (.ifCond .ne 5, 3) := by decide +kernel
theorem dX10_tear_7 : decode cX10_tear 7 = .ok (.iconst (-1), 1) := by decide +kernel
theorem dX10_tear_8 : decode cX10_tear 8 = .ok (.ireturn, 1) := by decide +kernel
theorem dX10_tear_9 : decode cX10_tear 9 = .ok (.aload_n 0, 1) := by decide +kernel
theorem dX10_tear_10 : decode cX10_tear 10 = .ok (.getfield 11, 3) := by decide +kernel
theorem dX10_tear_13 : decode cX10_tear 13 = .ok (.iload_n 1, 1) := by decide +kernel
theorem dX10_tear_14 : decode cX10_tear 14 = .ok (.aaload, 1) := by decide +kernel
theorem dX10_tear_15 : decode cX10_tear 15 = .ok (.invokevirtual 124, 3) := by decide +kernel
theorem dX10_tear_18 : decode cX10_tear 18 = .ok (.ifCond .ne 9, 3) := by decide +kernel
theorem dX10_tear_21 : decode cX10_tear 21 = .ok (.aload_n 0, 1) := by decide +kernel
theorem dX10_tear_22 : decode cX10_tear 22 = .ok (.iconst 1, 1) := by decide +kernel
theorem dX10_tear_23 : decode cX10_tear 23 = .ok (.invokevirtual 106, 3) := by decide +kernel
theorem dX10_tear_26 : decode cX10_tear 26 = .ok (.ireturn, 1) := by decide +kernel
theorem dX10_tear_27 : decode cX10_tear 27 = .ok (.aload_n 0, 1) := by decide +kernel
theorem dX10_tear_28 : decode cX10_tear 28 = .ok (.getfield 11, 3) := by decide +kernel
theorem dX10_tear_31 : decode cX10_tear 31 = .ok (.iload_n 1, 1) := by decide +kernel
theorem dX10_tear_32 : decode cX10_tear 32 = .ok (.aaload, 1) := by decide +kernel
theorem dX10_tear_33 : decode cX10_tear 33 = .ok (.invokevirtual 128, 3) := by decide +kernel
theorem dX10_tear_36 : decode cX10_tear 36 = .ok (.iconst 1, 1) := by decide +kernel
theorem dX10_tear_37 : decode cX10_tear 37 = .ok (.ireturn, 1) := by decide +kernel
theorem dX10_copy_0 : decode cX10_copy 0 = .ok (.iload_n 1, 1) := by decide +kernel
theorem dX10_copy_1 : decode cX10_copy 1 = .ok (.invokestatic 102, 3) := by decide +kernel
theorem dX10_copy_4 : decode cX10_copy 4 = .ok (.ifCond .eq 10, 3) := by decide +kernel
theorem dX10_copy_7 : decode cX10_copy 7 = .ok (.iload_n 3, 1) := by decide +kernel
theorem dX10_copy_8 : decode cX10_copy 8 = .ok (.invokestatic 102, 3) := by decide +kernel
theorem dX10_copy_11 : decode cX10_copy 11 = .ok (.ifCond .ne 5, 3) := by decide +kernel
theorem dX10_copy_14 : decode cX10_copy 14 = .ok (.iconst (-1), 1) := by decide +kernel
theorem dX10_copy_15 : decode cX10_copy 15 = .ok (.ireturn, 1) := by decide +kernel
theorem dX10_copy_16 : decode cX10_copy 16 = .ok (.iload 5, 2) := by decide +kernel
theorem dX10_copy_18 : decode cX10_copy 18 = .ok (.ifCond .ge 9, 3) := by decide +kernel
theorem dX10_copy_21 : decode cX10_copy 21 = .ok (.aload_n 0, 1) := by decide +kernel
theorem dX10_copy_22 : decode cX10_copy 22 = .ok (.iconst 5, 1) := by decide +kernel
theorem dX10_copy_23 : decode cX10_copy 23 = .ok (.invokevirtual 106, 3) := by decide +kernel
theorem dX10_copy_26 : decode cX10_copy 26 = .ok (.ireturn, 1) := by decide +kernel
theorem dX10_copy_27 : decode cX10_copy 27 = .ok (.aload_n 0, 1) := by decide +kernel
theorem dX10_copy_28 : decode cX10_copy 28 = .ok (.getfield 11, 3) := by decide +kernel
theorem dX10_copy_31 : decode cX10_copy 31 = .ok (.iload_n 1, 1) := by decide +kernel
theorem dX10_copy_32 : decode cX10_copy 32 = .ok (.aaload, 1) := by decide +kernel
theorem dX10_copy_33 : decode cX10_copy 33 = .ok (.invokevirtual 124, 3) := by decide +kernel
theorem dX10_copy_36 : decode cX10_copy 36 = .ok (.ifCond .eq 15, 3) := by decide +kernel
theorem dX10_copy_39 : decode cX10_copy 39 = .ok (.aload_n 0, 1) := by decide +kernel
theorem dX10_copy_40 : decode cX10_copy 40 = .ok (.getfield 11, 3) := by decide +kernel
theorem dX10_copy_43 : decode cX10_copy 43 = .ok (.iload_n 3, 1) := by decide +kernel
theorem dX10_copy_44 : decode cX10_copy 44 = .ok (.aaload, 1) := by decide +kernel
theorem dX10_copy_45 : decode cX10_copy 45 = .ok (.invokevirtual 124, 3) := by decide +kernel
theorem dX10_copy_48 : decode cX10_copy 48 = .ok (.ifCond .ne 9, 3) := by decide +kernel
theorem dX10_copy_51 : decode cX10_copy 51 = .ok (.aload_n 0, 1) := by decide +kernel
theorem dX10_copy_52 : decode cX10_copy 52 = .ok (.iconst 1, 1) := by decide +kernel
theorem dX10_copy_53 : decode cX10_copy 53 = .ok (.invokevirtual 106, 3) := by decide +kernel
theorem dX10_copy_56 : decode cX10_copy 56 = .ok (.ireturn, 1) := by decide +kernel
theorem dX10_copy_57 : decode cX10_copy 57 = .ok (.aload_n 0, 1) := by decide +kernel
theorem dX10_copy_58 : decode cX10_copy 58 = .ok (.getfield 11, 3) := by decide +kernel
theorem dX10_copy_61 : decode cX10_copy 61 = .ok (.iload_n 1, 1) := by decide +kernel
theorem dX10_copy_62 : decode cX10_copy 62 = .ok (.aaload, 1) := by decide +kernel
theorem dX10_copy_63 : decode cX10_copy 63 = .ok (.iload_n 2, 1) := by decide +kernel
theorem dX10_copy_64 : decode cX10_copy 64 = .ok (.iload 5, 2) := by decide +kernel
theorem dX10_copy_66 : decode cX10_copy 66 = .ok (.invokevirtual 131, 3) := by decide +kernel
theorem dX10_copy_69 : decode cX10_copy 69 = .ok (.ifCond .eq 19, 3) := by decide +kernel
theorem dX10_copy_72 : decode cX10_copy 72 = .ok (.aload_n 0, 1) := by decide +kernel
theorem dX10_copy_73 : decode cX10_copy 73 = .ok (.getfield 11, 3) := by decide +kernel
theorem dX10_copy_76 : decode cX10_copy 76 = .ok (.iload_n 3, 1) := by decide +kernel
theorem dX10_copy_77 : decode cX10_copy 77 = .ok (.aaload, 1) := by decide +kernel
theorem dX10_copy_78 : decode cX10_copy 78 = .ok (.iload 4, 2) := by decide +kernel
theorem dX10_copy_80 : decode cX10_copy 80 = .ok (.iload 5, 2) := by decide +kernel
theorem dX10_copy_82 : decode cX10_copy 82 = .ok (.invokevirtual 131, 3) := by decide +kernel
theorem dX10_copy_85 : decode cX10_copy 85 = .ok (.ifCond .ne 9, 3) := by decide +kernel
theorem dX10_copy_88 : decode cX10_copy 88 = .ok (.aload_n 0, 1) := by decide +kernel
theorem dX10_copy_89 : decode cX10_copy 89 = .ok (.iconst 2, 1) := by decide +kernel
theorem dX10_copy_90 : decode cX10_copy 90 = .ok (.invokevirtual 106, 3) := by decide +kernel
theorem dX10_copy_93 : decode cX10_copy 93 = .ok (.ireturn, 1) := by decide +kernel
theorem dX10_copy_94 : decode cX10_copy 94 = .ok (.aload_n 0, 1) := by decide +kernel
theorem dX10_copy_95 : decode cX10_copy 95 = .ok (.getfield 11, 3) := by decide +kernel
theorem dX10_copy_98 : decode cX10_copy 98 = .ok (.iload_n 1, 1) := by decide +kernel
theorem dX10_copy_99 : decode cX10_copy 99 = .ok (.aaload, 1) := by decide +kernel
theorem dX10_copy_100 : decode cX10_copy 100 = .ok (.getfield 135, 3) := by decide +kernel
theorem dX10_copy_103 : decode cX10_copy 103 = .ok (.iload_n 2, 1) := by decide +kernel
theorem dX10_copy_104 : decode cX10_copy 104 = .ok (.aload_n 0, 1) := by decide +kernel
theorem dX10_copy_105 : decode cX10_copy 105 = .ok (.getfield 11, 3) := by decide +kernel
theorem dX10_copy_108 : decode cX10_copy 108 = .ok (.iload_n 3, 1) := by decide +kernel
theorem dX10_copy_109 : decode cX10_copy 109 = .ok (.aaload, 1) := by decide +kernel
theorem dX10_copy_110 : decode cX10_copy 110 = .ok (.getfield 135, 3) := by decide +kernel
theorem dX10_copy_113 : decode cX10_copy 113 = .ok (.iload 4, 2) := by decide +kernel
theorem dX10_copy_115 : decode cX10_copy 115 = .ok (.iload 5, 2) := by decide +kernel
theorem dX10_copy_117 : decode cX10_copy 117 = .ok (.invokestatic 138, 3) := by decide +kernel
theorem dX10_copy_120 : decode cX10_copy 120 = .ok (.iconst 1, 1) := by decide +kernel
theorem dX10_copy_121 : decode cX10_copy 121 = .ok (.ireturn, 1) := by decide +kernel
theorem dX10_mean_0 : decode cX10_mean 0 = .ok (.iload_n 1, 1) := by decide +kernel
theorem dX10_mean_1 : decode cX10_mean 1 = .ok (.invokestatic 102, 3) := by decide +kernel
theorem dX10_mean_4 : decode cX10_mean 4 = .ok (.ifCond .ne 5, 3) := by decide +kernel
theorem dX10_mean_7 : decode cX10_mean 7 = .ok (.iconst (-1), 1) := by decide +kernel
theorem dX10_mean_8 : decode cX10_mean 8 = .ok (.ireturn, 1) := by decide +kernel
theorem dX10_mean_9 : decode cX10_mean 9 = .ok (.aload_n 0, 1) := by decide +kernel
theorem dX10_mean_10 : decode cX10_mean 10 = .ok (.getfield 11, 3) := by decide +kernel
theorem dX10_mean_13 : decode cX10_mean 13 = .ok (.iload_n 1, 1) := by decide +kernel
theorem dX10_mean_14 : decode cX10_mean 14 = .ok (.aaload, 1) := by decide +kernel
theorem dX10_mean_15 : decode cX10_mean 15 = .ok (.astore_n 2, 1) := by decide +kernel
theorem dX10_mean_16 : decode cX10_mean 16 = .ok (.aload_n 2, 1) := by decide +kernel
theorem dX10_mean_17 : decode cX10_mean 17 = .ok (.invokevirtual 124, 3) := by decide +kernel
theorem dX10_mean_20 : decode cX10_mean 20 = .ok (.ifCond .ne 9, 3) := by decide +kernel
theorem dX10_mean_23 : decode cX10_mean 23 = .ok (.aload_n 0, 1) := by decide +kernel
theorem dX10_mean_24 : decode cX10_mean 24 = .ok (.iconst 1, 1) := by decide +kernel
theorem dX10_mean_25 : decode cX10_mean 25 = .ok (.invokevirtual 106, 3) := by decide +kernel
theorem dX10_mean_28 : decode cX10_mean 28 = .ok (.ireturn, 1) := by decide +kernel
theorem dX10_mean_29 : decode cX10_mean 29 = .ok (.aload_n 2, 1) := by decide +kernel
theorem dX10_mean_30 : decode cX10_mean 30 = .ok (.getfield 144, 3) := by decide +kernel
theorem dX10_mean_33 : decode cX10_mean 33 = .ok (.ifCond .ne 9, 3) := by decide +kernel
theorem dX10_mean_36 : decode cX10_mean 36 = .ok (.aload_n 0, 1) := by decide +kernel
theorem dX10_mean_37 : decode cX10_mean 37 = .ok (.iconst 4, 1) := by decide +kernel
theorem dX10_mean_38 : decode cX10_mean 38 = .ok (.invokevirtual 106, 3) := by decide +kernel
theorem dX10_mean_41 : decode cX10_mean 41 = .ok (.ireturn, 1) := by decide +kernel
theorem dX10_mean_42 : decode cX10_mean 42 = .ok (.aload_n 0, 1) := by decide +kernel
theorem dX10_mean_43 : decode cX10_mean 43 = .ok (.aload_n 2, 1) := by decide +kernel
theorem dX10_mean_44 : decode cX10_mean 44 = .ok (.invokevirtual 147, 3) := by decide +kernel
theorem dX10_mean_47 : decode cX10_mean 47 = .ok (.aload_n 2, 1) := by decide +kernel
theorem dX10_mean_48 : decode cX10_mean 48 = .ok (.getfield 144, 3) := by decide +kernel
theorem dX10_mean_51 : decode cX10_mean 51 = .ok (.i2l, 1) := by decide +kernel
theorem dX10_mean_52 : decode cX10_mean 52 = .ok (.ldiv, 1) := by decide +kernel
theorem dX10_mean_53 : decode cX10_mean 53 = .ok (.l2i, 1) := by decide +kernel
theorem dX10_mean_54 : decode cX10_mean 54 = .ok (.putfield 92, 3) := by decide +kernel
theorem dX10_mean_57 : decode cX10_mean 57 = .ok (.iconst 1, 1) := by decide +kernel
theorem dX10_mean_58 : decode cX10_mean 58 = .ok (.ireturn, 1) := by decide +kernel
theorem dX10_text_0 : decode cX10_text 0 = .ok (.iload_n 1, 1) := by decide +kernel
theorem dX10_text_1 : decode cX10_text 1 = .ok (.invokestatic 151, 3) := by decide +kernel
theorem dX10_text_4 : decode cX10_text 4 = .ok (.ifCond .eq 9, 3) := by decide +kernel
theorem dX10_text_7 : decode cX10_text 7 = .ok (.iload_n 2, 1) := by decide +kernel
theorem dX10_text_8 : decode cX10_text 8 = .ok (.bipush 60, 2) := by decide +kernel
theorem dX10_text_10 : decode cX10_text 10 = .ok (.if_icmp .le 5, 3) := by decide +kernel
theorem dX10_text_13 : decode cX10_text 13 = .ok (.iconst (-1), 1) := by decide +kernel
theorem dX10_text_14 : decode cX10_text 14 = .ok (.ireturn, 1) := by decide +kernel
theorem dX10_text_15 : decode cX10_text 15 = .ok (.iload_n 2, 1) := by decide +kernel
theorem dX10_text_16 : decode cX10_text 16 = .ok (.ifCond .ge 9, 3) := by decide +kernel
theorem dX10_text_19 : decode cX10_text 19 = .ok (.aload_n 0, 1) := by decide +kernel
theorem dX10_text_20 : decode cX10_text 20 = .ok (.iconst 5, 1) := by decide +kernel
theorem dX10_text_21 : decode cX10_text 21 = .ok (.invokevirtual 106, 3) := by decide +kernel
theorem dX10_text_24 : decode cX10_text 24 = .ok (.ireturn, 1) := by decide +kernel
theorem dX10_text_25 : decode cX10_text 25 = .ok (.aload_n 0, 1) := by decide +kernel
theorem dX10_text_26 : decode cX10_text 26 = .ok (.getfield 18, 3) := by decide +kernel
theorem dX10_text_29 : decode cX10_text 29 = .ok (.iload_n 1, 1) := by decide +kernel
theorem dX10_text_30 : decode cX10_text 30 = .ok (.aaload, 1) := by decide +kernel
theorem dX10_text_31 : decode cX10_text 31 = .ok (.iload_n 2, 1) := by decide +kernel
theorem dX10_text_32 : decode cX10_text 32 = .ok (.invokevirtual 154, 3) := by decide +kernel
theorem dX10_text_35 : decode cX10_text 35 = .ok (.iload_n 2, 1) := by decide +kernel
theorem dX10_text_36 : decode cX10_text 36 = .ok (.ireturn, 1) := by decide +kernel
theorem dX10_put_0 : decode cX10_put 0 = .ok (.iload_n 1, 1) := by decide +kernel
theorem dX10_put_1 : decode cX10_put 1 = .ok (.invokestatic 151, 3) := by decide +kernel
theorem dX10_put_4 : decode cX10_put 4 = .ok (.ifCond .ne 5, 3) := by decide +kernel
theorem dX10_put_7 : decode cX10_put 7 = .ok (.iconst (-1), 1) := by decide +kernel
theorem dX10_put_8 : decode cX10_put 8 = .ok (.ireturn, 1) := by decide +kernel
theorem dX10_put_9 : decode cX10_put 9 = .ok (.aload_n 0, 1) := by decide +kernel
theorem dX10_put_10 : decode cX10_put 10 = .ok (.getfield 18, 3) := by decide +kernel
theorem dX10_put_13 : decode cX10_put 13 = .ok (.iload_n 1, 1) := by decide +kernel
theorem dX10_put_14 : decode cX10_put 14 = .ok (.aaload, 1) := by decide +kernel
theorem dX10_put_15 : decode cX10_put 15 = .ok (.astore 4, 2) := by decide +kernel
theorem dX10_put_17 : decode cX10_put 17 = .ok (.aload 4, 2) := by decide +kernel
theorem dX10_put_19 : decode cX10_put 19 = .ok (.invokevirtual 155, 3) := by decide +kernel
theorem dX10_put_22 : decode cX10_put 22 = .ok (.ifCond .ne 9, 3) := by decide +kernel
theorem dX10_put_25 : decode cX10_put 25 = .ok (.aload_n 0, 1) := by decide +kernel
theorem dX10_put_26 : decode cX10_put 26 = .ok (.iconst 1, 1) := by decide +kernel
theorem dX10_put_27 : decode cX10_put 27 = .ok (.invokevirtual 106, 3) := by decide +kernel
theorem dX10_put_30 : decode cX10_put 30 = .ok (.ireturn, 1) := by decide +kernel
theorem dX10_put_31 : decode cX10_put 31 = .ok (.aload 4, 2) := by decide +kernel
theorem dX10_put_33 : decode cX10_put 33 = .ok (.iload_n 2, 1) := by decide +kernel
theorem dX10_put_34 : decode cX10_put 34 = .ok (.invokevirtual 156, 3) := by decide +kernel
theorem dX10_put_37 : decode cX10_put 37 = .ok (.ifCond .ne 9, 3) := by decide +kernel
theorem dX10_put_40 : decode cX10_put 40 = .ok (.aload_n 0, 1) := by decide +kernel
theorem dX10_put_41 : decode cX10_put 41 = .ok (.iconst 2, 1) := by decide +kernel
theorem dX10_put_42 : decode cX10_put 42 = .ok (.invokevirtual 106, 3) := by decide +kernel
theorem dX10_put_45 : decode cX10_put 45 = .ok (.ireturn, 1) := by decide +kernel
theorem dX10_put_46 : decode cX10_put 46 = .ok (.aload 4, 2) := by decide +kernel
theorem dX10_put_48 : decode cX10_put 48 = .ok (.iload_n 2, 1) := by decide +kernel
theorem dX10_put_49 : decode cX10_put 49 = .ok (.invokevirtual 159, 3) := by decide +kernel
theorem dX10_put_52 : decode cX10_put 52 = .ok (.istore 5, 2) := by decide +kernel
theorem dX10_put_54 : decode cX10_put 54 = .ok (.aload 4, 2) := by decide +kernel
theorem dX10_put_56 : decode cX10_put 56 = .ok (.iload_n 2, 1) := by decide +kernel
theorem dX10_put_57 : decode cX10_put 57 = .ok (.iload_n 3, 1) := by decide +kernel
theorem dX10_put_58 : decode cX10_put 58 = .ok (.invokevirtual 160, 3) := by decide +kernel
theorem dX10_put_61 : decode cX10_put 61 = .ok (.iload 5, 2) := by decide +kernel
theorem dX10_put_63 : decode cX10_put 63 = .ok (.sipush 1000, 3) := by decide +kernel
theorem dX10_put_66 : decode cX10_put 66 = .ok (.iadd, 1) := by decide +kernel
theorem dX10_put_67 : decode cX10_put 67 = .ok (.ireturn, 1) := by decide +kernel
theorem dX10_fault_0 : decode cX10_fault 0 = .ok (.iload_n 1, 1) := by decide +kernel
theorem dX10_fault_1 : decode cX10_fault 1 = .ok (.invokestatic 151, 3) := by decide +kernel
theorem dX10_fault_4 : decode cX10_fault 4 = .ok (.ifCond .ne 5, 3) := by decide +kernel
theorem dX10_fault_7 : decode cX10_fault 7 = .ok (.iconst (-1), 1) := by decide +kernel
theorem dX10_fault_8 : decode cX10_fault 8 = .ok (.ireturn, 1) := by decide +kernel
theorem dX10_fault_9 : decode cX10_fault 9 = .ok (.aload_n 0, 1) := by decide +kernel
theorem dX10_fault_10 : decode cX10_fault 10 = .ok (.getfield 18, 3) := by decide +kernel
theorem dX10_fault_13 : decode cX10_fault 13 = .ok (.iload_n 1, 1) := by decide +kernel
theorem dX10_fault_14 : decode cX10_fault 14 = .ok (.aaload, 1) := by decide +kernel
theorem dX10_fault_15 : decode cX10_fault 15 = .ok (.invokevirtual 155, 3) := by decide +kernel
theorem dX10_fault_18 : decode cX10_fault 18 = .ok (.ifCond .ne 9, 3) := by decide +kernel
theorem dX10_fault_21 : decode cX10_fault 21 = .ok (.aload_n 0, 1) := by decide +kernel
theorem dX10_fault_22 : decode cX10_fault 22 = .ok (.iconst 1, 1) := by decide +kernel
theorem dX10_fault_23 : decode cX10_fault 23 = .ok (.invokevirtual 106, 3) := by decide +kernel
theorem dX10_fault_26 : decode cX10_fault 26 = .ok (.ireturn, 1) := by decide +kernel
theorem dX10_fault_27 : decode cX10_fault 27 = .ok (.aload_n 0, 1) := by decide +kernel
theorem dX10_fault_28 : decode cX10_fault 28 = .ok (.getfield 46, 3) := by decide +kernel
theorem dX10_fault_31 : decode cX10_fault 31 = .ok (.aload_n 0, 1) := by decide +kernel
theorem dX10_fault_32 : decode cX10_fault 32 = .ok (.getfield 18, 3) := by decide +kernel
theorem dX10_fault_35 : decode cX10_fault 35 = .ok (.iload_n 1, 1) := by decide +kernel
theorem dX10_fault_36 : decode cX10_fault 36 = .ok (.aaload, 1) := by decide +kernel
theorem dX10_fault_37 : decode cX10_fault 37 = .ok (.aload_n 0, 1) := by decide +kernel
theorem dX10_fault_38 : decode cX10_fault 38 = .ok (.getfield 50, 3) := by decide +kernel
theorem dX10_fault_41 : decode cX10_fault 41 = .ok (.aload_n 0, 1) := by decide +kernel
theorem dX10_fault_42 : decode cX10_fault 42 = .ok (.getfield 56, 3) := by decide +kernel
theorem dX10_fault_45 : decode cX10_fault 45 = .ok (.invokevirtual 161, 3) := by decide +kernel
theorem dX10_fault_48 : decode cX10_fault 48 = .ok (.ireturn, 1) := by decide +kernel
theorem dX10_village_0 : decode cX10_village 0 = .ok (.iload_n 1, 1) := by decide +kernel
theorem dX10_village_1 : decode cX10_village 1 = .ok (.invokestatic 151, 3) := by decide +kernel
theorem dX10_village_4 : decode cX10_village 4 = .ok (.ifCond .ne 5, 3) := by decide +kernel
theorem dX10_village_7 : decode cX10_village 7 = .ok (.iconst (-1), 1) := by decide +kernel
theorem dX10_village_8 : decode cX10_village 8 = .ok (.ireturn, 1) := by decide +kernel
theorem dX10_village_9 : decode cX10_village 9 = .ok (.aload_n 0, 1) := by decide +kernel
theorem dX10_village_10 : decode cX10_village 10 = .ok (.getfield 18, 3) := by decide +kernel
theorem dX10_village_13 : decode cX10_village 13 = .ok (.iload_n 1, 1) := by decide +kernel
theorem dX10_village_14 : decode cX10_village 14 = .ok (.aaload, 1) := by decide +kernel
theorem dX10_village_15 : decode cX10_village 15 = .ok (.invokevirtual 155, 3) := by decide +kernel
theorem dX10_village_18 : decode cX10_village 18 = .ok (.ifCond .ne 9, 3) := by decide +kernel
theorem dX10_village_21 : decode cX10_village 21 = .ok (.aload_n 0, 1) := by decide +kernel
theorem dX10_village_22 : decode cX10_village 22 = .ok (.iconst 1, 1) := by decide +kernel
theorem dX10_village_23 : decode cX10_village 23 = .ok (.invokevirtual 106, 3) := by decide +kernel
theorem dX10_village_26 : decode cX10_village 26 = .ok (.ireturn, 1) := by decide +kernel
theorem dX10_village_27 : decode cX10_village 27 = .ok (.aload_n 0, 1) := by decide +kernel
theorem dX10_village_28 : decode cX10_village 28 = .ok (.getfield 46, 3) := by decide +kernel
theorem dX10_village_31 : decode cX10_village 31 = .ok (.aload_n 0, 1) := by decide +kernel
theorem dX10_village_32 : decode cX10_village 32 = .ok (.getfield 18, 3) := by decide +kernel
theorem dX10_village_35 : decode cX10_village 35 = .ok (.iload_n 1, 1) := by decide +kernel
theorem dX10_village_36 : decode cX10_village 36 = .ok (.aaload, 1) := by decide +kernel
theorem dX10_village_37 : decode cX10_village 37 = .ok (.aload_n 0, 1) := by decide +kernel
theorem dX10_village_38 : decode cX10_village 38 = .ok (.getfield 50, 3) := by decide +kernel
theorem dX10_village_41 : decode cX10_village 41 = .ok (.aload_n 0, 1) := by decide +kernel
theorem dX10_village_42 : decode cX10_village 42 = .ok (.getfield 56, 3) := by decide +kernel
theorem dX10_village_45 : decode cX10_village 45 = .ok (.invokevirtual 161, 3) := by decide +kernel
theorem dX10_village_48 : decode cX10_village 48 = .ok (.bipush (-9), 2) := by decide +kernel
theorem dX10_village_50 : decode cX10_village 50 = .ok (.if_icmp .eq 6, 3) := by decide +kernel
theorem dX10_village_53 : decode cX10_village 53 = .ok (.bipush (-4), 2) := by decide +kernel
theorem dX10_village_55 : decode cX10_village 55 = .ok (.ireturn, 1) := by decide +kernel
theorem dX10_village_56 : decode cX10_village 56 = .ok (.aload_n 0, 1) := by decide +kernel
theorem dX10_village_57 : decode cX10_village 57 = .ok (.getfield 46, 3) := by decide +kernel
theorem dX10_village_60 : decode cX10_village 60 = .ok (.aload_n 0, 1) := by decide +kernel
theorem dX10_village_61 : decode cX10_village 61 = .ok (.getfield 18, 3) := by decide +kernel
theorem dX10_village_64 : decode cX10_village 64 = .ok (.iload_n 1, 1) := by decide +kernel
theorem dX10_village_65 : decode cX10_village 65 = .ok (.aaload, 1) := by decide +kernel
theorem dX10_village_66 : decode cX10_village 66 = .ok (.aload_n 0, 1) := by decide +kernel
theorem dX10_village_67 : decode cX10_village 67 = .ok (.getfield 26, 3) := by decide +kernel
theorem dX10_village_70 : decode cX10_village 70 = .ok (.aload_n 0, 1) := by decide +kernel
theorem dX10_village_71 : decode cX10_village 71 = .ok (.getfield 35, 3) := by decide +kernel
theorem dX10_village_74 : decode cX10_village 74 = .ok (.getfield 165, 3) := by decide +kernel
theorem dX10_village_77 : decode cX10_village 77 = .ok (.invokevirtual 161, 3) := by decide +kernel
theorem dX10_village_80 : decode cX10_village 80 = .ok (.pop, 1) := by decide +kernel
theorem dX10_village_81 : decode cX10_village 81 = .ok (.aload_n 0, 1) := by decide +kernel
theorem dX10_village_82 : decode cX10_village 82 = .ok (.getfield 35, 3) := by decide +kernel
theorem dX10_village_85 : decode cX10_village 85 = .ok (.invokevirtual 168, 3) := by decide +kernel
theorem dX10_village_88 : decode cX10_village 88 = .ok (.iconst 0, 1) := by decide +kernel
theorem dX10_village_89 : decode cX10_village 89 = .ok (.istore_n 2, 1) := by decide +kernel
theorem dX10_village_90 : decode cX10_village 90 = .ok (.iload_n 2, 1) := by decide +kernel
theorem dX10_village_91 : decode cX10_village 91 = .ok (.iconst 3, 1) := by decide +kernel
theorem dX10_village_92 : decode cX10_village 92 = .ok (.if_icmp .ge 18, 3) := by decide +kernel
theorem dX10_village_95 : decode cX10_village 95 = .ok (.aload_n 0, 1) := by decide +kernel
theorem dX10_village_96 : decode cX10_village 96 = .ok (.getfield 39, 3) := by decide +kernel
theorem dX10_village_99 : decode cX10_village 99 = .ok (.iload_n 2, 1) := by decide +kernel
theorem dX10_village_100 : decode cX10_village 100 = .ok (.aaload, 1) := by decide +kernel
theorem dX10_village_101 : decode cX10_village 101 = .ok (.invokevirtual 170, 3) := by decide +kernel
theorem dX10_village_104 : decode cX10_village 104 = .ok (.iinc 2 1, 3) := by decide +kernel
theorem dX10_village_107 : decode cX10_village 107 = .ok (.goto (-17), 3) := by decide +kernel
theorem dX10_village_110 : decode cX10_village 110 = .ok (.aload_n 0, 1) := by decide +kernel
theorem dX10_village_111 : decode cX10_village 111 = .ok (.getfield 26, 3) := by decide +kernel
theorem dX10_village_114 : decode cX10_village 114 = .ok (.getfield 173, 3) := by decide +kernel
theorem dX10_village_117 : decode cX10_village 117 = .ok (.ireturn, 1) := by decide +kernel
theorem dX10_house_0 : decode cX10_house 0 = .ok (.aload_n 0, 1) := by decide +kernel
theorem dX10_house_1 : decode cX10_house 1 = .ok (.getfield 26, 3) := by decide +kernel
theorem dX10_house_4 : decode cX10_house 4 = .ok (.iload_n 1, 1) := by decide +kernel
theorem dX10_house_5 : decode cX10_house 5 = .ok (.invokevirtual 176, 3) := by decide +kernel
theorem dX10_house_8 : decode cX10_house 8 = .ok (.ifCond .eq 13, 3) := by decide +kernel
theorem dX10_house_11 : decode cX10_house 11 = .ok (.iload_n 2, 1) := by decide +kernel
theorem dX10_house_12 : decode cX10_house 12 = .ok (.ifCond .lt 9, 3) := by decide +kernel
theorem dX10_house_15 : decode cX10_house 15 = .ok (.iload_n 2, 1) := by decide +kernel
theorem dX10_house_16 : decode cX10_house 16 = .ok (.bipush 6, 2) := by decide +kernel
theorem dX10_house_18 : decode cX10_house 18 = .ok (.if_icmp .lt 5, 3) := by decide +kernel
theorem dX10_house_21 : decode cX10_house 21 = .ok (.iconst (-1), 1) := by decide +kernel
theorem dX10_house_22 : decode cX10_house 22 = .ok (.ireturn, 1) := by decide +kernel
theorem dX10_house_23 : decode cX10_house 23 = .ok (.aload_n 0, 1) := by decide +kernel
theorem dX10_house_24 : decode cX10_house 24 = .ok (.aload_n 0, 1) := by decide +kernel
theorem dX10_house_25 : decode cX10_house 25 = .ok (.iload_n 1, 1) := by decide +kernel
theorem dX10_house_26 : decode cX10_house 26 = .ok (.iload_n 2, 1) := by decide +kernel
theorem dX10_house_27 : decode cX10_house 27 = .ok (.invokevirtual 177, 3) := by decide +kernel
theorem dX10_house_30 : decode cX10_house 30 = .ok (.putfield 92, 3) := by decide +kernel
theorem dX10_house_33 : decode cX10_house 33 = .ok (.iconst 1, 1) := by decide +kernel
theorem dX10_house_34 : decode cX10_house 34 = .ok (.ireturn, 1) := by decide +kernel
theorem dX10_wind_0 : decode cX10_wind 0 = .ok (.iload_n 1, 1) := by decide +kernel
theorem dX10_wind_1 : decode cX10_wind 1 = .ok (.ifCond .lt 10, 3) := by decide +kernel
theorem dX10_wind_4 : decode cX10_wind 4 = .ok (.iload_n 1, 1) := by decide +kernel
theorem dX10_wind_5 : decode cX10_wind 5 = .ok (.sipush 999, 3) := by decide +kernel
theorem dX10_wind_8 : decode cX10_wind 8 = .ok (.if_icmp .le 5, 3) := by decide +kernel
theorem dX10_wind_11 : decode cX10_wind 11 = .ok (.iconst (-1), 1) := by decide +kernel
theorem dX10_wind_12 : decode cX10_wind 12 = .ok (.ireturn, 1) := by decide +kernel
theorem dX10_wind_13 : decode cX10_wind 13 = .ok (.aload_n 0, 1) := by decide +kernel
theorem dX10_wind_14 : decode cX10_wind 14 = .ok (.getfield 26, 3) := by decide +kernel
theorem dX10_wind_17 : decode cX10_wind 17 = .ok (.invokevirtual 181, 3) := by decide +kernel
theorem dX10_wind_20 : decode cX10_wind 20 = .ok (.ifCond .eq 6, 3) := by decide +kernel
theorem dX10_wind_23 : decode cX10_wind 23 = .ok (.bipush (-4), 2) := by decide +kernel
theorem dX10_wind_25 : decode cX10_wind 25 = .ok (.ireturn, 1) := by decide +kernel
theorem dX10_wind_26 : decode cX10_wind 26 = .ok (.aload_n 0, 1) := by decide +kernel
theorem dX10_wind_27 : decode cX10_wind 27 = .ok (.getfield 26, 3) := by decide +kernel
theorem dX10_wind_30 : decode cX10_wind 30 = .ok (.iload_n 1, 1) := by decide +kernel
theorem dX10_wind_31 : decode cX10_wind 31 = .ok (.invokevirtual 184, 3) := by decide +kernel
theorem dX10_wind_34 : decode cX10_wind 34 = .ok (.ireturn, 1) := by decide +kernel
theorem dX10_mark_0 : decode cX10_mark 0 = .ok (.aload_n 0, 1) := by decide +kernel
theorem dX10_mark_1 : decode cX10_mark 1 = .ok (.getfield 26, 3) := by decide +kernel
theorem dX10_mark_4 : decode cX10_mark 4 = .ok (.iload_n 1, 1) := by decide +kernel
theorem dX10_mark_5 : decode cX10_mark 5 = .ok (.invokevirtual 176, 3) := by decide +kernel
theorem dX10_mark_8 : decode cX10_mark 8 = .ok (.ifCond .eq 13, 3) := by decide +kernel
theorem dX10_mark_11 : decode cX10_mark 11 = .ok (.iload_n 2, 1) := by decide +kernel
theorem dX10_mark_12 : decode cX10_mark 12 = .ok (.iconst 1, 1) := by decide +kernel
theorem dX10_mark_13 : decode cX10_mark 13 = .ok (.if_icmp .lt 8, 3) := by decide +kernel
theorem dX10_mark_16 : decode cX10_mark 16 = .ok (.iload_n 2, 1) := by decide +kernel
theorem dX10_mark_17 : decode cX10_mark 17 = .ok (.iconst 5, 1) := by decide +kernel
theorem dX10_mark_18 : decode cX10_mark 18 = .ok (.if_icmp .le 5, 3) := by decide +kernel
theorem dX10_mark_21 : decode cX10_mark 21 = .ok (.iconst (-1), 1) := by decide +kernel
theorem dX10_mark_22 : decode cX10_mark 22 = .ok (.ireturn, 1) := by decide +kernel
theorem dX10_mark_23 : decode cX10_mark 23 = .ok (.aload_n 0, 1) := by decide +kernel
theorem dX10_mark_24 : decode cX10_mark 24 = .ok (.getfield 26, 3) := by decide +kernel
theorem dX10_mark_27 : decode cX10_mark 27 = .ok (.iload_n 1, 1) := by decide +kernel
theorem dX10_mark_28 : decode cX10_mark 28 = .ok (.invokevirtual 189, 3) := by decide +kernel
theorem dX10_mark_31 : decode cX10_mark 31 = .ok (.iload_n 2, 1) := by decide +kernel
theorem dX10_mark_32 : decode cX10_mark 32 = .ok (.invokestatic 192, 3) := by decide +kernel
theorem dX10_mark_35 : decode cX10_mark 35 = .ok (.ifCond .ne 9, 3) := by decide +kernel
theorem dX10_mark_38 : decode cX10_mark 38 = .ok (.aload_n 0, 1) := by decide +kernel
theorem dX10_mark_39 : decode cX10_mark 39 = .ok (.iconst 3, 1) := by decide +kernel
theorem dX10_mark_40 : decode cX10_mark 40 = .ok (.invokevirtual 106, 3) := by decide +kernel
theorem dX10_mark_43 : decode cX10_mark 43 = .ok (.ireturn, 1) := by decide +kernel
theorem dX10_mark_44 : decode cX10_mark 44 = .ok (.aload_n 0, 1) := by decide +kernel
theorem dX10_mark_45 : decode cX10_mark 45 = .ok (.iload_n 1, 1) := by decide +kernel
theorem dX10_mark_46 : decode cX10_mark 46 = .ok (.iload_n 2, 1) := by decide +kernel
theorem dX10_mark_47 : decode cX10_mark 47 = .ok (.invokevirtual 195, 3) := by decide +kernel
theorem dX10_mark_50 : decode cX10_mark 50 = .ok (.ireturn, 1) := by decide +kernel
theorem dX10_stack_0 : decode cX10_stack 0 = .ok (.aload_n 0, 1) := by decide +kernel
theorem dX10_stack_1 : decode cX10_stack 1 = .ok (.getfield 26, 3) := by decide +kernel
theorem dX10_stack_4 : decode cX10_stack 4 = .ok (.iload_n 1, 1) := by decide +kernel
theorem dX10_stack_5 : decode cX10_stack 5 = .ok (.invokevirtual 176, 3) := by decide +kernel
theorem dX10_stack_8 : decode cX10_stack 8 = .ok (.ifCond .eq 13, 3) := by decide +kernel
theorem dX10_stack_11 : decode cX10_stack 11 = .ok (.iload_n 2, 1) := by decide +kernel
theorem dX10_stack_12 : decode cX10_stack 12 = .ok (.ifCond .lt 9, 3) := by decide +kernel
theorem dX10_stack_15 : decode cX10_stack 15 = .ok (.iload_n 2, 1) := by decide +kernel
theorem dX10_stack_16 : decode cX10_stack 16 = .ok (.bipush 9, 2) := by decide +kernel
theorem dX10_stack_18 : decode cX10_stack 18 = .ok (.if_icmp .le 5, 3) := by decide +kernel
theorem dX10_stack_21 : decode cX10_stack 21 = .ok (.iconst (-1), 1) := by decide +kernel
theorem dX10_stack_22 : decode cX10_stack 22 = .ok (.ireturn, 1) := by decide +kernel
theorem dX10_stack_23 : decode cX10_stack 23 = .ok (.aload_n 0, 1) := by decide +kernel
theorem dX10_stack_24 : decode cX10_stack 24 = .ok (.getfield 35, 3) := by decide +kernel
theorem dX10_stack_27 : decode cX10_stack 27 = .ok (.getfield 198, 3) := by decide +kernel
theorem dX10_stack_30 : decode cX10_stack 30 = .ok (.ifCond .le 6, 3) := by decide +kernel
theorem dX10_stack_33 : decode cX10_stack 33 = .ok (.bipush (-4), 2) := by decide +kernel
theorem dX10_stack_35 : decode cX10_stack 35 = .ok (.ireturn, 1) := by decide +kernel
theorem dX10_stack_36 : decode cX10_stack 36 = .ok (.aload_n 0, 1) := by decide +kernel
theorem dX10_stack_37 : decode cX10_stack 37 = .ok (.getfield 35, 3) := by decide +kernel
theorem dX10_stack_40 : decode cX10_stack 40 = .ok (.getfield 201, 3) := by decide +kernel
theorem dX10_stack_43 : decode cX10_stack 43 = .ok (.iload_n 1, 1) := by decide +kernel
theorem dX10_stack_44 : decode cX10_stack 44 = .ok (.invokevirtual 204, 3) := by decide +kernel
theorem dX10_stack_47 : decode cX10_stack 47 = .ok (.istore_n 3, 1) := by decide +kernel
theorem dX10_stack_48 : decode cX10_stack 48 = .ok (.aload_n 0, 1) := by decide +kernel
theorem dX10_stack_49 : decode cX10_stack 49 = .ok (.getfield 35, 3) := by decide +kernel
theorem dX10_stack_52 : decode cX10_stack 52 = .ok (.iload_n 1, 1) := by decide +kernel
theorem dX10_stack_53 : decode cX10_stack 53 = .ok (.iload_n 2, 1) := by decide +kernel
theorem dX10_stack_54 : decode cX10_stack 54 = .ok (.invokevirtual 207, 3) := by decide +kernel
theorem dX10_stack_57 : decode cX10_stack 57 = .ok (.iload_n 3, 1) := by decide +kernel
theorem dX10_stack_58 : decode cX10_stack 58 = .ok (.ireturn, 1) := by decide +kernel
theorem dX10_strike_0 : decode cX10_strike 0 = .ok (.aload_n 0, 1) := by decide +kernel
theorem dX10_strike_1 : decode cX10_strike 1 = .ok (.getfield 26, 3) := by decide +kernel
theorem dX10_strike_4 : decode cX10_strike 4 = .ok (.iload_n 1, 1) := by decide +kernel
theorem dX10_strike_5 : decode cX10_strike 5 = .ok (.invokevirtual 176, 3) := by decide +kernel
theorem dX10_strike_8 : decode cX10_strike 8 = .ok (.ifCond .ne 5, 3) := by decide +kernel
theorem dX10_strike_11 : decode cX10_strike 11 = .ok (.iconst (-1), 1) := by decide +kernel
theorem dX10_strike_12 : decode cX10_strike 12 = .ok (.ireturn, 1) := by decide +kernel
theorem dX10_strike_13 : decode cX10_strike 13 = .ok (.aload_n 0, 1) := by decide +kernel
theorem dX10_strike_14 : decode cX10_strike 14 = .ok (.getfield 35, 3) := by decide +kernel
theorem dX10_strike_17 : decode cX10_strike 17 = .ok (.getfield 201, 3) := by decide +kernel
theorem dX10_strike_20 : decode cX10_strike 20 = .ok (.iload_n 1, 1) := by decide +kernel
theorem dX10_strike_21 : decode cX10_strike 21 = .ok (.invokevirtual 210, 3) := by decide +kernel
theorem dX10_strike_24 : decode cX10_strike 24 = .ok (.ifCond .ne 6, 3) := by decide +kernel
theorem dX10_strike_27 : decode cX10_strike 27 = .ok (.bipush (-4), 2) := by decide +kernel
theorem dX10_strike_29 : decode cX10_strike 29 = .ok (.ireturn, 1) := by decide +kernel
theorem dX10_strike_30 : decode cX10_strike 30 = .ok (.aload_n 0, 1) := by decide +kernel
theorem dX10_strike_31 : decode cX10_strike 31 = .ok (.getfield 35, 3) := by decide +kernel
theorem dX10_strike_34 : decode cX10_strike 34 = .ok (.iconst 1, 1) := by decide +kernel
theorem dX10_strike_35 : decode cX10_strike 35 = .ok (.invokevirtual 213, 3) := by decide +kernel
theorem dX10_strike_38 : decode cX10_strike 38 = .ok (.ifCond .ne 6, 3) := by decide +kernel
theorem dX10_strike_41 : decode cX10_strike 41 = .ok (.bipush (-2), 2) := by decide +kernel
theorem dX10_strike_43 : decode cX10_strike 43 = .ok (.ireturn, 1) := by decide +kernel
theorem dX10_strike_44 : decode cX10_strike 44 = .ok (.aload_n 0, 1) := by decide +kernel
theorem dX10_strike_45 : decode cX10_strike 45 = .ok (.getfield 35, 3) := by decide +kernel
theorem dX10_strike_48 : decode cX10_strike 48 = .ok (.bipush 40, 2) := by decide +kernel
theorem dX10_strike_50 : decode cX10_strike 50 = .ok (.iload_n 1, 1) := by decide +kernel
theorem dX10_strike_51 : decode cX10_strike 51 = .ok (.iadd, 1) := by decide +kernel
theorem dX10_strike_52 : decode cX10_strike 52 = .ok (.invokevirtual 216, 3) := by decide +kernel
theorem dX10_strike_55 : decode cX10_strike 55 = .ok (.iconst 1, 1) := by decide +kernel
theorem dX10_strike_56 : decode cX10_strike 56 = .ok (.ireturn, 1) := by decide +kernel
theorem dX10_carry_0 : decode cX10_carry 0 = .ok (.aload_n 0, 1) := by decide +kernel
theorem dX10_carry_1 : decode cX10_carry 1 = .ok (.getfield 26, 3) := by decide +kernel
theorem dX10_carry_4 : decode cX10_carry 4 = .ok (.iload_n 1, 1) := by decide +kernel
theorem dX10_carry_5 : decode cX10_carry 5 = .ok (.invokevirtual 176, 3) := by decide +kernel
theorem dX10_carry_8 : decode cX10_carry 8 = .ok (.ifCond .eq 19, 3) := by decide +kernel
theorem dX10_carry_11 : decode cX10_carry 11 = .ok (.aload_n 0, 1) := by decide +kernel
theorem dX10_carry_12 : decode cX10_carry 12 = .ok (.getfield 26, 3) := by decide +kernel
theorem dX10_carry_15 : decode cX10_carry 15 = .ok (.iload_n 2, 1) := by decide +kernel
theorem dX10_carry_16 : decode cX10_carry 16 = .ok (.invokevirtual 176, 3) := by decide +kernel
theorem dX10_carry_19 : decode cX10_carry 19 = .ok (.ifCond .eq 8, 3) := by decide +kernel
theorem dX10_carry_22 : decode cX10_carry 22 = .ok (.iload_n 1, 1) := by decide +kernel
theorem dX10_carry_23 : decode cX10_carry 23 = .ok (.iload_n 2, 1) := by decide +kernel
theorem dX10_carry_24 : decode cX10_carry 24 = .ok (.if_icmp .ne 5, 3) := by decide +kernel
theorem dX10_carry_27 : decode cX10_carry 27 = .ok (.iconst (-1), 1) := by decide +kernel
theorem dX10_carry_28 : decode cX10_carry 28 = .ok (.ireturn, 1) := by decide +kernel
theorem dX10_carry_29 : decode cX10_carry 29 = .ok (.aload_n 0, 1) := by decide +kernel
theorem dX10_carry_30 : decode cX10_carry 30 = .ok (.getfield 35, 3) := by decide +kernel
theorem dX10_carry_33 : decode cX10_carry 33 = .ok (.getfield 201, 3) := by decide +kernel
theorem dX10_carry_36 : decode cX10_carry 36 = .ok (.iload_n 1, 1) := by decide +kernel
theorem dX10_carry_37 : decode cX10_carry 37 = .ok (.iload_n 2, 1) := by decide +kernel
theorem dX10_carry_38 : decode cX10_carry 38 = .ok (.invokevirtual 219, 3) := by decide +kernel
theorem dX10_carry_41 : decode cX10_carry 41 = .ok (.ifCond .ne 6, 3) := by decide +kernel
theorem dX10_carry_44 : decode cX10_carry 44 = .ok (.bipush (-4), 2) := by decide +kernel
theorem dX10_carry_46 : decode cX10_carry 46 = .ok (.ireturn, 1) := by decide +kernel
theorem dX10_carry_47 : decode cX10_carry 47 = .ok (.aload_n 0, 1) := by decide +kernel
theorem dX10_carry_48 : decode cX10_carry 48 = .ok (.getfield 35, 3) := by decide +kernel
theorem dX10_carry_51 : decode cX10_carry 51 = .ok (.iconst 1, 1) := by decide +kernel
theorem dX10_carry_52 : decode cX10_carry 52 = .ok (.invokevirtual 213, 3) := by decide +kernel
theorem dX10_carry_55 : decode cX10_carry 55 = .ok (.ifCond .ne 6, 3) := by decide +kernel
theorem dX10_carry_58 : decode cX10_carry 58 = .ok (.bipush (-2), 2) := by decide +kernel
theorem dX10_carry_60 : decode cX10_carry 60 = .ok (.ireturn, 1) := by decide +kernel
theorem dX10_carry_61 : decode cX10_carry 61 = .ok (.aload_n 0, 1) := by decide +kernel
theorem dX10_carry_62 : decode cX10_carry 62 = .ok (.getfield 35, 3) := by decide +kernel
theorem dX10_carry_65 : decode cX10_carry 65 = .ok (.bipush 6, 2) := by decide +kernel
theorem dX10_carry_67 : decode cX10_carry 67 = .ok (.iload_n 1, 1) := by decide +kernel
theorem dX10_carry_68 : decode cX10_carry 68 = .ok (.imul, 1) := by decide +kernel
theorem dX10_carry_69 : decode cX10_carry 69 = .ok (.iload_n 2, 1) := by decide +kernel
theorem dX10_carry_70 : decode cX10_carry 70 = .ok (.iadd, 1) := by decide +kernel
theorem dX10_carry_71 : decode cX10_carry 71 = .ok (.invokevirtual 216, 3) := by decide +kernel
theorem dX10_carry_74 : decode cX10_carry 74 = .ok (.aload_n 0, 1) := by decide +kernel
theorem dX10_carry_75 : decode cX10_carry 75 = .ok (.getfield 35, 3) := by decide +kernel
theorem dX10_carry_78 : decode cX10_carry 78 = .ok (.getfield 201, 3) := by decide +kernel
theorem dX10_carry_81 : decode cX10_carry 81 = .ok (.invokevirtual 222, 3) := by decide +kernel
theorem dX10_carry_84 : decode cX10_carry 84 = .ok (.ireturn, 1) := by decide +kernel
theorem dX10_hour_0 : decode cX10_hour 0 = .ok (.aload_n 0, 1) := by decide +kernel
theorem dX10_hour_1 : decode cX10_hour 1 = .ok (.getfield 26, 3) := by decide +kernel
theorem dX10_hour_4 : decode cX10_hour 4 = .ok (.invokevirtual 181, 3) := by decide +kernel
theorem dX10_hour_7 : decode cX10_hour 7 = .ok (.ifCond .eq 6, 3) := by decide +kernel
theorem dX10_hour_10 : decode cX10_hour 10 = .ok (.bipush (-4), 2) := by decide +kernel
theorem dX10_hour_12 : decode cX10_hour 12 = .ok (.ireturn, 1) := by decide +kernel
theorem dX10_hour_13 : decode cX10_hour 13 = .ok (.aload_n 0, 1) := by decide +kernel
theorem dX10_hour_14 : decode cX10_hour 14 = .ok (.getfield 35, 3) := by decide +kernel
theorem dX10_hour_17 : decode cX10_hour 17 = .ok (.iconst 1, 1) := by decide +kernel
theorem dX10_hour_18 : decode cX10_hour 18 = .ok (.invokevirtual 213, 3) := by decide +kernel
theorem dX10_hour_21 : decode cX10_hour 21 = .ok (.ifCond .ne 6, 3) := by decide +kernel
theorem dX10_hour_24 : decode cX10_hour 24 = .ok (.bipush (-2), 2) := by decide +kernel
theorem dX10_hour_26 : decode cX10_hour 26 = .ok (.ireturn, 1) := by decide +kernel
theorem dX10_hour_27 : decode cX10_hour 27 = .ok (.aload_n 0, 1) := by decide +kernel
theorem dX10_hour_28 : decode cX10_hour 28 = .ok (.getfield 35, 3) := by decide +kernel
theorem dX10_hour_31 : decode cX10_hour 31 = .ok (.bipush 36, 2) := by decide +kernel
theorem dX10_hour_33 : decode cX10_hour 33 = .ok (.invokevirtual 216, 3) := by decide +kernel
theorem dX10_hour_36 : decode cX10_hour 36 = .ok (.aload_n 0, 1) := by decide +kernel
theorem dX10_hour_37 : decode cX10_hour 37 = .ok (.getfield 35, 3) := by decide +kernel
theorem dX10_hour_40 : decode cX10_hour 40 = .ok (.getfield 201, 3) := by decide +kernel
theorem dX10_hour_43 : decode cX10_hour 43 = .ok (.invokevirtual 222, 3) := by decide +kernel
theorem dX10_hour_46 : decode cX10_hour 46 = .ok (.ireturn, 1) := by decide +kernel
theorem dX10_undo_0 : decode cX10_undo 0 = .ok (.iload_n 1, 1) := by decide +kernel
theorem dX10_undo_1 : decode cX10_undo 1 = .ok (.ifCond .lt 14, 3) := by decide +kernel
theorem dX10_undo_4 : decode cX10_undo 4 = .ok (.iload_n 1, 1) := by decide +kernel
theorem dX10_undo_5 : decode cX10_undo 5 = .ok (.aload_n 0, 1) := by decide +kernel
theorem dX10_undo_6 : decode cX10_undo 6 = .ok (.getfield 35, 3) := by decide +kernel
theorem dX10_undo_9 : decode cX10_undo 9 = .ok (.getfield 198, 3) := by decide +kernel
theorem dX10_undo_12 : decode cX10_undo 12 = .ok (.if_icmp .le 5, 3) := by decide +kernel
theorem dX10_undo_15 : decode cX10_undo 15 = .ok (.iconst (-1), 1) := by decide +kernel
theorem dX10_undo_16 : decode cX10_undo 16 = .ok (.ireturn, 1) := by decide +kernel
theorem dX10_undo_17 : decode cX10_undo 17 = .ok (.aload_n 0, 1) := by decide +kernel
theorem dX10_undo_18 : decode cX10_undo 18 = .ok (.getfield 35, 3) := by decide +kernel
theorem dX10_undo_21 : decode cX10_undo 21 = .ok (.iload_n 1, 1) := by decide +kernel
theorem dX10_undo_22 : decode cX10_undo 22 = .ok (.invokevirtual 226, 3) := by decide +kernel
theorem dX10_undo_25 : decode cX10_undo 25 = .ok (.ireturn, 1) := by decide +kernel
theorem dX10_keep_0 : decode cX10_keep 0 = .ok (.iload_n 1, 1) := by decide +kernel
theorem dX10_keep_1 : decode cX10_keep 1 = .ok (.invokestatic 229, 3) := by decide +kernel
theorem dX10_keep_4 : decode cX10_keep 4 = .ok (.ifCond .ne 5, 3) := by decide +kernel
theorem dX10_keep_7 : decode cX10_keep 7 = .ok (.iconst (-1), 1) := by decide +kernel
theorem dX10_keep_8 : decode cX10_keep 8 = .ok (.ireturn, 1) := by decide +kernel
theorem dX10_keep_9 : decode cX10_keep 9 = .ok (.aload_n 0, 1) := by decide +kernel
theorem dX10_keep_10 : decode cX10_keep 10 = .ok (.getfield 26, 3) := by decide +kernel
theorem dX10_keep_13 : decode cX10_keep 13 = .ok (.invokevirtual 181, 3) := by decide +kernel
theorem dX10_keep_16 : decode cX10_keep 16 = .ok (.ifCond .eq 6, 3) := by decide +kernel
theorem dX10_keep_19 : decode cX10_keep 19 = .ok (.bipush (-4), 2) := by decide +kernel
theorem dX10_keep_21 : decode cX10_keep 21 = .ok (.ireturn, 1) := by decide +kernel
theorem dX10_keep_22 : decode cX10_keep 22 = .ok (.aload_n 0, 1) := by decide +kernel
theorem dX10_keep_23 : decode cX10_keep 23 = .ok (.getfield 39, 3) := by decide +kernel
theorem dX10_keep_26 : decode cX10_keep 26 = .ok (.iload_n 1, 1) := by decide +kernel
theorem dX10_keep_27 : decode cX10_keep 27 = .ok (.aaload, 1) := by decide +kernel
theorem dX10_keep_28 : decode cX10_keep 28 = .ok (.aload_n 0, 1) := by decide +kernel
theorem dX10_keep_29 : decode cX10_keep 29 = .ok (.getfield 35, 3) := by decide +kernel
theorem dX10_keep_32 : decode cX10_keep 32 = .ok (.invokevirtual 232, 3) := by decide +kernel
theorem dX10_keep_35 : decode cX10_keep 35 = .ok (.aload_n 0, 1) := by decide +kernel
theorem dX10_keep_36 : decode cX10_keep 36 = .ok (.getfield 35, 3) := by decide +kernel
theorem dX10_keep_39 : decode cX10_keep 39 = .ok (.getfield 198, 3) := by decide +kernel
theorem dX10_keep_42 : decode cX10_keep 42 = .ok (.ireturn, 1) := by decide +kernel
theorem dX10_on_0 : decode cX10_on 0 = .ok (.iload_n 1, 1) := by decide +kernel
theorem dX10_on_1 : decode cX10_on 1 = .ok (.invokestatic 229, 3) := by decide +kernel
theorem dX10_on_4 : decode cX10_on 4 = .ok (.ifCond .ne 5, 3) := by decide +kernel
theorem dX10_on_7 : decode cX10_on 7 = .ok (.iconst (-1), 1) := by decide +kernel
theorem dX10_on_8 : decode cX10_on 8 = .ok (.ireturn, 1) := by decide +kernel
theorem dX10_on_9 : decode cX10_on 9 = .ok (.aload_n 0, 1) := by decide +kernel
theorem dX10_on_10 : decode cX10_on 10 = .ok (.getfield 39, 3) := by decide +kernel
theorem dX10_on_13 : decode cX10_on 13 = .ok (.iload_n 1, 1) := by decide +kernel
theorem dX10_on_14 : decode cX10_on 14 = .ok (.aaload, 1) := by decide +kernel
theorem dX10_on_15 : decode cX10_on 15 = .ok (.getfield 236, 3) := by decide +kernel
theorem dX10_on_18 : decode cX10_on 18 = .ok (.ifCond .ne 9, 3) := by decide +kernel
theorem dX10_on_21 : decode cX10_on 21 = .ok (.aload_n 0, 1) := by decide +kernel
theorem dX10_on_22 : decode cX10_on 22 = .ok (.iconst 1, 1) := by decide +kernel
theorem dX10_on_23 : decode cX10_on 23 = .ok (.invokevirtual 106, 3) := by decide +kernel
theorem dX10_on_26 : decode cX10_on 26 = .ok (.ireturn, 1) := by decide +kernel
theorem dX10_on_27 : decode cX10_on 27 = .ok (.aload_n 0, 1) := by decide +kernel
theorem dX10_on_28 : decode cX10_on 28 = .ok (.getfield 35, 3) := by decide +kernel
theorem dX10_on_31 : decode cX10_on 31 = .ok (.aload_n 0, 1) := by decide +kernel
theorem dX10_on_32 : decode cX10_on 32 = .ok (.getfield 39, 3) := by decide +kernel
theorem dX10_on_35 : decode cX10_on 35 = .ok (.iload_n 1, 1) := by decide +kernel
theorem dX10_on_36 : decode cX10_on 36 = .ok (.aaload, 1) := by decide +kernel
theorem dX10_on_37 : decode cX10_on 37 = .ok (.invokevirtual 232, 3) := by decide +kernel
theorem dX10_on_40 : decode cX10_on 40 = .ok (.aload_n 0, 1) := by decide +kernel
theorem dX10_on_41 : decode cX10_on 41 = .ok (.getfield 35, 3) := by decide +kernel
theorem dX10_on_44 : decode cX10_on 44 = .ok (.getfield 198, 3) := by decide +kernel
theorem dX10_on_47 : decode cX10_on 47 = .ok (.ireturn, 1) := by decide +kernel
theorem dX10_fires_0 : decode cX10_fires 0 = .ok (.aload_n 0, 1) := by decide +kernel
theorem dX10_fires_1 : decode cX10_fires 1 = .ok (.aload_n 0, 1) := by decide +kernel
theorem dX10_fires_2 : decode cX10_fires 2 = .ok (.getfield 35, 3) := by decide +kernel
theorem dX10_fires_5 : decode cX10_fires 5 = .ok (.getfield 201, 3) := by decide +kernel
theorem dX10_fires_8 : decode cX10_fires 8 = .ok (.invokevirtual 239, 3) := by decide +kernel
theorem dX10_fires_11 : decode cX10_fires 11 = .ok (.putfield 92, 3) := by decide +kernel
theorem dX10_fires_14 : decode cX10_fires 14 = .ok (.aload_n 0, 1) := by decide +kernel
theorem dX10_fires_15 : decode cX10_fires 15 = .ok (.getfield 35, 3) := by decide +kernel
theorem dX10_fires_18 : decode cX10_fires 18 = .ok (.getfield 201, 3) := by decide +kernel
theorem dX10_fires_21 : decode cX10_fires 21 = .ok (.getfield 242, 3) := by decide +kernel
theorem dX10_fires_24 : decode cX10_fires 24 = .ok (.ireturn, 1) := by decide +kernel
theorem dX10_reach_0 : decode cX10_reach 0 = .ok (.aload_n 0, 1) := by decide +kernel
theorem dX10_reach_1 : decode cX10_reach 1 = .ok (.getfield 35, 3) := by decide +kernel
theorem dX10_reach_4 : decode cX10_reach 4 = .ok (.getfield 201, 3) := by decide +kernel
theorem dX10_reach_7 : decode cX10_reach 7 = .ok (.invokevirtual 245, 3) := by decide +kernel
theorem dX10_reach_10 : decode cX10_reach 10 = .ok (.ireturn, 1) := by decide +kernel
theorem dX10_lasts_0 : decode cX10_lasts 0 = .ok (.aload_n 0, 1) := by decide +kernel
theorem dX10_lasts_1 : decode cX10_lasts 1 = .ok (.getfield 26, 3) := by decide +kernel
theorem dX10_lasts_4 : decode cX10_lasts 4 = .ok (.iload_n 1, 1) := by decide +kernel
theorem dX10_lasts_5 : decode cX10_lasts 5 = .ok (.invokevirtual 176, 3) := by decide +kernel
theorem dX10_lasts_8 : decode cX10_lasts 8 = .ok (.ifCond .ne 5, 3) := by decide +kernel
theorem dX10_lasts_11 : decode cX10_lasts 11 = .ok (.iconst (-1), 1) := by decide +kernel
theorem dX10_lasts_12 : decode cX10_lasts 12 = .ok (.ireturn, 1) := by decide +kernel
theorem dX10_lasts_13 : decode cX10_lasts 13 = .ok (.aload_n 0, 1) := by decide +kernel
theorem dX10_lasts_14 : decode cX10_lasts 14 = .ok (.getfield 35, 3) := by decide +kernel
theorem dX10_lasts_17 : decode cX10_lasts 17 = .ok (.getfield 201, 3) := by decide +kernel
theorem dX10_lasts_20 : decode cX10_lasts 20 = .ok (.iload_n 1, 1) := by decide +kernel
theorem dX10_lasts_21 : decode cX10_lasts 21 = .ok (.invokevirtual 248, 3) := by decide +kernel
theorem dX10_lasts_24 : decode cX10_lasts 24 = .ok (.ireturn, 1) := by decide +kernel
theorem dX10_dark_0 : decode cX10_dark 0 = .ok (.iconst 0, 1) := by decide +kernel
theorem dX10_dark_1 : decode cX10_dark 1 = .ok (.istore_n 1, 1) := by decide +kernel
theorem dX10_dark_2 : decode cX10_dark 2 = .ok (.iconst 0, 1) := by decide +kernel
theorem dX10_dark_3 : decode cX10_dark 3 = .ok (.istore_n 2, 1) := by decide +kernel
theorem dX10_dark_4 : decode cX10_dark 4 = .ok (.iload_n 2, 1) := by decide +kernel
theorem dX10_dark_5 : decode cX10_dark 5 = .ok (.aload_n 0, 1) := by decide +kernel
theorem dX10_dark_6 : decode cX10_dark 6 = .ok (.getfield 26, 3) := by decide +kernel
theorem dX10_dark_9 : decode cX10_dark 9 = .ok (.getfield 173, 3) := by decide +kernel
theorem dX10_dark_12 : decode cX10_dark 12 = .ok (.if_icmp .ge 25, 3) := by decide +kernel
theorem dX10_dark_15 : decode cX10_dark 15 = .ok (.iload_n 1, 1) := by decide +kernel
theorem dX10_dark_16 : decode cX10_dark 16 = .ok (.aload_n 0, 1) := by decide +kernel
theorem dX10_dark_17 : decode cX10_dark 17 = .ok (.getfield 35, 3) := by decide +kernel
theorem dX10_dark_20 : decode cX10_dark 20 = .ok (.getfield 201, 3) := by decide +kernel
theorem dX10_dark_23 : decode cX10_dark 23 = .ok (.iload_n 2, 1) := by decide +kernel
theorem dX10_dark_24 : decode cX10_dark 24 = .ok (.invokevirtual 248, 3) := by decide +kernel
theorem dX10_dark_27 : decode cX10_dark 27 = .ok (.invokestatic 251, 3) := by decide +kernel
theorem dX10_dark_30 : decode cX10_dark 30 = .ok (.istore_n 1, 1) := by decide +kernel
theorem dX10_dark_31 : decode cX10_dark 31 = .ok (.iinc 2 1, 3) := by decide +kernel
theorem dX10_dark_34 : decode cX10_dark 34 = .ok (.goto (-30), 3) := by decide +kernel
theorem dX10_dark_37 : decode cX10_dark 37 = .ok (.iload_n 1, 1) := by decide +kernel
theorem dX10_dark_38 : decode cX10_dark 38 = .ok (.ireturn, 1) := by decide +kernel
theorem dX10_worst_0 : decode cX10_worst 0 = .ok (.iload_n 1, 1) := by decide +kernel
theorem dX10_worst_1 : decode cX10_worst 1 = .ok (.iconst 1, 1) := by decide +kernel
theorem dX10_worst_2 : decode cX10_worst 2 = .ok (.if_icmp .lt 9, 3) := by decide +kernel
theorem dX10_worst_5 : decode cX10_worst 5 = .ok (.iload_n 1, 1) := by decide +kernel
theorem dX10_worst_6 : decode cX10_worst 6 = .ok (.bipush 20, 2) := by decide +kernel
theorem dX10_worst_8 : decode cX10_worst 8 = .ok (.if_icmp .le 5, 3) := by decide +kernel
theorem dX10_worst_11 : decode cX10_worst 11 = .ok (.iconst (-1), 1) := by decide +kernel
theorem dX10_worst_12 : decode cX10_worst 12 = .ok (.ireturn, 1) := by decide +kernel
theorem dX10_worst_13 : decode cX10_worst 13 = .ok (.aload_n 0, 1) := by decide +kernel
theorem dX10_worst_14 : decode cX10_worst 14 = .ok (.getfield 26, 3) := by decide +kernel
theorem dX10_worst_17 : decode cX10_worst 17 = .ok (.invokevirtual 181, 3) := by decide +kernel
theorem dX10_worst_20 : decode cX10_worst 20 = .ok (.ifCond .eq 6, 3) := by decide +kernel
theorem dX10_worst_23 : decode cX10_worst 23 = .ok (.bipush (-4), 2) := by decide +kernel
theorem dX10_worst_25 : decode cX10_worst 25 = .ok (.ireturn, 1) := by decide +kernel
theorem dX10_worst_26 : decode cX10_worst 26 = .ok (.iconst 1, 1) := by decide +kernel
theorem dX10_worst_27 : decode cX10_worst 27 = .ok (.istore_n 2, 1) := by decide +kernel
theorem dX10_worst_28 : decode cX10_worst 28 = .ok (.aload_n 0, 1) := by decide +kernel
theorem dX10_worst_29 : decode cX10_worst 29 = .ok (.getfield 35, 3) := by decide +kernel
theorem dX10_worst_32 : decode cX10_worst 32 = .ok (.getfield 201, 3) := by decide +kernel
theorem dX10_worst_35 : decode cX10_worst 35 = .ok (.iconst 1, 1) := by decide +kernel
theorem dX10_worst_36 : decode cX10_worst 36 = .ok (.invokevirtual 256, 3) := by decide +kernel
theorem dX10_worst_39 : decode cX10_worst 39 = .ok (.istore_n 3, 1) := by decide +kernel
theorem dX10_worst_40 : decode cX10_worst 40 = .ok (.iconst 2, 1) := by decide +kernel
theorem dX10_worst_41 : decode cX10_worst 41 = .ok (.istore 4, 2) := by decide +kernel
theorem dX10_worst_43 : decode cX10_worst 43 = .ok (.iload 4, 2) := by decide +kernel
theorem dX10_worst_45 : decode cX10_worst 45 = .ok (.iload_n 1, 1) := by decide +kernel
theorem dX10_worst_46 : decode cX10_worst 46 = .ok (.if_icmp .gt 35, 3) := by decide +kernel
theorem dX10_worst_49 : decode cX10_worst 49 = .ok (.aload_n 0, 1) := by decide +kernel
theorem dX10_worst_50 : decode cX10_worst 50 = .ok (.getfield 35, 3) := by decide +kernel
theorem dX10_worst_53 : decode cX10_worst 53 = .ok (.getfield 201, 3) := by decide +kernel
theorem dX10_worst_56 : decode cX10_worst 56 = .ok (.iload 4, 2) := by decide +kernel
theorem dX10_worst_58 : decode cX10_worst 58 = .ok (.invokevirtual 256, 3) := by decide +kernel
theorem dX10_worst_61 : decode cX10_worst 61 = .ok (.istore 5, 2) := by decide +kernel
theorem dX10_worst_63 : decode cX10_worst 63 = .ok (.iload 5, 2) := by decide +kernel
theorem dX10_worst_65 : decode cX10_worst 65 = .ok (.iload_n 3, 1) := by decide +kernel
theorem dX10_worst_66 : decode cX10_worst 66 = .ok (.if_icmp .ge 9, 3) := by decide +kernel
theorem dX10_worst_69 : decode cX10_worst 69 = .ok (.iload 4, 2) := by decide +kernel
theorem dX10_worst_71 : decode cX10_worst 71 = .ok (.istore_n 2, 1) := by decide +kernel
theorem dX10_worst_72 : decode cX10_worst 72 = .ok (.iload 5, 2) := by decide +kernel
theorem dX10_worst_74 : decode cX10_worst 74 = .ok (.istore_n 3, 1) := by decide +kernel
theorem dX10_worst_75 : decode cX10_worst 75 = .ok (.iinc 4 1, 3) := by decide +kernel
theorem dX10_worst_78 : decode cX10_worst 78 = .ok (.goto (-35), 3) := by decide +kernel
theorem dX10_worst_81 : decode cX10_worst 81 = .ok (.aload_n 0, 1) := by decide +kernel
theorem dX10_worst_82 : decode cX10_worst 82 = .ok (.iload_n 3, 1) := by decide +kernel
theorem dX10_worst_83 : decode cX10_worst 83 = .ok (.putfield 92, 3) := by decide +kernel
theorem dX10_worst_86 : decode cX10_worst 86 = .ok (.iload_n 2, 1) := by decide +kernel
theorem dX10_worst_87 : decode cX10_worst 87 = .ok (.ireturn, 1) := by decide +kernel
theorem dX10_can_0 : decode cX10_can 0 = .ok (.iload_n 1, 1) := by decide +kernel
theorem dX10_can_1 : decode cX10_can 1 = .ok (.invokestatic 259, 3) := by decide +kernel
theorem dX10_can_4 : decode cX10_can 4 = .ok (.ifCond .ne 5, 3) := by decide +kernel
theorem dX10_can_7 : decode cX10_can 7 = .ok (.iconst (-1), 1) := by decide +kernel
theorem dX10_can_8 : decode cX10_can 8 = .ok (.ireturn, 1) := by decide +kernel
theorem dX10_can_9 : decode cX10_can 9 = .ok (.aload_n 0, 1) := by decide +kernel
theorem dX10_can_10 : decode cX10_can 10 = .ok (.getfield 66, 3) := by decide +kernel
theorem dX10_can_13 : decode cX10_can 13 = .ok (.aload_n 0, 1) := by decide +kernel
theorem dX10_can_14 : decode cX10_can 14 = .ok (.getfield 35, 3) := by decide +kernel
theorem dX10_can_17 : decode cX10_can 17 = .ok (.getfield 201, 3) := by decide +kernel
theorem dX10_can_20 : decode cX10_can 20 = .ok (.iload_n 1, 1) := by decide +kernel
theorem dX10_can_21 : decode cX10_can 21 = .ok (.iconst 0, 1) := by decide +kernel
theorem dX10_can_22 : decode cX10_can 22 = .ok (.iconst 0, 1) := by decide +kernel
theorem dX10_can_23 : decode cX10_can 23 = .ok (.invokevirtual 262, 3) := by decide +kernel
theorem dX10_can_26 : decode cX10_can 26 = .ok (.aload_n 0, 1) := by decide +kernel
theorem dX10_can_27 : decode cX10_can 27 = .ok (.getfield 66, 3) := by decide +kernel
theorem dX10_can_30 : decode cX10_can 30 = .ok (.getfield 266, 3) := by decide +kernel
theorem dX10_can_33 : decode cX10_can 33 = .ok (.ireturn, 1) := by decide +kernel
theorem dX10_plan_0 : decode cX10_plan 0 = .ok (.aload_n 0, 1) := by decide +kernel
theorem dX10_plan_1 : decode cX10_plan 1 = .ok (.getfield 26, 3) := by decide +kernel
theorem dX10_plan_4 : decode cX10_plan 4 = .ok (.iload_n 1, 1) := by decide +kernel
theorem dX10_plan_5 : decode cX10_plan 5 = .ok (.invokevirtual 176, 3) := by decide +kernel
theorem dX10_plan_8 : decode cX10_plan 8 = .ok (.ifCond .eq 17, 3) := by decide +kernel
theorem dX10_plan_11 : decode cX10_plan 11 = .ok (.iload_n 2, 1) := by decide +kernel
theorem dX10_plan_12 : decode cX10_plan 12 = .ok (.invokestatic 259, 3) := by decide +kernel
theorem dX10_plan_15 : decode cX10_plan 15 = .ok (.ifCond .eq 10, 3) := by decide +kernel
theorem dX10_plan_18 : decode cX10_plan 18 = .ok (.iload_n 3, 1) := by decide +kernel
theorem dX10_plan_19 : decode cX10_plan 19 = .ok (.invokestatic 102, 3) := by decide +kernel
theorem dX10_plan_22 : decode cX10_plan 22 = .ok (.ifCond .ne 5, 3) := by decide +kernel
theorem dX10_plan_25 : decode cX10_plan 25 = .ok (.iconst (-1), 1) := by decide +kernel
theorem dX10_plan_26 : decode cX10_plan 26 = .ok (.ireturn, 1) := by decide +kernel
theorem dX10_plan_27 : decode cX10_plan 27 = .ok (.aload_n 0, 1) := by decide +kernel
theorem dX10_plan_28 : decode cX10_plan 28 = .ok (.getfield 66, 3) := by decide +kernel
theorem dX10_plan_31 : decode cX10_plan 31 = .ok (.aload_n 0, 1) := by decide +kernel
theorem dX10_plan_32 : decode cX10_plan 32 = .ok (.getfield 35, 3) := by decide +kernel
theorem dX10_plan_35 : decode cX10_plan 35 = .ok (.getfield 201, 3) := by decide +kernel
theorem dX10_plan_38 : decode cX10_plan 38 = .ok (.iload_n 2, 1) := by decide +kernel
theorem dX10_plan_39 : decode cX10_plan 39 = .ok (.iconst 1, 1) := by decide +kernel
theorem dX10_plan_40 : decode cX10_plan 40 = .ok (.iload_n 1, 1) := by decide +kernel
theorem dX10_plan_41 : decode cX10_plan 41 = .ok (.invokevirtual 262, 3) := by decide +kernel
theorem dX10_plan_44 : decode cX10_plan 44 = .ok (.aload_n 0, 1) := by decide +kernel
theorem dX10_plan_45 : decode cX10_plan 45 = .ok (.aload_n 0, 1) := by decide +kernel
theorem dX10_plan_46 : decode cX10_plan 46 = .ok (.getfield 11, 3) := by decide +kernel
theorem dX10_plan_49 : decode cX10_plan 49 = .ok (.iload_n 3, 1) := by decide +kernel
theorem dX10_plan_50 : decode cX10_plan 50 = .ok (.aaload, 1) := by decide +kernel
theorem dX10_plan_51 : decode cX10_plan 51 = .ok (.invokevirtual 269, 3) := by decide +kernel
theorem dX10_plan_54 : decode cX10_plan 54 = .ok (.ireturn, 1) := by decide +kernel
theorem dX10_ways_0 : decode cX10_ways 0 = .ok (.aload_n 0, 1) := by decide +kernel
theorem dX10_ways_1 : decode cX10_ways 1 = .ok (.getfield 26, 3) := by decide +kernel
theorem dX10_ways_4 : decode cX10_ways 4 = .ok (.iload_n 1, 1) := by decide +kernel
theorem dX10_ways_5 : decode cX10_ways 5 = .ok (.invokevirtual 176, 3) := by decide +kernel
theorem dX10_ways_8 : decode cX10_ways 8 = .ok (.ifCond .eq 10, 3) := by decide +kernel
theorem dX10_ways_11 : decode cX10_ways 11 = .ok (.iload_n 2, 1) := by decide +kernel
theorem dX10_ways_12 : decode cX10_ways 12 = .ok (.invokestatic 259, 3) := by decide +kernel
theorem dX10_ways_15 : decode cX10_ways 15 = .ok (.ifCond .ne 5, 3) := by decide +kernel
theorem dX10_ways_18 : decode cX10_ways 18 = .ok (.iconst (-1), 1) := by decide +kernel
theorem dX10_ways_19 : decode cX10_ways 19 = .ok (.ireturn, 1) := by decide +kernel
theorem dX10_ways_20 : decode cX10_ways 20 = .ok (.aload_n 0, 1) := by decide +kernel
theorem dX10_ways_21 : decode cX10_ways 21 = .ok (.getfield 66, 3) := by decide +kernel
theorem dX10_ways_24 : decode cX10_ways 24 = .ok (.aload_n 0, 1) := by decide +kernel
theorem dX10_ways_25 : decode cX10_ways 25 = .ok (.getfield 35, 3) := by decide +kernel
theorem dX10_ways_28 : decode cX10_ways 28 = .ok (.getfield 201, 3) := by decide +kernel
theorem dX10_ways_31 : decode cX10_ways 31 = .ok (.iload_n 2, 1) := by decide +kernel
theorem dX10_ways_32 : decode cX10_ways 32 = .ok (.iconst 0, 1) := by decide +kernel
theorem dX10_ways_33 : decode cX10_ways 33 = .ok (.iload_n 1, 1) := by decide +kernel
theorem dX10_ways_34 : decode cX10_ways 34 = .ok (.invokevirtual 262, 3) := by decide +kernel
theorem dX10_ways_37 : decode cX10_ways 37 = .ok (.aload_n 0, 1) := by decide +kernel
theorem dX10_ways_38 : decode cX10_ways 38 = .ok (.aload_n 0, 1) := by decide +kernel
theorem dX10_ways_39 : decode cX10_ways 39 = .ok (.getfield 66, 3) := by decide +kernel
theorem dX10_ways_42 : decode cX10_ways 42 = .ok (.getfield 273, 3) := by decide +kernel
theorem dX10_ways_45 : decode cX10_ways 45 = .ok (.putfield 92, 3) := by decide +kernel
theorem dX10_ways_48 : decode cX10_ways 48 = .ok (.aload_n 0, 1) := by decide +kernel
theorem dX10_ways_49 : decode cX10_ways 49 = .ok (.aload_n 0, 1) := by decide +kernel
theorem dX10_ways_50 : decode cX10_ways 50 = .ok (.getfield 66, 3) := by decide +kernel
theorem dX10_ways_53 : decode cX10_ways 53 = .ok (.getfield 276, 3) := by decide +kernel
theorem dX10_ways_56 : decode cX10_ways 56 = .ok (.i2l, 1) := by decide +kernel
theorem dX10_ways_57 : decode cX10_ways 57 = .ok (.lconst 1, 1) := by decide +kernel
theorem dX10_ways_58 : decode cX10_ways 58 = .ok (.invokevirtual 279, 3) := by decide +kernel
theorem dX10_ways_61 : decode cX10_ways 61 = .ok (.iconst 1, 1) := by decide +kernel
theorem dX10_ways_62 : decode cX10_ways 62 = .ok (.ireturn, 1) := by decide +kernel
theorem dX10_most_0 : decode cX10_most 0 = .ok (.iload_n 1, 1) := by decide +kernel
theorem dX10_most_1 : decode cX10_most 1 = .ok (.invokestatic 259, 3) := by decide +kernel
theorem dX10_most_4 : decode cX10_most 4 = .ok (.ifCond .eq 10, 3) := by decide +kernel
theorem dX10_most_7 : decode cX10_most 7 = .ok (.iload_n 2, 1) := by decide +kernel
theorem dX10_most_8 : decode cX10_most 8 = .ok (.invokestatic 102, 3) := by decide +kernel
theorem dX10_most_11 : decode cX10_most 11 = .ok (.ifCond .ne 5, 3) := by decide +kernel
theorem dX10_most_14 : decode cX10_most 14 = .ok (.iconst (-1), 1) := by decide +kernel
theorem dX10_most_15 : decode cX10_most 15 = .ok (.ireturn, 1) := by decide +kernel
theorem dX10_most_16 : decode cX10_most 16 = .ok (.aload_n 0, 1) := by decide +kernel
theorem dX10_most_17 : decode cX10_most 17 = .ok (.getfield 26, 3) := by decide +kernel
theorem dX10_most_20 : decode cX10_most 20 = .ok (.invokevirtual 181, 3) := by decide +kernel
theorem dX10_most_23 : decode cX10_most 23 = .ok (.ifCond .eq 6, 3) := by decide +kernel
theorem dX10_most_26 : decode cX10_most 26 = .ok (.bipush (-4), 2) := by decide +kernel
theorem dX10_most_28 : decode cX10_most 28 = .ok (.ireturn, 1) := by decide +kernel
theorem dX10_most_29 : decode cX10_most 29 = .ok (.aload_n 0, 1) := by decide +kernel
theorem dX10_most_30 : decode cX10_most 30 = .ok (.getfield 66, 3) := by decide +kernel
theorem dX10_most_33 : decode cX10_most 33 = .ok (.aload_n 0, 1) := by decide +kernel
theorem dX10_most_34 : decode cX10_most 34 = .ok (.getfield 35, 3) := by decide +kernel
theorem dX10_most_37 : decode cX10_most 37 = .ok (.getfield 201, 3) := by decide +kernel
theorem dX10_most_40 : decode cX10_most 40 = .ok (.iload_n 1, 1) := by decide +kernel
theorem dX10_most_41 : decode cX10_most 41 = .ok (.iconst 2, 1) := by decide +kernel
theorem dX10_most_42 : decode cX10_most 42 = .ok (.iconst 0, 1) := by decide +kernel
theorem dX10_most_43 : decode cX10_most 43 = .ok (.invokevirtual 262, 3) := by decide +kernel
theorem dX10_most_46 : decode cX10_most 46 = .ok (.aload_n 0, 1) := by decide +kernel
theorem dX10_most_47 : decode cX10_most 47 = .ok (.aload_n 0, 1) := by decide +kernel
theorem dX10_most_48 : decode cX10_most 48 = .ok (.getfield 11, 3) := by decide +kernel
theorem dX10_most_51 : decode cX10_most 51 = .ok (.iload_n 2, 1) := by decide +kernel
theorem dX10_most_52 : decode cX10_most 52 = .ok (.aaload, 1) := by decide +kernel
theorem dX10_most_53 : decode cX10_most 53 = .ok (.invokevirtual 269, 3) := by decide +kernel
theorem dX10_most_56 : decode cX10_most 56 = .ok (.pop, 1) := by decide +kernel
theorem dX10_most_57 : decode cX10_most 57 = .ok (.aload_n 0, 1) := by decide +kernel
theorem dX10_most_58 : decode cX10_most 58 = .ok (.getfield 66, 3) := by decide +kernel
theorem dX10_most_61 : decode cX10_most 61 = .ok (.getfield 283, 3) := by decide +kernel
theorem dX10_most_64 : decode cX10_most 64 = .ok (.ireturn, 1) := by decide +kernel
theorem dX10_serve_0 : decode cX10_serve 0 = .ok (.iload_n 1, 1) := by decide +kernel
theorem dX10_serve_1 : decode cX10_serve 1 = .ok (.invokestatic 259, 3) := by decide +kernel
theorem dX10_serve_4 : decode cX10_serve 4 = .ok (.ifCond .eq 10, 3) := by decide +kernel
theorem dX10_serve_7 : decode cX10_serve 7 = .ok (.iload_n 2, 1) := by decide +kernel
theorem dX10_serve_8 : decode cX10_serve 8 = .ok (.invokestatic 102, 3) := by decide +kernel
theorem dX10_serve_11 : decode cX10_serve 11 = .ok (.ifCond .ne 5, 3) := by decide +kernel
theorem dX10_serve_14 : decode cX10_serve 14 = .ok (.iconst (-1), 1) := by decide +kernel
theorem dX10_serve_15 : decode cX10_serve 15 = .ok (.ireturn, 1) := by decide +kernel
theorem dX10_serve_16 : decode cX10_serve 16 = .ok (.aload_n 0, 1) := by decide +kernel
theorem dX10_serve_17 : decode cX10_serve 17 = .ok (.getfield 26, 3) := by decide +kernel
theorem dX10_serve_20 : decode cX10_serve 20 = .ok (.invokevirtual 181, 3) := by decide +kernel
theorem dX10_serve_23 : decode cX10_serve 23 = .ok (.ifCond .eq 6, 3) := by decide +kernel
theorem dX10_serve_26 : decode cX10_serve 26 = .ok (.bipush (-4), 2) := by decide +kernel
theorem dX10_serve_28 : decode cX10_serve 28 = .ok (.ireturn, 1) := by decide +kernel
theorem dX10_serve_29 : decode cX10_serve 29 = .ok (.aload_n 0, 1) := by decide +kernel
theorem dX10_serve_30 : decode cX10_serve 30 = .ok (.getfield 66, 3) := by decide +kernel
theorem dX10_serve_33 : decode cX10_serve 33 = .ok (.aload_n 0, 1) := by decide +kernel
theorem dX10_serve_34 : decode cX10_serve 34 = .ok (.getfield 35, 3) := by decide +kernel
theorem dX10_serve_37 : decode cX10_serve 37 = .ok (.getfield 201, 3) := by decide +kernel
theorem dX10_serve_40 : decode cX10_serve 40 = .ok (.iload_n 1, 1) := by decide +kernel
theorem dX10_serve_41 : decode cX10_serve 41 = .ok (.iconst 3, 1) := by decide +kernel
theorem dX10_serve_42 : decode cX10_serve 42 = .ok (.iconst 0, 1) := by decide +kernel
theorem dX10_serve_43 : decode cX10_serve 43 = .ok (.invokevirtual 262, 3) := by decide +kernel
theorem dX10_serve_46 : decode cX10_serve 46 = .ok (.aload_n 0, 1) := by decide +kernel
theorem dX10_serve_47 : decode cX10_serve 47 = .ok (.aload_n 0, 1) := by decide +kernel
theorem dX10_serve_48 : decode cX10_serve 48 = .ok (.getfield 11, 3) := by decide +kernel
theorem dX10_serve_51 : decode cX10_serve 51 = .ok (.iload_n 2, 1) := by decide +kernel
theorem dX10_serve_52 : decode cX10_serve 52 = .ok (.aaload, 1) := by decide +kernel
theorem dX10_serve_53 : decode cX10_serve 53 = .ok (.invokevirtual 269, 3) := by decide +kernel
theorem dX10_serve_56 : decode cX10_serve 56 = .ok (.ireturn, 1) := by decide +kernel
theorem dX10_run_0 : decode cX10_run 0 = .ok (.iload_n 1, 1) := by decide +kernel
theorem dX10_run_1 : decode cX10_run 1 = .ok (.invokestatic 102, 3) := by decide +kernel
theorem dX10_run_4 : decode cX10_run 4 = .ok (.ifCond .ne 5, 3) := by decide +kernel
theorem dX10_run_7 : decode cX10_run 7 = .ok (.iconst (-1), 1) := by decide +kernel
theorem dX10_run_8 : decode cX10_run 8 = .ok (.ireturn, 1) := by decide +kernel
theorem dX10_run_9 : decode cX10_run 9 = .ok (.aload_n 0, 1) := by decide +kernel
theorem dX10_run_10 : decode cX10_run 10 = .ok (.getfield 26, 3) := by decide +kernel
theorem dX10_run_13 : decode cX10_run 13 = .ok (.invokevirtual 181, 3) := by decide +kernel
theorem dX10_run_16 : decode cX10_run 16 = .ok (.ifCond .eq 6, 3) := by decide +kernel
theorem dX10_run_19 : decode cX10_run 19 = .ok (.bipush (-4), 2) := by decide +kernel
theorem dX10_run_21 : decode cX10_run 21 = .ok (.ireturn, 1) := by decide +kernel
theorem dX10_run_22 : decode cX10_run 22 = .ok (.aload_n 0, 1) := by decide +kernel
theorem dX10_run_23 : decode cX10_run 23 = .ok (.getfield 11, 3) := by decide +kernel
theorem dX10_run_26 : decode cX10_run 26 = .ok (.iload_n 1, 1) := by decide +kernel
theorem dX10_run_27 : decode cX10_run 27 = .ok (.aaload, 1) := by decide +kernel
theorem dX10_run_28 : decode cX10_run 28 = .ok (.astore_n 2, 1) := by decide +kernel
theorem dX10_run_29 : decode cX10_run 29 = .ok (.aload_n 2, 1) := by decide +kernel
theorem dX10_run_30 : decode cX10_run 30 = .ok (.iconst 0, 1) := by decide +kernel
theorem dX10_run_31 : decode cX10_run 31 = .ok (.bipush 10, 2) := by decide +kernel
theorem dX10_run_33 : decode cX10_run 33 = .ok (.bipush 36, 2) := by decide +kernel
theorem dX10_run_35 : decode cX10_run 35 = .ok (.invokevirtual 286, 3) := by decide +kernel
theorem dX10_run_38 : decode cX10_run 38 = .ok (.istore_n 3, 1) := by decide +kernel
theorem dX10_run_39 : decode cX10_run 39 = .ok (.iload_n 3, 1) := by decide +kernel
theorem dX10_run_40 : decode cX10_run 40 = .ok (.ifCond .eq 9, 3) := by decide +kernel
theorem dX10_run_43 : decode cX10_run 43 = .ok (.aload_n 0, 1) := by decide +kernel
theorem dX10_run_44 : decode cX10_run 44 = .ok (.iload_n 3, 1) := by decide +kernel
theorem dX10_run_45 : decode cX10_run 45 = .ok (.invokevirtual 106, 3) := by decide +kernel
theorem dX10_run_48 : decode cX10_run 48 = .ok (.ireturn, 1) := by decide +kernel
theorem dX10_run_49 : decode cX10_run 49 = .ok (.aload_n 0, 1) := by decide +kernel
theorem dX10_run_50 : decode cX10_run 50 = .ok (.getfield 60, 3) := by decide +kernel
theorem dX10_run_53 : decode cX10_run 53 = .ok (.aload_n 0, 1) := by decide +kernel
theorem dX10_run_54 : decode cX10_run 54 = .ok (.getfield 35, 3) := by decide +kernel
theorem dX10_run_57 : decode cX10_run 57 = .ok (.getfield 201, 3) := by decide +kernel
theorem dX10_run_60 : decode cX10_run 60 = .ok (.invokevirtual 290, 3) := by decide +kernel
theorem dX10_run_63 : decode cX10_run 63 = .ok (.iconst 0, 1) := by decide +kernel
theorem dX10_run_64 : decode cX10_run 64 = .ok (.istore 4, 2) := by decide +kernel
theorem dX10_run_66 : decode cX10_run 66 = .ok (.iload 4, 2) := by decide +kernel
theorem dX10_run_68 : decode cX10_run 68 = .ok (.aload_n 2, 1) := by decide +kernel
theorem dX10_run_69 : decode cX10_run 69 = .ok (.getfield 144, 3) := by decide +kernel
theorem dX10_run_72 : decode cX10_run 72 = .ok (.if_icmp .ge 50, 3) := by decide +kernel
theorem dX10_run_75 : decode cX10_run 75 = .ok (.aload_n 2, 1) := by decide +kernel
theorem dX10_run_76 : decode cX10_run 76 = .ok (.iload 4, 2) := by decide +kernel
theorem dX10_run_78 : decode cX10_run 78 = .ok (.invokevirtual 117, 3) := by decide +kernel
theorem dX10_run_81 : decode cX10_run 81 = .ok (.istore 5, 2) := by decide +kernel
theorem dX10_run_83 : decode cX10_run 83 = .ok (.aload_n 0, 1) := by decide +kernel
theorem dX10_run_84 : decode cX10_run 84 = .ok (.getfield 60, 3) := by decide +kernel
theorem dX10_run_87 : decode cX10_run 87 = .ok (.aload_n 0, 1) := by decide +kernel
theorem dX10_run_88 : decode cX10_run 88 = .ok (.getfield 60, 3) := by decide +kernel
theorem dX10_run_91 : decode cX10_run 91 = .ok (.iload 5, 2) := by decide +kernel
theorem dX10_run_93 : decode cX10_run 93 = .ok (.invokevirtual 293, 3) := by decide +kernel
theorem dX10_run_96 : decode cX10_run 96 = .ok (.ifCond .eq 8, 3) := by decide +kernel
theorem dX10_run_99 : decode cX10_run 99 = .ok (.iload 5, 2) := by decide +kernel
theorem dX10_run_101 : decode cX10_run 101 = .ok (.goto 5, 3) := by decide +kernel
theorem dX10_run_104 : decode cX10_run 104 = .ok (.bipush 36, 2) := by decide +kernel
theorem dX10_run_106 : decode cX10_run 106 = .ok (.invokevirtual 296, 3) := by decide +kernel
theorem dX10_run_109 : decode cX10_run 109 = .ok (.aload_n 0, 1) := by decide +kernel
theorem dX10_run_110 : decode cX10_run 110 = .ok (.getfield 60, 3) := by decide +kernel
theorem dX10_run_113 : decode cX10_run 113 = .ok (.invokevirtual 299, 3) := by decide +kernel
theorem dX10_run_116 : decode cX10_run 116 = .ok (.iinc 4 1, 3) := by decide +kernel
theorem dX10_run_119 : decode cX10_run 119 = .ok (.goto (-53), 3) := by decide +kernel
theorem dX10_run_122 : decode cX10_run 122 = .ok (.aload_n 0, 1) := by decide +kernel
theorem dX10_run_123 : decode cX10_run 123 = .ok (.aload_n 0, 1) := by decide +kernel
theorem dX10_run_124 : decode cX10_run 124 = .ok (.getfield 60, 3) := by decide +kernel
theorem dX10_run_127 : decode cX10_run 127 = .ok (.invokevirtual 302, 3) := by decide +kernel
theorem dX10_run_130 : decode cX10_run 130 = .ok (.putfield 92, 3) := by decide +kernel
theorem dX10_run_133 : decode cX10_run 133 = .ok (.aload_n 0, 1) := by decide +kernel
theorem dX10_run_134 : decode cX10_run 134 = .ok (.getfield 60, 3) := by decide +kernel
theorem dX10_run_137 : decode cX10_run 137 = .ok (.getfield 242, 3) := by decide +kernel
theorem dX10_run_140 : decode cX10_run 140 = .ok (.ireturn, 1) := by decide +kernel
theorem dX10_where_0 : decode cX10_where 0 = .ok (.iconst 0, 1) := by decide +kernel
theorem dX10_where_1 : decode cX10_where 1 = .ok (.istore_n 1, 1) := by decide +kernel
theorem dX10_where_2 : decode cX10_where 2 = .ok (.iconst 0, 1) := by decide +kernel
theorem dX10_where_3 : decode cX10_where 3 = .ok (.istore_n 2, 1) := by decide +kernel
theorem dX10_where_4 : decode cX10_where 4 = .ok (.bipush (-9), 2) := by decide +kernel
theorem dX10_where_6 : decode cX10_where 6 = .ok (.istore_n 3, 1) := by decide +kernel
theorem dX10_where_7 : decode cX10_where 7 = .ok (.iconst 0, 1) := by decide +kernel
theorem dX10_where_8 : decode cX10_where 8 = .ok (.istore 4, 2) := by decide +kernel
theorem dX10_where_10 : decode cX10_where 10 = .ok (.iload 4, 2) := by decide +kernel
theorem dX10_where_12 : decode cX10_where 12 = .ok (.aload_n 0, 1) := by decide +kernel
theorem dX10_where_13 : decode cX10_where 13 = .ok (.getfield 26, 3) := by decide +kernel
theorem dX10_where_16 : decode cX10_where 16 = .ok (.getfield 173, 3) := by decide +kernel
theorem dX10_where_19 : decode cX10_where 19 = .ok (.if_icmp .ge 57, 3) := by decide +kernel
theorem dX10_where_22 : decode cX10_where 22 = .ok (.aload_n 0, 1) := by decide +kernel
theorem dX10_where_23 : decode cX10_where 23 = .ok (.getfield 35, 3) := by decide +kernel
theorem dX10_where_26 : decode cX10_where 26 = .ok (.getfield 165, 3) := by decide +kernel
theorem dX10_where_29 : decode cX10_where 29 = .ok (.iload 4, 2) := by decide +kernel
theorem dX10_where_31 : decode cX10_where 31 = .ok (.invokevirtual 210, 3) := by decide +kernel
theorem dX10_where_34 : decode cX10_where 34 = .ok (.ifCond .eq 36, 3) := by decide +kernel
theorem dX10_where_37 : decode cX10_where 37 = .ok (.iload_n 1, 1) := by decide +kernel
theorem dX10_where_38 : decode cX10_where 38 = .ok (.iconst 1, 1) := by decide +kernel
theorem dX10_where_39 : decode cX10_where 39 = .ok (.iload 4, 2) := by decide +kernel
theorem dX10_where_41 : decode cX10_where 41 = .ok (.ishl, 1) := by decide +kernel
theorem dX10_where_42 : decode cX10_where 42 = .ok (.ior, 1) := by decide +kernel
theorem dX10_where_43 : decode cX10_where 43 = .ok (.istore_n 1, 1) := by decide +kernel
theorem dX10_where_44 : decode cX10_where 44 = .ok (.aload_n 0, 1) := by decide +kernel
theorem dX10_where_45 : decode cX10_where 45 = .ok (.getfield 35, 3) := by decide +kernel
theorem dX10_where_48 : decode cX10_where 48 = .ok (.getfield 165, 3) := by decide +kernel
theorem dX10_where_51 : decode cX10_where 51 = .ok (.iload 4, 2) := by decide +kernel
theorem dX10_where_53 : decode cX10_where 53 = .ok (.invokevirtual 305, 3) := by decide +kernel
theorem dX10_where_56 : decode cX10_where 56 = .ok (.istore 5, 2) := by decide +kernel
theorem dX10_where_58 : decode cX10_where 58 = .ok (.iload 5, 2) := by decide +kernel
theorem dX10_where_60 : decode cX10_where 60 = .ok (.iload_n 2, 1) := by decide +kernel
theorem dX10_where_61 : decode cX10_where 61 = .ok (.if_icmp .le 9, 3) := by decide +kernel
theorem dX10_where_64 : decode cX10_where 64 = .ok (.iload 5, 2) := by decide +kernel
theorem dX10_where_66 : decode cX10_where 66 = .ok (.istore_n 2, 1) := by decide +kernel
theorem dX10_where_67 : decode cX10_where 67 = .ok (.iload 4, 2) := by decide +kernel
theorem dX10_where_69 : decode cX10_where 69 = .ok (.istore_n 3, 1) := by decide +kernel
theorem dX10_where_70 : decode cX10_where 70 = .ok (.iinc 4 1, 3) := by decide +kernel
theorem dX10_where_73 : decode cX10_where 73 = .ok (.goto (-63), 3) := by decide +kernel
theorem dX10_where_76 : decode cX10_where 76 = .ok (.aload_n 0, 1) := by decide +kernel
theorem dX10_where_77 : decode cX10_where 77 = .ok (.iload_n 3, 1) := by decide +kernel
theorem dX10_where_78 : decode cX10_where 78 = .ok (.putfield 92, 3) := by decide +kernel
theorem dX10_where_81 : decode cX10_where 81 = .ok (.iload_n 1, 1) := by decide +kernel
theorem dX10_where_82 : decode cX10_where 82 = .ok (.ireturn, 1) := by decide +kernel
theorem dX10_smoke_0 : decode cX10_smoke 0 = .ok (.iload_n 1, 1) := by decide +kernel
theorem dX10_smoke_1 : decode cX10_smoke 1 = .ok (.invokestatic 102, 3) := by decide +kernel
theorem dX10_smoke_4 : decode cX10_smoke 4 = .ok (.ifCond .ne 5, 3) := by decide +kernel
theorem dX10_smoke_7 : decode cX10_smoke 7 = .ok (.iconst (-1), 1) := by decide +kernel
theorem dX10_smoke_8 : decode cX10_smoke 8 = .ok (.ireturn, 1) := by decide +kernel
theorem dX10_smoke_9 : decode cX10_smoke 9 = .ok (.aload_n 0, 1) := by decide +kernel
theorem dX10_smoke_10 : decode cX10_smoke 10 = .ok (.getfield 26, 3) := by decide +kernel
theorem dX10_smoke_13 : decode cX10_smoke 13 = .ok (.invokevirtual 181, 3) := by decide +kernel
theorem dX10_smoke_16 : decode cX10_smoke 16 = .ok (.ifCond .eq 6, 3) := by decide +kernel
theorem dX10_smoke_19 : decode cX10_smoke 19 = .ok (.bipush (-4), 2) := by decide +kernel
theorem dX10_smoke_21 : decode cX10_smoke 21 = .ok (.ireturn, 1) := by decide +kernel
theorem dX10_smoke_22 : decode cX10_smoke 22 = .ok (.aload_n 0, 1) := by decide +kernel
theorem dX10_smoke_23 : decode cX10_smoke 23 = .ok (.getfield 11, 3) := by decide +kernel
theorem dX10_smoke_26 : decode cX10_smoke 26 = .ok (.iload_n 1, 1) := by decide +kernel
theorem dX10_smoke_27 : decode cX10_smoke 27 = .ok (.aaload, 1) := by decide +kernel
theorem dX10_smoke_28 : decode cX10_smoke 28 = .ok (.iconst 1, 1) := by decide +kernel
theorem dX10_smoke_29 : decode cX10_smoke 29 = .ok (.iconst 5, 1) := by decide +kernel
theorem dX10_smoke_30 : decode cX10_smoke 30 = .ok (.aload_n 0, 1) := by decide +kernel
theorem dX10_smoke_31 : decode cX10_smoke 31 = .ok (.getfield 26, 3) := by decide +kernel
theorem dX10_smoke_34 : decode cX10_smoke 34 = .ok (.invokevirtual 308, 3) := by decide +kernel
theorem dX10_smoke_37 : decode cX10_smoke 37 = .ok (.invokevirtual 286, 3) := by decide +kernel
theorem dX10_smoke_40 : decode cX10_smoke 40 = .ok (.istore_n 2, 1) := by decide +kernel
theorem dX10_smoke_41 : decode cX10_smoke 41 = .ok (.iload_n 2, 1) := by decide +kernel
theorem dX10_smoke_42 : decode cX10_smoke 42 = .ok (.ifCond .eq 9, 3) := by decide +kernel
theorem dX10_smoke_45 : decode cX10_smoke 45 = .ok (.aload_n 0, 1) := by decide +kernel
theorem dX10_smoke_46 : decode cX10_smoke 46 = .ok (.iload_n 2, 1) := by decide +kernel
theorem dX10_smoke_47 : decode cX10_smoke 47 = .ok (.invokevirtual 106, 3) := by decide +kernel
theorem dX10_smoke_50 : decode cX10_smoke 50 = .ok (.ireturn, 1) := by decide +kernel
theorem dX10_smoke_51 : decode cX10_smoke 51 = .ok (.aload_n 0, 1) := by decide +kernel
theorem dX10_smoke_52 : decode cX10_smoke 52 = .ok (.getfield 73, 3) := by decide +kernel
theorem dX10_smoke_55 : decode cX10_smoke 55 = .ok (.aload_n 0, 1) := by decide +kernel
theorem dX10_smoke_56 : decode cX10_smoke 56 = .ok (.getfield 35, 3) := by decide +kernel
theorem dX10_smoke_59 : decode cX10_smoke 59 = .ok (.getfield 165, 3) := by decide +kernel
theorem dX10_smoke_62 : decode cX10_smoke 62 = .ok (.aload_n 0, 1) := by decide +kernel
theorem dX10_smoke_63 : decode cX10_smoke 63 = .ok (.getfield 11, 3) := by decide +kernel
theorem dX10_smoke_66 : decode cX10_smoke 66 = .ok (.iload_n 1, 1) := by decide +kernel
theorem dX10_smoke_67 : decode cX10_smoke 67 = .ok (.aaload, 1) := by decide +kernel
theorem dX10_smoke_68 : decode cX10_smoke 68 = .ok (.invokevirtual 311, 3) := by decide +kernel
theorem dX10_smoke_71 : decode cX10_smoke 71 = .ok (.aload_n 0, 1) := by decide +kernel
theorem dX10_smoke_72 : decode cX10_smoke 72 = .ok (.aload_n 0, 1) := by decide +kernel
theorem dX10_smoke_73 : decode cX10_smoke 73 = .ok (.getfield 73, 3) := by decide +kernel
theorem dX10_smoke_76 : decode cX10_smoke 76 = .ok (.getfield 314, 3) := by decide +kernel
theorem dX10_smoke_79 : decode cX10_smoke 79 = .ok (.putfield 92, 3) := by decide +kernel
theorem dX10_smoke_82 : decode cX10_smoke 82 = .ok (.aload_n 0, 1) := by decide +kernel
theorem dX10_smoke_83 : decode cX10_smoke 83 = .ok (.aload_n 0, 1) := by decide +kernel
theorem dX10_smoke_84 : decode cX10_smoke 84 = .ok (.getfield 73, 3) := by decide +kernel
theorem dX10_smoke_87 : decode cX10_smoke 87 = .ok (.getfield 317, 3) := by decide +kernel
theorem dX10_smoke_90 : decode cX10_smoke 90 = .ok (.i2l, 1) := by decide +kernel
theorem dX10_smoke_91 : decode cX10_smoke 91 = .ok (.lconst 1, 1) := by decide +kernel
theorem dX10_smoke_92 : decode cX10_smoke 92 = .ok (.invokevirtual 279, 3) := by decide +kernel
theorem dX10_smoke_95 : decode cX10_smoke 95 = .ok (.iconst 1, 1) := by decide +kernel
theorem dX10_smoke_96 : decode cX10_smoke 96 = .ok (.ireturn, 1) := by decide +kernel
theorem dX10_hides_0 : decode cX10_hides 0 = .ok (.iload_n 1, 1) := by decide +kernel
theorem dX10_hides_1 : decode cX10_hides 1 = .ok (.invokestatic 102, 3) := by decide +kernel
theorem dX10_hides_4 : decode cX10_hides 4 = .ok (.ifCond .eq 18, 3) := by decide +kernel
theorem dX10_hides_7 : decode cX10_hides 7 = .ok (.iload_n 2, 1) := by decide +kernel
theorem dX10_hides_8 : decode cX10_hides 8 = .ok (.ifCond .lt 14, 3) := by decide +kernel
theorem dX10_hides_11 : decode cX10_hides 11 = .ok (.iload_n 2, 1) := by decide +kernel
theorem dX10_hides_12 : decode cX10_hides 12 = .ok (.aload_n 0, 1) := by decide +kernel
theorem dX10_hides_13 : decode cX10_hides 13 = .ok (.getfield 26, 3) := by decide +kernel
theorem dX10_hides_16 : decode cX10_hides 16 = .ok (.invokevirtual 308, 3) := by decide +kernel
theorem dX10_hides_19 : decode cX10_hides 19 = .ok (.if_icmp .le 5, 3) := by decide +kernel
theorem dX10_hides_22 : decode cX10_hides 22 = .ok (.iconst (-1), 1) := by decide +kernel
theorem dX10_hides_23 : decode cX10_hides 23 = .ok (.ireturn, 1) := by decide +kernel
theorem dX10_hides_24 : decode cX10_hides 24 = .ok (.aload_n 0, 1) := by decide +kernel
theorem dX10_hides_25 : decode cX10_hides 25 = .ok (.getfield 26, 3) := by decide +kernel
theorem dX10_hides_28 : decode cX10_hides 28 = .ok (.invokevirtual 181, 3) := by decide +kernel
theorem dX10_hides_31 : decode cX10_hides 31 = .ok (.ifCond .eq 6, 3) := by decide +kernel
theorem dX10_hides_34 : decode cX10_hides 34 = .ok (.bipush (-4), 2) := by decide +kernel
theorem dX10_hides_36 : decode cX10_hides 36 = .ok (.ireturn, 1) := by decide +kernel
theorem dX10_hides_37 : decode cX10_hides 37 = .ok (.aload_n 0, 1) := by decide +kernel
theorem dX10_hides_38 : decode cX10_hides 38 = .ok (.getfield 11, 3) := by decide +kernel
theorem dX10_hides_41 : decode cX10_hides 41 = .ok (.iload_n 1, 1) := by decide +kernel
theorem dX10_hides_42 : decode cX10_hides 42 = .ok (.aaload, 1) := by decide +kernel
theorem dX10_hides_43 : decode cX10_hides 43 = .ok (.astore_n 3, 1) := by decide +kernel
theorem dX10_hides_44 : decode cX10_hides 44 = .ok (.aload_n 3, 1) := by decide +kernel
theorem dX10_hides_45 : decode cX10_hides 45 = .ok (.iconst 1, 1) := by decide +kernel
theorem dX10_hides_46 : decode cX10_hides 46 = .ok (.iconst 5, 1) := by decide +kernel
theorem dX10_hides_47 : decode cX10_hides 47 = .ok (.aload_n 0, 1) := by decide +kernel
theorem dX10_hides_48 : decode cX10_hides 48 = .ok (.getfield 26, 3) := by decide +kernel
theorem dX10_hides_51 : decode cX10_hides 51 = .ok (.invokevirtual 308, 3) := by decide +kernel
theorem dX10_hides_54 : decode cX10_hides 54 = .ok (.invokevirtual 286, 3) := by decide +kernel
theorem dX10_hides_57 : decode cX10_hides 57 = .ok (.istore 4, 2) := by decide +kernel
theorem dX10_hides_59 : decode cX10_hides 59 = .ok (.iload 4, 2) := by decide +kernel
theorem dX10_hides_61 : decode cX10_hides 61 = .ok (.ifCond .eq 10, 3) := by decide +kernel
theorem dX10_hides_64 : decode cX10_hides 64 = .ok (.aload_n 0, 1) := by decide +kernel
theorem dX10_hides_65 : decode cX10_hides 65 = .ok (.iload 4, 2) := by decide +kernel
theorem dX10_hides_67 : decode cX10_hides 67 = .ok (.invokevirtual 106, 3) := by decide +kernel
theorem dX10_hides_70 : decode cX10_hides 70 = .ok (.ireturn, 1) := by decide +kernel
theorem dX10_hides_71 : decode cX10_hides 71 = .ok (.aload_n 3, 1) := by decide +kernel
theorem dX10_hides_72 : decode cX10_hides 72 = .ok (.invokevirtual 318, 3) := by decide +kernel
theorem dX10_hides_75 : decode cX10_hides 75 = .ok (.iload_n 2, 1) := by decide +kernel
theorem dX10_hides_76 : decode cX10_hides 76 = .ok (.iconst (-1), 1) := by decide +kernel
theorem dX10_hides_77 : decode cX10_hides 77 = .ok (.ixor, 1) := by decide +kernel
theorem dX10_hides_78 : decode cX10_hides 78 = .ok (.iand, 1) := by decide +kernel
theorem dX10_hides_79 : decode cX10_hides 79 = .ok (.istore 5, 2) := by decide +kernel
theorem dX10_hides_81 : decode cX10_hides 81 = .ok (.iconst 0, 1) := by decide +kernel
theorem dX10_hides_82 : decode cX10_hides 82 = .ok (.istore 6, 2) := by decide +kernel
theorem dX10_hides_84 : decode cX10_hides 84 = .ok (.iload 6, 2) := by decide +kernel
theorem dX10_hides_86 : decode cX10_hides 86 = .ok (.aload_n 0, 1) := by decide +kernel
theorem dX10_hides_87 : decode cX10_hides 87 = .ok (.getfield 26, 3) := by decide +kernel
theorem dX10_hides_90 : decode cX10_hides 90 = .ok (.getfield 173, 3) := by decide +kernel
theorem dX10_hides_93 : decode cX10_hides 93 = .ok (.if_icmp .ge 22, 3) := by decide +kernel
theorem dX10_hides_96 : decode cX10_hides 96 = .ok (.iload 5, 2) := by decide +kernel
theorem dX10_hides_98 : decode cX10_hides 98 = .ok (.iload 6, 2) := by decide +kernel
theorem dX10_hides_100 : decode cX10_hides 100 = .ok (.ishr, 1) := by decide +kernel
theorem dX10_hides_101 : decode cX10_hides 101 = .ok (.iconst 1, 1) := by decide +kernel
theorem dX10_hides_102 : decode cX10_hides 102 = .ok (.iand, 1) := by decide +kernel
theorem dX10_hides_103 : decode cX10_hides 103 = .ok (.ifCond .eq 6, 3) := by decide +kernel
theorem dX10_hides_106 : decode cX10_hides 106 = .ok (.iload 6, 2) := by decide +kernel
theorem dX10_hides_108 : decode cX10_hides 108 = .ok (.ireturn, 1) := by decide +kernel
theorem dX10_hides_109 : decode cX10_hides 109 = .ok (.iinc 6 1, 3) := by decide +kernel
theorem dX10_hides_112 : decode cX10_hides 112 = .ok (.goto (-28), 3) := by decide +kernel
theorem dX10_hides_115 : decode cX10_hides 115 = .ok (.bipush (-9), 2) := by decide +kernel
theorem dX10_hides_117 : decode cX10_hides 117 = .ok (.ireturn, 1) := by decide +kernel
theorem dX10_spring_0 : decode cX10_spring 0 = .ok (.aload_n 0, 1) := by decide +kernel
theorem dX10_spring_1 : decode cX10_spring 1 = .ok (.getfield 26, 3) := by decide +kernel
theorem dX10_spring_4 : decode cX10_spring 4 = .ok (.iload_n 1, 1) := by decide +kernel
theorem dX10_spring_5 : decode cX10_spring 5 = .ok (.invokevirtual 176, 3) := by decide +kernel
theorem dX10_spring_8 : decode cX10_spring 8 = .ok (.ifCond .eq 13, 3) := by decide +kernel
theorem dX10_spring_11 : decode cX10_spring 11 = .ok (.iload_n 2, 1) := by decide +kernel
theorem dX10_spring_12 : decode cX10_spring 12 = .ok (.ifCond .lt 9, 3) := by decide +kernel
theorem dX10_spring_15 : decode cX10_spring 15 = .ok (.iload_n 2, 1) := by decide +kernel
theorem dX10_spring_16 : decode cX10_spring 16 = .ok (.bipush 20, 2) := by decide +kernel
theorem dX10_spring_18 : decode cX10_spring 18 = .ok (.if_icmp .le 5, 3) := by decide +kernel
theorem dX10_spring_21 : decode cX10_spring 21 = .ok (.iconst (-1), 1) := by decide +kernel
theorem dX10_spring_22 : decode cX10_spring 22 = .ok (.ireturn, 1) := by decide +kernel
theorem dX10_spring_23 : decode cX10_spring 23 = .ok (.aload_n 0, 1) := by decide +kernel
theorem dX10_spring_24 : decode cX10_spring 24 = .ok (.getfield 35, 3) := by decide +kernel
theorem dX10_spring_27 : decode cX10_spring 27 = .ok (.getfield 201, 3) := by decide +kernel
theorem dX10_spring_30 : decode cX10_spring 30 = .ok (.iload_n 1, 1) := by decide +kernel
theorem dX10_spring_31 : decode cX10_spring 31 = .ok (.iload_n 2, 1) := by decide +kernel
theorem dX10_spring_32 : decode cX10_spring 32 = .ok (.invokevirtual 321, 3) := by decide +kernel
theorem dX10_spring_35 : decode cX10_spring 35 = .ok (.ireturn, 1) := by decide +kernel
theorem dX10_odds_0 : decode cX10_odds 0 = .ok (.aload_n 0, 1) := by decide +kernel
theorem dX10_odds_1 : decode cX10_odds 1 = .ok (.getfield 26, 3) := by decide +kernel
theorem dX10_odds_4 : decode cX10_odds 4 = .ok (.iload_n 1, 1) := by decide +kernel
theorem dX10_odds_5 : decode cX10_odds 5 = .ok (.invokevirtual 176, 3) := by decide +kernel
theorem dX10_odds_8 : decode cX10_odds 8 = .ok (.ifCond .eq 20, 3) := by decide +kernel
theorem dX10_odds_11 : decode cX10_odds 11 = .ok (.iload_n 2, 1) := by decide +kernel
theorem dX10_odds_12 : decode cX10_odds 12 = .ok (.invokestatic 102, 3) := by decide +kernel
theorem dX10_odds_15 : decode cX10_odds 15 = .ok (.ifCond .eq 13, 3) := by decide +kernel
theorem dX10_odds_18 : decode cX10_odds 18 = .ok (.iload_n 3, 1) := by decide +kernel
theorem dX10_odds_19 : decode cX10_odds 19 = .ok (.ifCond .lt 9, 3) := by decide +kernel
theorem dX10_odds_22 : decode cX10_odds 22 = .ok (.iload_n 3, 1) := by decide +kernel
theorem dX10_odds_23 : decode cX10_odds 23 = .ok (.bipush 12, 2) := by decide +kernel
theorem dX10_odds_25 : decode cX10_odds 25 = .ok (.if_icmp .le 5, 3) := by decide +kernel
theorem dX10_odds_28 : decode cX10_odds 28 = .ok (.iconst (-1), 1) := by decide +kernel
theorem dX10_odds_29 : decode cX10_odds 29 = .ok (.ireturn, 1) := by decide +kernel
theorem dX10_odds_30 : decode cX10_odds 30 = .ok (.aload_n 0, 1) := by decide +kernel
theorem dX10_odds_31 : decode cX10_odds 31 = .ok (.getfield 11, 3) := by decide +kernel
theorem dX10_odds_34 : decode cX10_odds 34 = .ok (.iload_n 2, 1) := by decide +kernel
theorem dX10_odds_35 : decode cX10_odds 35 = .ok (.aaload, 1) := by decide +kernel
theorem dX10_odds_36 : decode cX10_odds 36 = .ok (.iconst 0, 1) := by decide +kernel
theorem dX10_odds_37 : decode cX10_odds 37 = .ok (.iconst 4, 1) := by decide +kernel
theorem dX10_odds_38 : decode cX10_odds 38 = .ok (.bipush 36, 2) := by decide +kernel
theorem dX10_odds_40 : decode cX10_odds 40 = .ok (.invokevirtual 286, 3) := by decide +kernel
theorem dX10_odds_43 : decode cX10_odds 43 = .ok (.istore 4, 2) := by decide +kernel
theorem dX10_odds_45 : decode cX10_odds 45 = .ok (.iload 4, 2) := by decide +kernel
theorem dX10_odds_47 : decode cX10_odds 47 = .ok (.ifCond .eq 10, 3) := by decide +kernel
theorem dX10_odds_50 : decode cX10_odds 50 = .ok (.aload_n 0, 1) := by decide +kernel
theorem dX10_odds_51 : decode cX10_odds 51 = .ok (.iload 4, 2) := by decide +kernel
theorem dX10_odds_53 : decode cX10_odds 53 = .ok (.invokevirtual 106, 3) := by decide +kernel
theorem dX10_odds_56 : decode cX10_odds 56 = .ok (.ireturn, 1) := by decide +kernel
theorem dX10_odds_57 : decode cX10_odds 57 = .ok (.aload_n 0, 1) := by decide +kernel
theorem dX10_odds_58 : decode cX10_odds 58 = .ok (.getfield 80, 3) := by decide +kernel
theorem dX10_odds_61 : decode cX10_odds 61 = .ok (.aload_n 0, 1) := by decide +kernel
theorem dX10_odds_62 : decode cX10_odds 62 = .ok (.getfield 35, 3) := by decide +kernel
theorem dX10_odds_65 : decode cX10_odds 65 = .ok (.getfield 201, 3) := by decide +kernel
theorem dX10_odds_68 : decode cX10_odds 68 = .ok (.iload_n 1, 1) := by decide +kernel
theorem dX10_odds_69 : decode cX10_odds 69 = .ok (.aload_n 0, 1) := by decide +kernel
theorem dX10_odds_70 : decode cX10_odds 70 = .ok (.getfield 11, 3) := by decide +kernel
theorem dX10_odds_73 : decode cX10_odds 73 = .ok (.iload_n 2, 1) := by decide +kernel
theorem dX10_odds_74 : decode cX10_odds 74 = .ok (.aaload, 1) := by decide +kernel
theorem dX10_odds_75 : decode cX10_odds 75 = .ok (.iload_n 3, 1) := by decide +kernel
theorem dX10_odds_76 : decode cX10_odds 76 = .ok (.invokevirtual 324, 3) := by decide +kernel
theorem dX10_odds_79 : decode cX10_odds 79 = .ok (.aload_n 0, 1) := by decide +kernel
theorem dX10_odds_80 : decode cX10_odds 80 = .ok (.aload_n 0, 1) := by decide +kernel
theorem dX10_odds_81 : decode cX10_odds 81 = .ok (.getfield 80, 3) := by decide +kernel
theorem dX10_odds_84 : decode cX10_odds 84 = .ok (.getfield 328, 3) := by decide +kernel
theorem dX10_odds_87 : decode cX10_odds 87 = .ok (.aload_n 0, 1) := by decide +kernel
theorem dX10_odds_88 : decode cX10_odds 88 = .ok (.getfield 80, 3) := by decide +kernel
theorem dX10_odds_91 : decode cX10_odds 91 = .ok (.getfield 331, 3) := by decide +kernel
theorem dX10_odds_94 : decode cX10_odds 94 = .ok (.invokevirtual 279, 3) := by decide +kernel
theorem dX10_odds_97 : decode cX10_odds 97 = .ok (.iconst 1, 1) := by decide +kernel
theorem dX10_odds_98 : decode cX10_odds 98 = .ok (.ireturn, 1) := by decide +kernel
theorem dX10_lots_0 : decode cX10_lots 0 = .ok (.iload_n 1, 1) := by decide +kernel
theorem dX10_lots_1 : decode cX10_lots 1 = .ok (.iconst 1, 1) := by decide +kernel
theorem dX10_lots_2 : decode cX10_lots 2 = .ok (.if_icmp .lt 21, 3) := by decide +kernel
theorem dX10_lots_5 : decode cX10_lots 5 = .ok (.iload_n 1, 1) := by decide +kernel
theorem dX10_lots_6 : decode cX10_lots 6 = .ok (.bipush 10, 2) := by decide +kernel
theorem dX10_lots_8 : decode cX10_lots 8 = .ok (.if_icmp .gt 15, 3) := by decide +kernel
theorem dX10_lots_11 : decode cX10_lots 11 = .ok (.iload_n 2, 1) := by decide +kernel
theorem dX10_lots_12 : decode cX10_lots 12 = .ok (.iconst 1, 1) := by decide +kernel
theorem dX10_lots_13 : decode cX10_lots 13 = .ok (.if_icmp .lt 10, 3) := by decide +kernel
theorem dX10_lots_16 : decode cX10_lots 16 = .ok (.iload_n 2, 1) := by decide +kernel
theorem dX10_lots_17 : decode cX10_lots 17 = .ok (.ldc_w 334, 3) := by decide +kernel
theorem dX10_lots_20 : decode cX10_lots 20 = .ok (.if_icmp .lt 5, 3) := by decide +kernel
theorem dX10_lots_23 : decode cX10_lots 23 = .ok (.iconst (-1), 1) := by decide +kernel
theorem dX10_lots_24 : decode cX10_lots 24 = .ok (.ireturn, 1) := by decide +kernel
theorem dX10_lots_25 : decode cX10_lots 25 = .ok (.aload_n 0, 1) := by decide +kernel
theorem dX10_lots_26 : decode cX10_lots 26 = .ok (.getfield 26, 3) := by decide +kernel
theorem dX10_lots_29 : decode cX10_lots 29 = .ok (.invokevirtual 181, 3) := by decide +kernel
theorem dX10_lots_32 : decode cX10_lots 32 = .ok (.ifCond .eq 6, 3) := by decide +kernel
theorem dX10_lots_35 : decode cX10_lots 35 = .ok (.bipush (-4), 2) := by decide +kernel
theorem dX10_lots_37 : decode cX10_lots 37 = .ok (.ireturn, 1) := by decide +kernel
theorem dX10_lots_38 : decode cX10_lots 38 = .ok (.aload_n 0, 1) := by decide +kernel
theorem dX10_lots_39 : decode cX10_lots 39 = .ok (.getfield 35, 3) := by decide +kernel
theorem dX10_lots_42 : decode cX10_lots 42 = .ok (.iconst 2, 1) := by decide +kernel
theorem dX10_lots_43 : decode cX10_lots 43 = .ok (.iload_n 1, 1) := by decide +kernel
theorem dX10_lots_44 : decode cX10_lots 44 = .ok (.imul, 1) := by decide +kernel
theorem dX10_lots_45 : decode cX10_lots 45 = .ok (.invokevirtual 213, 3) := by decide +kernel
theorem dX10_lots_48 : decode cX10_lots 48 = .ok (.ifCond .ne 6, 3) := by decide +kernel
theorem dX10_lots_51 : decode cX10_lots 51 = .ok (.bipush (-2), 2) := by decide +kernel
theorem dX10_lots_53 : decode cX10_lots 53 = .ok (.ireturn, 1) := by decide +kernel
theorem dX10_lots_54 : decode cX10_lots 54 = .ok (.iload_n 2, 1) := by decide +kernel
theorem dX10_lots_55 : decode cX10_lots 55 = .ok (.istore_n 3, 1) := by decide +kernel
theorem dX10_lots_56 : decode cX10_lots 56 = .ok (.iconst 0, 1) := by decide +kernel
theorem dX10_lots_57 : decode cX10_lots 57 = .ok (.istore 4, 2) := by decide +kernel
theorem dX10_lots_59 : decode cX10_lots 59 = .ok (.iload 4, 2) := by decide +kernel
theorem dX10_lots_61 : decode cX10_lots 61 = .ok (.iload_n 1, 1) := by decide +kernel
theorem dX10_lots_62 : decode cX10_lots 62 = .ok (.if_icmp .ge 35, 3) := by decide +kernel
theorem dX10_lots_65 : decode cX10_lots 65 = .ok (.iload_n 3, 1) := by decide +kernel
theorem dX10_lots_66 : decode cX10_lots 66 = .ok (.i2l, 1) := by decide +kernel
theorem dX10_lots_67 : decode cX10_lots 67 = .ok (.ldc2_w 335, 3) := by decide +kernel
theorem dX10_lots_70 : decode cX10_lots 70 = .ok (.lmul, 1) := by decide +kernel
theorem dX10_lots_71 : decode cX10_lots 71 = .ok (.ldc2_w 337, 3) := by decide +kernel
theorem dX10_lots_74 : decode cX10_lots 74 = .ok (.lrem, 1) := by decide +kernel
theorem dX10_lots_75 : decode cX10_lots 75 = .ok (.l2i, 1) := by decide +kernel
theorem dX10_lots_76 : decode cX10_lots 76 = .ok (.istore_n 3, 1) := by decide +kernel
theorem dX10_lots_77 : decode cX10_lots 77 = .ok (.aload_n 0, 1) := by decide +kernel
theorem dX10_lots_78 : decode cX10_lots 78 = .ok (.iload_n 3, 1) := by decide +kernel
theorem dX10_lots_79 : decode cX10_lots 79 = .ok (.invokevirtual 339, 3) := by decide +kernel
theorem dX10_lots_82 : decode cX10_lots 82 = .ok (.aload_n 0, 1) := by decide +kernel
theorem dX10_lots_83 : decode cX10_lots 83 = .ok (.getfield 35, 3) := by decide +kernel
theorem dX10_lots_86 : decode cX10_lots 86 = .ok (.bipush 36, 2) := by decide +kernel
theorem dX10_lots_88 : decode cX10_lots 88 = .ok (.invokevirtual 216, 3) := by decide +kernel
theorem dX10_lots_91 : decode cX10_lots 91 = .ok (.iinc 4 1, 3) := by decide +kernel
theorem dX10_lots_94 : decode cX10_lots 94 = .ok (.goto (-35), 3) := by decide +kernel
theorem dX10_lots_97 : decode cX10_lots 97 = .ok (.aload_n 0, 1) := by decide +kernel
theorem dX10_lots_98 : decode cX10_lots 98 = .ok (.getfield 35, 3) := by decide +kernel
theorem dX10_lots_101 : decode cX10_lots 101 = .ok (.getfield 201, 3) := by decide +kernel
theorem dX10_lots_104 : decode cX10_lots 104 = .ok (.invokevirtual 222, 3) := by decide +kernel
theorem dX10_lots_107 : decode cX10_lots 107 = .ok (.ireturn, 1) := by decide +kernel
theorem dX10_asked_0 : decode cX10_asked 0 = .ok (.aload_n 0, 1) := by decide +kernel
theorem dX10_asked_1 : decode cX10_asked 1 = .ok (.getfield 92, 3) := by decide +kernel
theorem dX10_asked_4 : decode cX10_asked 4 = .ok (.ireturn, 1) := by decide +kernel
theorem dX10_upper_0 : decode cX10_upper 0 = .ok (.aload_n 0, 1) := by decide +kernel
theorem dX10_upper_1 : decode cX10_upper 1 = .ok (.getfield 95, 3) := by decide +kernel
theorem dX10_upper_4 : decode cX10_upper 4 = .ok (.lreturn, 1) := by decide +kernel
theorem dX10_lower_0 : decode cX10_lower 0 = .ok (.aload_n 0, 1) := by decide +kernel
theorem dX10_lower_1 : decode cX10_lower 1 = .ok (.getfield 99, 3) := by decide +kernel
theorem dX10_lower_4 : decode cX10_lower 4 = .ok (.lreturn, 1) := by decide +kernel
theorem dX10_count_0 : decode cX10_count 0 = .ok (.iload_n 1, 1) := by decide +kernel
theorem dX10_count_1 : decode cX10_count 1 = .ok (.ifCond .lt 9, 3) := by decide +kernel
theorem dX10_count_4 : decode cX10_count 4 = .ok (.iload_n 1, 1) := by decide +kernel
theorem dX10_count_5 : decode cX10_count 5 = .ok (.bipush 9, 2) := by decide +kernel
theorem dX10_count_7 : decode cX10_count 7 = .ok (.if_icmp .lt 5, 3) := by decide +kernel
theorem dX10_count_10 : decode cX10_count 10 = .ok (.iconst (-1), 1) := by decide +kernel
theorem dX10_count_11 : decode cX10_count 11 = .ok (.ireturn, 1) := by decide +kernel
theorem dX10_count_12 : decode cX10_count 12 = .ok (.aload_n 0, 1) := by decide +kernel
theorem dX10_count_13 : decode cX10_count 13 = .ok (.iload_n 1, 1) := by decide +kernel
theorem dX10_count_14 : decode cX10_count 14 = .ok (.invokevirtual 342, 3) := by decide +kernel
theorem dX10_count_17 : decode cX10_count 17 = .ok (.ireturn, 1) := by decide +kernel
theorem dX10_finding_0 : decode cX10_finding 0 = .ok (.aload_n 0, 1) := by decide +kernel
theorem dX10_finding_1 : decode cX10_finding 1 = .ok (.getfield 88, 3) := by decide +kernel
theorem dX10_finding_4 : decode cX10_finding 4 = .ok (.ireturn, 1) := by decide +kernel
theorem dX10_findings_0 : decode cX10_findings 0 = .ok (.iload_n 1, 1) := by decide +kernel
theorem dX10_findings_1 : decode cX10_findings 1 = .ok (.iconst 1, 1) := by decide +kernel
theorem dX10_findings_2 : decode cX10_findings 2 = .ok (.if_icmp .lt 8, 3) := by decide +kernel
theorem dX10_findings_5 : decode cX10_findings 5 = .ok (.iload_n 1, 1) := by decide +kernel
theorem dX10_findings_6 : decode cX10_findings 6 = .ok (.iconst 5, 1) := by decide +kernel
theorem dX10_findings_7 : decode cX10_findings 7 = .ok (.if_icmp .le 5, 3) := by decide +kernel
theorem dX10_findings_10 : decode cX10_findings 10 = .ok (.iconst (-1), 1) := by decide +kernel
theorem dX10_findings_11 : decode cX10_findings 11 = .ok (.ireturn, 1) := by decide +kernel
theorem dX10_findings_12 : decode cX10_findings 12 = .ok (.aload_n 0, 1) := by decide +kernel
theorem dX10_findings_13 : decode cX10_findings 13 = .ok (.getfield 84, 3) := by decide +kernel
theorem dX10_findings_16 : decode cX10_findings 16 = .ok (.iload_n 1, 1) := by decide +kernel
theorem dX10_findings_17 : decode cX10_findings 17 = .ok (.iaload, 1) := by decide +kernel
theorem dX10_findings_18 : decode cX10_findings 18 = .ok (.ireturn, 1) := by decide +kernel
theorem dX10_digest_0 : decode cX10_digest 0 = .ok (.ldc2_w 345, 3) := by decide +kernel
theorem dX10_digest_3 : decode cX10_digest 3 = .ok (.lstore_n 1, 1) := by decide +kernel
theorem dX10_digest_4 : decode cX10_digest 4 = .ok (.iconst 0, 1) := by decide +kernel
theorem dX10_digest_5 : decode cX10_digest 5 = .ok (.istore_n 3, 1) := by decide +kernel
theorem dX10_digest_6 : decode cX10_digest 6 = .ok (.iload_n 3, 1) := by decide +kernel
theorem dX10_digest_7 : decode cX10_digest 7 = .ok (.bipush 9, 2) := by decide +kernel
theorem dX10_digest_9 : decode cX10_digest 9 = .ok (.if_icmp .ge 22, 3) := by decide +kernel
theorem dX10_digest_12 : decode cX10_digest 12 = .ok (.ldc2_w 347, 3) := by decide +kernel
theorem dX10_digest_15 : decode cX10_digest 15 = .ok (.lload_n 1, 1) := by decide +kernel
theorem dX10_digest_16 : decode cX10_digest 16 = .ok (.lmul, 1) := by decide +kernel
theorem dX10_digest_17 : decode cX10_digest 17 = .ok (.aload_n 0, 1) := by decide +kernel
theorem dX10_digest_18 : decode cX10_digest 18 = .ok (.iload_n 3, 1) := by decide +kernel
theorem dX10_digest_19 : decode cX10_digest 19 = .ok (.invokevirtual 342, 3) := by decide +kernel
theorem dX10_digest_22 : decode cX10_digest 22 = .ok (.i2l, 1) := by decide +kernel
theorem dX10_digest_23 : decode cX10_digest 23 = .ok (.ladd, 1) := by decide +kernel
theorem dX10_digest_24 : decode cX10_digest 24 = .ok (.lstore_n 1, 1) := by decide +kernel
theorem dX10_digest_25 : decode cX10_digest 25 = .ok (.iinc 3 1, 3) := by decide +kernel
theorem dX10_digest_28 : decode cX10_digest 28 = .ok (.goto (-22), 3) := by decide +kernel
theorem dX10_digest_31 : decode cX10_digest 31 = .ok (.iconst 0, 1) := by decide +kernel
theorem dX10_digest_32 : decode cX10_digest 32 = .ok (.istore_n 3, 1) := by decide +kernel
theorem dX10_digest_33 : decode cX10_digest 33 = .ok (.iload_n 3, 1) := by decide +kernel
theorem dX10_digest_34 : decode cX10_digest 34 = .ok (.aload_n 0, 1) := by decide +kernel
theorem dX10_digest_35 : decode cX10_digest 35 = .ok (.getfield 26, 3) := by decide +kernel
theorem dX10_digest_38 : decode cX10_digest 38 = .ok (.getfield 173, 3) := by decide +kernel
theorem dX10_digest_41 : decode cX10_digest 41 = .ok (.if_icmp .ge 40, 3) := by decide +kernel
theorem dX10_digest_44 : decode cX10_digest 44 = .ok (.iconst 0, 1) := by decide +kernel
theorem dX10_digest_45 : decode cX10_digest 45 = .ok (.istore 4, 2) := by decide +kernel
theorem dX10_digest_47 : decode cX10_digest 47 = .ok (.iload 4, 2) := by decide +kernel
theorem dX10_digest_49 : decode cX10_digest 49 = .ok (.bipush 6, 2) := by decide +kernel
theorem dX10_digest_51 : decode cX10_digest 51 = .ok (.if_icmp .ge 24, 3) := by decide +kernel
theorem dX10_digest_54 : decode cX10_digest 54 = .ok (.ldc2_w 347, 3) := by decide +kernel
theorem dX10_digest_57 : decode cX10_digest 57 = .ok (.lload_n 1, 1) := by decide +kernel
theorem dX10_digest_58 : decode cX10_digest 58 = .ok (.lmul, 1) := by decide +kernel
theorem dX10_digest_59 : decode cX10_digest 59 = .ok (.aload_n 0, 1) := by decide +kernel
theorem dX10_digest_60 : decode cX10_digest 60 = .ok (.iload_n 3, 1) := by decide +kernel
theorem dX10_digest_61 : decode cX10_digest 61 = .ok (.iload 4, 2) := by decide +kernel
theorem dX10_digest_63 : decode cX10_digest 63 = .ok (.invokevirtual 177, 3) := by decide +kernel
theorem dX10_digest_66 : decode cX10_digest 66 = .ok (.i2l, 1) := by decide +kernel
theorem dX10_digest_67 : decode cX10_digest 67 = .ok (.ladd, 1) := by decide +kernel
theorem dX10_digest_68 : decode cX10_digest 68 = .ok (.lstore_n 1, 1) := by decide +kernel
theorem dX10_digest_69 : decode cX10_digest 69 = .ok (.iinc 4 1, 3) := by decide +kernel
theorem dX10_digest_72 : decode cX10_digest 72 = .ok (.goto (-25), 3) := by decide +kernel
theorem dX10_digest_75 : decode cX10_digest 75 = .ok (.iinc 3 1, 3) := by decide +kernel
theorem dX10_digest_78 : decode cX10_digest 78 = .ok (.goto (-45), 3) := by decide +kernel
theorem dX10_digest_81 : decode cX10_digest 81 = .ok (.iconst 0, 1) := by decide +kernel
theorem dX10_digest_82 : decode cX10_digest 82 = .ok (.istore_n 3, 1) := by decide +kernel
theorem dX10_digest_83 : decode cX10_digest 83 = .ok (.iload_n 3, 1) := by decide +kernel
theorem dX10_digest_84 : decode cX10_digest 84 = .ok (.iconst 3, 1) := by decide +kernel
theorem dX10_digest_85 : decode cX10_digest 85 = .ok (.if_icmp .ge 42, 3) := by decide +kernel
theorem dX10_digest_88 : decode cX10_digest 88 = .ok (.ldc2_w 347, 3) := by decide +kernel
theorem dX10_digest_91 : decode cX10_digest 91 = .ok (.lload_n 1, 1) := by decide +kernel
theorem dX10_digest_92 : decode cX10_digest 92 = .ok (.lmul, 1) := by decide +kernel
theorem dX10_digest_93 : decode cX10_digest 93 = .ok (.aload_n 0, 1) := by decide +kernel
theorem dX10_digest_94 : decode cX10_digest 94 = .ok (.getfield 39, 3) := by decide +kernel
theorem dX10_digest_97 : decode cX10_digest 97 = .ok (.iload_n 3, 1) := by decide +kernel
theorem dX10_digest_98 : decode cX10_digest 98 = .ok (.aaload, 1) := by decide +kernel
theorem dX10_digest_99 : decode cX10_digest 99 = .ok (.getfield 236, 3) := by decide +kernel
theorem dX10_digest_102 : decode cX10_digest 102 = .ok (.ifCond .eq 15, 3) := by decide +kernel
theorem dX10_digest_105 : decode cX10_digest 105 = .ok (.aload_n 0, 1) := by decide +kernel
theorem dX10_digest_106 : decode cX10_digest 106 = .ok (.getfield 39, 3) := by decide +kernel
theorem dX10_digest_109 : decode cX10_digest 109 = .ok (.iload_n 3, 1) := by decide +kernel
theorem dX10_digest_110 : decode cX10_digest 110 = .ok (.aaload, 1) := by decide +kernel
theorem dX10_digest_111 : decode cX10_digest 111 = .ok (.getfield 198, 3) := by decide +kernel
theorem dX10_digest_114 : decode cX10_digest 114 = .ok (.goto 4, 3) := by decide +kernel
theorem dX10_digest_117 : decode cX10_digest 117 = .ok (.iconst (-1), 1) := by decide +kernel
theorem dX10_digest_118 : decode cX10_digest 118 = .ok (.i2l, 1) := by decide +kernel
theorem dX10_digest_119 : decode cX10_digest 119 = .ok (.ladd, 1) := by decide +kernel
theorem dX10_digest_120 : decode cX10_digest 120 = .ok (.lstore_n 1, 1) := by decide +kernel
theorem dX10_digest_121 : decode cX10_digest 121 = .ok (.iinc 3 1, 3) := by decide +kernel
theorem dX10_digest_124 : decode cX10_digest 124 = .ok (.goto (-41), 3) := by decide +kernel
theorem dX10_digest_127 : decode cX10_digest 127 = .ok (.iconst 0, 1) := by decide +kernel
theorem dX10_digest_128 : decode cX10_digest 128 = .ok (.istore_n 3, 1) := by decide +kernel
theorem dX10_digest_129 : decode cX10_digest 129 = .ok (.iload_n 3, 1) := by decide +kernel
theorem dX10_digest_130 : decode cX10_digest 130 = .ok (.bipush 6, 2) := by decide +kernel
theorem dX10_digest_132 : decode cX10_digest 132 = .ok (.if_icmp .ge 20, 3) := by decide +kernel
theorem dX10_digest_135 : decode cX10_digest 135 = .ok (.aload_n 0, 1) := by decide +kernel
theorem dX10_digest_136 : decode cX10_digest 136 = .ok (.getfield 11, 3) := by decide +kernel
theorem dX10_digest_139 : decode cX10_digest 139 = .ok (.iload_n 3, 1) := by decide +kernel
theorem dX10_digest_140 : decode cX10_digest 140 = .ok (.aaload, 1) := by decide +kernel
theorem dX10_digest_141 : decode cX10_digest 141 = .ok (.lload_n 1, 1) := by decide +kernel
theorem dX10_digest_142 : decode cX10_digest 142 = .ok (.invokevirtual 349, 3) := by decide +kernel
theorem dX10_digest_145 : decode cX10_digest 145 = .ok (.lstore_n 1, 1) := by decide +kernel
theorem dX10_digest_146 : decode cX10_digest 146 = .ok (.iinc 3 1, 3) := by decide +kernel
theorem dX10_digest_149 : decode cX10_digest 149 = .ok (.goto (-20), 3) := by decide +kernel
theorem dX10_digest_152 : decode cX10_digest 152 = .ok (.iconst 0, 1) := by decide +kernel
theorem dX10_digest_153 : decode cX10_digest 153 = .ok (.istore_n 3, 1) := by decide +kernel
theorem dX10_digest_154 : decode cX10_digest 154 = .ok (.iload_n 3, 1) := by decide +kernel
theorem dX10_digest_155 : decode cX10_digest 155 = .ok (.iconst 4, 1) := by decide +kernel
theorem dX10_digest_156 : decode cX10_digest 156 = .ok (.if_icmp .ge 20, 3) := by decide +kernel
theorem dX10_digest_159 : decode cX10_digest 159 = .ok (.aload_n 0, 1) := by decide +kernel
theorem dX10_digest_160 : decode cX10_digest 160 = .ok (.getfield 18, 3) := by decide +kernel
theorem dX10_digest_163 : decode cX10_digest 163 = .ok (.iload_n 3, 1) := by decide +kernel
theorem dX10_digest_164 : decode cX10_digest 164 = .ok (.aaload, 1) := by decide +kernel
theorem dX10_digest_165 : decode cX10_digest 165 = .ok (.lload_n 1, 1) := by decide +kernel
theorem dX10_digest_166 : decode cX10_digest 166 = .ok (.invokevirtual 353, 3) := by decide +kernel
theorem dX10_digest_169 : decode cX10_digest 169 = .ok (.lstore_n 1, 1) := by decide +kernel
theorem dX10_digest_170 : decode cX10_digest 170 = .ok (.iinc 3 1, 3) := by decide +kernel
theorem dX10_digest_173 : decode cX10_digest 173 = .ok (.goto (-19), 3) := by decide +kernel
theorem dX10_digest_176 : decode cX10_digest 176 = .ok (.lload_n 1, 1) := by decide +kernel
theorem dX10_digest_177 : decode cX10_digest 177 = .ok (.lreturn, 1) := by decide +kernel
theorem dX10_isRow_0 : decode cX10_isRow 0 = .ok (.iload_n 0, 1) := by decide +kernel
theorem dX10_isRow_1 : decode cX10_isRow 1 = .ok (.ifCond .lt 13, 3) := by decide +kernel
theorem dX10_isRow_4 : decode cX10_isRow 4 = .ok (.iload_n 0, 1) := by decide +kernel
theorem dX10_isRow_5 : decode cX10_isRow 5 = .ok (.bipush 6, 2) := by decide +kernel
theorem dX10_isRow_7 : decode cX10_isRow 7 = .ok (.if_icmp .ge 7, 3) := by decide +kernel
theorem dX10_isRow_10 : decode cX10_isRow 10 = .ok (.iconst 1, 1) := by decide +kernel
theorem dX10_isRow_11 : decode cX10_isRow 11 = .ok (.goto 4, 3) := by decide +kernel
theorem dX10_isRow_14 : decode cX10_isRow 14 = .ok (.iconst 0, 1) := by decide +kernel
theorem dX10_isRow_15 : decode cX10_isRow 15 = .ok (.ireturn, 1) := by decide +kernel
theorem dX10_isText_0 : decode cX10_isText 0 = .ok (.iload_n 0, 1) := by decide +kernel
theorem dX10_isText_1 : decode cX10_isText 1 = .ok (.ifCond .lt 12, 3) := by decide +kernel
theorem dX10_isText_4 : decode cX10_isText 4 = .ok (.iload_n 0, 1) := by decide +kernel
theorem dX10_isText_5 : decode cX10_isText 5 = .ok (.iconst 4, 1) := by decide +kernel
theorem dX10_isText_6 : decode cX10_isText 6 = .ok (.if_icmp .ge 7, 3) := by decide +kernel
theorem dX10_isText_9 : decode cX10_isText 9 = .ok (.iconst 1, 1) := by decide +kernel
theorem dX10_isText_10 : decode cX10_isText 10 = .ok (.goto 4, 3) := by decide +kernel
theorem dX10_isText_13 : decode cX10_isText 13 = .ok (.iconst 0, 1) := by decide +kernel
theorem dX10_isText_14 : decode cX10_isText 14 = .ok (.ireturn, 1) := by decide +kernel
theorem dX10_isKeepingPlace_0 : decode cX10_isKeepingPlace 0 = .ok (.iload_n 0, 1) := by decide +kernel
theorem dX10_isKeepingPlace_1 : decode cX10_isKeepingPlace 1 = .ok (.ifCond .lt 12, 3) := by decide +kernel
theorem dX10_isKeepingPlace_4 : decode cX10_isKeepingPlace 4 = .ok (.iload_n 0, 1) := by decide +kernel
theorem dX10_isKeepingPlace_5 : decode cX10_isKeepingPlace 5 = .ok (.iconst 3, 1) := by decide +kernel
theorem dX10_isKeepingPlace_6 : decode cX10_isKeepingPlace 6 = .ok (.if_icmp .ge 7, 3) := by decide +kernel
theorem dX10_isKeepingPlace_9 : decode cX10_isKeepingPlace 9 = .ok (.iconst 1, 1) := by decide +kernel
theorem dX10_isKeepingPlace_10 : decode cX10_isKeepingPlace 10 = .ok (.goto 4, 3) := by decide +kernel
theorem dX10_isKeepingPlace_13 : decode cX10_isKeepingPlace 13 = .ok (.iconst 0, 1) := by decide +kernel
theorem dX10_isKeepingPlace_14 : decode cX10_isKeepingPlace 14 = .ok (.ireturn, 1) := by decide +kernel
theorem dX10_isAhead_0 : decode cX10_isAhead 0 = .ok (.iload_n 0, 1) := by decide +kernel
theorem dX10_isAhead_1 : decode cX10_isAhead 1 = .ok (.ifCond .lt 12, 3) := by decide +kernel
theorem dX10_isAhead_4 : decode cX10_isAhead 4 = .ok (.iload_n 0, 1) := by decide +kernel
theorem dX10_isAhead_5 : decode cX10_isAhead 5 = .ok (.iconst 4, 1) := by decide +kernel
theorem dX10_isAhead_6 : decode cX10_isAhead 6 = .ok (.if_icmp .gt 7, 3) := by decide +kernel
theorem dX10_isAhead_9 : decode cX10_isAhead 9 = .ok (.iconst 1, 1) := by decide +kernel
theorem dX10_isAhead_10 : decode cX10_isAhead 10 = .ok (.goto 4, 3) := by decide +kernel
theorem dX10_isAhead_13 : decode cX10_isAhead 13 = .ok (.iconst 0, 1) := by decide +kernel
theorem dX10_isAhead_14 : decode cX10_isAhead 14 = .ok (.ireturn, 1) := by decide +kernel
theorem dX10_found_0 : decode cX10_found 0 = .ok (.iload_n 1, 1) := by decide +kernel
theorem dX10_found_1 : decode cX10_found 1 = .ok (.iconst 1, 1) := by decide +kernel
theorem dX10_found_2 : decode cX10_found 2 = .ok (.if_icmp .lt 23, 3) := by decide +kernel
theorem dX10_found_5 : decode cX10_found 5 = .ok (.iload_n 1, 1) := by decide +kernel
theorem dX10_found_6 : decode cX10_found 6 = .ok (.iconst 5, 1) := by decide +kernel
theorem dX10_found_7 : decode cX10_found 7 = .ok (.if_icmp .gt 18, 3) := by decide +kernel
theorem dX10_found_10 : decode cX10_found 10 = .ok (.aload_n 0, 1) := by decide +kernel
theorem dX10_found_11 : decode cX10_found 11 = .ok (.iload_n 1, 1) := by decide +kernel
theorem dX10_found_12 : decode cX10_found 12 = .ok (.putfield 88, 3) := by decide +kernel
theorem dX10_found_15 : decode cX10_found 15 = .ok (.aload_n 0, 1) := by decide +kernel
theorem dX10_found_16 : decode cX10_found 16 = .ok (.getfield 84, 3) := by decide +kernel
theorem dX10_found_19 : decode cX10_found 19 = .ok (.iload_n 1, 1) := by decide +kernel
theorem dX10_found_20 : decode cX10_found 20 = .ok (.dup2, 1) := by decide +kernel
theorem dX10_found_21 : decode cX10_found 21 = .ok (.iaload, 1) := by decide +kernel
theorem dX10_found_22 : decode cX10_found 22 = .ok (.iconst 1, 1) := by decide +kernel
theorem dX10_found_23 : decode cX10_found 23 = .ok (.iadd, 1) := by decide +kernel
theorem dX10_found_24 : decode cX10_found 24 = .ok (.iastore, 1) := by decide +kernel
theorem dX10_found_25 : decode cX10_found 25 = .ok (.bipush (-3), 2) := by decide +kernel
theorem dX10_found_27 : decode cX10_found 27 = .ok (.ireturn, 1) := by decide +kernel
theorem dX10_tell_0 : decode cX10_tell 0 = .ok (.lload_n 1, 1) := by decide +kernel
theorem dX10_tell_1 : decode cX10_tell 1 = .ok (.lload_n 3, 1) := by decide +kernel
theorem dX10_tell_2 : decode cX10_tell 2 = .ok (.invokestatic 354, 3) := by decide +kernel
theorem dX10_tell_5 : decode cX10_tell 5 = .ok (.lstore 5, 2) := by decide +kernel
theorem dX10_tell_7 : decode cX10_tell 7 = .ok (.lload 5, 2) := by decide +kernel
theorem dX10_tell_9 : decode cX10_tell 9 = .ok (.lconst 0, 1) := by decide +kernel
theorem dX10_tell_10 : decode cX10_tell 10 = .ok (.lcmp, 1) := by decide +kernel
theorem dX10_tell_11 : decode cX10_tell 11 = .ok (.ifCond .gt 4, 3) := by decide +kernel
theorem dX10_tell_14 : decode cX10_tell 14 = .ok (.return_, 1) := by decide +kernel
theorem dX10_tell_15 : decode cX10_tell 15 = .ok (.aload_n 0, 1) := by decide +kernel
theorem dX10_tell_16 : decode cX10_tell 16 = .ok (.lload_n 1, 1) := by decide +kernel
theorem dX10_tell_17 : decode cX10_tell 17 = .ok (.lload 5, 2) := by decide +kernel
theorem dX10_tell_19 : decode cX10_tell 19 = .ok (.ldiv, 1) := by decide +kernel
theorem dX10_tell_20 : decode cX10_tell 20 = .ok (.putfield 95, 3) := by decide +kernel
theorem dX10_tell_23 : decode cX10_tell 23 = .ok (.aload_n 0, 1) := by decide +kernel
theorem dX10_tell_24 : decode cX10_tell 24 = .ok (.lload_n 3, 1) := by decide +kernel
theorem dX10_tell_25 : decode cX10_tell 25 = .ok (.lload 5, 2) := by decide +kernel
theorem dX10_tell_27 : decode cX10_tell 27 = .ok (.ldiv, 1) := by decide +kernel
theorem dX10_tell_28 : decode cX10_tell 28 = .ok (.putfield 99, 3) := by decide +kernel
theorem dX10_tell_31 : decode cX10_tell 31 = .ok (.return_, 1) := by decide +kernel
theorem dX10_commonDivisor_0 : decode cX10_commonDivisor 0 = .ok (.lload_n 0, 1) := by decide +kernel
theorem dX10_commonDivisor_1 : decode cX10_commonDivisor 1 = .ok (.lstore 4, 2) := by decide +kernel
theorem dX10_commonDivisor_3 : decode cX10_commonDivisor 3 = .ok (.lload_n 2, 1) := by decide +kernel
theorem dX10_commonDivisor_4 : decode cX10_commonDivisor 4 = .ok (.lstore 6, 2) := by decide +kernel
theorem dX10_commonDivisor_6 : decode cX10_commonDivisor 6 = .ok (.iconst 0, 1) := by decide +kernel
theorem dX10_commonDivisor_7 : decode cX10_commonDivisor 7 = .ok (.istore 8, 2) := by decide +kernel
theorem dX10_commonDivisor_9 : decode cX10_commonDivisor 9 = .ok (.iload 8, 2) := by decide +kernel
theorem dX10_commonDivisor_11 : decode cX10_commonDivisor 11 = .ok (.bipush 100, 2) := by decide +kernel
theorem dX10_commonDivisor_13 : decode cX10_commonDivisor 13 = .ok (.if_icmp .ge 31, 3) := by decide +kernel
theorem dX10_commonDivisor_16 : decode cX10_commonDivisor 16 = .ok (.lload 6, 2) := by decide +kernel
theorem dX10_commonDivisor_18 : decode cX10_commonDivisor 18 = .ok (.lconst 0, 1) := by decide +kernel
theorem dX10_commonDivisor_19 : decode cX10_commonDivisor 19 = .ok (.lcmp, 1) := by decide +kernel
theorem dX10_commonDivisor_20 : decode cX10_commonDivisor 20 = .ok (.ifCond .eq 24, 3) := by decide +kernel
theorem dX10_commonDivisor_23 : decode cX10_commonDivisor 23 = .ok (.lload 4, 2) := by decide +kernel
theorem dX10_commonDivisor_25 : decode cX10_commonDivisor 25 = .ok (.lload 6, 2) := by decide +kernel
theorem dX10_commonDivisor_27 : decode cX10_commonDivisor 27 = .ok (.lrem, 1) := by decide +kernel
theorem dX10_commonDivisor_28 : decode cX10_commonDivisor 28 = .ok (.lstore 9, 2) := by decide +kernel
theorem dX10_commonDivisor_30 : decode cX10_commonDivisor 30 = .ok (.lload 6, 2) := by decide +kernel
theorem dX10_commonDivisor_32 : decode cX10_commonDivisor 32 = .ok (.lstore 4, 2) := by decide +kernel
theorem dX10_commonDivisor_34 : decode cX10_commonDivisor 34 = .ok (.lload 9, 2) := by decide +kernel
theorem dX10_commonDivisor_36 : decode cX10_commonDivisor 36 = .ok (.lstore 6, 2) := by decide +kernel
theorem dX10_commonDivisor_38 : decode cX10_commonDivisor 38 = .ok (.iinc 8 1, 3) := by decide +kernel
theorem dX10_commonDivisor_41 : decode cX10_commonDivisor 41 = .ok (.goto (-32), 3) := by decide +kernel
theorem dX10_commonDivisor_44 : decode cX10_commonDivisor 44 = .ok (.lload 4, 2) := by decide +kernel
theorem dX10_commonDivisor_46 : decode cX10_commonDivisor 46 = .ok (.lreturn, 1) := by decide +kernel
theorem dX10_factOf_0 : decode cX10_factOf 0 = .ok (.aload_n 0, 1) := by decide +kernel
theorem dX10_factOf_1 : decode cX10_factOf 1 = .ok (.getfield 35, 3) := by decide +kernel
theorem dX10_factOf_4 : decode cX10_factOf 4 = .ok (.getfield 201, 3) := by decide +kernel
theorem dX10_factOf_7 : decode cX10_factOf 7 = .ok (.astore_n 3, 1) := by decide +kernel
theorem dX10_factOf_8 : decode cX10_factOf 8 = .ok (.iload_n 2, 1) := by decide +kernel
theorem dX10_factOf_9 : decode cX10_factOf 9 = .ok (.tableswitch 79 0 4 #[35, 44, 50, 56, 65], 35) := by decide +kernel
theorem dX10_factOf_44 : decode cX10_factOf 44 = .ok (.aload_n 0, 1) := by decide +kernel
theorem dX10_factOf_45 : decode cX10_factOf 45 = .ok (.getfield 26, 3) := by decide +kernel
theorem dX10_factOf_48 : decode cX10_factOf 48 = .ok (.iload_n 1, 1) := by decide +kernel
theorem dX10_factOf_49 : decode cX10_factOf 49 = .ok (.invokevirtual 189, 3) := by decide +kernel
theorem dX10_factOf_52 : decode cX10_factOf 52 = .ok (.ireturn, 1) := by decide +kernel
theorem dX10_factOf_53 : decode cX10_factOf 53 = .ok (.aload_n 3, 1) := by decide +kernel
theorem dX10_factOf_54 : decode cX10_factOf 54 = .ok (.iload_n 1, 1) := by decide +kernel
theorem dX10_factOf_55 : decode cX10_factOf 55 = .ok (.invokevirtual 204, 3) := by decide +kernel
theorem dX10_factOf_58 : decode cX10_factOf 58 = .ok (.ireturn, 1) := by decide +kernel
theorem dX10_factOf_59 : decode cX10_factOf 59 = .ok (.aload_n 3, 1) := by decide +kernel
theorem dX10_factOf_60 : decode cX10_factOf 60 = .ok (.iload_n 1, 1) := by decide +kernel
theorem dX10_factOf_61 : decode cX10_factOf 61 = .ok (.invokevirtual 358, 3) := by decide +kernel
theorem dX10_factOf_64 : decode cX10_factOf 64 = .ok (.ireturn, 1) := by decide +kernel
theorem dX10_factOf_65 : decode cX10_factOf 65 = .ok (.aload_n 0, 1) := by decide +kernel
theorem dX10_factOf_66 : decode cX10_factOf 66 = .ok (.getfield 26, 3) := by decide +kernel
theorem dX10_factOf_69 : decode cX10_factOf 69 = .ok (.iload_n 1, 1) := by decide +kernel
theorem dX10_factOf_70 : decode cX10_factOf 70 = .ok (.invokevirtual 361, 3) := by decide +kernel
theorem dX10_factOf_73 : decode cX10_factOf 73 = .ok (.ireturn, 1) := by decide +kernel
theorem dX10_factOf_74 : decode cX10_factOf 74 = .ok (.aload_n 3, 1) := by decide +kernel
theorem dX10_factOf_75 : decode cX10_factOf 75 = .ok (.iload_n 1, 1) := by decide +kernel
theorem dX10_factOf_76 : decode cX10_factOf 76 = .ok (.invokevirtual 364, 3) := by decide +kernel
theorem dX10_factOf_79 : decode cX10_factOf 79 = .ok (.ifCond .eq 7, 3) := by decide +kernel
theorem dX10_factOf_82 : decode cX10_factOf 82 = .ok (.iconst 1, 1) := by decide +kernel
theorem dX10_factOf_83 : decode cX10_factOf 83 = .ok (.goto 4, 3) := by decide +kernel
theorem dX10_factOf_86 : decode cX10_factOf 86 = .ok (.iconst 0, 1) := by decide +kernel
theorem dX10_factOf_87 : decode cX10_factOf 87 = .ok (.ireturn, 1) := by decide +kernel
theorem dX10_factOf_88 : decode cX10_factOf 88 = .ok (.aload_n 3, 1) := by decide +kernel
theorem dX10_factOf_89 : decode cX10_factOf 89 = .ok (.iload_n 1, 1) := by decide +kernel
theorem dX10_factOf_90 : decode cX10_factOf 90 = .ok (.invokevirtual 367, 3) := by decide +kernel
theorem dX10_factOf_93 : decode cX10_factOf 93 = .ok (.ifCond .eq 7, 3) := by decide +kernel
theorem dX10_factOf_96 : decode cX10_factOf 96 = .ok (.iconst 1, 1) := by decide +kernel
theorem dX10_factOf_97 : decode cX10_factOf 97 = .ok (.goto 4, 3) := by decide +kernel
theorem dX10_factOf_100 : decode cX10_factOf 100 = .ok (.iconst 0, 1) := by decide +kernel
theorem dX10_factOf_101 : decode cX10_factOf 101 = .ok (.ireturn, 1) := by decide +kernel
theorem dX10_markOf_0 : decode cX10_markOf 0 = .ok (.aload_n 0, 1) := by decide +kernel
theorem dX10_markOf_1 : decode cX10_markOf 1 = .ok (.getfield 35, 3) := by decide +kernel
theorem dX10_markOf_4 : decode cX10_markOf 4 = .ok (.getfield 201, 3) := by decide +kernel
theorem dX10_markOf_7 : decode cX10_markOf 7 = .ok (.astore_n 3, 1) := by decide +kernel
theorem dX10_markOf_8 : decode cX10_markOf 8 = .ok (.iload_n 2, 1) := by decide +kernel
theorem dX10_markOf_9 : decode cX10_markOf 9 = .ok (.tableswitch 74 1 4 #[31, 39, 53, 63], 31) := by decide +kernel
theorem dX10_markOf_40 : decode cX10_markOf 40 = .ok (.aload_n 3, 1) := by decide +kernel
theorem dX10_markOf_41 : decode cX10_markOf 41 = .ok (.iload_n 1, 1) := by decide +kernel
theorem dX10_markOf_42 : decode cX10_markOf 42 = .ok (.bipush 8, 2) := by decide +kernel
theorem dX10_markOf_44 : decode cX10_markOf 44 = .ok (.invokevirtual 321, 3) := by decide +kernel
theorem dX10_markOf_47 : decode cX10_markOf 47 = .ok (.ireturn, 1) := by decide +kernel
theorem dX10_markOf_48 : decode cX10_markOf 48 = .ok (.iconst 3, 1) := by decide +kernel
theorem dX10_markOf_49 : decode cX10_markOf 49 = .ok (.aload_n 0, 1) := by decide +kernel
theorem dX10_markOf_50 : decode cX10_markOf 50 = .ok (.getfield 26, 3) := by decide +kernel
theorem dX10_markOf_53 : decode cX10_markOf 53 = .ok (.iload_n 1, 1) := by decide +kernel
theorem dX10_markOf_54 : decode cX10_markOf 54 = .ok (.invokevirtual 189, 3) := by decide +kernel
theorem dX10_markOf_57 : decode cX10_markOf 57 = .ok (.invokestatic 370, 3) := by decide +kernel
theorem dX10_markOf_60 : decode cX10_markOf 60 = .ok (.isub, 1) := by decide +kernel
theorem dX10_markOf_61 : decode cX10_markOf 61 = .ok (.ireturn, 1) := by decide +kernel
theorem dX10_markOf_62 : decode cX10_markOf 62 = .ok (.aload_n 3, 1) := by decide +kernel
theorem dX10_markOf_63 : decode cX10_markOf 63 = .ok (.iload_n 1, 1) := by decide +kernel
theorem dX10_markOf_64 : decode cX10_markOf 64 = .ok (.invokevirtual 204, 3) := by decide +kernel
theorem dX10_markOf_67 : decode cX10_markOf 67 = .ok (.iconst 1, 1) := by decide +kernel
theorem dX10_markOf_68 : decode cX10_markOf 68 = .ok (.iadd, 1) := by decide +kernel
theorem dX10_markOf_69 : decode cX10_markOf 69 = .ok (.iconst 2, 1) := by decide +kernel
theorem dX10_markOf_70 : decode cX10_markOf 70 = .ok (.idiv, 1) := by decide +kernel
theorem dX10_markOf_71 : decode cX10_markOf 71 = .ok (.ireturn, 1) := by decide +kernel
theorem dX10_markOf_72 : decode cX10_markOf 72 = .ok (.iconst 4, 1) := by decide +kernel
theorem dX10_markOf_73 : decode cX10_markOf 73 = .ok (.aload_n 3, 1) := by decide +kernel
theorem dX10_markOf_74 : decode cX10_markOf 74 = .ok (.getfield 373, 3) := by decide +kernel
theorem dX10_markOf_77 : decode cX10_markOf 77 = .ok (.iconst 4, 1) := by decide +kernel
theorem dX10_markOf_78 : decode cX10_markOf 78 = .ok (.irem, 1) := by decide +kernel
theorem dX10_markOf_79 : decode cX10_markOf 79 = .ok (.isub, 1) := by decide +kernel
theorem dX10_markOf_80 : decode cX10_markOf 80 = .ok (.iconst 4, 1) := by decide +kernel
theorem dX10_markOf_81 : decode cX10_markOf 81 = .ok (.irem, 1) := by decide +kernel
theorem dX10_markOf_82 : decode cX10_markOf 82 = .ok (.ireturn, 1) := by decide +kernel
theorem dX10_markOf_83 : decode cX10_markOf 83 = .ok (.aload_n 3, 1) := by decide +kernel
theorem dX10_markOf_84 : decode cX10_markOf 84 = .ok (.iload_n 1, 1) := by decide +kernel
theorem dX10_markOf_85 : decode cX10_markOf 85 = .ok (.invokevirtual 376, 3) := by decide +kernel
theorem dX10_markOf_88 : decode cX10_markOf 88 = .ok (.ireturn, 1) := by decide +kernel
theorem dX10_countOf_0 : decode cX10_countOf 0 = .ok (.iload_n 1, 1) := by decide +kernel
theorem dX10_countOf_1 : decode cX10_countOf 1 = .ok (.tableswitch 123 0 7 #[47, 55, 66, 85, 93, 104, 113, 118], 47) := by decide +kernel
theorem dX10_countOf_48 : decode cX10_countOf 48 = .ok (.aload_n 0, 1) := by decide +kernel
theorem dX10_countOf_49 : decode cX10_countOf 49 = .ok (.getfield 26, 3) := by decide +kernel
theorem dX10_countOf_52 : decode cX10_countOf 52 = .ok (.getfield 173, 3) := by decide +kernel
theorem dX10_countOf_55 : decode cX10_countOf 55 = .ok (.ireturn, 1) := by decide +kernel
theorem dX10_countOf_56 : decode cX10_countOf 56 = .ok (.aload_n 0, 1) := by decide +kernel
theorem dX10_countOf_57 : decode cX10_countOf 57 = .ok (.getfield 35, 3) := by decide +kernel
theorem dX10_countOf_60 : decode cX10_countOf 60 = .ok (.getfield 201, 3) := by decide +kernel
theorem dX10_countOf_63 : decode cX10_countOf 63 = .ok (.getfield 373, 3) := by decide +kernel
theorem dX10_countOf_66 : decode cX10_countOf 66 = .ok (.ireturn, 1) := by decide +kernel
theorem dX10_countOf_67 : decode cX10_countOf 67 = .ok (.aload_n 0, 1) := by decide +kernel
theorem dX10_countOf_68 : decode cX10_countOf 68 = .ok (.getfield 35, 3) := by decide +kernel
theorem dX10_countOf_71 : decode cX10_countOf 71 = .ok (.getfield 201, 3) := by decide +kernel
theorem dX10_countOf_74 : decode cX10_countOf 74 = .ok (.getfield 379, 3) := by decide +kernel
theorem dX10_countOf_77 : decode cX10_countOf 77 = .ok (.ifCond .eq 7, 3) := by decide +kernel
theorem dX10_countOf_80 : decode cX10_countOf 80 = .ok (.iconst 1, 1) := by decide +kernel
theorem dX10_countOf_81 : decode cX10_countOf 81 = .ok (.goto 4, 3) := by decide +kernel
theorem dX10_countOf_84 : decode cX10_countOf 84 = .ok (.iconst 0, 1) := by decide +kernel
theorem dX10_countOf_85 : decode cX10_countOf 85 = .ok (.ireturn, 1) := by decide +kernel
theorem dX10_countOf_86 : decode cX10_countOf 86 = .ok (.aload_n 0, 1) := by decide +kernel
theorem dX10_countOf_87 : decode cX10_countOf 87 = .ok (.getfield 35, 3) := by decide +kernel
theorem dX10_countOf_90 : decode cX10_countOf 90 = .ok (.getfield 198, 3) := by decide +kernel
theorem dX10_countOf_93 : decode cX10_countOf 93 = .ok (.ireturn, 1) := by decide +kernel
theorem dX10_countOf_94 : decode cX10_countOf 94 = .ok (.aload_n 0, 1) := by decide +kernel
theorem dX10_countOf_95 : decode cX10_countOf 95 = .ok (.getfield 35, 3) := by decide +kernel
theorem dX10_countOf_98 : decode cX10_countOf 98 = .ok (.getfield 201, 3) := by decide +kernel
theorem dX10_countOf_101 : decode cX10_countOf 101 = .ok (.invokevirtual 302, 3) := by decide +kernel
theorem dX10_countOf_104 : decode cX10_countOf 104 = .ok (.ireturn, 1) := by decide +kernel
theorem dX10_countOf_105 : decode cX10_countOf 105 = .ok (.aload_n 0, 1) := by decide +kernel
theorem dX10_countOf_106 : decode cX10_countOf 106 = .ok (.getfield 26, 3) := by decide +kernel
theorem dX10_countOf_109 : decode cX10_countOf 109 = .ok (.iconst 1, 1) := by decide +kernel
theorem dX10_countOf_110 : decode cX10_countOf 110 = .ok (.invokevirtual 382, 3) := by decide +kernel
theorem dX10_countOf_113 : decode cX10_countOf 113 = .ok (.ireturn, 1) := by decide +kernel
theorem dX10_countOf_114 : decode cX10_countOf 114 = .ok (.aload_n 0, 1) := by decide +kernel
theorem dX10_countOf_115 : decode cX10_countOf 115 = .ok (.invokevirtual 383, 3) := by decide +kernel
theorem dX10_countOf_118 : decode cX10_countOf 118 = .ok (.ireturn, 1) := by decide +kernel
theorem dX10_countOf_119 : decode cX10_countOf 119 = .ok (.aload_n 0, 1) := by decide +kernel
theorem dX10_countOf_120 : decode cX10_countOf 120 = .ok (.invokevirtual 386, 3) := by decide +kernel
theorem dX10_countOf_123 : decode cX10_countOf 123 = .ok (.ireturn, 1) := by decide +kernel
theorem dX10_countOf_124 : decode cX10_countOf 124 = .ok (.aload_n 0, 1) := by decide +kernel
theorem dX10_countOf_125 : decode cX10_countOf 125 = .ok (.invokevirtual 389, 3) := by decide +kernel
theorem dX10_countOf_128 : decode cX10_countOf 128 = .ok (.ireturn, 1) := by decide +kernel
theorem dX10_rowsThere_0 : decode cX10_rowsThere 0 = .ok (.iconst 0, 1) := by decide +kernel
theorem dX10_rowsThere_1 : decode cX10_rowsThere 1 = .ok (.istore_n 1, 1) := by decide +kernel
theorem dX10_rowsThere_2 : decode cX10_rowsThere 2 = .ok (.iconst 0, 1) := by decide +kernel
theorem dX10_rowsThere_3 : decode cX10_rowsThere 3 = .ok (.istore_n 2, 1) := by decide +kernel
theorem dX10_rowsThere_4 : decode cX10_rowsThere 4 = .ok (.iload_n 2, 1) := by decide +kernel
theorem dX10_rowsThere_5 : decode cX10_rowsThere 5 = .ok (.bipush 6, 2) := by decide +kernel
theorem dX10_rowsThere_7 : decode cX10_rowsThere 7 = .ok (.if_icmp .ge 29, 3) := by decide +kernel
theorem dX10_rowsThere_10 : decode cX10_rowsThere 10 = .ok (.iload_n 1, 1) := by decide +kernel
theorem dX10_rowsThere_11 : decode cX10_rowsThere 11 = .ok (.aload_n 0, 1) := by decide +kernel
theorem dX10_rowsThere_12 : decode cX10_rowsThere 12 = .ok (.getfield 11, 3) := by decide +kernel
theorem dX10_rowsThere_15 : decode cX10_rowsThere 15 = .ok (.iload_n 2, 1) := by decide +kernel
theorem dX10_rowsThere_16 : decode cX10_rowsThere 16 = .ok (.aaload, 1) := by decide +kernel
theorem dX10_rowsThere_17 : decode cX10_rowsThere 17 = .ok (.invokevirtual 124, 3) := by decide +kernel
theorem dX10_rowsThere_20 : decode cX10_rowsThere 20 = .ok (.ifCond .eq 7, 3) := by decide +kernel
theorem dX10_rowsThere_23 : decode cX10_rowsThere 23 = .ok (.iconst 1, 1) := by decide +kernel
theorem dX10_rowsThere_24 : decode cX10_rowsThere 24 = .ok (.goto 4, 3) := by decide +kernel
theorem dX10_rowsThere_27 : decode cX10_rowsThere 27 = .ok (.iconst 0, 1) := by decide +kernel
theorem dX10_rowsThere_28 : decode cX10_rowsThere 28 = .ok (.iadd, 1) := by decide +kernel
theorem dX10_rowsThere_29 : decode cX10_rowsThere 29 = .ok (.istore_n 1, 1) := by decide +kernel
theorem dX10_rowsThere_30 : decode cX10_rowsThere 30 = .ok (.iinc 2 1, 3) := by decide +kernel
theorem dX10_rowsThere_33 : decode cX10_rowsThere 33 = .ok (.goto (-29), 3) := by decide +kernel
theorem dX10_rowsThere_36 : decode cX10_rowsThere 36 = .ok (.iload_n 1, 1) := by decide +kernel
theorem dX10_rowsThere_37 : decode cX10_rowsThere 37 = .ok (.ireturn, 1) := by decide +kernel
theorem dX10_textsThere_0 : decode cX10_textsThere 0 = .ok (.iconst 0, 1) := by decide +kernel
theorem dX10_textsThere_1 : decode cX10_textsThere 1 = .ok (.istore_n 1, 1) := by decide +kernel
theorem dX10_textsThere_2 : decode cX10_textsThere 2 = .ok (.iconst 0, 1) := by decide +kernel
theorem dX10_textsThere_3 : decode cX10_textsThere 3 = .ok (.istore_n 2, 1) := by decide +kernel
theorem dX10_textsThere_4 : decode cX10_textsThere 4 = .ok (.iload_n 2, 1) := by decide +kernel
theorem dX10_textsThere_5 : decode cX10_textsThere 5 = .ok (.iconst 4, 1) := by decide +kernel
theorem dX10_textsThere_6 : decode cX10_textsThere 6 = .ok (.if_icmp .ge 29, 3) := by decide +kernel
theorem dX10_textsThere_9 : decode cX10_textsThere 9 = .ok (.iload_n 1, 1) := by decide +kernel
theorem dX10_textsThere_10 : decode cX10_textsThere 10 = .ok (.aload_n 0, 1) := by decide +kernel
theorem dX10_textsThere_11 : decode cX10_textsThere 11 = .ok (.getfield 18, 3) := by decide +kernel
theorem dX10_textsThere_14 : decode cX10_textsThere 14 = .ok (.iload_n 2, 1) := by decide +kernel
theorem dX10_textsThere_15 : decode cX10_textsThere 15 = .ok (.aaload, 1) := by decide +kernel
theorem dX10_textsThere_16 : decode cX10_textsThere 16 = .ok (.invokevirtual 155, 3) := by decide +kernel
theorem dX10_textsThere_19 : decode cX10_textsThere 19 = .ok (.ifCond .eq 7, 3) := by decide +kernel
theorem dX10_textsThere_22 : decode cX10_textsThere 22 = .ok (.iconst 1, 1) := by decide +kernel
theorem dX10_textsThere_23 : decode cX10_textsThere 23 = .ok (.goto 4, 3) := by decide +kernel
theorem dX10_textsThere_26 : decode cX10_textsThere 26 = .ok (.iconst 0, 1) := by decide +kernel
theorem dX10_textsThere_27 : decode cX10_textsThere 27 = .ok (.iadd, 1) := by decide +kernel
theorem dX10_textsThere_28 : decode cX10_textsThere 28 = .ok (.istore_n 1, 1) := by decide +kernel
theorem dX10_textsThere_29 : decode cX10_textsThere 29 = .ok (.iinc 2 1, 3) := by decide +kernel
theorem dX10_textsThere_32 : decode cX10_textsThere 32 = .ok (.goto (-28), 3) := by decide +kernel
theorem dX10_textsThere_35 : decode cX10_textsThere 35 = .ok (.iload_n 1, 1) := by decide +kernel
theorem dX10_textsThere_36 : decode cX10_textsThere 36 = .ok (.ireturn, 1) := by decide +kernel
theorem dX10_keptThere_0 : decode cX10_keptThere 0 = .ok (.iconst 0, 1) := by decide +kernel
theorem dX10_keptThere_1 : decode cX10_keptThere 1 = .ok (.istore_n 1, 1) := by decide +kernel
theorem dX10_keptThere_2 : decode cX10_keptThere 2 = .ok (.iconst 0, 1) := by decide +kernel
theorem dX10_keptThere_3 : decode cX10_keptThere 3 = .ok (.istore_n 2, 1) := by decide +kernel
theorem dX10_keptThere_4 : decode cX10_keptThere 4 = .ok (.iload_n 2, 1) := by decide +kernel
theorem dX10_keptThere_5 : decode cX10_keptThere 5 = .ok (.iconst 3, 1) := by decide +kernel
theorem dX10_keptThere_6 : decode cX10_keptThere 6 = .ok (.if_icmp .ge 29, 3) := by decide +kernel
theorem dX10_keptThere_9 : decode cX10_keptThere 9 = .ok (.iload_n 1, 1) := by decide +kernel
theorem dX10_keptThere_10 : decode cX10_keptThere 10 = .ok (.aload_n 0, 1) := by decide +kernel
theorem dX10_keptThere_11 : decode cX10_keptThere 11 = .ok (.getfield 39, 3) := by decide +kernel
theorem dX10_keptThere_14 : decode cX10_keptThere 14 = .ok (.iload_n 2, 1) := by decide +kernel
theorem dX10_keptThere_15 : decode cX10_keptThere 15 = .ok (.aaload, 1) := by decide +kernel
theorem dX10_keptThere_16 : decode cX10_keptThere 16 = .ok (.getfield 236, 3) := by decide +kernel
theorem dX10_keptThere_19 : decode cX10_keptThere 19 = .ok (.ifCond .eq 7, 3) := by decide +kernel
theorem dX10_keptThere_22 : decode cX10_keptThere 22 = .ok (.iconst 1, 1) := by decide +kernel
theorem dX10_keptThere_23 : decode cX10_keptThere 23 = .ok (.goto 4, 3) := by decide +kernel
theorem dX10_keptThere_26 : decode cX10_keptThere 26 = .ok (.iconst 0, 1) := by decide +kernel
theorem dX10_keptThere_27 : decode cX10_keptThere 27 = .ok (.iadd, 1) := by decide +kernel
theorem dX10_keptThere_28 : decode cX10_keptThere 28 = .ok (.istore_n 1, 1) := by decide +kernel
theorem dX10_keptThere_29 : decode cX10_keptThere 29 = .ok (.iinc 2 1, 3) := by decide +kernel
theorem dX10_keptThere_32 : decode cX10_keptThere 32 = .ok (.goto (-28), 3) := by decide +kernel
theorem dX10_keptThere_35 : decode cX10_keptThere 35 = .ok (.iload_n 1, 1) := by decide +kernel
theorem dX10_keptThere_36 : decode cX10_keptThere 36 = .ok (.ireturn, 1) := by decide +kernel
theorem dX10_planInto_0 : decode cX10_planInto 0 = .ok (.aload_n 0, 1) := by decide +kernel
theorem dX10_planInto_1 : decode cX10_planInto 1 = .ok (.getfield 66, 3) := by decide +kernel
theorem dX10_planInto_4 : decode cX10_planInto 4 = .ok (.invokevirtual 392, 3) := by decide +kernel
theorem dX10_planInto_7 : decode cX10_planInto 7 = .ok (.ifCond .ne 6, 3) := by decide +kernel
theorem dX10_planInto_10 : decode cX10_planInto 10 = .ok (.bipush (-9), 2) := by decide +kernel
theorem dX10_planInto_12 : decode cX10_planInto 12 = .ok (.ireturn, 1) := by decide +kernel
theorem dX10_planInto_13 : decode cX10_planInto 13 = .ok (.aload_n 1, 1) := by decide +kernel
theorem dX10_planInto_14 : decode cX10_planInto 14 = .ok (.aload_n 0, 1) := by decide +kernel
theorem dX10_planInto_15 : decode cX10_planInto 15 = .ok (.getfield 66, 3) := by decide +kernel
theorem dX10_planInto_18 : decode cX10_planInto 18 = .ok (.getfield 395, 3) := by decide +kernel
theorem dX10_planInto_21 : decode cX10_planInto 21 = .ok (.invokevirtual 110, 3) := by decide +kernel
theorem dX10_planInto_24 : decode cX10_planInto 24 = .ok (.iconst 0, 1) := by decide +kernel
theorem dX10_planInto_25 : decode cX10_planInto 25 = .ok (.istore_n 2, 1) := by decide +kernel
theorem dX10_planInto_26 : decode cX10_planInto 26 = .ok (.iconst 0, 1) := by decide +kernel
theorem dX10_planInto_27 : decode cX10_planInto 27 = .ok (.istore_n 3, 1) := by decide +kernel
theorem dX10_planInto_28 : decode cX10_planInto 28 = .ok (.iload_n 3, 1) := by decide +kernel
theorem dX10_planInto_29 : decode cX10_planInto 29 = .ok (.aload_n 0, 1) := by decide +kernel
theorem dX10_planInto_30 : decode cX10_planInto 30 = .ok (.getfield 66, 3) := by decide +kernel
theorem dX10_planInto_33 : decode cX10_planInto 33 = .ok (.getfield 395, 3) := by decide +kernel
theorem dX10_planInto_36 : decode cX10_planInto 36 = .ok (.if_icmp .ge 43, 3) := by decide +kernel
theorem dX10_planInto_39 : decode cX10_planInto 39 = .ok (.aload_n 1, 1) := by decide +kernel
theorem dX10_planInto_40 : decode cX10_planInto 40 = .ok (.iload_n 3, 1) := by decide +kernel
theorem dX10_planInto_41 : decode cX10_planInto 41 = .ok (.aload_n 0, 1) := by decide +kernel
theorem dX10_planInto_42 : decode cX10_planInto 42 = .ok (.getfield 66, 3) := by decide +kernel
theorem dX10_planInto_45 : decode cX10_planInto 45 = .ok (.iload_n 3, 1) := by decide +kernel
theorem dX10_planInto_46 : decode cX10_planInto 46 = .ok (.invokevirtual 398, 3) := by decide +kernel
theorem dX10_planInto_49 : decode cX10_planInto 49 = .ok (.invokevirtual 120, 3) := by decide +kernel
theorem dX10_planInto_52 : decode cX10_planInto 52 = .ok (.iload_n 2, 1) := by decide +kernel
theorem dX10_planInto_53 : decode cX10_planInto 53 = .ok (.aload_n 0, 1) := by decide +kernel
theorem dX10_planInto_54 : decode cX10_planInto 54 = .ok (.getfield 66, 3) := by decide +kernel
theorem dX10_planInto_57 : decode cX10_planInto 57 = .ok (.iload_n 3, 1) := by decide +kernel
theorem dX10_planInto_58 : decode cX10_planInto 58 = .ok (.invokevirtual 398, 3) := by decide +kernel
theorem dX10_planInto_61 : decode cX10_planInto 61 = .ok (.bipush 36, 2) := by decide +kernel
theorem dX10_planInto_63 : decode cX10_planInto 63 = .ok (.if_icmp .ne 7, 3) := by decide +kernel
theorem dX10_planInto_66 : decode cX10_planInto 66 = .ok (.iconst 0, 1) := by decide +kernel
theorem dX10_planInto_67 : decode cX10_planInto 67 = .ok (.goto 4, 3) := by decide +kernel
theorem dX10_planInto_70 : decode cX10_planInto 70 = .ok (.iconst 1, 1) := by decide +kernel
theorem dX10_planInto_71 : decode cX10_planInto 71 = .ok (.iadd, 1) := by decide +kernel
theorem dX10_planInto_72 : decode cX10_planInto 72 = .ok (.istore_n 2, 1) := by decide +kernel
theorem dX10_planInto_73 : decode cX10_planInto 73 = .ok (.iinc 3 1, 3) := by decide +kernel
theorem dX10_planInto_76 : decode cX10_planInto 76 = .ok (.goto (-48), 3) := by decide +kernel
theorem dX10_planInto_79 : decode cX10_planInto 79 = .ok (.iload_n 2, 1) := by decide +kernel
theorem dX10_planInto_80 : decode cX10_planInto 80 = .ok (.ireturn, 1) := by decide +kernel
theorem dX10_carryByLot_0 : decode cX10_carryByLot 0 = .ok (.aload_n 0, 1) := by decide +kernel
theorem dX10_carryByLot_1 : decode cX10_carryByLot 1 = .ok (.getfield 26, 3) := by decide +kernel
theorem dX10_carryByLot_4 : decode cX10_carryByLot 4 = .ok (.invokevirtual 181, 3) := by decide +kernel
theorem dX10_carryByLot_7 : decode cX10_carryByLot 7 = .ok (.ifCond .eq 4, 3) := by decide +kernel
theorem dX10_carryByLot_10 : decode cX10_carryByLot 10 = .ok (.return_, 1) := by decide +kernel
theorem dX10_carryByLot_11 : decode cX10_carryByLot 11 = .ok (.iload_n 1, 1) := by decide +kernel
theorem dX10_carryByLot_12 : decode cX10_carryByLot 12 = .ok (.aload_n 0, 1) := by decide +kernel
theorem dX10_carryByLot_13 : decode cX10_carryByLot 13 = .ok (.getfield 26, 3) := by decide +kernel
theorem dX10_carryByLot_16 : decode cX10_carryByLot 16 = .ok (.getfield 173, 3) := by decide +kernel
theorem dX10_carryByLot_19 : decode cX10_carryByLot 19 = .ok (.irem, 1) := by decide +kernel
theorem dX10_carryByLot_20 : decode cX10_carryByLot 20 = .ok (.istore_n 2, 1) := by decide +kernel
theorem dX10_carryByLot_21 : decode cX10_carryByLot 21 = .ok (.iload_n 1, 1) := by decide +kernel
theorem dX10_carryByLot_22 : decode cX10_carryByLot 22 = .ok (.bipush 16, 2) := by decide +kernel
theorem dX10_carryByLot_24 : decode cX10_carryByLot 24 = .ok (.idiv, 1) := by decide +kernel
theorem dX10_carryByLot_25 : decode cX10_carryByLot 25 = .ok (.aload_n 0, 1) := by decide +kernel
theorem dX10_carryByLot_26 : decode cX10_carryByLot 26 = .ok (.getfield 26, 3) := by decide +kernel
theorem dX10_carryByLot_29 : decode cX10_carryByLot 29 = .ok (.getfield 173, 3) := by decide +kernel
theorem dX10_carryByLot_32 : decode cX10_carryByLot 32 = .ok (.irem, 1) := by decide +kernel
theorem dX10_carryByLot_33 : decode cX10_carryByLot 33 = .ok (.istore_n 3, 1) := by decide +kernel
theorem dX10_carryByLot_34 : decode cX10_carryByLot 34 = .ok (.aload_n 0, 1) := by decide +kernel
theorem dX10_carryByLot_35 : decode cX10_carryByLot 35 = .ok (.getfield 35, 3) := by decide +kernel
theorem dX10_carryByLot_38 : decode cX10_carryByLot 38 = .ok (.getfield 201, 3) := by decide +kernel
theorem dX10_carryByLot_41 : decode cX10_carryByLot 41 = .ok (.iload_n 2, 1) := by decide +kernel
theorem dX10_carryByLot_42 : decode cX10_carryByLot 42 = .ok (.iload_n 3, 1) := by decide +kernel
theorem dX10_carryByLot_43 : decode cX10_carryByLot 43 = .ok (.invokevirtual 219, 3) := by decide +kernel
theorem dX10_carryByLot_46 : decode cX10_carryByLot 46 = .ok (.ifCond .eq 16, 3) := by decide +kernel
theorem dX10_carryByLot_49 : decode cX10_carryByLot 49 = .ok (.aload_n 0, 1) := by decide +kernel
theorem dX10_carryByLot_50 : decode cX10_carryByLot 50 = .ok (.getfield 35, 3) := by decide +kernel
theorem dX10_carryByLot_53 : decode cX10_carryByLot 53 = .ok (.bipush 6, 2) := by decide +kernel
theorem dX10_carryByLot_55 : decode cX10_carryByLot 55 = .ok (.iload_n 2, 1) := by decide +kernel
theorem dX10_carryByLot_56 : decode cX10_carryByLot 56 = .ok (.imul, 1) := by decide +kernel
theorem dX10_carryByLot_57 : decode cX10_carryByLot 57 = .ok (.iload_n 3, 1) := by decide +kernel
theorem dX10_carryByLot_58 : decode cX10_carryByLot 58 = .ok (.iadd, 1) := by decide +kernel
theorem dX10_carryByLot_59 : decode cX10_carryByLot 59 = .ok (.invokevirtual 216, 3) := by decide +kernel
theorem dX10_carryByLot_62 : decode cX10_carryByLot 62 = .ok (.return_, 1) := by decide +kernel
