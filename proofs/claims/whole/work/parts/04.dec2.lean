theorem dX11_init_0 : decode cX11_init 0 = .ok (.aload_n 0, 1) := by decide +kernel
theorem dX11_init_1 : decode cX11_init 1 = .ok (.invokespecial 1, 3) := by decide +kernel
theorem dX11_init_4 : decode cX11_init 4 = .ok (.aload_n 0, 1) := by decide +kernel
theorem dX11_init_5 : decode cX11_init 5 = .ok (.bipush 6, 2) := by decide +kernel
theorem dX11_init_7 : decode cX11_init 7 = .ok (.newarray .int, 2) := by decide +kernel
theorem dX11_init_9 : decode cX11_init 9 = .ok (.putfield 7, 3) := by decide +kernel
theorem dX11_init_12 : decode cX11_init 12 = .ok (.aload_n 0, 1) := by decide +kernel
theorem dX11_init_13 : decode cX11_init 13 = .ok (.lconst 1, 1) := by decide +kernel
theorem dX11_init_14 : decode cX11_init 14 = .ok (.putfield 13, 3) := by decide +kernel
theorem dX11_init_17 : decode cX11_init 17 = .ok (.aload_n 0, 1) := by decide +kernel
theorem dX11_init_18 : decode cX11_init 18 = .ok (.bipush 6, 2) := by decide +kernel
theorem dX11_init_20 : decode cX11_init 20 = .ok (.newarray .int, 2) := by decide +kernel
theorem dX11_init_22 : decode cX11_init 22 = .ok (.putfield 17, 3) := by decide +kernel
theorem dX11_init_25 : decode cX11_init 25 = .ok (.aload_n 0, 1) := by decide +kernel
theorem dX11_init_26 : decode cX11_init 26 = .ok (.sipush 240, 3) := by decide +kernel
theorem dX11_init_29 : decode cX11_init 29 = .ok (.newarray .int, 2) := by decide +kernel
theorem dX11_init_31 : decode cX11_init 31 = .ok (.putfield 20, 3) := by decide +kernel
theorem dX11_init_34 : decode cX11_init 34 = .ok (.aload_n 0, 1) := by decide +kernel
theorem dX11_init_35 : decode cX11_init 35 = .ok (.bipush 40, 2) := by decide +kernel
theorem dX11_init_37 : decode cX11_init 37 = .ok (.newarray .int, 2) := by decide +kernel
theorem dX11_init_39 : decode cX11_init 39 = .ok (.putfield 23, 3) := by decide +kernel
theorem dX11_init_42 : decode cX11_init 42 = .ok (.aload_n 0, 1) := by decide +kernel
theorem dX11_init_43 : decode cX11_init 43 = .ok (.iconst 4, 1) := by decide +kernel
theorem dX11_init_44 : decode cX11_init 44 = .ok (.newarray .int, 2) := by decide +kernel
theorem dX11_init_46 : decode cX11_init 46 = .ok (.putfield 26, 3) := by decide +kernel
theorem dX11_init_49 : decode cX11_init 49 = .ok (.aload_n 0, 1) := by decide +kernel
theorem dX11_init_50 : decode cX11_init 50 = .ok (.sipush 240, 3) := by decide +kernel
theorem dX11_init_53 : decode cX11_init 53 = .ok (.newarray .byte, 2) := by decide +kernel
theorem dX11_init_55 : decode cX11_init 55 = .ok (.putfield 29, 3) := by decide +kernel
theorem dX11_init_58 : decode cX11_init 58 = .ok (.aload_n 0, 1) := by decide +kernel
theorem dX11_init_59 : decode cX11_init 59 = .ok (.bipush 6, 2) := by decide +kernel
theorem dX11_init_61 : decode cX11_init 61 = .ok (.newarray .int, 2) := by decide +kernel
theorem dX11_init_63 : decode cX11_init 63 = .ok (.putfield 33, 3) := by decide +kernel
theorem dX11_init_66 : decode cX11_init 66 = .ok (.aload_n 0, 1) := by decide +kernel
theorem dX11_init_67 : decode cX11_init 67 = .ok (.iconst 5, 1) := by decide +kernel
theorem dX11_init_68 : decode cX11_init 68 = .ok (.newarray .int, 2) := by decide +kernel
theorem dX11_init_70 : decode cX11_init 70 = .ok (.putfield 36, 3) := by decide +kernel
theorem dX11_init_73 : decode cX11_init 73 = .ok (.aload_n 0, 1) := by decide +kernel
theorem dX11_init_74 : decode cX11_init 74 = .ok (.iconst 5, 1) := by decide +kernel
theorem dX11_init_75 : decode cX11_init 75 = .ok (.newarray .int, 2) := by decide +kernel
theorem dX11_init_77 : decode cX11_init 77 = .ok (.putfield 39, 3) := by decide +kernel
theorem dX11_init_80 : decode cX11_init 80 = .ok (.aload_n 0, 1) := by decide +kernel
theorem dX11_init_81 : decode cX11_init 81 = .ok (.bipush 6, 2) := by decide +kernel
theorem dX11_init_83 : decode cX11_init 83 = .ok (.newarray .int, 2) := by decide +kernel
theorem dX11_init_85 : decode cX11_init 85 = .ok (.putfield 42, 3) := by decide +kernel
theorem dX11_init_88 : decode cX11_init 88 = .ok (.aload_n 0, 1) := by decide +kernel
theorem dX11_init_89 : decode cX11_init 89 = .ok (.bipush 20, 2) := by decide +kernel
theorem dX11_init_91 : decode cX11_init 91 = .ok (.newarray .int, 2) := by decide +kernel
theorem dX11_init_93 : decode cX11_init 93 = .ok (.putfield 45, 3) := by decide +kernel
theorem dX11_init_96 : decode cX11_init 96 = .ok (.aload_n 0, 1) := by decide +kernel
theorem dX11_init_97 : decode cX11_init 97 = .ok (.bipush 18, 2) := by decide +kernel
theorem dX11_init_99 : decode cX11_init 99 = .ok (.newarray .int, 2) := by decide +kernel
theorem dX11_init_101 : decode cX11_init 101 = .ok (.putfield 48, 3) := by decide +kernel
theorem dX11_init_104 : decode cX11_init 104 = .ok (.aload_n 0, 1) := by decide +kernel
theorem dX11_init_105 : decode cX11_init 105 = .ok (.sipush 216, 3) := by decide +kernel
theorem dX11_init_108 : decode cX11_init 108 = .ok (.newarray .int, 2) := by decide +kernel
theorem dX11_init_110 : decode cX11_init 110 = .ok (.putfield 51, 3) := by decide +kernel
theorem dX11_init_113 : decode cX11_init 113 = .ok (.aload_n 0, 1) := by decide +kernel
theorem dX11_init_114 : decode cX11_init 114 = .ok (.sipush 720, 3) := by decide +kernel
theorem dX11_init_117 : decode cX11_init 117 = .ok (.newarray .int, 2) := by decide +kernel
theorem dX11_init_119 : decode cX11_init 119 = .ok (.putfield 54, 3) := by decide +kernel
theorem dX11_init_122 : decode cX11_init 122 = .ok (.aload_n 0, 1) := by decide +kernel
theorem dX11_init_123 : decode cX11_init 123 = .ok (.iconst 3, 1) := by decide +kernel
theorem dX11_init_124 : decode cX11_init 124 = .ok (.newarray .boolean, 2) := by decide +kernel
theorem dX11_init_126 : decode cX11_init 126 = .ok (.putfield 57, 3) := by decide +kernel
theorem dX11_init_129 : decode cX11_init 129 = .ok (.aload_n 0, 1) := by decide +kernel
theorem dX11_init_130 : decode cX11_init 130 = .ok (.iconst 3, 1) := by decide +kernel
theorem dX11_init_131 : decode cX11_init 131 = .ok (.newarray .int, 2) := by decide +kernel
theorem dX11_init_133 : decode cX11_init 133 = .ok (.putfield 61, 3) := by decide +kernel
theorem dX11_init_136 : decode cX11_init 136 = .ok (.aload_n 0, 1) := by decide +kernel
theorem dX11_init_137 : decode cX11_init 137 = .ok (.bipush 54, 2) := by decide +kernel
theorem dX11_init_139 : decode cX11_init 139 = .ok (.newarray .int, 2) := by decide +kernel
theorem dX11_init_141 : decode cX11_init 141 = .ok (.putfield 64, 3) := by decide +kernel
theorem dX11_init_144 : decode cX11_init 144 = .ok (.aload_n 0, 1) := by decide +kernel
theorem dX11_init_145 : decode cX11_init 145 = .ok (.bipush 54, 2) := by decide +kernel
theorem dX11_init_147 : decode cX11_init 147 = .ok (.newarray .int, 2) := by decide +kernel
theorem dX11_init_149 : decode cX11_init 149 = .ok (.putfield 67, 3) := by decide +kernel
theorem dX11_init_152 : decode cX11_init 152 = .ok (.aload_n 0, 1) := by decide +kernel
theorem dX11_init_153 : decode cX11_init 153 = .ok (.sipush 2160, 3) := by decide +kernel
theorem dX11_init_156 : decode cX11_init 156 = .ok (.newarray .int, 2) := by decide +kernel
theorem dX11_init_158 : decode cX11_init 158 = .ok (.putfield 70, 3) := by decide +kernel
theorem dX11_init_161 : decode cX11_init 161 = .ok (.aload_n 0, 1) := by decide +kernel
theorem dX11_init_162 : decode cX11_init 162 = .ok (.bipush 10, 2) := by decide +kernel
theorem dX11_init_164 : decode cX11_init 164 = .ok (.newarray .int, 2) := by decide +kernel
theorem dX11_init_166 : decode cX11_init 166 = .ok (.putfield 73, 3) := by decide +kernel
theorem dX11_init_169 : decode cX11_init 169 = .ok (.aload_n 0, 1) := by decide +kernel
theorem dX11_init_170 : decode cX11_init 170 = .ok (.bipush 10, 2) := by decide +kernel
theorem dX11_init_172 : decode cX11_init 172 = .ok (.newarray .int, 2) := by decide +kernel
theorem dX11_init_174 : decode cX11_init 174 = .ok (.putfield 76, 3) := by decide +kernel
theorem dX11_init_177 : decode cX11_init 177 = .ok (.iconst 0, 1) := by decide +kernel
theorem dX11_init_178 : decode cX11_init 178 = .ok (.istore_n 1, 1) := by decide +kernel
theorem dX11_init_179 : decode cX11_init 179 = .ok (.iload_n 1, 1) := by decide +kernel
theorem dX11_init_180 : decode cX11_init 180 = .ok (.bipush 6, 2) := by decide +kernel
theorem dX11_init_182 : decode cX11_init 182 = .ok (.if_icmp .ge 16, 3) := by decide +kernel
theorem dX11_init_185 : decode cX11_init 185 = .ok (.aload_n 0, 1) := by decide +kernel
theorem dX11_init_186 : decode cX11_init 186 = .ok (.getfield 17, 3) := by decide +kernel
theorem dX11_init_189 : decode cX11_init 189 = .ok (.iload_n 1, 1) := by decide +kernel
theorem dX11_init_190 : decode cX11_init 190 = .ok (.iconst (-1), 1) := by decide +kernel
theorem dX11_init_191 : decode cX11_init 191 = .ok (.iastore, 1) := by decide +kernel
theorem dX11_init_192 : decode cX11_init 192 = .ok (.iinc 1 1, 3) := by decide +kernel
theorem dX11_init_195 : decode cX11_init 195 = .ok (.goto (-16), 3) := by decide +kernel
theorem dX11_init_198 : decode cX11_init 198 = .ok (.iconst 0, 1) := by decide +kernel
theorem dX11_init_199 : decode cX11_init 199 = .ok (.istore_n 1, 1) := by decide +kernel
theorem dX11_init_200 : decode cX11_init 200 = .ok (.iload_n 1, 1) := by decide +kernel
theorem dX11_init_201 : decode cX11_init 201 = .ok (.iconst 4, 1) := by decide +kernel
theorem dX11_init_202 : decode cX11_init 202 = .ok (.if_icmp .ge 16, 3) := by decide +kernel
theorem dX11_init_205 : decode cX11_init 205 = .ok (.aload_n 0, 1) := by decide +kernel
theorem dX11_init_206 : decode cX11_init 206 = .ok (.getfield 26, 3) := by decide +kernel
theorem dX11_init_209 : decode cX11_init 209 = .ok (.iload_n 1, 1) := by decide +kernel
theorem dX11_init_210 : decode cX11_init 210 = .ok (.iconst (-1), 1) := by decide +kernel
theorem dX11_init_211 : decode cX11_init 211 = .ok (.iastore, 1) := by decide +kernel
theorem dX11_init_212 : decode cX11_init 212 = .ok (.iinc 1 1, 3) := by decide +kernel
theorem dX11_init_215 : decode cX11_init 215 = .ok (.goto (-15), 3) := by decide +kernel
theorem dX11_init_218 : decode cX11_init 218 = .ok (.return_, 1) := by decide +kernel
theorem dX11_in_0 : decode cX11_in 0 = .ok (.iload_n 0, 1) := by decide +kernel
theorem dX11_in_1 : decode cX11_in 1 = .ok (.iload_n 1, 1) := by decide +kernel
theorem dX11_in_2 : decode cX11_in 2 = .ok (.if_icmp .lt 12, 3) := by decide +kernel
theorem dX11_in_5 : decode cX11_in 5 = .ok (.iload_n 0, 1) := by decide +kernel
theorem dX11_in_6 : decode cX11_in 6 = .ok (.iload_n 2, 1) := by decide +kernel
theorem dX11_in_7 : decode cX11_in 7 = .ok (.if_icmp .gt 7, 3) := by decide +kernel
theorem dX11_in_10 : decode cX11_in 10 = .ok (.iconst 1, 1) := by decide +kernel
theorem dX11_in_11 : decode cX11_in 11 = .ok (.goto 4, 3) := by decide +kernel
theorem dX11_in_14 : decode cX11_in 14 = .ok (.iconst 0, 1) := by decide +kernel
theorem dX11_in_15 : decode cX11_in 15 = .ok (.ireturn, 1) := by decide +kernel
theorem dX11_has_0 : decode cX11_has 0 = .ok (.iload_n 0, 1) := by decide +kernel
theorem dX11_has_1 : decode cX11_has 1 = .ok (.iload_n 1, 1) := by decide +kernel
theorem dX11_has_2 : decode cX11_has 2 = .ok (.ishr, 1) := by decide +kernel
theorem dX11_has_3 : decode cX11_has 3 = .ok (.iconst 1, 1) := by decide +kernel
theorem dX11_has_4 : decode cX11_has 4 = .ok (.iand, 1) := by decide +kernel
theorem dX11_has_5 : decode cX11_has 5 = .ok (.iconst 1, 1) := by decide +kernel
theorem dX11_has_6 : decode cX11_has 6 = .ok (.if_icmp .ne 7, 3) := by decide +kernel
theorem dX11_has_9 : decode cX11_has 9 = .ok (.iconst 1, 1) := by decide +kernel
theorem dX11_has_10 : decode cX11_has 10 = .ok (.goto 4, 3) := by decide +kernel
theorem dX11_has_13 : decode cX11_has 13 = .ok (.iconst 0, 1) := by decide +kernel
theorem dX11_has_14 : decode cX11_has 14 = .ok (.ireturn, 1) := by decide +kernel
theorem dX11_bits_0 : decode cX11_bits 0 = .ok (.iconst 0, 1) := by decide +kernel
theorem dX11_bits_1 : decode cX11_bits 1 = .ok (.istore_n 1, 1) := by decide +kernel
theorem dX11_bits_2 : decode cX11_bits 2 = .ok (.iload_n 0, 1) := by decide +kernel
theorem dX11_bits_3 : decode cX11_bits 3 = .ok (.istore_n 2, 1) := by decide +kernel
theorem dX11_bits_4 : decode cX11_bits 4 = .ok (.iload_n 2, 1) := by decide +kernel
theorem dX11_bits_5 : decode cX11_bits 5 = .ok (.ifCond .eq 15, 3) := by decide +kernel
theorem dX11_bits_8 : decode cX11_bits 8 = .ok (.iinc 1 1, 3) := by decide +kernel
theorem dX11_bits_11 : decode cX11_bits 11 = .ok (.iload_n 2, 1) := by decide +kernel
theorem dX11_bits_12 : decode cX11_bits 12 = .ok (.iload_n 2, 1) := by decide +kernel
theorem dX11_bits_13 : decode cX11_bits 13 = .ok (.iconst 1, 1) := by decide +kernel
theorem dX11_bits_14 : decode cX11_bits 14 = .ok (.isub, 1) := by decide +kernel
theorem dX11_bits_15 : decode cX11_bits 15 = .ok (.iand, 1) := by decide +kernel
theorem dX11_bits_16 : decode cX11_bits 16 = .ok (.istore_n 2, 1) := by decide +kernel
theorem dX11_bits_17 : decode cX11_bits 17 = .ok (.goto (-13), 3) := by decide +kernel
theorem dX11_bits_20 : decode cX11_bits 20 = .ok (.iload_n 1, 1) := by decide +kernel
theorem dX11_bits_21 : decode cX11_bits 21 = .ok (.ireturn, 1) := by decide +kernel
theorem dX11_size_0 : decode cX11_size 0 = .ok (.iload_n 0, 1) := by decide +kernel
theorem dX11_size_1 : decode cX11_size 1 = .ok (.ifCond .ge 8, 3) := by decide +kernel
theorem dX11_size_4 : decode cX11_size 4 = .ok (.iload_n 0, 1) := by decide +kernel
theorem dX11_size_5 : decode cX11_size 5 = .ok (.ineg, 1) := by decide +kernel
theorem dX11_size_6 : decode cX11_size 6 = .ok (.goto 4, 3) := by decide +kernel
theorem dX11_size_9 : decode cX11_size 9 = .ok (.iload_n 0, 1) := by decide +kernel
theorem dX11_size_10 : decode cX11_size 10 = .ok (.ireturn, 1) := by decide +kernel
theorem dX11_meets_0 : decode cX11_meets 0 = .ok (.aload_n 0, 1) := by decide +kernel
theorem dX11_meets_1 : decode cX11_meets 1 = .ok (.iload_n 1, 1) := by decide +kernel
theorem dX11_meets_2 : decode cX11_meets 2 = .ok (.putfield 79, 3) := by decide +kernel
theorem dX11_meets_5 : decode cX11_meets 5 = .ok (.aload_n 0, 1) := by decide +kernel
theorem dX11_meets_6 : decode cX11_meets 6 = .ok (.getfield 7, 3) := by decide +kernel
theorem dX11_meets_9 : decode cX11_meets 9 = .ok (.iload_n 1, 1) := by decide +kernel
theorem dX11_meets_10 : decode cX11_meets 10 = .ok (.dup2, 1) := by decide +kernel
theorem dX11_meets_11 : decode cX11_meets 11 = .ok (.iaload, 1) := by decide +kernel
theorem dX11_meets_12 : decode cX11_meets 12 = .ok (.iconst 1, 1) := by decide +kernel
theorem dX11_meets_13 : decode cX11_meets 13 = .ok (.iadd, 1) := by decide +kernel
theorem dX11_meets_14 : decode cX11_meets 14 = .ok (.iastore, 1) := by decide +kernel
theorem dX11_meets_15 : decode cX11_meets 15 = .ok (.bipush (-3), 2) := by decide +kernel
theorem dX11_meets_17 : decode cX11_meets 17 = .ok (.ireturn, 1) := by decide +kernel
theorem dX11_finding_0 : decode cX11_finding 0 = .ok (.aload_n 0, 1) := by decide +kernel
theorem dX11_finding_1 : decode cX11_finding 1 = .ok (.getfield 79, 3) := by decide +kernel
theorem dX11_finding_4 : decode cX11_finding 4 = .ok (.ireturn, 1) := by decide +kernel
theorem dX11_findings_0 : decode cX11_findings 0 = .ok (.iload_n 1, 1) := by decide +kernel
theorem dX11_findings_1 : decode cX11_findings 1 = .ok (.iconst 1, 1) := by decide +kernel
theorem dX11_findings_2 : decode cX11_findings 2 = .ok (.iconst 5, 1) := by decide +kernel
theorem dX11_findings_3 : decode cX11_findings 3 = .ok (.invokestatic 83, 3) := by decide +kernel
theorem dX11_findings_6 : decode cX11_findings 6 = .ok (.ifCond .eq 12, 3) := by decide +kernel
theorem dX11_findings_9 : decode cX11_findings 9 = .ok (.aload_n 0, 1) := by decide +kernel
theorem dX11_findings_10 : decode cX11_findings 10 = .ok (.getfield 7, 3) := by decide +kernel
theorem dX11_findings_13 : decode cX11_findings 13 = .ok (.iload_n 1, 1) := by decide +kernel
theorem dX11_findings_14 : decode cX11_findings 14 = .ok (.iaload, 1) := by decide +kernel
theorem dX11_findings_15 : decode cX11_findings 15 = .ok (.goto 4, 3) := by decide +kernel
theorem dX11_findings_18 : decode cX11_findings 18 = .ok (.iconst (-1), 1) := by decide +kernel
theorem dX11_findings_19 : decode cX11_findings 19 = .ok (.ireturn, 1) := by decide +kernel
theorem dX11_tells_0 : decode cX11_tells 0 = .ok (.aload_n 0, 1) := by decide +kernel
theorem dX11_tells_1 : decode cX11_tells 1 = .ok (.iload_n 1, 1) := by decide +kernel
theorem dX11_tells_2 : decode cX11_tells 2 = .ok (.putfield 87, 3) := by decide +kernel
theorem dX11_tells_5 : decode cX11_tells 5 = .ok (.iload_n 2, 1) := by decide +kernel
theorem dX11_tells_6 : decode cX11_tells 6 = .ok (.ireturn, 1) := by decide +kernel
theorem dX11_asked_0 : decode cX11_asked 0 = .ok (.aload_n 0, 1) := by decide +kernel
theorem dX11_asked_1 : decode cX11_asked 1 = .ok (.getfield 87, 3) := by decide +kernel
theorem dX11_asked_4 : decode cX11_asked 4 = .ok (.ireturn, 1) := by decide +kernel
theorem dX11_fraction_0 : decode cX11_fraction 0 = .ok (.lload_n 1, 1) := by decide +kernel
theorem dX11_fraction_1 : decode cX11_fraction 1 = .ok (.lstore 5, 2) := by decide +kernel
theorem dX11_fraction_3 : decode cX11_fraction 3 = .ok (.lload_n 3, 1) := by decide +kernel
theorem dX11_fraction_4 : decode cX11_fraction 4 = .ok (.lstore 7, 2) := by decide +kernel
theorem dX11_fraction_6 : decode cX11_fraction 6 = .ok (.lload 7, 2) := by decide +kernel
theorem dX11_fraction_8 : decode cX11_fraction 8 = .ok (.lconst 0, 1) := by decide +kernel
theorem dX11_fraction_9 : decode cX11_fraction 9 = .ok (.lcmp, 1) := by decide +kernel
theorem dX11_fraction_10 : decode cX11_fraction 10 = .ok (.ifCond .eq 21, 3) := by decide +kernel
theorem dX11_fraction_13 : decode cX11_fraction 13 = .ok (.lload 5, 2) := by decide +kernel
theorem dX11_fraction_15 : decode cX11_fraction 15 = .ok (.lload 7, 2) := by decide +kernel
theorem dX11_fraction_17 : decode cX11_fraction 17 = .ok (.lrem, 1) := by decide +kernel
theorem dX11_fraction_18 : decode cX11_fraction 18 = .ok (.lstore 9, 2) := by decide +kernel
theorem dX11_fraction_20 : decode cX11_fraction 20 = .ok (.lload 7, 2) := by decide +kernel
theorem dX11_fraction_22 : decode cX11_fraction 22 = .ok (.lstore 5, 2) := by decide +kernel
theorem dX11_fraction_24 : decode cX11_fraction 24 = .ok (.lload 9, 2) := by decide +kernel
theorem dX11_fraction_26 : decode cX11_fraction 26 = .ok (.lstore 7, 2) := by decide +kernel
theorem dX11_fraction_28 : decode cX11_fraction 28 = .ok (.goto (-22), 3) := by decide +kernel
theorem dX11_fraction_31 : decode cX11_fraction 31 = .ok (.aload_n 0, 1) := by decide +kernel
theorem dX11_fraction_32 : decode cX11_fraction 32 = .ok (.lload_n 1, 1) := by decide +kernel
theorem dX11_fraction_33 : decode cX11_fraction 33 = .ok (.lload 5, 2) := by decide +kernel
theorem dX11_fraction_35 : decode cX11_fraction 35 = .ok (.ldiv, 1) := by decide +kernel
theorem dX11_fraction_36 : decode cX11_fraction 36 = .ok (.putfield 90, 3) := by decide +kernel
theorem dX11_fraction_39 : decode cX11_fraction 39 = .ok (.aload_n 0, 1) := by decide +kernel
theorem dX11_fraction_40 : decode cX11_fraction 40 = .ok (.lload_n 3, 1) := by decide +kernel
theorem dX11_fraction_41 : decode cX11_fraction 41 = .ok (.lload 5, 2) := by decide +kernel
theorem dX11_fraction_43 : decode cX11_fraction 43 = .ok (.ldiv, 1) := by decide +kernel
theorem dX11_fraction_44 : decode cX11_fraction 44 = .ok (.putfield 13, 3) := by decide +kernel
theorem dX11_fraction_47 : decode cX11_fraction 47 = .ok (.iconst 1, 1) := by decide +kernel
theorem dX11_fraction_48 : decode cX11_fraction 48 = .ok (.ireturn, 1) := by decide +kernel
theorem dX11_upper_0 : decode cX11_upper 0 = .ok (.aload_n 0, 1) := by decide +kernel
theorem dX11_upper_1 : decode cX11_upper 1 = .ok (.getfield 90, 3) := by decide +kernel
theorem dX11_upper_4 : decode cX11_upper 4 = .ok (.lreturn, 1) := by decide +kernel
theorem dX11_lower_0 : decode cX11_lower 0 = .ok (.aload_n 0, 1) := by decide +kernel
theorem dX11_lower_1 : decode cX11_lower 1 = .ok (.getfield 13, 3) := by decide +kernel
theorem dX11_lower_4 : decode cX11_lower 4 = .ok (.lreturn, 1) := by decide +kernel
theorem dX11_isRow_0 : decode cX11_isRow 0 = .ok (.iload_n 0, 1) := by decide +kernel
theorem dX11_isRow_1 : decode cX11_isRow 1 = .ok (.iconst 0, 1) := by decide +kernel
theorem dX11_isRow_2 : decode cX11_isRow 2 = .ok (.iconst 5, 1) := by decide +kernel
theorem dX11_isRow_3 : decode cX11_isRow 3 = .ok (.invokestatic 83, 3) := by decide +kernel
theorem dX11_isRow_6 : decode cX11_isRow 6 = .ok (.ireturn, 1) := by decide +kernel
theorem dX11_rowAt_0 : decode cX11_rowAt 0 = .ok (.aload_n 0, 1) := by decide +kernel
theorem dX11_rowAt_1 : decode cX11_rowAt 1 = .ok (.getfield 20, 3) := by decide +kernel
theorem dX11_rowAt_4 : decode cX11_rowAt 4 = .ok (.bipush 40, 2) := by decide +kernel
theorem dX11_rowAt_6 : decode cX11_rowAt 6 = .ok (.iload_n 1, 1) := by decide +kernel
theorem dX11_rowAt_7 : decode cX11_rowAt 7 = .ok (.imul, 1) := by decide +kernel
theorem dX11_rowAt_8 : decode cX11_rowAt 8 = .ok (.iload_n 2, 1) := by decide +kernel
theorem dX11_rowAt_9 : decode cX11_rowAt 9 = .ok (.iadd, 1) := by decide +kernel
theorem dX11_rowAt_10 : decode cX11_rowAt 10 = .ok (.iaload, 1) := by decide +kernel
theorem dX11_rowAt_11 : decode cX11_rowAt 11 = .ok (.ireturn, 1) := by decide +kernel
theorem dX11_row_0 : decode cX11_row 0 = .ok (.iload_n 1, 1) := by decide +kernel
theorem dX11_row_1 : decode cX11_row 1 = .ok (.invokestatic 93, 3) := by decide +kernel
theorem dX11_row_4 : decode cX11_row 4 = .ok (.ifCond .eq 9, 3) := by decide +kernel
theorem dX11_row_7 : decode cX11_row 7 = .ok (.iload_n 2, 1) := by decide +kernel
theorem dX11_row_8 : decode cX11_row 8 = .ok (.bipush 40, 2) := by decide +kernel
theorem dX11_row_10 : decode cX11_row 10 = .ok (.if_icmp .le 5, 3) := by decide +kernel
theorem dX11_row_13 : decode cX11_row 13 = .ok (.iconst (-1), 1) := by decide +kernel
theorem dX11_row_14 : decode cX11_row 14 = .ok (.ireturn, 1) := by decide +kernel
theorem dX11_row_15 : decode cX11_row 15 = .ok (.iload_n 2, 1) := by decide +kernel
theorem dX11_row_16 : decode cX11_row 16 = .ok (.ifCond .ge 9, 3) := by decide +kernel
theorem dX11_row_19 : decode cX11_row 19 = .ok (.aload_n 0, 1) := by decide +kernel
theorem dX11_row_20 : decode cX11_row 20 = .ok (.iconst 5, 1) := by decide +kernel
theorem dX11_row_21 : decode cX11_row 21 = .ok (.invokevirtual 97, 3) := by decide +kernel
theorem dX11_row_24 : decode cX11_row 24 = .ok (.ireturn, 1) := by decide +kernel
theorem dX11_row_25 : decode cX11_row 25 = .ok (.aload_n 0, 1) := by decide +kernel
theorem dX11_row_26 : decode cX11_row 26 = .ok (.getfield 17, 3) := by decide +kernel
theorem dX11_row_29 : decode cX11_row 29 = .ok (.iload_n 1, 1) := by decide +kernel
theorem dX11_row_30 : decode cX11_row 30 = .ok (.iload_n 2, 1) := by decide +kernel
theorem dX11_row_31 : decode cX11_row 31 = .ok (.iastore, 1) := by decide +kernel
theorem dX11_row_32 : decode cX11_row 32 = .ok (.iconst 0, 1) := by decide +kernel
theorem dX11_row_33 : decode cX11_row 33 = .ok (.istore_n 3, 1) := by decide +kernel
theorem dX11_row_34 : decode cX11_row 34 = .ok (.iload_n 3, 1) := by decide +kernel
theorem dX11_row_35 : decode cX11_row 35 = .ok (.bipush 40, 2) := by decide +kernel
theorem dX11_row_37 : decode cX11_row 37 = .ok (.if_icmp .ge 21, 3) := by decide +kernel
theorem dX11_row_40 : decode cX11_row 40 = .ok (.aload_n 0, 1) := by decide +kernel
theorem dX11_row_41 : decode cX11_row 41 = .ok (.getfield 20, 3) := by decide +kernel
theorem dX11_row_44 : decode cX11_row 44 = .ok (.bipush 40, 2) := by decide +kernel
theorem dX11_row_46 : decode cX11_row 46 = .ok (.iload_n 1, 1) := by decide +kernel
theorem dX11_row_47 : decode cX11_row 47 = .ok (.imul, 1) := by decide +kernel
theorem dX11_row_48 : decode cX11_row 48 = .ok (.iload_n 3, 1) := by decide +kernel
theorem dX11_row_49 : decode cX11_row 49 = .ok (.iadd, 1) := by decide +kernel
theorem dX11_row_50 : decode cX11_row 50 = .ok (.iconst 0, 1) := by decide +kernel
theorem dX11_row_51 : decode cX11_row 51 = .ok (.iastore, 1) := by decide +kernel
theorem dX11_row_52 : decode cX11_row 52 = .ok (.iinc 3 1, 3) := by decide +kernel
theorem dX11_row_55 : decode cX11_row 55 = .ok (.goto (-21), 3) := by decide +kernel
theorem dX11_row_58 : decode cX11_row 58 = .ok (.iload_n 2, 1) := by decide +kernel
theorem dX11_row_59 : decode cX11_row 59 = .ok (.ireturn, 1) := by decide +kernel
theorem dX11_lay_0 : decode cX11_lay 0 = .ok (.iload_n 1, 1) := by decide +kernel
theorem dX11_lay_1 : decode cX11_lay 1 = .ok (.invokestatic 93, 3) := by decide +kernel
theorem dX11_lay_4 : decode cX11_lay 4 = .ok (.ifCond .ne 5, 3) := by decide +kernel
theorem dX11_lay_7 : decode cX11_lay 7 = .ok (.iconst (-1), 1) := by decide +kernel
theorem dX11_lay_8 : decode cX11_lay 8 = .ok (.ireturn, 1) := by decide +kernel
theorem dX11_lay_9 : decode cX11_lay 9 = .ok (.aload_n 0, 1) := by decide +kernel
theorem dX11_lay_10 : decode cX11_lay 10 = .ok (.getfield 17, 3) := by decide +kernel
theorem dX11_lay_13 : decode cX11_lay 13 = .ok (.iload_n 1, 1) := by decide +kernel
theorem dX11_lay_14 : decode cX11_lay 14 = .ok (.iaload, 1) := by decide +kernel
theorem dX11_lay_15 : decode cX11_lay 15 = .ok (.ifCond .ge 9, 3) := by decide +kernel
theorem dX11_lay_18 : decode cX11_lay 18 = .ok (.aload_n 0, 1) := by decide +kernel
theorem dX11_lay_19 : decode cX11_lay 19 = .ok (.iconst 1, 1) := by decide +kernel
theorem dX11_lay_20 : decode cX11_lay 20 = .ok (.invokevirtual 97, 3) := by decide +kernel
theorem dX11_lay_23 : decode cX11_lay 23 = .ok (.ireturn, 1) := by decide +kernel
theorem dX11_lay_24 : decode cX11_lay 24 = .ok (.iload_n 2, 1) := by decide +kernel
theorem dX11_lay_25 : decode cX11_lay 25 = .ok (.iconst 0, 1) := by decide +kernel
theorem dX11_lay_26 : decode cX11_lay 26 = .ok (.aload_n 0, 1) := by decide +kernel
theorem dX11_lay_27 : decode cX11_lay 27 = .ok (.getfield 17, 3) := by decide +kernel
theorem dX11_lay_30 : decode cX11_lay 30 = .ok (.iload_n 1, 1) := by decide +kernel
theorem dX11_lay_31 : decode cX11_lay 31 = .ok (.iaload, 1) := by decide +kernel
theorem dX11_lay_32 : decode cX11_lay 32 = .ok (.iconst 1, 1) := by decide +kernel
theorem dX11_lay_33 : decode cX11_lay 33 = .ok (.isub, 1) := by decide +kernel
theorem dX11_lay_34 : decode cX11_lay 34 = .ok (.invokestatic 83, 3) := by decide +kernel
theorem dX11_lay_37 : decode cX11_lay 37 = .ok (.ifCond .ne 9, 3) := by decide +kernel
theorem dX11_lay_40 : decode cX11_lay 40 = .ok (.aload_n 0, 1) := by decide +kernel
theorem dX11_lay_41 : decode cX11_lay 41 = .ok (.iconst 2, 1) := by decide +kernel
theorem dX11_lay_42 : decode cX11_lay 42 = .ok (.invokevirtual 97, 3) := by decide +kernel
theorem dX11_lay_45 : decode cX11_lay 45 = .ok (.ireturn, 1) := by decide +kernel
theorem dX11_lay_46 : decode cX11_lay 46 = .ok (.aload_n 0, 1) := by decide +kernel
theorem dX11_lay_47 : decode cX11_lay 47 = .ok (.iload_n 1, 1) := by decide +kernel
theorem dX11_lay_48 : decode cX11_lay 48 = .ok (.iload_n 2, 1) := by decide +kernel
theorem dX11_lay_49 : decode cX11_lay 49 = .ok (.invokevirtual 101, 3) := by decide +kernel
theorem dX11_lay_52 : decode cX11_lay 52 = .ok (.istore 4, 2) := by decide +kernel
theorem dX11_lay_54 : decode cX11_lay 54 = .ok (.aload_n 0, 1) := by decide +kernel
theorem dX11_lay_55 : decode cX11_lay 55 = .ok (.getfield 20, 3) := by decide +kernel
theorem dX11_lay_58 : decode cX11_lay 58 = .ok (.bipush 40, 2) := by decide +kernel
theorem dX11_lay_60 : decode cX11_lay 60 = .ok (.iload_n 1, 1) := by decide +kernel
theorem dX11_lay_61 : decode cX11_lay 61 = .ok (.imul, 1) := by decide +kernel
theorem dX11_lay_62 : decode cX11_lay 62 = .ok (.iload_n 2, 1) := by decide +kernel
theorem dX11_lay_63 : decode cX11_lay 63 = .ok (.iadd, 1) := by decide +kernel
theorem dX11_lay_64 : decode cX11_lay 64 = .ok (.iload_n 3, 1) := by decide +kernel
theorem dX11_lay_65 : decode cX11_lay 65 = .ok (.iastore, 1) := by decide +kernel
theorem dX11_lay_66 : decode cX11_lay 66 = .ok (.aload_n 0, 1) := by decide +kernel
theorem dX11_lay_67 : decode cX11_lay 67 = .ok (.iload 4, 2) := by decide +kernel
theorem dX11_lay_69 : decode cX11_lay 69 = .ok (.iconst 1, 1) := by decide +kernel
theorem dX11_lay_70 : decode cX11_lay 70 = .ok (.invokevirtual 105, 3) := by decide +kernel
theorem dX11_lay_73 : decode cX11_lay 73 = .ok (.ireturn, 1) := by decide +kernel
theorem dX11_at_0 : decode cX11_at 0 = .ok (.iload_n 1, 1) := by decide +kernel
theorem dX11_at_1 : decode cX11_at 1 = .ok (.invokestatic 93, 3) := by decide +kernel
theorem dX11_at_4 : decode cX11_at 4 = .ok (.ifCond .ne 5, 3) := by decide +kernel
theorem dX11_at_7 : decode cX11_at 7 = .ok (.iconst (-1), 1) := by decide +kernel
theorem dX11_at_8 : decode cX11_at 8 = .ok (.ireturn, 1) := by decide +kernel
theorem dX11_at_9 : decode cX11_at 9 = .ok (.aload_n 0, 1) := by decide +kernel
theorem dX11_at_10 : decode cX11_at 10 = .ok (.getfield 17, 3) := by decide +kernel
theorem dX11_at_13 : decode cX11_at 13 = .ok (.iload_n 1, 1) := by decide +kernel
theorem dX11_at_14 : decode cX11_at 14 = .ok (.iaload, 1) := by decide +kernel
theorem dX11_at_15 : decode cX11_at 15 = .ok (.ifCond .ge 9, 3) := by decide +kernel
theorem dX11_at_18 : decode cX11_at 18 = .ok (.aload_n 0, 1) := by decide +kernel
theorem dX11_at_19 : decode cX11_at 19 = .ok (.iconst 1, 1) := by decide +kernel
theorem dX11_at_20 : decode cX11_at 20 = .ok (.invokevirtual 97, 3) := by decide +kernel
theorem dX11_at_23 : decode cX11_at 23 = .ok (.ireturn, 1) := by decide +kernel
theorem dX11_at_24 : decode cX11_at 24 = .ok (.iload_n 2, 1) := by decide +kernel
theorem dX11_at_25 : decode cX11_at 25 = .ok (.iconst 0, 1) := by decide +kernel
theorem dX11_at_26 : decode cX11_at 26 = .ok (.aload_n 0, 1) := by decide +kernel
theorem dX11_at_27 : decode cX11_at 27 = .ok (.getfield 17, 3) := by decide +kernel
theorem dX11_at_30 : decode cX11_at 30 = .ok (.iload_n 1, 1) := by decide +kernel
theorem dX11_at_31 : decode cX11_at 31 = .ok (.iaload, 1) := by decide +kernel
theorem dX11_at_32 : decode cX11_at 32 = .ok (.iconst 1, 1) := by decide +kernel
theorem dX11_at_33 : decode cX11_at 33 = .ok (.isub, 1) := by decide +kernel
theorem dX11_at_34 : decode cX11_at 34 = .ok (.invokestatic 83, 3) := by decide +kernel
theorem dX11_at_37 : decode cX11_at 37 = .ok (.ifCond .eq 17, 3) := by decide +kernel
theorem dX11_at_40 : decode cX11_at 40 = .ok (.aload_n 0, 1) := by decide +kernel
theorem dX11_at_41 : decode cX11_at 41 = .ok (.aload_n 0, 1) := by decide +kernel
theorem dX11_at_42 : decode cX11_at 42 = .ok (.iload_n 1, 1) := by decide +kernel
theorem dX11_at_43 : decode cX11_at 43 = .ok (.iload_n 2, 1) := by decide +kernel
theorem dX11_at_44 : decode cX11_at 44 = .ok (.invokevirtual 101, 3) := by decide +kernel
theorem dX11_at_47 : decode cX11_at 47 = .ok (.iconst 1, 1) := by decide +kernel
theorem dX11_at_48 : decode cX11_at 48 = .ok (.invokevirtual 105, 3) := by decide +kernel
theorem dX11_at_51 : decode cX11_at 51 = .ok (.goto 8, 3) := by decide +kernel
theorem dX11_at_54 : decode cX11_at 54 = .ok (.aload_n 0, 1) := by decide +kernel
theorem dX11_at_55 : decode cX11_at 55 = .ok (.iconst 2, 1) := by decide +kernel
theorem dX11_at_56 : decode cX11_at 56 = .ok (.invokevirtual 97, 3) := by decide +kernel
theorem dX11_at_59 : decode cX11_at 59 = .ok (.ireturn, 1) := by decide +kernel
theorem dX11_tear_0 : decode cX11_tear 0 = .ok (.iload_n 1, 1) := by decide +kernel
theorem dX11_tear_1 : decode cX11_tear 1 = .ok (.invokestatic 93, 3) := by decide +kernel
theorem dX11_tear_4 : decode cX11_tear 4 = .ok (.ifCond .ne 5, 3) := by decide +kernel
theorem dX11_tear_7 : decode cX11_tear 7 = .ok (.iconst (-1), 1) := by decide +kernel
theorem dX11_tear_8 : decode cX11_tear 8 = .ok (.ireturn, 1) := by decide +kernel
theorem dX11_tear_9 : decode cX11_tear 9 = .ok (.aload_n 0, 1) := by decide +kernel
theorem dX11_tear_10 : decode cX11_tear 10 = .ok (.getfield 17, 3) := by decide +kernel
theorem dX11_tear_13 : decode cX11_tear 13 = .ok (.iload_n 1, 1) := by decide +kernel
theorem dX11_tear_14 : decode cX11_tear 14 = .ok (.iaload, 1) := by decide +kernel
theorem dX11_tear_15 : decode cX11_tear 15 = .ok (.ifCond .ge 9, 3) := by decide +kernel
theorem dX11_tear_18 : decode cX11_tear 18 = .ok (.aload_n 0, 1) := by decide +kernel
theorem dX11_tear_19 : decode cX11_tear 19 = .ok (.iconst 1, 1) := by decide +kernel
theorem dX11_tear_20 : decode cX11_tear 20 = .ok (.invokevirtual 97, 3) := by decide +kernel
theorem dX11_tear_23 : decode cX11_tear 23 = .ok (.ireturn, 1) := by decide +kernel
theorem dX11_tear_24 : decode cX11_tear 24 = .ok (.aload_n 0, 1) := by decide +kernel
theorem dX11_tear_25 : decode cX11_tear 25 = .ok (.getfield 17, 3) := by decide +kernel
theorem dX11_tear_28 : decode cX11_tear 28 = .ok (.iload_n 1, 1) := by decide +kernel
theorem dX11_tear_29 : decode cX11_tear 29 = .ok (.iconst (-1), 1) := by decide +kernel
theorem dX11_tear_30 : decode cX11_tear 30 = .ok (.iastore, 1) := by decide +kernel
theorem dX11_tear_31 : decode cX11_tear 31 = .ok (.iconst 1, 1) := by decide +kernel
theorem dX11_tear_32 : decode cX11_tear 32 = .ok (.ireturn, 1) := by decide +kernel
theorem dX11_copy_0 : decode cX11_copy 0 = .ok (.iload_n 1, 1) := by decide +kernel
theorem dX11_copy_1 : decode cX11_copy 1 = .ok (.invokestatic 93, 3) := by decide +kernel
theorem dX11_copy_4 : decode cX11_copy 4 = .ok (.ifCond .eq 10, 3) := by decide +kernel
theorem dX11_copy_7 : decode cX11_copy 7 = .ok (.iload_n 3, 1) := by decide +kernel
theorem dX11_copy_8 : decode cX11_copy 8 = .ok (.invokestatic 93, 3) := by decide +kernel
theorem dX11_copy_11 : decode cX11_copy 11 = .ok (.ifCond .ne 5, 3) := by decide +kernel
theorem dX11_copy_14 : decode cX11_copy 14 = .ok (.iconst (-1), 1) := by decide +kernel
theorem dX11_copy_15 : decode cX11_copy 15 = .ok (.ireturn, 1) := by decide +kernel
theorem dX11_copy_16 : decode cX11_copy 16 = .ok (.iload 5, 2) := by decide +kernel
theorem dX11_copy_18 : decode cX11_copy 18 = .ok (.ifCond .ge 9, 3) := by decide +kernel
theorem dX11_copy_21 : decode cX11_copy 21 = .ok (.aload_n 0, 1) := by decide +kernel
theorem dX11_copy_22 : decode cX11_copy 22 = .ok (.iconst 5, 1) := by decide +kernel
theorem dX11_copy_23 : decode cX11_copy 23 = .ok (.invokevirtual 97, 3) := by decide +kernel
theorem dX11_copy_26 : decode cX11_copy 26 = .ok (.ireturn, 1) := by decide +kernel
theorem dX11_copy_27 : decode cX11_copy 27 = .ok (.aload_n 0, 1) := by decide +kernel
theorem dX11_copy_28 : decode cX11_copy 28 = .ok (.getfield 17, 3) := by decide +kernel
theorem dX11_copy_31 : decode cX11_copy 31 = .ok (.iload_n 1, 1) := by decide +kernel
theorem dX11_copy_32 : decode cX11_copy 32 = .ok (.iaload, 1) := by decide +kernel
theorem dX11_copy_33 : decode cX11_copy 33 = .ok (.ifCond .lt 12, 3) := by decide +kernel
theorem dX11_copy_36 : decode cX11_copy 36 = .ok (.aload_n 0, 1) := by decide +kernel
theorem dX11_copy_37 : decode cX11_copy 37 = .ok (.getfield 17, 3) := by decide +kernel
theorem dX11_copy_40 : decode cX11_copy 40 = .ok (.iload_n 3, 1) := by decide +kernel
theorem dX11_copy_41 : decode cX11_copy 41 = .ok (.iaload, 1) := by decide +kernel
theorem dX11_copy_42 : decode cX11_copy 42 = .ok (.ifCond .ge 9, 3) := by decide +kernel
theorem dX11_copy_45 : decode cX11_copy 45 = .ok (.aload_n 0, 1) := by decide +kernel
theorem dX11_copy_46 : decode cX11_copy 46 = .ok (.iconst 1, 1) := by decide +kernel
theorem dX11_copy_47 : decode cX11_copy 47 = .ok (.invokevirtual 97, 3) := by decide +kernel
theorem dX11_copy_50 : decode cX11_copy 50 = .ok (.ireturn, 1) := by decide +kernel
theorem dX11_copy_51 : decode cX11_copy 51 = .ok (.iload_n 2, 1) := by decide +kernel
theorem dX11_copy_52 : decode cX11_copy 52 = .ok (.ifCond .lt 43, 3) := by decide +kernel
theorem dX11_copy_55 : decode cX11_copy 55 = .ok (.iload 4, 2) := by decide +kernel
theorem dX11_copy_57 : decode cX11_copy 57 = .ok (.ifCond .lt 38, 3) := by decide +kernel
theorem dX11_copy_60 : decode cX11_copy 60 = .ok (.iload_n 2, 1) := by decide +kernel
theorem dX11_copy_61 : decode cX11_copy 61 = .ok (.i2l, 1) := by decide +kernel
theorem dX11_copy_62 : decode cX11_copy 62 = .ok (.iload 5, 2) := by decide +kernel
theorem dX11_copy_64 : decode cX11_copy 64 = .ok (.i2l, 1) := by decide +kernel
theorem dX11_copy_65 : decode cX11_copy 65 = .ok (.ladd, 1) := by decide +kernel
theorem dX11_copy_66 : decode cX11_copy 66 = .ok (.aload_n 0, 1) := by decide +kernel
theorem dX11_copy_67 : decode cX11_copy 67 = .ok (.getfield 17, 3) := by decide +kernel
theorem dX11_copy_70 : decode cX11_copy 70 = .ok (.iload_n 1, 1) := by decide +kernel
theorem dX11_copy_71 : decode cX11_copy 71 = .ok (.iaload, 1) := by decide +kernel
theorem dX11_copy_72 : decode cX11_copy 72 = .ok (.i2l, 1) := by decide +kernel
theorem dX11_copy_73 : decode cX11_copy 73 = .ok (.lcmp, 1) := by decide +kernel
theorem dX11_copy_74 : decode cX11_copy 74 = .ok (.ifCond .gt 21, 3) := by decide +kernel
theorem dX11_copy_77 : decode cX11_copy 77 = .ok (.iload 4, 2) := by decide +kernel
theorem dX11_copy_79 : decode cX11_copy 79 = .ok (.i2l, 1) := by decide +kernel
theorem dX11_copy_80 : decode cX11_copy 80 = .ok (.iload 5, 2) := by decide +kernel
theorem dX11_copy_82 : decode cX11_copy 82 = .ok (.i2l, 1) := by decide +kernel
theorem dX11_copy_83 : decode cX11_copy 83 = .ok (.ladd, 1) := by decide +kernel
theorem dX11_copy_84 : decode cX11_copy 84 = .ok (.aload_n 0, 1) := by decide +kernel
theorem dX11_copy_85 : decode cX11_copy 85 = .ok (.getfield 17, 3) := by decide +kernel
theorem dX11_copy_88 : decode cX11_copy 88 = .ok (.iload_n 3, 1) := by decide +kernel
theorem dX11_copy_89 : decode cX11_copy 89 = .ok (.iaload, 1) := by decide +kernel
theorem dX11_copy_90 : decode cX11_copy 90 = .ok (.i2l, 1) := by decide +kernel
theorem dX11_copy_91 : decode cX11_copy 91 = .ok (.lcmp, 1) := by decide +kernel
theorem dX11_copy_92 : decode cX11_copy 92 = .ok (.ifCond .le 9, 3) := by decide +kernel
theorem dX11_copy_95 : decode cX11_copy 95 = .ok (.aload_n 0, 1) := by decide +kernel
theorem dX11_copy_96 : decode cX11_copy 96 = .ok (.iconst 2, 1) := by decide +kernel
theorem dX11_copy_97 : decode cX11_copy 97 = .ok (.invokevirtual 97, 3) := by decide +kernel
theorem dX11_copy_100 : decode cX11_copy 100 = .ok (.ireturn, 1) := by decide +kernel
theorem dX11_copy_101 : decode cX11_copy 101 = .ok (.iconst 0, 1) := by decide +kernel
theorem dX11_copy_102 : decode cX11_copy 102 = .ok (.istore 6, 2) := by decide +kernel
theorem dX11_copy_104 : decode cX11_copy 104 = .ok (.iload 6, 2) := by decide +kernel
theorem dX11_copy_106 : decode cX11_copy 106 = .ok (.iload 5, 2) := by decide +kernel
theorem dX11_copy_108 : decode cX11_copy 108 = .ok (.if_icmp .ge 25, 3) := by decide +kernel
theorem dX11_copy_111 : decode cX11_copy 111 = .ok (.aload_n 0, 1) := by decide +kernel
theorem dX11_copy_112 : decode cX11_copy 112 = .ok (.getfield 23, 3) := by decide +kernel
theorem dX11_copy_115 : decode cX11_copy 115 = .ok (.iload 6, 2) := by decide +kernel
theorem dX11_copy_117 : decode cX11_copy 117 = .ok (.aload_n 0, 1) := by decide +kernel
theorem dX11_copy_118 : decode cX11_copy 118 = .ok (.iload_n 1, 1) := by decide +kernel
theorem dX11_copy_119 : decode cX11_copy 119 = .ok (.iload_n 2, 1) := by decide +kernel
theorem dX11_copy_120 : decode cX11_copy 120 = .ok (.iload 6, 2) := by decide +kernel
theorem dX11_copy_122 : decode cX11_copy 122 = .ok (.iadd, 1) := by decide +kernel
theorem dX11_copy_123 : decode cX11_copy 123 = .ok (.invokevirtual 101, 3) := by decide +kernel
theorem dX11_copy_126 : decode cX11_copy 126 = .ok (.iastore, 1) := by decide +kernel
theorem dX11_copy_127 : decode cX11_copy 127 = .ok (.iinc 6 1, 3) := by decide +kernel
theorem dX11_copy_130 : decode cX11_copy 130 = .ok (.goto (-26), 3) := by decide +kernel
theorem dX11_copy_133 : decode cX11_copy 133 = .ok (.iconst 0, 1) := by decide +kernel
theorem dX11_copy_134 : decode cX11_copy 134 = .ok (.istore 6, 2) := by decide +kernel
theorem dX11_copy_136 : decode cX11_copy 136 = .ok (.iload 6, 2) := by decide +kernel
theorem dX11_copy_138 : decode cX11_copy 138 = .ok (.iload 5, 2) := by decide +kernel
theorem dX11_copy_140 : decode cX11_copy 140 = .ok (.if_icmp .ge 31, 3) := by decide +kernel
theorem dX11_copy_143 : decode cX11_copy 143 = .ok (.aload_n 0, 1) := by decide +kernel
theorem dX11_copy_144 : decode cX11_copy 144 = .ok (.getfield 20, 3) := by decide +kernel
theorem dX11_copy_147 : decode cX11_copy 147 = .ok (.bipush 40, 2) := by decide +kernel
theorem dX11_copy_149 : decode cX11_copy 149 = .ok (.iload_n 3, 1) := by decide +kernel
theorem dX11_copy_150 : decode cX11_copy 150 = .ok (.imul, 1) := by decide +kernel
theorem dX11_copy_151 : decode cX11_copy 151 = .ok (.iload 4, 2) := by decide +kernel
theorem dX11_copy_153 : decode cX11_copy 153 = .ok (.iadd, 1) := by decide +kernel
theorem dX11_copy_154 : decode cX11_copy 154 = .ok (.iload 6, 2) := by decide +kernel
theorem dX11_copy_156 : decode cX11_copy 156 = .ok (.iadd, 1) := by decide +kernel
theorem dX11_copy_157 : decode cX11_copy 157 = .ok (.aload_n 0, 1) := by decide +kernel
theorem dX11_copy_158 : decode cX11_copy 158 = .ok (.getfield 23, 3) := by decide +kernel
theorem dX11_copy_161 : decode cX11_copy 161 = .ok (.iload 6, 2) := by decide +kernel
theorem dX11_copy_163 : decode cX11_copy 163 = .ok (.iaload, 1) := by decide +kernel
theorem dX11_copy_164 : decode cX11_copy 164 = .ok (.iastore, 1) := by decide +kernel
theorem dX11_copy_165 : decode cX11_copy 165 = .ok (.iinc 6 1, 3) := by decide +kernel
theorem dX11_copy_168 : decode cX11_copy 168 = .ok (.goto (-32), 3) := by decide +kernel
theorem dX11_copy_171 : decode cX11_copy 171 = .ok (.iconst 1, 1) := by decide +kernel
theorem dX11_copy_172 : decode cX11_copy 172 = .ok (.ireturn, 1) := by decide +kernel
theorem dX11_mean_0 : decode cX11_mean 0 = .ok (.iload_n 1, 1) := by decide +kernel
theorem dX11_mean_1 : decode cX11_mean 1 = .ok (.invokestatic 93, 3) := by decide +kernel
theorem dX11_mean_4 : decode cX11_mean 4 = .ok (.ifCond .ne 5, 3) := by decide +kernel
theorem dX11_mean_7 : decode cX11_mean 7 = .ok (.iconst (-1), 1) := by decide +kernel
theorem dX11_mean_8 : decode cX11_mean 8 = .ok (.ireturn, 1) := by decide +kernel
theorem dX11_mean_9 : decode cX11_mean 9 = .ok (.aload_n 0, 1) := by decide +kernel
theorem dX11_mean_10 : decode cX11_mean 10 = .ok (.getfield 17, 3) := by decide +kernel
theorem dX11_mean_13 : decode cX11_mean 13 = .ok (.iload_n 1, 1) := by decide +kernel
theorem dX11_mean_14 : decode cX11_mean 14 = .ok (.iaload, 1) := by decide +kernel
theorem dX11_mean_15 : decode cX11_mean 15 = .ok (.ifCond .ge 9, 3) := by decide +kernel
theorem dX11_mean_18 : decode cX11_mean 18 = .ok (.aload_n 0, 1) := by decide +kernel
theorem dX11_mean_19 : decode cX11_mean 19 = .ok (.iconst 1, 1) := by decide +kernel
theorem dX11_mean_20 : decode cX11_mean 20 = .ok (.invokevirtual 97, 3) := by decide +kernel
theorem dX11_mean_23 : decode cX11_mean 23 = .ok (.ireturn, 1) := by decide +kernel
theorem dX11_mean_24 : decode cX11_mean 24 = .ok (.aload_n 0, 1) := by decide +kernel
theorem dX11_mean_25 : decode cX11_mean 25 = .ok (.getfield 17, 3) := by decide +kernel
theorem dX11_mean_28 : decode cX11_mean 28 = .ok (.iload_n 1, 1) := by decide +kernel
theorem dX11_mean_29 : decode cX11_mean 29 = .ok (.iaload, 1) := by decide +kernel
theorem dX11_mean_30 : decode cX11_mean 30 = .ok (.ifCond .ne 9, 3) := by decide +kernel
theorem dX11_mean_33 : decode cX11_mean 33 = .ok (.aload_n 0, 1) := by decide +kernel
theorem dX11_mean_34 : decode cX11_mean 34 = .ok (.iconst 4, 1) := by decide +kernel
theorem dX11_mean_35 : decode cX11_mean 35 = .ok (.invokevirtual 97, 3) := by decide +kernel
theorem dX11_mean_38 : decode cX11_mean 38 = .ok (.ireturn, 1) := by decide +kernel
theorem dX11_mean_39 : decode cX11_mean 39 = .ok (.lconst 0, 1) := by decide +kernel
theorem dX11_mean_40 : decode cX11_mean 40 = .ok (.lstore_n 2, 1) := by decide +kernel
theorem dX11_mean_41 : decode cX11_mean 41 = .ok (.iconst 0, 1) := by decide +kernel
theorem dX11_mean_42 : decode cX11_mean 42 = .ok (.istore 4, 2) := by decide +kernel
theorem dX11_mean_44 : decode cX11_mean 44 = .ok (.iload 4, 2) := by decide +kernel
theorem dX11_mean_46 : decode cX11_mean 46 = .ok (.aload_n 0, 1) := by decide +kernel
theorem dX11_mean_47 : decode cX11_mean 47 = .ok (.getfield 17, 3) := by decide +kernel
theorem dX11_mean_50 : decode cX11_mean 50 = .ok (.iload_n 1, 1) := by decide +kernel
theorem dX11_mean_51 : decode cX11_mean 51 = .ok (.iaload, 1) := by decide +kernel
theorem dX11_mean_52 : decode cX11_mean 52 = .ok (.if_icmp .ge 20, 3) := by decide +kernel
theorem dX11_mean_55 : decode cX11_mean 55 = .ok (.lload_n 2, 1) := by decide +kernel
theorem dX11_mean_56 : decode cX11_mean 56 = .ok (.aload_n 0, 1) := by decide +kernel
theorem dX11_mean_57 : decode cX11_mean 57 = .ok (.iload_n 1, 1) := by decide +kernel
theorem dX11_mean_58 : decode cX11_mean 58 = .ok (.iload 4, 2) := by decide +kernel
theorem dX11_mean_60 : decode cX11_mean 60 = .ok (.invokevirtual 101, 3) := by decide +kernel
theorem dX11_mean_63 : decode cX11_mean 63 = .ok (.i2l, 1) := by decide +kernel
theorem dX11_mean_64 : decode cX11_mean 64 = .ok (.ladd, 1) := by decide +kernel
theorem dX11_mean_65 : decode cX11_mean 65 = .ok (.lstore_n 2, 1) := by decide +kernel
theorem dX11_mean_66 : decode cX11_mean 66 = .ok (.iinc 4 1, 3) := by decide +kernel
theorem dX11_mean_69 : decode cX11_mean 69 = .ok (.goto (-25), 3) := by decide +kernel
theorem dX11_mean_72 : decode cX11_mean 72 = .ok (.aload_n 0, 1) := by decide +kernel
theorem dX11_mean_73 : decode cX11_mean 73 = .ok (.lload_n 2, 1) := by decide +kernel
theorem dX11_mean_74 : decode cX11_mean 74 = .ok (.aload_n 0, 1) := by decide +kernel
theorem dX11_mean_75 : decode cX11_mean 75 = .ok (.getfield 17, 3) := by decide +kernel
theorem dX11_mean_78 : decode cX11_mean 78 = .ok (.iload_n 1, 1) := by decide +kernel
theorem dX11_mean_79 : decode cX11_mean 79 = .ok (.iaload, 1) := by decide +kernel
theorem dX11_mean_80 : decode cX11_mean 80 = .ok (.i2l, 1) := by decide +kernel
theorem dX11_mean_81 : decode cX11_mean 81 = .ok (.ldiv, 1) := by decide +kernel
theorem dX11_mean_82 : decode cX11_mean 82 = .ok (.l2i, 1) := by decide +kernel
theorem dX11_mean_83 : decode cX11_mean 83 = .ok (.iconst 1, 1) := by decide +kernel
theorem dX11_mean_84 : decode cX11_mean 84 = .ok (.invokevirtual 105, 3) := by decide +kernel
theorem dX11_mean_87 : decode cX11_mean 87 = .ok (.ireturn, 1) := by decide +kernel
theorem dX11_isText_0 : decode cX11_isText 0 = .ok (.iload_n 0, 1) := by decide +kernel
theorem dX11_isText_1 : decode cX11_isText 1 = .ok (.iconst 0, 1) := by decide +kernel
theorem dX11_isText_2 : decode cX11_isText 2 = .ok (.iconst 3, 1) := by decide +kernel
theorem dX11_isText_3 : decode cX11_isText 3 = .ok (.invokestatic 83, 3) := by decide +kernel
theorem dX11_isText_6 : decode cX11_isText 6 = .ok (.ireturn, 1) := by decide +kernel
theorem dX11_text_0 : decode cX11_text 0 = .ok (.iload_n 1, 1) := by decide +kernel
theorem dX11_text_1 : decode cX11_text 1 = .ok (.invokestatic 108, 3) := by decide +kernel
theorem dX11_text_4 : decode cX11_text 4 = .ok (.ifCond .eq 9, 3) := by decide +kernel
theorem dX11_text_7 : decode cX11_text 7 = .ok (.iload_n 2, 1) := by decide +kernel
theorem dX11_text_8 : decode cX11_text 8 = .ok (.bipush 60, 2) := by decide +kernel
theorem dX11_text_10 : decode cX11_text 10 = .ok (.if_icmp .le 5, 3) := by decide +kernel
theorem dX11_text_13 : decode cX11_text 13 = .ok (.iconst (-1), 1) := by decide +kernel
theorem dX11_text_14 : decode cX11_text 14 = .ok (.ireturn, 1) := by decide +kernel
theorem dX11_text_15 : decode cX11_text 15 = .ok (.iload_n 2, 1) := by decide +kernel
theorem dX11_text_16 : decode cX11_text 16 = .ok (.ifCond .ge 9, 3) := by decide +kernel
theorem dX11_text_19 : decode cX11_text 19 = .ok (.aload_n 0, 1) := by decide +kernel
theorem dX11_text_20 : decode cX11_text 20 = .ok (.iconst 5, 1) := by decide +kernel
theorem dX11_text_21 : decode cX11_text 21 = .ok (.invokevirtual 97, 3) := by decide +kernel
theorem dX11_text_24 : decode cX11_text 24 = .ok (.ireturn, 1) := by decide +kernel
theorem dX11_text_25 : decode cX11_text 25 = .ok (.aload_n 0, 1) := by decide +kernel
theorem dX11_text_26 : decode cX11_text 26 = .ok (.getfield 26, 3) := by decide +kernel
theorem dX11_text_29 : decode cX11_text 29 = .ok (.iload_n 1, 1) := by decide +kernel
theorem dX11_text_30 : decode cX11_text 30 = .ok (.iload_n 2, 1) := by decide +kernel
theorem dX11_text_31 : decode cX11_text 31 = .ok (.iastore, 1) := by decide +kernel
theorem dX11_text_32 : decode cX11_text 32 = .ok (.iconst 0, 1) := by decide +kernel
theorem dX11_text_33 : decode cX11_text 33 = .ok (.istore_n 3, 1) := by decide +kernel
theorem dX11_text_34 : decode cX11_text 34 = .ok (.iload_n 3, 1) := by decide +kernel
theorem dX11_text_35 : decode cX11_text 35 = .ok (.bipush 60, 2) := by decide +kernel
theorem dX11_text_37 : decode cX11_text 37 = .ok (.if_icmp .ge 22, 3) := by decide +kernel
theorem dX11_text_40 : decode cX11_text 40 = .ok (.aload_n 0, 1) := by decide +kernel
theorem dX11_text_41 : decode cX11_text 41 = .ok (.getfield 29, 3) := by decide +kernel
theorem dX11_text_44 : decode cX11_text 44 = .ok (.bipush 60, 2) := by decide +kernel
theorem dX11_text_46 : decode cX11_text 46 = .ok (.iload_n 1, 1) := by decide +kernel
theorem dX11_text_47 : decode cX11_text 47 = .ok (.imul, 1) := by decide +kernel
theorem dX11_text_48 : decode cX11_text 48 = .ok (.iload_n 3, 1) := by decide +kernel
theorem dX11_text_49 : decode cX11_text 49 = .ok (.iadd, 1) := by decide +kernel
theorem dX11_text_50 : decode cX11_text 50 = .ok (.bipush 32, 2) := by decide +kernel
theorem dX11_text_52 : decode cX11_text 52 = .ok (.bastore, 1) := by decide +kernel
theorem dX11_text_53 : decode cX11_text 53 = .ok (.iinc 3 1, 3) := by decide +kernel
theorem dX11_text_56 : decode cX11_text 56 = .ok (.goto (-22), 3) := by decide +kernel
theorem dX11_text_59 : decode cX11_text 59 = .ok (.iload_n 2, 1) := by decide +kernel
theorem dX11_text_60 : decode cX11_text 60 = .ok (.ireturn, 1) := by decide +kernel
theorem dX11_put_0 : decode cX11_put 0 = .ok (.iload_n 1, 1) := by decide +kernel
theorem dX11_put_1 : decode cX11_put 1 = .ok (.invokestatic 108, 3) := by decide +kernel
theorem dX11_put_4 : decode cX11_put 4 = .ok (.ifCond .ne 5, 3) := by decide +kernel
theorem dX11_put_7 : decode cX11_put 7 = .ok (.iconst (-1), 1) := by decide +kernel
theorem dX11_put_8 : decode cX11_put 8 = .ok (.ireturn, 1) := by decide +kernel
theorem dX11_put_9 : decode cX11_put 9 = .ok (.aload_n 0, 1) := by decide +kernel
theorem dX11_put_10 : decode cX11_put 10 = .ok (.getfield 26, 3) := by decide +kernel
theorem dX11_put_13 : decode cX11_put 13 = .ok (.iload_n 1, 1) := by decide +kernel
theorem dX11_put_14 : decode cX11_put 14 = .ok (.iaload, 1) := by decide +kernel
theorem dX11_put_15 : decode cX11_put 15 = .ok (.ifCond .ge 9, 3) := by decide +kernel
theorem dX11_put_18 : decode cX11_put 18 = .ok (.aload_n 0, 1) := by decide +kernel
theorem dX11_put_19 : decode cX11_put 19 = .ok (.iconst 1, 1) := by decide +kernel
theorem dX11_put_20 : decode cX11_put 20 = .ok (.invokevirtual 97, 3) := by decide +kernel
theorem dX11_put_23 : decode cX11_put 23 = .ok (.ireturn, 1) := by decide +kernel
theorem dX11_put_24 : decode cX11_put 24 = .ok (.iload_n 2, 1) := by decide +kernel
theorem dX11_put_25 : decode cX11_put 25 = .ok (.iconst 0, 1) := by decide +kernel
theorem dX11_put_26 : decode cX11_put 26 = .ok (.aload_n 0, 1) := by decide +kernel
theorem dX11_put_27 : decode cX11_put 27 = .ok (.getfield 26, 3) := by decide +kernel
theorem dX11_put_30 : decode cX11_put 30 = .ok (.iload_n 1, 1) := by decide +kernel
theorem dX11_put_31 : decode cX11_put 31 = .ok (.iaload, 1) := by decide +kernel
theorem dX11_put_32 : decode cX11_put 32 = .ok (.iconst 1, 1) := by decide +kernel
theorem dX11_put_33 : decode cX11_put 33 = .ok (.isub, 1) := by decide +kernel
theorem dX11_put_34 : decode cX11_put 34 = .ok (.invokestatic 83, 3) := by decide +kernel
theorem dX11_put_37 : decode cX11_put 37 = .ok (.ifCond .ne 9, 3) := by decide +kernel
theorem dX11_put_40 : decode cX11_put 40 = .ok (.aload_n 0, 1) := by decide +kernel
theorem dX11_put_41 : decode cX11_put 41 = .ok (.iconst 2, 1) := by decide +kernel
theorem dX11_put_42 : decode cX11_put 42 = .ok (.invokevirtual 97, 3) := by decide +kernel
theorem dX11_put_45 : decode cX11_put 45 = .ok (.ireturn, 1) := by decide +kernel
theorem dX11_put_46 : decode cX11_put 46 = .ok (.aload_n 0, 1) := by decide +kernel
theorem dX11_put_47 : decode cX11_put 47 = .ok (.getfield 29, 3) := by decide +kernel
theorem dX11_put_50 : decode cX11_put 50 = .ok (.bipush 60, 2) := by decide +kernel
theorem dX11_put_52 : decode cX11_put 52 = .ok (.iload_n 1, 1) := by decide +kernel
theorem dX11_put_53 : decode cX11_put 53 = .ok (.imul, 1) := by decide +kernel
theorem dX11_put_54 : decode cX11_put 54 = .ok (.iload_n 2, 1) := by decide +kernel
theorem dX11_put_55 : decode cX11_put 55 = .ok (.iadd, 1) := by decide +kernel
theorem dX11_put_56 : decode cX11_put 56 = .ok (.baload, 1) := by decide +kernel
theorem dX11_put_57 : decode cX11_put 57 = .ok (.istore 4, 2) := by decide +kernel
theorem dX11_put_59 : decode cX11_put 59 = .ok (.aload_n 0, 1) := by decide +kernel
theorem dX11_put_60 : decode cX11_put 60 = .ok (.getfield 29, 3) := by decide +kernel
theorem dX11_put_63 : decode cX11_put 63 = .ok (.bipush 60, 2) := by decide +kernel
theorem dX11_put_65 : decode cX11_put 65 = .ok (.iload_n 1, 1) := by decide +kernel
theorem dX11_put_66 : decode cX11_put 66 = .ok (.imul, 1) := by decide +kernel
theorem dX11_put_67 : decode cX11_put 67 = .ok (.iload_n 2, 1) := by decide +kernel
theorem dX11_put_68 : decode cX11_put 68 = .ok (.iadd, 1) := by decide +kernel
theorem dX11_put_69 : decode cX11_put 69 = .ok (.iload_n 3, 1) := by decide +kernel
theorem dX11_put_70 : decode cX11_put 70 = .ok (.i2b, 1) := by decide +kernel
theorem dX11_put_71 : decode cX11_put 71 = .ok (.bastore, 1) := by decide +kernel
theorem dX11_put_72 : decode cX11_put 72 = .ok (.sipush 1000, 3) := by decide +kernel
theorem dX11_put_75 : decode cX11_put 75 = .ok (.iload 4, 2) := by decide +kernel
theorem dX11_put_77 : decode cX11_put 77 = .ok (.iadd, 1) := by decide +kernel
theorem dX11_put_78 : decode cX11_put 78 = .ok (.ireturn, 1) := by decide +kernel
theorem dX11_byteAt_0 : decode cX11_byteAt 0 = .ok (.iload_n 2, 1) := by decide +kernel
theorem dX11_byteAt_1 : decode cX11_byteAt 1 = .ok (.aload_n 0, 1) := by decide +kernel
theorem dX11_byteAt_2 : decode cX11_byteAt 2 = .ok (.getfield 26, 3) := by decide +kernel
theorem dX11_byteAt_5 : decode cX11_byteAt 5 = .ok (.iload_n 1, 1) := by decide +kernel
theorem dX11_byteAt_6 : decode cX11_byteAt 6 = .ok (.iaload, 1) := by decide +kernel
theorem dX11_byteAt_7 : decode cX11_byteAt 7 = .ok (.if_icmp .ge 17, 3) := by decide +kernel
theorem dX11_byteAt_10 : decode cX11_byteAt 10 = .ok (.aload_n 0, 1) := by decide +kernel
theorem dX11_byteAt_11 : decode cX11_byteAt 11 = .ok (.getfield 29, 3) := by decide +kernel
theorem dX11_byteAt_14 : decode cX11_byteAt 14 = .ok (.bipush 60, 2) := by decide +kernel
theorem dX11_byteAt_16 : decode cX11_byteAt 16 = .ok (.iload_n 1, 1) := by decide +kernel
theorem dX11_byteAt_17 : decode cX11_byteAt 17 = .ok (.imul, 1) := by decide +kernel
theorem dX11_byteAt_18 : decode cX11_byteAt 18 = .ok (.iload_n 2, 1) := by decide +kernel
theorem dX11_byteAt_19 : decode cX11_byteAt 19 = .ok (.iadd, 1) := by decide +kernel
theorem dX11_byteAt_20 : decode cX11_byteAt 20 = .ok (.baload, 1) := by decide +kernel
theorem dX11_byteAt_21 : decode cX11_byteAt 21 = .ok (.goto 4, 3) := by decide +kernel
theorem dX11_byteAt_24 : decode cX11_byteAt 24 = .ok (.iconst 0, 1) := by decide +kernel
theorem dX11_byteAt_25 : decode cX11_byteAt 25 = .ok (.ireturn, 1) := by decide +kernel
theorem dX11_layRow_0 : decode cX11_layRow 0 = .ok (.aload_n 0, 1) := by decide +kernel
theorem dX11_layRow_1 : decode cX11_layRow 1 = .ok (.getfield 17, 3) := by decide +kernel
theorem dX11_layRow_4 : decode cX11_layRow 4 = .ok (.iload_n 1, 1) := by decide +kernel
theorem dX11_layRow_5 : decode cX11_layRow 5 = .ok (.iload_n 3, 1) := by decide +kernel
theorem dX11_layRow_6 : decode cX11_layRow 6 = .ok (.iastore, 1) := by decide +kernel
theorem dX11_layRow_7 : decode cX11_layRow 7 = .ok (.iconst 0, 1) := by decide +kernel
theorem dX11_layRow_8 : decode cX11_layRow 8 = .ok (.istore 4, 2) := by decide +kernel
theorem dX11_layRow_10 : decode cX11_layRow 10 = .ok (.iload 4, 2) := by decide +kernel
theorem dX11_layRow_12 : decode cX11_layRow 12 = .ok (.bipush 40, 2) := by decide +kernel
theorem dX11_layRow_14 : decode cX11_layRow 14 = .ok (.if_icmp .ge 35, 3) := by decide +kernel
theorem dX11_layRow_17 : decode cX11_layRow 17 = .ok (.aload_n 0, 1) := by decide +kernel
theorem dX11_layRow_18 : decode cX11_layRow 18 = .ok (.getfield 20, 3) := by decide +kernel
theorem dX11_layRow_21 : decode cX11_layRow 21 = .ok (.bipush 40, 2) := by decide +kernel
theorem dX11_layRow_23 : decode cX11_layRow 23 = .ok (.iload_n 1, 1) := by decide +kernel
theorem dX11_layRow_24 : decode cX11_layRow 24 = .ok (.imul, 1) := by decide +kernel
theorem dX11_layRow_25 : decode cX11_layRow 25 = .ok (.iload 4, 2) := by decide +kernel
theorem dX11_layRow_27 : decode cX11_layRow 27 = .ok (.iadd, 1) := by decide +kernel
theorem dX11_layRow_28 : decode cX11_layRow 28 = .ok (.iload 4, 2) := by decide +kernel
theorem dX11_layRow_30 : decode cX11_layRow 30 = .ok (.iload_n 3, 1) := by decide +kernel
theorem dX11_layRow_31 : decode cX11_layRow 31 = .ok (.if_icmp .ge 10, 3) := by decide +kernel
theorem dX11_layRow_34 : decode cX11_layRow 34 = .ok (.aload_n 2, 1) := by decide +kernel
theorem dX11_layRow_35 : decode cX11_layRow 35 = .ok (.iload 4, 2) := by decide +kernel
theorem dX11_layRow_37 : decode cX11_layRow 37 = .ok (.iaload, 1) := by decide +kernel
theorem dX11_layRow_38 : decode cX11_layRow 38 = .ok (.goto 4, 3) := by decide +kernel
theorem dX11_layRow_41 : decode cX11_layRow 41 = .ok (.iconst 0, 1) := by decide +kernel
theorem dX11_layRow_42 : decode cX11_layRow 42 = .ok (.iastore, 1) := by decide +kernel
theorem dX11_layRow_43 : decode cX11_layRow 43 = .ok (.iinc 4 1, 3) := by decide +kernel
theorem dX11_layRow_46 : decode cX11_layRow 46 = .ok (.goto (-36), 3) := by decide +kernel
theorem dX11_layRow_49 : decode cX11_layRow 49 = .ok (.return_, 1) := by decide +kernel
theorem dX11_kindOf_0 : decode cX11_kindOf 0 = .ok (.iload_n 0, 1) := by decide +kernel
theorem dX11_kindOf_1 : decode cX11_kindOf 1 = .ok (.tableswitch 95 100 116 #[89, 95, 95, 95, 83, 93, 95, 95, 95, 95, 95, 95, 85, 95, 95, 87, 91], 83) := by decide +kernel
theorem dX11_kindOf_84 : decode cX11_kindOf 84 = .ok (.iconst 0, 1) := by decide +kernel
theorem dX11_kindOf_85 : decode cX11_kindOf 85 = .ok (.ireturn, 1) := by decide +kernel
theorem dX11_kindOf_86 : decode cX11_kindOf 86 = .ok (.iconst 1, 1) := by decide +kernel
theorem dX11_kindOf_87 : decode cX11_kindOf 87 = .ok (.ireturn, 1) := by decide +kernel
theorem dX11_kindOf_88 : decode cX11_kindOf 88 = .ok (.iconst 2, 1) := by decide +kernel
theorem dX11_kindOf_89 : decode cX11_kindOf 89 = .ok (.ireturn, 1) := by decide +kernel
theorem dX11_kindOf_90 : decode cX11_kindOf 90 = .ok (.iconst 3, 1) := by decide +kernel
theorem dX11_kindOf_91 : decode cX11_kindOf 91 = .ok (.ireturn, 1) := by decide +kernel
theorem dX11_kindOf_92 : decode cX11_kindOf 92 = .ok (.iconst 4, 1) := by decide +kernel
theorem dX11_kindOf_93 : decode cX11_kindOf 93 = .ok (.ireturn, 1) := by decide +kernel
theorem dX11_kindOf_94 : decode cX11_kindOf 94 = .ok (.iconst 5, 1) := by decide +kernel
theorem dX11_kindOf_95 : decode cX11_kindOf 95 = .ok (.ireturn, 1) := by decide +kernel
theorem dX11_kindOf_96 : decode cX11_kindOf 96 = .ok (.bipush (-9), 2) := by decide +kernel
theorem dX11_kindOf_98 : decode cX11_kindOf 98 = .ok (.ireturn, 1) := by decide +kernel
theorem dX11_figureAt_0 : decode cX11_figureAt 0 = .ok (.aload_n 0, 1) := by decide +kernel
theorem dX11_figureAt_1 : decode cX11_figureAt 1 = .ok (.iload_n 1, 1) := by decide +kernel
theorem dX11_figureAt_2 : decode cX11_figureAt 2 = .ok (.aload_n 0, 1) := by decide +kernel
theorem dX11_figureAt_3 : decode cX11_figureAt 3 = .ok (.getfield 111, 3) := by decide +kernel
theorem dX11_figureAt_6 : decode cX11_figureAt 6 = .ok (.invokevirtual 114, 3) := by decide +kernel
theorem dX11_figureAt_9 : decode cX11_figureAt 9 = .ok (.bipush 48, 2) := by decide +kernel
theorem dX11_figureAt_11 : decode cX11_figureAt 11 = .ok (.isub, 1) := by decide +kernel
theorem dX11_figureAt_12 : decode cX11_figureAt 12 = .ok (.istore_n 2, 1) := by decide +kernel
theorem dX11_figureAt_13 : decode cX11_figureAt 13 = .ok (.iload_n 2, 1) := by decide +kernel
theorem dX11_figureAt_14 : decode cX11_figureAt 14 = .ok (.iconst 0, 1) := by decide +kernel
theorem dX11_figureAt_15 : decode cX11_figureAt 15 = .ok (.bipush 9, 2) := by decide +kernel
theorem dX11_figureAt_17 : decode cX11_figureAt 17 = .ok (.invokestatic 83, 3) := by decide +kernel
theorem dX11_figureAt_20 : decode cX11_figureAt 20 = .ok (.ifCond .eq 7, 3) := by decide +kernel
theorem dX11_figureAt_23 : decode cX11_figureAt 23 = .ok (.iload_n 2, 1) := by decide +kernel
theorem dX11_figureAt_24 : decode cX11_figureAt 24 = .ok (.goto 5, 3) := by decide +kernel
theorem dX11_figureAt_27 : decode cX11_figureAt 27 = .ok (.bipush (-9), 2) := by decide +kernel
theorem dX11_figureAt_29 : decode cX11_figureAt 29 = .ok (.ireturn, 1) := by decide +kernel
theorem dX11_readsWinds_0 : decode cX11_readsWinds 0 = .ok (.aload_n 0, 1) := by decide +kernel
theorem dX11_readsWinds_1 : decode cX11_readsWinds 1 = .ok (.iload_n 1, 1) := by decide +kernel
theorem dX11_readsWinds_2 : decode cX11_readsWinds 2 = .ok (.aload_n 0, 1) := by decide +kernel
theorem dX11_readsWinds_3 : decode cX11_readsWinds 3 = .ok (.getfield 111, 3) := by decide +kernel
theorem dX11_readsWinds_6 : decode cX11_readsWinds 6 = .ok (.invokevirtual 114, 3) := by decide +kernel
theorem dX11_readsWinds_9 : decode cX11_readsWinds 9 = .ok (.bipush 118, 2) := by decide +kernel
theorem dX11_readsWinds_11 : decode cX11_readsWinds 11 = .ok (.if_icmp .eq 5, 3) := by decide +kernel
theorem dX11_readsWinds_14 : decode cX11_readsWinds 14 = .ok (.iconst 0, 1) := by decide +kernel
theorem dX11_readsWinds_15 : decode cX11_readsWinds 15 = .ok (.ireturn, 1) := by decide +kernel
theorem dX11_readsWinds_16 : decode cX11_readsWinds 16 = .ok (.aload_n 0, 1) := by decide +kernel
theorem dX11_readsWinds_17 : decode cX11_readsWinds 17 = .ok (.dup, 1) := by decide +kernel
theorem dX11_readsWinds_18 : decode cX11_readsWinds 18 = .ok (.getfield 111, 3) := by decide +kernel
theorem dX11_readsWinds_21 : decode cX11_readsWinds 21 = .ok (.iconst 1, 1) := by decide +kernel
theorem dX11_readsWinds_22 : decode cX11_readsWinds 22 = .ok (.iadd, 1) := by decide +kernel
theorem dX11_readsWinds_23 : decode cX11_readsWinds 23 = .ok (.putfield 111, 3) := by decide +kernel
theorem dX11_readsWinds_26 : decode cX11_readsWinds 26 = .ok (.aload_n 0, 1) := by decide +kernel
theorem dX11_readsWinds_27 : decode cX11_readsWinds 27 = .ok (.iload_n 1, 1) := by decide +kernel
theorem dX11_readsWinds_28 : decode cX11_readsWinds 28 = .ok (.invokevirtual 117, 3) := by decide +kernel
theorem dX11_readsWinds_31 : decode cX11_readsWinds 31 = .ok (.bipush (-9), 2) := by decide +kernel
theorem dX11_readsWinds_33 : decode cX11_readsWinds 33 = .ok (.if_icmp .eq 60, 3) := by decide +kernel
theorem dX11_readsWinds_36 : decode cX11_readsWinds 36 = .ok (.aload_n 0, 1) := by decide +kernel
theorem dX11_readsWinds_37 : decode cX11_readsWinds 37 = .ok (.iload_n 1, 1) := by decide +kernel
theorem dX11_readsWinds_38 : decode cX11_readsWinds 38 = .ok (.invokevirtual 117, 3) := by decide +kernel
theorem dX11_readsWinds_41 : decode cX11_readsWinds 41 = .ok (.iconst 2, 1) := by decide +kernel
theorem dX11_readsWinds_42 : decode cX11_readsWinds 42 = .ok (.if_icmp .gt 12, 3) := by decide +kernel
theorem dX11_readsWinds_45 : decode cX11_readsWinds 45 = .ok (.aload_n 0, 1) := by decide +kernel
theorem dX11_readsWinds_46 : decode cX11_readsWinds 46 = .ok (.getfield 120, 3) := by decide +kernel
theorem dX11_readsWinds_49 : decode cX11_readsWinds 49 = .ok (.bipush 6, 2) := by decide +kernel
theorem dX11_readsWinds_51 : decode cX11_readsWinds 51 = .ok (.if_icmp .ne 5, 3) := by decide +kernel
theorem dX11_readsWinds_54 : decode cX11_readsWinds 54 = .ok (.iconst 0, 1) := by decide +kernel
theorem dX11_readsWinds_55 : decode cX11_readsWinds 55 = .ok (.ireturn, 1) := by decide +kernel
theorem dX11_readsWinds_56 : decode cX11_readsWinds 56 = .ok (.aload_n 0, 1) := by decide +kernel
theorem dX11_readsWinds_57 : decode cX11_readsWinds 57 = .ok (.getfield 42, 3) := by decide +kernel
theorem dX11_readsWinds_60 : decode cX11_readsWinds 60 = .ok (.aload_n 0, 1) := by decide +kernel
theorem dX11_readsWinds_61 : decode cX11_readsWinds 61 = .ok (.getfield 120, 3) := by decide +kernel
theorem dX11_readsWinds_64 : decode cX11_readsWinds 64 = .ok (.aload_n 0, 1) := by decide +kernel
theorem dX11_readsWinds_65 : decode cX11_readsWinds 65 = .ok (.iload_n 1, 1) := by decide +kernel
theorem dX11_readsWinds_66 : decode cX11_readsWinds 66 = .ok (.invokevirtual 117, 3) := by decide +kernel
theorem dX11_readsWinds_69 : decode cX11_readsWinds 69 = .ok (.iastore, 1) := by decide +kernel
theorem dX11_readsWinds_70 : decode cX11_readsWinds 70 = .ok (.aload_n 0, 1) := by decide +kernel
theorem dX11_readsWinds_71 : decode cX11_readsWinds 71 = .ok (.dup, 1) := by decide +kernel
theorem dX11_readsWinds_72 : decode cX11_readsWinds 72 = .ok (.getfield 120, 3) := by decide +kernel
theorem dX11_readsWinds_75 : decode cX11_readsWinds 75 = .ok (.iconst 1, 1) := by decide +kernel
theorem dX11_readsWinds_76 : decode cX11_readsWinds 76 = .ok (.iadd, 1) := by decide +kernel
theorem dX11_readsWinds_77 : decode cX11_readsWinds 77 = .ok (.putfield 120, 3) := by decide +kernel
theorem dX11_readsWinds_80 : decode cX11_readsWinds 80 = .ok (.aload_n 0, 1) := by decide +kernel
theorem dX11_readsWinds_81 : decode cX11_readsWinds 81 = .ok (.dup, 1) := by decide +kernel
theorem dX11_readsWinds_82 : decode cX11_readsWinds 82 = .ok (.getfield 111, 3) := by decide +kernel
theorem dX11_readsWinds_85 : decode cX11_readsWinds 85 = .ok (.iconst 1, 1) := by decide +kernel
theorem dX11_readsWinds_86 : decode cX11_readsWinds 86 = .ok (.iadd, 1) := by decide +kernel
theorem dX11_readsWinds_87 : decode cX11_readsWinds 87 = .ok (.putfield 111, 3) := by decide +kernel
theorem dX11_readsWinds_90 : decode cX11_readsWinds 90 = .ok (.goto (-64), 3) := by decide +kernel
theorem dX11_readsWinds_93 : decode cX11_readsWinds 93 = .ok (.aload_n 0, 1) := by decide +kernel
theorem dX11_readsWinds_94 : decode cX11_readsWinds 94 = .ok (.getfield 120, 3) := by decide +kernel
theorem dX11_readsWinds_97 : decode cX11_readsWinds 97 = .ok (.ifCond .le 7, 3) := by decide +kernel
theorem dX11_readsWinds_100 : decode cX11_readsWinds 100 = .ok (.iconst 1, 1) := by decide +kernel
theorem dX11_readsWinds_101 : decode cX11_readsWinds 101 = .ok (.goto 4, 3) := by decide +kernel
theorem dX11_readsWinds_104 : decode cX11_readsWinds 104 = .ok (.iconst 0, 1) := by decide +kernel
theorem dX11_readsWinds_105 : decode cX11_readsWinds 105 = .ok (.ireturn, 1) := by decide +kernel
theorem dX11_readsHouse_0 : decode cX11_readsHouse 0 = .ok (.aload_n 0, 1) := by decide +kernel
theorem dX11_readsHouse_1 : decode cX11_readsHouse 1 = .ok (.iload_n 1, 1) := by decide +kernel
theorem dX11_readsHouse_2 : decode cX11_readsHouse 2 = .ok (.aload_n 0, 1) := by decide +kernel
theorem dX11_readsHouse_3 : decode cX11_readsHouse 3 = .ok (.getfield 111, 3) := by decide +kernel
theorem dX11_readsHouse_6 : decode cX11_readsHouse 6 = .ok (.invokevirtual 114, 3) := by decide +kernel
theorem dX11_readsHouse_9 : decode cX11_readsHouse 9 = .ok (.invokestatic 123, 3) := by decide +kernel
theorem dX11_readsHouse_12 : decode cX11_readsHouse 12 = .ok (.istore_n 2, 1) := by decide +kernel
theorem dX11_readsHouse_13 : decode cX11_readsHouse 13 = .ok (.iload_n 2, 1) := by decide +kernel
theorem dX11_readsHouse_14 : decode cX11_readsHouse 14 = .ok (.bipush (-9), 2) := by decide +kernel
theorem dX11_readsHouse_16 : decode cX11_readsHouse 16 = .ok (.if_icmp .eq 11, 3) := by decide +kernel
theorem dX11_readsHouse_19 : decode cX11_readsHouse 19 = .ok (.aload_n 0, 1) := by decide +kernel
theorem dX11_readsHouse_20 : decode cX11_readsHouse 20 = .ok (.getfield 126, 3) := by decide +kernel
theorem dX11_readsHouse_23 : decode cX11_readsHouse 23 = .ok (.iconst 5, 1) := by decide +kernel
theorem dX11_readsHouse_24 : decode cX11_readsHouse 24 = .ok (.if_icmp .ne 5, 3) := by decide +kernel
theorem dX11_readsHouse_27 : decode cX11_readsHouse 27 = .ok (.iconst 0, 1) := by decide +kernel
theorem dX11_readsHouse_28 : decode cX11_readsHouse 28 = .ok (.ireturn, 1) := by decide +kernel
theorem dX11_readsHouse_29 : decode cX11_readsHouse 29 = .ok (.iconst 4, 1) := by decide +kernel
theorem dX11_readsHouse_30 : decode cX11_readsHouse 30 = .ok (.aload_n 0, 1) := by decide +kernel
theorem dX11_readsHouse_31 : decode cX11_readsHouse 31 = .ok (.getfield 126, 3) := by decide +kernel
theorem dX11_readsHouse_34 : decode cX11_readsHouse 34 = .ok (.imul, 1) := by decide +kernel
theorem dX11_readsHouse_35 : decode cX11_readsHouse 35 = .ok (.istore_n 3, 1) := by decide +kernel
theorem dX11_readsHouse_36 : decode cX11_readsHouse 36 = .ok (.aload_n 0, 1) := by decide +kernel
theorem dX11_readsHouse_37 : decode cX11_readsHouse 37 = .ok (.dup, 1) := by decide +kernel
theorem dX11_readsHouse_38 : decode cX11_readsHouse 38 = .ok (.getfield 111, 3) := by decide +kernel
theorem dX11_readsHouse_41 : decode cX11_readsHouse 41 = .ok (.iconst 1, 1) := by decide +kernel
theorem dX11_readsHouse_42 : decode cX11_readsHouse 42 = .ok (.iadd, 1) := by decide +kernel
theorem dX11_readsHouse_43 : decode cX11_readsHouse 43 = .ok (.putfield 111, 3) := by decide +kernel
theorem dX11_readsHouse_46 : decode cX11_readsHouse 46 = .ok (.aload_n 0, 1) := by decide +kernel
theorem dX11_readsHouse_47 : decode cX11_readsHouse 47 = .ok (.getfield 45, 3) := by decide +kernel
theorem dX11_readsHouse_50 : decode cX11_readsHouse 50 = .ok (.iload_n 3, 1) := by decide +kernel
theorem dX11_readsHouse_51 : decode cX11_readsHouse 51 = .ok (.iload_n 2, 1) := by decide +kernel
theorem dX11_readsHouse_52 : decode cX11_readsHouse 52 = .ok (.iastore, 1) := by decide +kernel
theorem dX11_readsHouse_53 : decode cX11_readsHouse 53 = .ok (.iconst 1, 1) := by decide +kernel
theorem dX11_readsHouse_54 : decode cX11_readsHouse 54 = .ok (.istore 4, 2) := by decide +kernel
theorem dX11_readsHouse_56 : decode cX11_readsHouse 56 = .ok (.iload 4, 2) := by decide +kernel
theorem dX11_readsHouse_58 : decode cX11_readsHouse 58 = .ok (.iconst 3, 1) := by decide +kernel
theorem dX11_readsHouse_59 : decode cX11_readsHouse 59 = .ok (.if_icmp .ge 58, 3) := by decide +kernel
theorem dX11_readsHouse_62 : decode cX11_readsHouse 62 = .ok (.aload_n 0, 1) := by decide +kernel
theorem dX11_readsHouse_63 : decode cX11_readsHouse 63 = .ok (.iload_n 1, 1) := by decide +kernel
theorem dX11_readsHouse_64 : decode cX11_readsHouse 64 = .ok (.invokevirtual 117, 3) := by decide +kernel
theorem dX11_readsHouse_67 : decode cX11_readsHouse 67 = .ok (.istore 5, 2) := by decide +kernel
theorem dX11_readsHouse_69 : decode cX11_readsHouse 69 = .ok (.iload 5, 2) := by decide +kernel
theorem dX11_readsHouse_71 : decode cX11_readsHouse 71 = .ok (.bipush (-9), 2) := by decide +kernel
theorem dX11_readsHouse_73 : decode cX11_readsHouse 73 = .ok (.if_icmp .eq 15, 3) := by decide +kernel
theorem dX11_readsHouse_76 : decode cX11_readsHouse 76 = .ok (.iload 4, 2) := by decide +kernel
theorem dX11_readsHouse_78 : decode cX11_readsHouse 78 = .ok (.iconst 2, 1) := by decide +kernel
theorem dX11_readsHouse_79 : decode cX11_readsHouse 79 = .ok (.if_icmp .ne 11, 3) := by decide +kernel
theorem dX11_readsHouse_82 : decode cX11_readsHouse 82 = .ok (.iload 5, 2) := by decide +kernel
theorem dX11_readsHouse_84 : decode cX11_readsHouse 84 = .ok (.iconst 3, 1) := by decide +kernel
theorem dX11_readsHouse_85 : decode cX11_readsHouse 85 = .ok (.if_icmp .le 5, 3) := by decide +kernel
theorem dX11_readsHouse_88 : decode cX11_readsHouse 88 = .ok (.iconst 0, 1) := by decide +kernel
theorem dX11_readsHouse_89 : decode cX11_readsHouse 89 = .ok (.ireturn, 1) := by decide +kernel
theorem dX11_readsHouse_90 : decode cX11_readsHouse 90 = .ok (.aload_n 0, 1) := by decide +kernel
theorem dX11_readsHouse_91 : decode cX11_readsHouse 91 = .ok (.getfield 45, 3) := by decide +kernel
theorem dX11_readsHouse_94 : decode cX11_readsHouse 94 = .ok (.iload_n 3, 1) := by decide +kernel
theorem dX11_readsHouse_95 : decode cX11_readsHouse 95 = .ok (.iload 4, 2) := by decide +kernel
theorem dX11_readsHouse_97 : decode cX11_readsHouse 97 = .ok (.iadd, 1) := by decide +kernel
theorem dX11_readsHouse_98 : decode cX11_readsHouse 98 = .ok (.iload 5, 2) := by decide +kernel
theorem dX11_readsHouse_100 : decode cX11_readsHouse 100 = .ok (.iastore, 1) := by decide +kernel
theorem dX11_readsHouse_101 : decode cX11_readsHouse 101 = .ok (.aload_n 0, 1) := by decide +kernel
theorem dX11_readsHouse_102 : decode cX11_readsHouse 102 = .ok (.dup, 1) := by decide +kernel
theorem dX11_readsHouse_103 : decode cX11_readsHouse 103 = .ok (.getfield 111, 3) := by decide +kernel
theorem dX11_readsHouse_106 : decode cX11_readsHouse 106 = .ok (.iconst 1, 1) := by decide +kernel
theorem dX11_readsHouse_107 : decode cX11_readsHouse 107 = .ok (.iadd, 1) := by decide +kernel
theorem dX11_readsHouse_108 : decode cX11_readsHouse 108 = .ok (.putfield 111, 3) := by decide +kernel
theorem dX11_readsHouse_111 : decode cX11_readsHouse 111 = .ok (.iinc 4 1, 3) := by decide +kernel
theorem dX11_readsHouse_114 : decode cX11_readsHouse 114 = .ok (.goto (-58), 3) := by decide +kernel
theorem dX11_readsHouse_117 : decode cX11_readsHouse 117 = .ok (.aload_n 0, 1) := by decide +kernel
theorem dX11_readsHouse_118 : decode cX11_readsHouse 118 = .ok (.iload_n 1, 1) := by decide +kernel
theorem dX11_readsHouse_119 : decode cX11_readsHouse 119 = .ok (.aload_n 0, 1) := by decide +kernel
theorem dX11_readsHouse_120 : decode cX11_readsHouse 120 = .ok (.getfield 111, 3) := by decide +kernel
theorem dX11_readsHouse_123 : decode cX11_readsHouse 123 = .ok (.invokevirtual 114, 3) := by decide +kernel
theorem dX11_readsHouse_126 : decode cX11_readsHouse 126 = .ok (.bipush 45, 2) := by decide +kernel
theorem dX11_readsHouse_128 : decode cX11_readsHouse 128 = .ok (.if_icmp .eq 15, 3) := by decide +kernel
theorem dX11_readsHouse_131 : decode cX11_readsHouse 131 = .ok (.aload_n 0, 1) := by decide +kernel
theorem dX11_readsHouse_132 : decode cX11_readsHouse 132 = .ok (.iload_n 1, 1) := by decide +kernel
theorem dX11_readsHouse_133 : decode cX11_readsHouse 133 = .ok (.invokevirtual 117, 3) := by decide +kernel
theorem dX11_readsHouse_136 : decode cX11_readsHouse 136 = .ok (.bipush (-9), 2) := by decide +kernel
theorem dX11_readsHouse_138 : decode cX11_readsHouse 138 = .ok (.if_icmp .ne 5, 3) := by decide +kernel
theorem dX11_readsHouse_141 : decode cX11_readsHouse 141 = .ok (.iconst 0, 1) := by decide +kernel
theorem dX11_readsHouse_142 : decode cX11_readsHouse 142 = .ok (.ireturn, 1) := by decide +kernel
theorem dX11_readsHouse_143 : decode cX11_readsHouse 143 = .ok (.aload_n 0, 1) := by decide +kernel
theorem dX11_readsHouse_144 : decode cX11_readsHouse 144 = .ok (.getfield 45, 3) := by decide +kernel
theorem dX11_readsHouse_147 : decode cX11_readsHouse 147 = .ok (.iload_n 3, 1) := by decide +kernel
theorem dX11_readsHouse_148 : decode cX11_readsHouse 148 = .ok (.iconst 3, 1) := by decide +kernel
theorem dX11_readsHouse_149 : decode cX11_readsHouse 149 = .ok (.iadd, 1) := by decide +kernel
theorem dX11_readsHouse_150 : decode cX11_readsHouse 150 = .ok (.aload_n 0, 1) := by decide +kernel
theorem dX11_readsHouse_151 : decode cX11_readsHouse 151 = .ok (.iload_n 1, 1) := by decide +kernel
theorem dX11_readsHouse_152 : decode cX11_readsHouse 152 = .ok (.invokevirtual 117, 3) := by decide +kernel
theorem dX11_readsHouse_155 : decode cX11_readsHouse 155 = .ok (.iastore, 1) := by decide +kernel
theorem dX11_readsHouse_156 : decode cX11_readsHouse 156 = .ok (.aload_n 0, 1) := by decide +kernel
theorem dX11_readsHouse_157 : decode cX11_readsHouse 157 = .ok (.dup, 1) := by decide +kernel
theorem dX11_readsHouse_158 : decode cX11_readsHouse 158 = .ok (.getfield 111, 3) := by decide +kernel
theorem dX11_readsHouse_161 : decode cX11_readsHouse 161 = .ok (.iconst 1, 1) := by decide +kernel
theorem dX11_readsHouse_162 : decode cX11_readsHouse 162 = .ok (.iadd, 1) := by decide +kernel
theorem dX11_readsHouse_163 : decode cX11_readsHouse 163 = .ok (.putfield 111, 3) := by decide +kernel
theorem dX11_readsHouse_166 : decode cX11_readsHouse 166 = .ok (.aload_n 0, 1) := by decide +kernel
theorem dX11_readsHouse_167 : decode cX11_readsHouse 167 = .ok (.dup, 1) := by decide +kernel
theorem dX11_readsHouse_168 : decode cX11_readsHouse 168 = .ok (.getfield 126, 3) := by decide +kernel
theorem dX11_readsHouse_171 : decode cX11_readsHouse 171 = .ok (.iconst 1, 1) := by decide +kernel
theorem dX11_readsHouse_172 : decode cX11_readsHouse 172 = .ok (.iadd, 1) := by decide +kernel
theorem dX11_readsHouse_173 : decode cX11_readsHouse 173 = .ok (.putfield 126, 3) := by decide +kernel
theorem dX11_readsHouse_176 : decode cX11_readsHouse 176 = .ok (.iconst 1, 1) := by decide +kernel
theorem dX11_readsHouse_177 : decode cX11_readsHouse 177 = .ok (.ireturn, 1) := by decide +kernel
theorem dX11_faultOf_0 : decode cX11_faultOf 0 = .ok (.aload_n 0, 1) := by decide +kernel
theorem dX11_faultOf_1 : decode cX11_faultOf 1 = .ok (.iconst 0, 1) := by decide +kernel
theorem dX11_faultOf_2 : decode cX11_faultOf 2 = .ok (.putfield 111, 3) := by decide +kernel
theorem dX11_faultOf_5 : decode cX11_faultOf 5 = .ok (.aload_n 0, 1) := by decide +kernel
theorem dX11_faultOf_6 : decode cX11_faultOf 6 = .ok (.iconst 0, 1) := by decide +kernel
theorem dX11_faultOf_7 : decode cX11_faultOf 7 = .ok (.putfield 126, 3) := by decide +kernel
theorem dX11_faultOf_10 : decode cX11_faultOf 10 = .ok (.aload_n 0, 1) := by decide +kernel
theorem dX11_faultOf_11 : decode cX11_faultOf 11 = .ok (.iconst 0, 1) := by decide +kernel
theorem dX11_faultOf_12 : decode cX11_faultOf 12 = .ok (.putfield 120, 3) := by decide +kernel
theorem dX11_faultOf_15 : decode cX11_faultOf 15 = .ok (.aload_n 0, 1) := by decide +kernel
theorem dX11_faultOf_16 : decode cX11_faultOf 16 = .ok (.getfield 111, 3) := by decide +kernel
theorem dX11_faultOf_19 : decode cX11_faultOf 19 = .ok (.aload_n 0, 1) := by decide +kernel
theorem dX11_faultOf_20 : decode cX11_faultOf 20 = .ok (.getfield 26, 3) := by decide +kernel
theorem dX11_faultOf_23 : decode cX11_faultOf 23 = .ok (.iload_n 1, 1) := by decide +kernel
theorem dX11_faultOf_24 : decode cX11_faultOf 24 = .ok (.iaload, 1) := by decide +kernel
theorem dX11_faultOf_25 : decode cX11_faultOf 25 = .ok (.if_icmp .ge 61, 3) := by decide +kernel
theorem dX11_faultOf_28 : decode cX11_faultOf 28 = .ok (.aload_n 0, 1) := by decide +kernel
theorem dX11_faultOf_29 : decode cX11_faultOf 29 = .ok (.iload_n 1, 1) := by decide +kernel
theorem dX11_faultOf_30 : decode cX11_faultOf 30 = .ok (.aload_n 0, 1) := by decide +kernel
theorem dX11_faultOf_31 : decode cX11_faultOf 31 = .ok (.getfield 111, 3) := by decide +kernel
theorem dX11_faultOf_34 : decode cX11_faultOf 34 = .ok (.invokevirtual 114, 3) := by decide +kernel
theorem dX11_faultOf_37 : decode cX11_faultOf 37 = .ok (.bipush 32, 2) := by decide +kernel
theorem dX11_faultOf_39 : decode cX11_faultOf 39 = .ok (.if_icmp .ne 16, 3) := by decide +kernel
theorem dX11_faultOf_42 : decode cX11_faultOf 42 = .ok (.aload_n 0, 1) := by decide +kernel
theorem dX11_faultOf_43 : decode cX11_faultOf 43 = .ok (.dup, 1) := by decide +kernel
theorem dX11_faultOf_44 : decode cX11_faultOf 44 = .ok (.getfield 111, 3) := by decide +kernel
theorem dX11_faultOf_47 : decode cX11_faultOf 47 = .ok (.iconst 1, 1) := by decide +kernel
theorem dX11_faultOf_48 : decode cX11_faultOf 48 = .ok (.iadd, 1) := by decide +kernel
theorem dX11_faultOf_49 : decode cX11_faultOf 49 = .ok (.putfield 111, 3) := by decide +kernel
theorem dX11_faultOf_52 : decode cX11_faultOf 52 = .ok (.goto (-37), 3) := by decide +kernel
theorem dX11_faultOf_55 : decode cX11_faultOf 55 = .ok (.aload_n 0, 1) := by decide +kernel
theorem dX11_faultOf_56 : decode cX11_faultOf 56 = .ok (.getfield 120, 3) := by decide +kernel
theorem dX11_faultOf_59 : decode cX11_faultOf 59 = .ok (.ifCond .ne 14, 3) := by decide +kernel
theorem dX11_faultOf_62 : decode cX11_faultOf 62 = .ok (.aload_n 0, 1) := by decide +kernel
theorem dX11_faultOf_63 : decode cX11_faultOf 63 = .ok (.iload_n 1, 1) := by decide +kernel
theorem dX11_faultOf_64 : decode cX11_faultOf 64 = .ok (.invokevirtual 129, 3) := by decide +kernel
theorem dX11_faultOf_67 : decode cX11_faultOf 67 = .ok (.ifCond .eq 14, 3) := by decide +kernel
theorem dX11_faultOf_70 : decode cX11_faultOf 70 = .ok (.goto (-55), 3) := by decide +kernel
theorem dX11_faultOf_73 : decode cX11_faultOf 73 = .ok (.aload_n 0, 1) := by decide +kernel
theorem dX11_faultOf_74 : decode cX11_faultOf 74 = .ok (.iload_n 1, 1) := by decide +kernel
theorem dX11_faultOf_75 : decode cX11_faultOf 75 = .ok (.invokevirtual 132, 3) := by decide +kernel
theorem dX11_faultOf_78 : decode cX11_faultOf 78 = .ok (.ifCond .ne (-63), 3) := by decide +kernel
theorem dX11_faultOf_81 : decode cX11_faultOf 81 = .ok (.aload_n 0, 1) := by decide +kernel
theorem dX11_faultOf_82 : decode cX11_faultOf 82 = .ok (.getfield 111, 3) := by decide +kernel
theorem dX11_faultOf_85 : decode cX11_faultOf 85 = .ok (.ireturn, 1) := by decide +kernel
theorem dX11_faultOf_86 : decode cX11_faultOf 86 = .ok (.aload_n 0, 1) := by decide +kernel
theorem dX11_faultOf_87 : decode cX11_faultOf 87 = .ok (.getfield 126, 3) := by decide +kernel
theorem dX11_faultOf_90 : decode cX11_faultOf 90 = .ok (.ifCond .ne 12, 3) := by decide +kernel
theorem dX11_faultOf_93 : decode cX11_faultOf 93 = .ok (.aload_n 0, 1) := by decide +kernel
theorem dX11_faultOf_94 : decode cX11_faultOf 94 = .ok (.getfield 26, 3) := by decide +kernel
theorem dX11_faultOf_97 : decode cX11_faultOf 97 = .ok (.iload_n 1, 1) := by decide +kernel
theorem dX11_faultOf_98 : decode cX11_faultOf 98 = .ok (.iaload, 1) := by decide +kernel
theorem dX11_faultOf_99 : decode cX11_faultOf 99 = .ok (.goto 5, 3) := by decide +kernel
theorem dX11_faultOf_102 : decode cX11_faultOf 102 = .ok (.bipush (-9), 2) := by decide +kernel
theorem dX11_faultOf_104 : decode cX11_faultOf 104 = .ok (.ireturn, 1) := by decide +kernel
theorem dX11_fault_0 : decode cX11_fault 0 = .ok (.iload_n 1, 1) := by decide +kernel
theorem dX11_fault_1 : decode cX11_fault 1 = .ok (.invokestatic 108, 3) := by decide +kernel
theorem dX11_fault_4 : decode cX11_fault 4 = .ok (.ifCond .ne 5, 3) := by decide +kernel
theorem dX11_fault_7 : decode cX11_fault 7 = .ok (.iconst (-1), 1) := by decide +kernel
theorem dX11_fault_8 : decode cX11_fault 8 = .ok (.ireturn, 1) := by decide +kernel
theorem dX11_fault_9 : decode cX11_fault 9 = .ok (.aload_n 0, 1) := by decide +kernel
theorem dX11_fault_10 : decode cX11_fault 10 = .ok (.getfield 26, 3) := by decide +kernel
theorem dX11_fault_13 : decode cX11_fault 13 = .ok (.iload_n 1, 1) := by decide +kernel
theorem dX11_fault_14 : decode cX11_fault 14 = .ok (.iaload, 1) := by decide +kernel
theorem dX11_fault_15 : decode cX11_fault 15 = .ok (.ifCond .ge 11, 3) := by decide +kernel
theorem dX11_fault_18 : decode cX11_fault 18 = .ok (.aload_n 0, 1) := by decide +kernel
theorem dX11_fault_19 : decode cX11_fault 19 = .ok (.iconst 1, 1) := by decide +kernel
theorem dX11_fault_20 : decode cX11_fault 20 = .ok (.invokevirtual 97, 3) := by decide +kernel
theorem dX11_fault_23 : decode cX11_fault 23 = .ok (.goto 8, 3) := by decide +kernel
theorem dX11_fault_26 : decode cX11_fault 26 = .ok (.aload_n 0, 1) := by decide +kernel
theorem dX11_fault_27 : decode cX11_fault 27 = .ok (.iload_n 1, 1) := by decide +kernel
theorem dX11_fault_28 : decode cX11_fault 28 = .ok (.invokevirtual 135, 3) := by decide +kernel
theorem dX11_fault_31 : decode cX11_fault 31 = .ok (.ireturn, 1) := by decide +kernel
theorem dX11_village_0 : decode cX11_village 0 = .ok (.iload_n 1, 1) := by decide +kernel
theorem dX11_village_1 : decode cX11_village 1 = .ok (.invokestatic 108, 3) := by decide +kernel
theorem dX11_village_4 : decode cX11_village 4 = .ok (.ifCond .ne 5, 3) := by decide +kernel
theorem dX11_village_7 : decode cX11_village 7 = .ok (.iconst (-1), 1) := by decide +kernel
theorem dX11_village_8 : decode cX11_village 8 = .ok (.ireturn, 1) := by decide +kernel
theorem dX11_village_9 : decode cX11_village 9 = .ok (.aload_n 0, 1) := by decide +kernel
theorem dX11_village_10 : decode cX11_village 10 = .ok (.getfield 26, 3) := by decide +kernel
theorem dX11_village_13 : decode cX11_village 13 = .ok (.iload_n 1, 1) := by decide +kernel
theorem dX11_village_14 : decode cX11_village 14 = .ok (.iaload, 1) := by decide +kernel
theorem dX11_village_15 : decode cX11_village 15 = .ok (.ifCond .ge 9, 3) := by decide +kernel
theorem dX11_village_18 : decode cX11_village 18 = .ok (.aload_n 0, 1) := by decide +kernel
theorem dX11_village_19 : decode cX11_village 19 = .ok (.iconst 1, 1) := by decide +kernel
theorem dX11_village_20 : decode cX11_village 20 = .ok (.invokevirtual 97, 3) := by decide +kernel
theorem dX11_village_23 : decode cX11_village 23 = .ok (.ireturn, 1) := by decide +kernel
theorem dX11_village_24 : decode cX11_village 24 = .ok (.aload_n 0, 1) := by decide +kernel
theorem dX11_village_25 : decode cX11_village 25 = .ok (.iload_n 1, 1) := by decide +kernel
theorem dX11_village_26 : decode cX11_village 26 = .ok (.invokevirtual 135, 3) := by decide +kernel
theorem dX11_village_29 : decode cX11_village 29 = .ok (.bipush (-9), 2) := by decide +kernel
theorem dX11_village_31 : decode cX11_village 31 = .ok (.if_icmp .eq 6, 3) := by decide +kernel
theorem dX11_village_34 : decode cX11_village 34 = .ok (.bipush (-4), 2) := by decide +kernel
theorem dX11_village_36 : decode cX11_village 36 = .ok (.ireturn, 1) := by decide +kernel
theorem dX11_village_37 : decode cX11_village 37 = .ok (.aload_n 0, 1) := by decide +kernel
theorem dX11_village_38 : decode cX11_village 38 = .ok (.aload_n 0, 1) := by decide +kernel
theorem dX11_village_39 : decode cX11_village 39 = .ok (.getfield 126, 3) := by decide +kernel
theorem dX11_village_42 : decode cX11_village 42 = .ok (.putfield 138, 3) := by decide +kernel
theorem dX11_village_45 : decode cX11_village 45 = .ok (.aload_n 0, 1) := by decide +kernel
theorem dX11_village_46 : decode cX11_village 46 = .ok (.aload_n 0, 1) := by decide +kernel
theorem dX11_village_47 : decode cX11_village 47 = .ok (.getfield 120, 3) := by decide +kernel
theorem dX11_village_50 : decode cX11_village 50 = .ok (.putfield 141, 3) := by decide +kernel
theorem dX11_village_53 : decode cX11_village 53 = .ok (.iconst 0, 1) := by decide +kernel
theorem dX11_village_54 : decode cX11_village 54 = .ok (.istore_n 2, 1) := by decide +kernel
theorem dX11_village_55 : decode cX11_village 55 = .ok (.iload_n 2, 1) := by decide +kernel
theorem dX11_village_56 : decode cX11_village 56 = .ok (.aload_n 0, 1) := by decide +kernel
theorem dX11_village_57 : decode cX11_village 57 = .ok (.getfield 141, 3) := by decide +kernel
theorem dX11_village_60 : decode cX11_village 60 = .ok (.if_icmp .ge 21, 3) := by decide +kernel
theorem dX11_village_63 : decode cX11_village 63 = .ok (.aload_n 0, 1) := by decide +kernel
theorem dX11_village_64 : decode cX11_village 64 = .ok (.getfield 33, 3) := by decide +kernel
theorem dX11_village_67 : decode cX11_village 67 = .ok (.iload_n 2, 1) := by decide +kernel
theorem dX11_village_68 : decode cX11_village 68 = .ok (.aload_n 0, 1) := by decide +kernel
theorem dX11_village_69 : decode cX11_village 69 = .ok (.getfield 42, 3) := by decide +kernel
theorem dX11_village_72 : decode cX11_village 72 = .ok (.iload_n 2, 1) := by decide +kernel
theorem dX11_village_73 : decode cX11_village 73 = .ok (.iaload, 1) := by decide +kernel
theorem dX11_village_74 : decode cX11_village 74 = .ok (.iastore, 1) := by decide +kernel
theorem dX11_village_75 : decode cX11_village 75 = .ok (.iinc 2 1, 3) := by decide +kernel
theorem dX11_village_78 : decode cX11_village 78 = .ok (.goto (-23), 3) := by decide +kernel
theorem dX11_village_81 : decode cX11_village 81 = .ok (.iconst 0, 1) := by decide +kernel
theorem dX11_village_82 : decode cX11_village 82 = .ok (.istore_n 2, 1) := by decide +kernel
theorem dX11_village_83 : decode cX11_village 83 = .ok (.iload_n 2, 1) := by decide +kernel
theorem dX11_village_84 : decode cX11_village 84 = .ok (.bipush 18, 2) := by decide +kernel
theorem dX11_village_86 : decode cX11_village 86 = .ok (.if_icmp .ge 16, 3) := by decide +kernel
theorem dX11_village_89 : decode cX11_village 89 = .ok (.aload_n 0, 1) := by decide +kernel
theorem dX11_village_90 : decode cX11_village 90 = .ok (.getfield 48, 3) := by decide +kernel
theorem dX11_village_93 : decode cX11_village 93 = .ok (.iload_n 2, 1) := by decide +kernel
theorem dX11_village_94 : decode cX11_village 94 = .ok (.iconst 0, 1) := by decide +kernel
theorem dX11_village_95 : decode cX11_village 95 = .ok (.iastore, 1) := by decide +kernel
theorem dX11_village_96 : decode cX11_village 96 = .ok (.iinc 2 1, 3) := by decide +kernel
theorem dX11_village_99 : decode cX11_village 99 = .ok (.goto (-16), 3) := by decide +kernel
theorem dX11_village_102 : decode cX11_village 102 = .ok (.iconst 0, 1) := by decide +kernel
theorem dX11_village_103 : decode cX11_village 103 = .ok (.istore_n 2, 1) := by decide +kernel
theorem dX11_village_104 : decode cX11_village 104 = .ok (.iload_n 2, 1) := by decide +kernel
theorem dX11_village_105 : decode cX11_village 105 = .ok (.aload_n 0, 1) := by decide +kernel
theorem dX11_village_106 : decode cX11_village 106 = .ok (.getfield 138, 3) := by decide +kernel
theorem dX11_village_109 : decode cX11_village 109 = .ok (.if_icmp .ge 73, 3) := by decide +kernel
theorem dX11_village_112 : decode cX11_village 112 = .ok (.aload_n 0, 1) := by decide +kernel
theorem dX11_village_113 : decode cX11_village 113 = .ok (.getfield 36, 3) := by decide +kernel
theorem dX11_village_116 : decode cX11_village 116 = .ok (.iload_n 2, 1) := by decide +kernel
theorem dX11_village_117 : decode cX11_village 117 = .ok (.aload_n 0, 1) := by decide +kernel
theorem dX11_village_118 : decode cX11_village 118 = .ok (.getfield 45, 3) := by decide +kernel
theorem dX11_village_121 : decode cX11_village 121 = .ok (.iconst 4, 1) := by decide +kernel
theorem dX11_village_122 : decode cX11_village 122 = .ok (.iload_n 2, 1) := by decide +kernel
theorem dX11_village_123 : decode cX11_village 123 = .ok (.imul, 1) := by decide +kernel
theorem dX11_village_124 : decode cX11_village 124 = .ok (.iaload, 1) := by decide +kernel
theorem dX11_village_125 : decode cX11_village 125 = .ok (.iastore, 1) := by decide +kernel
theorem dX11_village_126 : decode cX11_village 126 = .ok (.aload_n 0, 1) := by decide +kernel
theorem dX11_village_127 : decode cX11_village 127 = .ok (.getfield 48, 3) := by decide +kernel
theorem dX11_village_130 : decode cX11_village 130 = .ok (.iload_n 2, 1) := by decide +kernel
theorem dX11_village_131 : decode cX11_village 131 = .ok (.aload_n 0, 1) := by decide +kernel
theorem dX11_village_132 : decode cX11_village 132 = .ok (.getfield 45, 3) := by decide +kernel
theorem dX11_village_135 : decode cX11_village 135 = .ok (.iconst 4, 1) := by decide +kernel
theorem dX11_village_136 : decode cX11_village 136 = .ok (.iload_n 2, 1) := by decide +kernel
theorem dX11_village_137 : decode cX11_village 137 = .ok (.imul, 1) := by decide +kernel
theorem dX11_village_138 : decode cX11_village 138 = .ok (.iconst 1, 1) := by decide +kernel
theorem dX11_village_139 : decode cX11_village 139 = .ok (.iadd, 1) := by decide +kernel
theorem dX11_village_140 : decode cX11_village 140 = .ok (.iaload, 1) := by decide +kernel
theorem dX11_village_141 : decode cX11_village 141 = .ok (.iastore, 1) := by decide +kernel
theorem dX11_village_142 : decode cX11_village 142 = .ok (.aload_n 0, 1) := by decide +kernel
theorem dX11_village_143 : decode cX11_village 143 = .ok (.getfield 48, 3) := by decide +kernel
theorem dX11_village_146 : decode cX11_village 146 = .ok (.iconst 5, 1) := by decide +kernel
theorem dX11_village_147 : decode cX11_village 147 = .ok (.iload_n 2, 1) := by decide +kernel
theorem dX11_village_148 : decode cX11_village 148 = .ok (.iadd, 1) := by decide +kernel
theorem dX11_village_149 : decode cX11_village 149 = .ok (.aload_n 0, 1) := by decide +kernel
theorem dX11_village_150 : decode cX11_village 150 = .ok (.getfield 45, 3) := by decide +kernel
theorem dX11_village_153 : decode cX11_village 153 = .ok (.iconst 4, 1) := by decide +kernel
theorem dX11_village_154 : decode cX11_village 154 = .ok (.iload_n 2, 1) := by decide +kernel
theorem dX11_village_155 : decode cX11_village 155 = .ok (.imul, 1) := by decide +kernel
theorem dX11_village_156 : decode cX11_village 156 = .ok (.iconst 2, 1) := by decide +kernel
theorem dX11_village_157 : decode cX11_village 157 = .ok (.iadd, 1) := by decide +kernel
theorem dX11_village_158 : decode cX11_village 158 = .ok (.iaload, 1) := by decide +kernel
theorem dX11_village_159 : decode cX11_village 159 = .ok (.iastore, 1) := by decide +kernel
theorem dX11_village_160 : decode cX11_village 160 = .ok (.aload_n 0, 1) := by decide +kernel
theorem dX11_village_161 : decode cX11_village 161 = .ok (.getfield 39, 3) := by decide +kernel
theorem dX11_village_164 : decode cX11_village 164 = .ok (.iload_n 2, 1) := by decide +kernel
theorem dX11_village_165 : decode cX11_village 165 = .ok (.aload_n 0, 1) := by decide +kernel
theorem dX11_village_166 : decode cX11_village 166 = .ok (.getfield 45, 3) := by decide +kernel
theorem dX11_village_169 : decode cX11_village 169 = .ok (.iconst 4, 1) := by decide +kernel
theorem dX11_village_170 : decode cX11_village 170 = .ok (.iload_n 2, 1) := by decide +kernel
theorem dX11_village_171 : decode cX11_village 171 = .ok (.imul, 1) := by decide +kernel
theorem dX11_village_172 : decode cX11_village 172 = .ok (.iconst 3, 1) := by decide +kernel
theorem dX11_village_173 : decode cX11_village 173 = .ok (.iadd, 1) := by decide +kernel
theorem dX11_village_174 : decode cX11_village 174 = .ok (.iaload, 1) := by decide +kernel
theorem dX11_village_175 : decode cX11_village 175 = .ok (.iastore, 1) := by decide +kernel
theorem dX11_village_176 : decode cX11_village 176 = .ok (.iinc 2 1, 3) := by decide +kernel
theorem dX11_village_179 : decode cX11_village 179 = .ok (.goto (-75), 3) := by decide +kernel
theorem dX11_village_182 : decode cX11_village 182 = .ok (.iconst 0, 1) := by decide +kernel
theorem dX11_village_183 : decode cX11_village 183 = .ok (.istore_n 2, 1) := by decide +kernel
theorem dX11_village_184 : decode cX11_village 184 = .ok (.iload_n 2, 1) := by decide +kernel
theorem dX11_village_185 : decode cX11_village 185 = .ok (.bipush 18, 2) := by decide +kernel
theorem dX11_village_187 : decode cX11_village 187 = .ok (.if_icmp .ge 21, 3) := by decide +kernel
theorem dX11_village_190 : decode cX11_village 190 = .ok (.aload_n 0, 1) := by decide +kernel
theorem dX11_village_191 : decode cX11_village 191 = .ok (.getfield 51, 3) := by decide +kernel
theorem dX11_village_194 : decode cX11_village 194 = .ok (.iload_n 2, 1) := by decide +kernel
theorem dX11_village_195 : decode cX11_village 195 = .ok (.aload_n 0, 1) := by decide +kernel
theorem dX11_village_196 : decode cX11_village 196 = .ok (.getfield 48, 3) := by decide +kernel
theorem dX11_village_199 : decode cX11_village 199 = .ok (.iload_n 2, 1) := by decide +kernel
theorem dX11_village_200 : decode cX11_village 200 = .ok (.iaload, 1) := by decide +kernel
theorem dX11_village_201 : decode cX11_village 201 = .ok (.iastore, 1) := by decide +kernel
theorem dX11_village_202 : decode cX11_village 202 = .ok (.iinc 2 1, 3) := by decide +kernel
theorem dX11_village_205 : decode cX11_village 205 = .ok (.goto (-21), 3) := by decide +kernel
theorem dX11_village_208 : decode cX11_village 208 = .ok (.aload_n 0, 1) := by decide +kernel
theorem dX11_village_209 : decode cX11_village 209 = .ok (.iconst 0, 1) := by decide +kernel
theorem dX11_village_210 : decode cX11_village 210 = .ok (.putfield 144, 3) := by decide +kernel
theorem dX11_village_213 : decode cX11_village 213 = .ok (.iconst 0, 1) := by decide +kernel
theorem dX11_village_214 : decode cX11_village 214 = .ok (.istore_n 2, 1) := by decide +kernel
theorem dX11_village_215 : decode cX11_village 215 = .ok (.iload_n 2, 1) := by decide +kernel
theorem dX11_village_216 : decode cX11_village 216 = .ok (.iconst 3, 1) := by decide +kernel
theorem dX11_village_217 : decode cX11_village 217 = .ok (.if_icmp .ge 16, 3) := by decide +kernel
theorem dX11_village_220 : decode cX11_village 220 = .ok (.aload_n 0, 1) := by decide +kernel
theorem dX11_village_221 : decode cX11_village 221 = .ok (.getfield 57, 3) := by decide +kernel
theorem dX11_village_224 : decode cX11_village 224 = .ok (.iload_n 2, 1) := by decide +kernel
theorem dX11_village_225 : decode cX11_village 225 = .ok (.iconst 0, 1) := by decide +kernel
theorem dX11_village_226 : decode cX11_village 226 = .ok (.bastore, 1) := by decide +kernel
theorem dX11_village_227 : decode cX11_village 227 = .ok (.iinc 2 1, 3) := by decide +kernel
theorem dX11_village_230 : decode cX11_village 230 = .ok (.goto (-15), 3) := by decide +kernel
theorem dX11_village_233 : decode cX11_village 233 = .ok (.aload_n 0, 1) := by decide +kernel
theorem dX11_village_234 : decode cX11_village 234 = .ok (.getfield 138, 3) := by decide +kernel
theorem dX11_village_237 : decode cX11_village 237 = .ok (.ireturn, 1) := by decide +kernel
theorem dX11_isHouse_0 : decode cX11_isHouse 0 = .ok (.iload_n 1, 1) := by decide +kernel
theorem dX11_isHouse_1 : decode cX11_isHouse 1 = .ok (.iconst 0, 1) := by decide +kernel
theorem dX11_isHouse_2 : decode cX11_isHouse 2 = .ok (.aload_n 0, 1) := by decide +kernel
theorem dX11_isHouse_3 : decode cX11_isHouse 3 = .ok (.getfield 138, 3) := by decide +kernel
theorem dX11_isHouse_6 : decode cX11_isHouse 6 = .ok (.iconst 1, 1) := by decide +kernel
theorem dX11_isHouse_7 : decode cX11_isHouse 7 = .ok (.isub, 1) := by decide +kernel
theorem dX11_isHouse_8 : decode cX11_isHouse 8 = .ok (.invokestatic 83, 3) := by decide +kernel
theorem dX11_isHouse_11 : decode cX11_isHouse 11 = .ok (.ireturn, 1) := by decide +kernel
theorem dX11_copyTo_0 : decode cX11_copyTo 0 = .ok (.iconst 0, 1) := by decide +kernel
theorem dX11_copyTo_1 : decode cX11_copyTo 1 = .ok (.istore_n 3, 1) := by decide +kernel
theorem dX11_copyTo_2 : decode cX11_copyTo 2 = .ok (.iload_n 3, 1) := by decide +kernel
theorem dX11_copyTo_3 : decode cX11_copyTo 3 = .ok (.bipush 18, 2) := by decide +kernel
theorem dX11_copyTo_5 : decode cX11_copyTo 5 = .ok (.if_icmp .ge 31, 3) := by decide +kernel
theorem dX11_copyTo_8 : decode cX11_copyTo 8 = .ok (.aload_n 0, 1) := by decide +kernel
theorem dX11_copyTo_9 : decode cX11_copyTo 9 = .ok (.getfield 51, 3) := by decide +kernel
theorem dX11_copyTo_12 : decode cX11_copyTo 12 = .ok (.bipush 18, 2) := by decide +kernel
theorem dX11_copyTo_14 : decode cX11_copyTo 14 = .ok (.iload_n 2, 1) := by decide +kernel
theorem dX11_copyTo_15 : decode cX11_copyTo 15 = .ok (.imul, 1) := by decide +kernel
theorem dX11_copyTo_16 : decode cX11_copyTo 16 = .ok (.iload_n 3, 1) := by decide +kernel
theorem dX11_copyTo_17 : decode cX11_copyTo 17 = .ok (.iadd, 1) := by decide +kernel
theorem dX11_copyTo_18 : decode cX11_copyTo 18 = .ok (.aload_n 0, 1) := by decide +kernel
theorem dX11_copyTo_19 : decode cX11_copyTo 19 = .ok (.getfield 51, 3) := by decide +kernel
theorem dX11_copyTo_22 : decode cX11_copyTo 22 = .ok (.bipush 18, 2) := by decide +kernel
theorem dX11_copyTo_24 : decode cX11_copyTo 24 = .ok (.iload_n 1, 1) := by decide +kernel
theorem dX11_copyTo_25 : decode cX11_copyTo 25 = .ok (.imul, 1) := by decide +kernel
theorem dX11_copyTo_26 : decode cX11_copyTo 26 = .ok (.iload_n 3, 1) := by decide +kernel
theorem dX11_copyTo_27 : decode cX11_copyTo 27 = .ok (.iadd, 1) := by decide +kernel
theorem dX11_copyTo_28 : decode cX11_copyTo 28 = .ok (.iaload, 1) := by decide +kernel
theorem dX11_copyTo_29 : decode cX11_copyTo 29 = .ok (.iastore, 1) := by decide +kernel
theorem dX11_copyTo_30 : decode cX11_copyTo 30 = .ok (.iinc 3 1, 3) := by decide +kernel
theorem dX11_copyTo_33 : decode cX11_copyTo 33 = .ok (.goto (-31), 3) := by decide +kernel
theorem dX11_copyTo_36 : decode cX11_copyTo 36 = .ok (.return_, 1) := by decide +kernel
theorem dX11_isBurning_0 : decode cX11_isBurning 0 = .ok (.aload_n 0, 1) := by decide +kernel
theorem dX11_isBurning_1 : decode cX11_isBurning 1 = .ok (.getfield 51, 3) := by decide +kernel
theorem dX11_isBurning_4 : decode cX11_isBurning 4 = .ok (.bipush 18, 2) := by decide +kernel
theorem dX11_isBurning_6 : decode cX11_isBurning 6 = .ok (.iload_n 1, 1) := by decide +kernel
theorem dX11_isBurning_7 : decode cX11_isBurning 7 = .ok (.imul, 1) := by decide +kernel
theorem dX11_isBurning_8 : decode cX11_isBurning 8 = .ok (.bipush 10, 2) := by decide +kernel
theorem dX11_isBurning_10 : decode cX11_isBurning 10 = .ok (.iadd, 1) := by decide +kernel
theorem dX11_isBurning_11 : decode cX11_isBurning 11 = .ok (.iload_n 2, 1) := by decide +kernel
theorem dX11_isBurning_12 : decode cX11_isBurning 12 = .ok (.iadd, 1) := by decide +kernel
theorem dX11_isBurning_13 : decode cX11_isBurning 13 = .ok (.iaload, 1) := by decide +kernel
theorem dX11_isBurning_14 : decode cX11_isBurning 14 = .ok (.iconst 1, 1) := by decide +kernel
theorem dX11_isBurning_15 : decode cX11_isBurning 15 = .ok (.if_icmp .ne 7, 3) := by decide +kernel
theorem dX11_isBurning_18 : decode cX11_isBurning 18 = .ok (.iconst 1, 1) := by decide +kernel
theorem dX11_isBurning_19 : decode cX11_isBurning 19 = .ok (.goto 4, 3) := by decide +kernel
theorem dX11_isBurning_22 : decode cX11_isBurning 22 = .ok (.iconst 0, 1) := by decide +kernel
theorem dX11_isBurning_23 : decode cX11_isBurning 23 = .ok (.ireturn, 1) := by decide +kernel
theorem dX11_isCatching_0 : decode cX11_isCatching 0 = .ok (.aload_n 0, 1) := by decide +kernel
theorem dX11_isCatching_1 : decode cX11_isCatching 1 = .ok (.getfield 51, 3) := by decide +kernel
theorem dX11_isCatching_4 : decode cX11_isCatching 4 = .ok (.bipush 18, 2) := by decide +kernel
theorem dX11_isCatching_6 : decode cX11_isCatching 6 = .ok (.iload_n 1, 1) := by decide +kernel
theorem dX11_isCatching_7 : decode cX11_isCatching 7 = .ok (.imul, 1) := by decide +kernel
theorem dX11_isCatching_8 : decode cX11_isCatching 8 = .ok (.iconst 5, 1) := by decide +kernel
theorem dX11_isCatching_9 : decode cX11_isCatching 9 = .ok (.iadd, 1) := by decide +kernel
theorem dX11_isCatching_10 : decode cX11_isCatching 10 = .ok (.iload_n 2, 1) := by decide +kernel
theorem dX11_isCatching_11 : decode cX11_isCatching 11 = .ok (.iadd, 1) := by decide +kernel
theorem dX11_isCatching_12 : decode cX11_isCatching 12 = .ok (.iaload, 1) := by decide +kernel
theorem dX11_isCatching_13 : decode cX11_isCatching 13 = .ok (.istore_n 3, 1) := by decide +kernel
theorem dX11_isCatching_14 : decode cX11_isCatching 14 = .ok (.aload_n 0, 1) := by decide +kernel
theorem dX11_isCatching_15 : decode cX11_isCatching 15 = .ok (.getfield 36, 3) := by decide +kernel
theorem dX11_isCatching_18 : decode cX11_isCatching 18 = .ok (.iload_n 2, 1) := by decide +kernel
theorem dX11_isCatching_19 : decode cX11_isCatching 19 = .ok (.iaload, 1) := by decide +kernel
theorem dX11_isCatching_20 : decode cX11_isCatching 20 = .ok (.iconst 5, 1) := by decide +kernel
theorem dX11_isCatching_21 : decode cX11_isCatching 21 = .ok (.if_icmp .ne 7, 3) := by decide +kernel
theorem dX11_isCatching_24 : decode cX11_isCatching 24 = .ok (.iconst 3, 1) := by decide +kernel
theorem dX11_isCatching_25 : decode cX11_isCatching 25 = .ok (.goto 18, 3) := by decide +kernel
theorem dX11_isCatching_28 : decode cX11_isCatching 28 = .ok (.aload_n 0, 1) := by decide +kernel
theorem dX11_isCatching_29 : decode cX11_isCatching 29 = .ok (.getfield 36, 3) := by decide +kernel
theorem dX11_isCatching_32 : decode cX11_isCatching 32 = .ok (.iload_n 2, 1) := by decide +kernel
theorem dX11_isCatching_33 : decode cX11_isCatching 33 = .ok (.iaload, 1) := by decide +kernel
theorem dX11_isCatching_34 : decode cX11_isCatching 34 = .ok (.iconst 2, 1) := by decide +kernel
theorem dX11_isCatching_35 : decode cX11_isCatching 35 = .ok (.if_icmp .ne 7, 3) := by decide +kernel
theorem dX11_isCatching_38 : decode cX11_isCatching 38 = .ok (.iconst 1, 1) := by decide +kernel
theorem dX11_isCatching_39 : decode cX11_isCatching 39 = .ok (.goto 4, 3) := by decide +kernel
theorem dX11_isCatching_42 : decode cX11_isCatching 42 = .ok (.iconst 0, 1) := by decide +kernel
theorem dX11_isCatching_43 : decode cX11_isCatching 43 = .ok (.istore 4, 2) := by decide +kernel
theorem dX11_isCatching_45 : decode cX11_isCatching 45 = .ok (.aload_n 0, 1) := by decide +kernel
theorem dX11_isCatching_46 : decode cX11_isCatching 46 = .ok (.getfield 51, 3) := by decide +kernel
theorem dX11_isCatching_49 : decode cX11_isCatching 49 = .ok (.bipush 18, 2) := by decide +kernel
theorem dX11_isCatching_51 : decode cX11_isCatching 51 = .ok (.iload_n 1, 1) := by decide +kernel
theorem dX11_isCatching_52 : decode cX11_isCatching 52 = .ok (.imul, 1) := by decide +kernel
theorem dX11_isCatching_53 : decode cX11_isCatching 53 = .ok (.iload_n 2, 1) := by decide +kernel
theorem dX11_isCatching_54 : decode cX11_isCatching 54 = .ok (.iadd, 1) := by decide +kernel
theorem dX11_isCatching_55 : decode cX11_isCatching 55 = .ok (.iaload, 1) := by decide +kernel
theorem dX11_isCatching_56 : decode cX11_isCatching 56 = .ok (.ifCond .le 13, 3) := by decide +kernel
theorem dX11_isCatching_59 : decode cX11_isCatching 59 = .ok (.iload_n 3, 1) := by decide +kernel
theorem dX11_isCatching_60 : decode cX11_isCatching 60 = .ok (.iload 4, 2) := by decide +kernel
theorem dX11_isCatching_62 : decode cX11_isCatching 62 = .ok (.if_icmp .gt 7, 3) := by decide +kernel
theorem dX11_isCatching_65 : decode cX11_isCatching 65 = .ok (.iconst 1, 1) := by decide +kernel
theorem dX11_isCatching_66 : decode cX11_isCatching 66 = .ok (.goto 4, 3) := by decide +kernel
theorem dX11_isCatching_69 : decode cX11_isCatching 69 = .ok (.iconst 0, 1) := by decide +kernel
theorem dX11_isCatching_70 : decode cX11_isCatching 70 = .ok (.ireturn, 1) := by decide +kernel
theorem dX11_hourOf_0 : decode cX11_hourOf 0 = .ok (.aload_n 0, 1) := by decide +kernel
theorem dX11_hourOf_1 : decode cX11_hourOf 1 = .ok (.getfield 51, 3) := by decide +kernel
theorem dX11_hourOf_4 : decode cX11_hourOf 4 = .ok (.bipush 18, 2) := by decide +kernel
theorem dX11_hourOf_6 : decode cX11_hourOf 6 = .ok (.iload_n 1, 1) := by decide +kernel
theorem dX11_hourOf_7 : decode cX11_hourOf 7 = .ok (.imul, 1) := by decide +kernel
theorem dX11_hourOf_8 : decode cX11_hourOf 8 = .ok (.bipush 15, 2) := by decide +kernel
theorem dX11_hourOf_10 : decode cX11_hourOf 10 = .ok (.iadd, 1) := by decide +kernel
theorem dX11_hourOf_11 : decode cX11_hourOf 11 = .ok (.iaload, 1) := by decide +kernel
theorem dX11_hourOf_12 : decode cX11_hourOf 12 = .ok (.ireturn, 1) := by decide +kernel
theorem dX11_windOf_0 : decode cX11_windOf 0 = .ok (.aload_n 0, 1) := by decide +kernel
theorem dX11_windOf_1 : decode cX11_windOf 1 = .ok (.getfield 33, 3) := by decide +kernel
theorem dX11_windOf_4 : decode cX11_windOf 4 = .ok (.iload_n 1, 1) := by decide +kernel
theorem dX11_windOf_5 : decode cX11_windOf 5 = .ok (.aload_n 0, 1) := by decide +kernel
theorem dX11_windOf_6 : decode cX11_windOf 6 = .ok (.getfield 141, 3) := by decide +kernel
theorem dX11_windOf_9 : decode cX11_windOf 9 = .ok (.irem, 1) := by decide +kernel
theorem dX11_windOf_10 : decode cX11_windOf 10 = .ok (.iaload, 1) := by decide +kernel
theorem dX11_windOf_11 : decode cX11_windOf 11 = .ok (.ireturn, 1) := by decide +kernel
theorem dX11_canCarry_0 : decode cX11_canCarry 0 = .ok (.iload_n 2, 1) := by decide +kernel
theorem dX11_canCarry_1 : decode cX11_canCarry 1 = .ok (.iload_n 3, 1) := by decide +kernel
theorem dX11_canCarry_2 : decode cX11_canCarry 2 = .ok (.if_icmp .eq 49, 3) := by decide +kernel
theorem dX11_canCarry_5 : decode cX11_canCarry 5 = .ok (.aload_n 0, 1) := by decide +kernel
theorem dX11_canCarry_6 : decode cX11_canCarry 6 = .ok (.getfield 51, 3) := by decide +kernel
theorem dX11_canCarry_9 : decode cX11_canCarry 9 = .ok (.bipush 18, 2) := by decide +kernel
theorem dX11_canCarry_11 : decode cX11_canCarry 11 = .ok (.iload_n 1, 1) := by decide +kernel
theorem dX11_canCarry_12 : decode cX11_canCarry 12 = .ok (.imul, 1) := by decide +kernel
theorem dX11_canCarry_13 : decode cX11_canCarry 13 = .ok (.bipush 17, 2) := by decide +kernel
theorem dX11_canCarry_15 : decode cX11_canCarry 15 = .ok (.iadd, 1) := by decide +kernel
theorem dX11_canCarry_16 : decode cX11_canCarry 16 = .ok (.iaload, 1) := by decide +kernel
theorem dX11_canCarry_17 : decode cX11_canCarry 17 = .ok (.ifCond .ne 34, 3) := by decide +kernel
theorem dX11_canCarry_20 : decode cX11_canCarry 20 = .ok (.aload_n 0, 1) := by decide +kernel
theorem dX11_canCarry_21 : decode cX11_canCarry 21 = .ok (.iload_n 1, 1) := by decide +kernel
theorem dX11_canCarry_22 : decode cX11_canCarry 22 = .ok (.iload_n 2, 1) := by decide +kernel
theorem dX11_canCarry_23 : decode cX11_canCarry 23 = .ok (.invokevirtual 147, 3) := by decide +kernel
theorem dX11_canCarry_26 : decode cX11_canCarry 26 = .ok (.ifCond .eq 25, 3) := by decide +kernel
theorem dX11_canCarry_29 : decode cX11_canCarry 29 = .ok (.aload_n 0, 1) := by decide +kernel
theorem dX11_canCarry_30 : decode cX11_canCarry 30 = .ok (.iload_n 1, 1) := by decide +kernel
theorem dX11_canCarry_31 : decode cX11_canCarry 31 = .ok (.iload_n 3, 1) := by decide +kernel
theorem dX11_canCarry_32 : decode cX11_canCarry 32 = .ok (.invokevirtual 147, 3) := by decide +kernel
theorem dX11_canCarry_35 : decode cX11_canCarry 35 = .ok (.ifCond .ne 16, 3) := by decide +kernel
theorem dX11_canCarry_38 : decode cX11_canCarry 38 = .ok (.aload_n 0, 1) := by decide +kernel
theorem dX11_canCarry_39 : decode cX11_canCarry 39 = .ok (.iload_n 1, 1) := by decide +kernel
theorem dX11_canCarry_40 : decode cX11_canCarry 40 = .ok (.iload_n 3, 1) := by decide +kernel
theorem dX11_canCarry_41 : decode cX11_canCarry 41 = .ok (.invokevirtual 151, 3) := by decide +kernel
theorem dX11_canCarry_44 : decode cX11_canCarry 44 = .ok (.ifCond .eq 7, 3) := by decide +kernel
theorem dX11_canCarry_47 : decode cX11_canCarry 47 = .ok (.iconst 1, 1) := by decide +kernel
theorem dX11_canCarry_48 : decode cX11_canCarry 48 = .ok (.goto 4, 3) := by decide +kernel
theorem dX11_canCarry_51 : decode cX11_canCarry 51 = .ok (.iconst 0, 1) := by decide +kernel
theorem dX11_canCarry_52 : decode cX11_canCarry 52 = .ok (.istore 4, 2) := by decide +kernel
theorem dX11_canCarry_54 : decode cX11_canCarry 54 = .ok (.iload 4, 2) := by decide +kernel
theorem dX11_canCarry_56 : decode cX11_canCarry 56 = .ok (.ifCond .eq 27, 3) := by decide +kernel
theorem dX11_canCarry_59 : decode cX11_canCarry 59 = .ok (.iload_n 2, 1) := by decide +kernel
theorem dX11_canCarry_60 : decode cX11_canCarry 60 = .ok (.iload_n 3, 1) := by decide +kernel
theorem dX11_canCarry_61 : decode cX11_canCarry 61 = .ok (.isub, 1) := by decide +kernel
theorem dX11_canCarry_62 : decode cX11_canCarry 62 = .ok (.invokestatic 154, 3) := by decide +kernel
theorem dX11_canCarry_65 : decode cX11_canCarry 65 = .ok (.iconst 3, 1) := by decide +kernel
theorem dX11_canCarry_66 : decode cX11_canCarry 66 = .ok (.aload_n 0, 1) := by decide +kernel
theorem dX11_canCarry_67 : decode cX11_canCarry 67 = .ok (.aload_n 0, 1) := by decide +kernel
theorem dX11_canCarry_68 : decode cX11_canCarry 68 = .ok (.iload_n 1, 1) := by decide +kernel
theorem dX11_canCarry_69 : decode cX11_canCarry 69 = .ok (.invokevirtual 157, 3) := by decide +kernel
theorem dX11_canCarry_72 : decode cX11_canCarry 72 = .ok (.invokevirtual 160, 3) := by decide +kernel
theorem dX11_canCarry_75 : decode cX11_canCarry 75 = .ok (.isub, 1) := by decide +kernel
theorem dX11_canCarry_76 : decode cX11_canCarry 76 = .ok (.if_icmp .gt 7, 3) := by decide +kernel
theorem dX11_canCarry_79 : decode cX11_canCarry 79 = .ok (.iconst 1, 1) := by decide +kernel
theorem dX11_canCarry_80 : decode cX11_canCarry 80 = .ok (.goto 4, 3) := by decide +kernel
theorem dX11_canCarry_83 : decode cX11_canCarry 83 = .ok (.iconst 0, 1) := by decide +kernel
theorem dX11_canCarry_84 : decode cX11_canCarry 84 = .ok (.ireturn, 1) := by decide +kernel
theorem dX11_carries_0 : decode cX11_carries 0 = .ok (.aload_n 0, 1) := by decide +kernel
theorem dX11_carries_1 : decode cX11_carries 1 = .ok (.getfield 51, 3) := by decide +kernel
theorem dX11_carries_4 : decode cX11_carries 4 = .ok (.bipush 18, 2) := by decide +kernel
theorem dX11_carries_6 : decode cX11_carries 6 = .ok (.iload_n 1, 1) := by decide +kernel
theorem dX11_carries_7 : decode cX11_carries 7 = .ok (.imul, 1) := by decide +kernel
theorem dX11_carries_8 : decode cX11_carries 8 = .ok (.bipush 10, 2) := by decide +kernel
theorem dX11_carries_10 : decode cX11_carries 10 = .ok (.iadd, 1) := by decide +kernel
theorem dX11_carries_11 : decode cX11_carries 11 = .ok (.iload_n 2, 1) := by decide +kernel
theorem dX11_carries_12 : decode cX11_carries 12 = .ok (.iadd, 1) := by decide +kernel
theorem dX11_carries_13 : decode cX11_carries 13 = .ok (.iconst 1, 1) := by decide +kernel
theorem dX11_carries_14 : decode cX11_carries 14 = .ok (.iastore, 1) := by decide +kernel
theorem dX11_carries_15 : decode cX11_carries 15 = .ok (.aload_n 0, 1) := by decide +kernel
theorem dX11_carries_16 : decode cX11_carries 16 = .ok (.getfield 51, 3) := by decide +kernel
theorem dX11_carries_19 : decode cX11_carries 19 = .ok (.bipush 18, 2) := by decide +kernel
theorem dX11_carries_21 : decode cX11_carries 21 = .ok (.iload_n 1, 1) := by decide +kernel
theorem dX11_carries_22 : decode cX11_carries 22 = .ok (.imul, 1) := by decide +kernel
theorem dX11_carries_23 : decode cX11_carries 23 = .ok (.bipush 17, 2) := by decide +kernel
theorem dX11_carries_25 : decode cX11_carries 25 = .ok (.iadd, 1) := by decide +kernel
theorem dX11_carries_26 : decode cX11_carries 26 = .ok (.iconst 1, 1) := by decide +kernel
theorem dX11_carries_27 : decode cX11_carries 27 = .ok (.iastore, 1) := by decide +kernel
theorem dX11_carries_28 : decode cX11_carries 28 = .ok (.return_, 1) := by decide +kernel
theorem dX11_takesIn_0 : decode cX11_takesIn 0 = .ok (.aload_n 0, 1) := by decide +kernel
theorem dX11_takesIn_1 : decode cX11_takesIn 1 = .ok (.getfield 36, 3) := by decide +kernel
theorem dX11_takesIn_4 : decode cX11_takesIn 4 = .ok (.iload_n 1, 1) := by decide +kernel
theorem dX11_takesIn_5 : decode cX11_takesIn 5 = .ok (.iaload, 1) := by decide +kernel
theorem dX11_takesIn_6 : decode cX11_takesIn 6 = .ok (.tableswitch 57 1 4 #[30, 57, 55, 43], 30) := by decide +kernel
theorem dX11_takesIn_36 : decode cX11_takesIn 36 = .ok (.iload_n 2, 1) := by decide +kernel
theorem dX11_takesIn_37 : decode cX11_takesIn 37 = .ok (.iconst 2, 1) := by decide +kernel
theorem dX11_takesIn_38 : decode cX11_takesIn 38 = .ok (.irem, 1) := by decide +kernel
theorem dX11_takesIn_39 : decode cX11_takesIn 39 = .ok (.iconst 1, 1) := by decide +kernel
theorem dX11_takesIn_40 : decode cX11_takesIn 40 = .ok (.if_icmp .ne 7, 3) := by decide +kernel
theorem dX11_takesIn_43 : decode cX11_takesIn 43 = .ok (.iconst 0, 1) := by decide +kernel
theorem dX11_takesIn_44 : decode cX11_takesIn 44 = .ok (.goto 4, 3) := by decide +kernel
theorem dX11_takesIn_47 : decode cX11_takesIn 47 = .ok (.iconst 1, 1) := by decide +kernel
theorem dX11_takesIn_48 : decode cX11_takesIn 48 = .ok (.ireturn, 1) := by decide +kernel
theorem dX11_takesIn_49 : decode cX11_takesIn 49 = .ok (.iload_n 2, 1) := by decide +kernel
theorem dX11_takesIn_50 : decode cX11_takesIn 50 = .ok (.iconst 4, 1) := by decide +kernel
theorem dX11_takesIn_51 : decode cX11_takesIn 51 = .ok (.irem, 1) := by decide +kernel
theorem dX11_takesIn_52 : decode cX11_takesIn 52 = .ok (.ifCond .ne 7, 3) := by decide +kernel
theorem dX11_takesIn_55 : decode cX11_takesIn 55 = .ok (.iconst 1, 1) := by decide +kernel
theorem dX11_takesIn_56 : decode cX11_takesIn 56 = .ok (.goto 4, 3) := by decide +kernel
theorem dX11_takesIn_59 : decode cX11_takesIn 59 = .ok (.iconst 0, 1) := by decide +kernel
theorem dX11_takesIn_60 : decode cX11_takesIn 60 = .ok (.ireturn, 1) := by decide +kernel
theorem dX11_takesIn_61 : decode cX11_takesIn 61 = .ok (.iconst 2, 1) := by decide +kernel
theorem dX11_takesIn_62 : decode cX11_takesIn 62 = .ok (.ireturn, 1) := by decide +kernel
theorem dX11_takesIn_63 : decode cX11_takesIn 63 = .ok (.iconst 1, 1) := by decide +kernel
theorem dX11_takesIn_64 : decode cX11_takesIn 64 = .ok (.ireturn, 1) := by decide +kernel
theorem dX11_burning_0 : decode cX11_burning 0 = .ok (.iconst 0, 1) := by decide +kernel
theorem dX11_burning_1 : decode cX11_burning 1 = .ok (.istore_n 2, 1) := by decide +kernel
theorem dX11_burning_2 : decode cX11_burning 2 = .ok (.iconst 0, 1) := by decide +kernel
theorem dX11_burning_3 : decode cX11_burning 3 = .ok (.istore_n 3, 1) := by decide +kernel
theorem dX11_burning_4 : decode cX11_burning 4 = .ok (.iload_n 3, 1) := by decide +kernel
theorem dX11_burning_5 : decode cX11_burning 5 = .ok (.aload_n 0, 1) := by decide +kernel
theorem dX11_burning_6 : decode cX11_burning 6 = .ok (.getfield 138, 3) := by decide +kernel
theorem dX11_burning_9 : decode cX11_burning 9 = .ok (.if_icmp .ge 28, 3) := by decide +kernel
theorem dX11_burning_12 : decode cX11_burning 12 = .ok (.iload_n 2, 1) := by decide +kernel
theorem dX11_burning_13 : decode cX11_burning 13 = .ok (.aload_n 0, 1) := by decide +kernel
theorem dX11_burning_14 : decode cX11_burning 14 = .ok (.iload_n 1, 1) := by decide +kernel
theorem dX11_burning_15 : decode cX11_burning 15 = .ok (.iload_n 3, 1) := by decide +kernel
theorem dX11_burning_16 : decode cX11_burning 16 = .ok (.invokevirtual 147, 3) := by decide +kernel
theorem dX11_burning_19 : decode cX11_burning 19 = .ok (.ifCond .eq 9, 3) := by decide +kernel
theorem dX11_burning_22 : decode cX11_burning 22 = .ok (.iconst 1, 1) := by decide +kernel
theorem dX11_burning_23 : decode cX11_burning 23 = .ok (.iload_n 3, 1) := by decide +kernel
theorem dX11_burning_24 : decode cX11_burning 24 = .ok (.ishl, 1) := by decide +kernel
theorem dX11_burning_25 : decode cX11_burning 25 = .ok (.goto 4, 3) := by decide +kernel
theorem dX11_burning_28 : decode cX11_burning 28 = .ok (.iconst 0, 1) := by decide +kernel
theorem dX11_burning_29 : decode cX11_burning 29 = .ok (.ior, 1) := by decide +kernel
theorem dX11_burning_30 : decode cX11_burning 30 = .ok (.istore_n 2, 1) := by decide +kernel
theorem dX11_burning_31 : decode cX11_burning 31 = .ok (.iinc 3 1, 3) := by decide +kernel
theorem dX11_burning_34 : decode cX11_burning 34 = .ok (.goto (-30), 3) := by decide +kernel
theorem dX11_burning_37 : decode cX11_burning 37 = .ok (.iload_n 2, 1) := by decide +kernel
theorem dX11_burning_38 : decode cX11_burning 38 = .ok (.ireturn, 1) := by decide +kernel
theorem dX11_passes_0 : decode cX11_passes 0 = .ok (.aload_n 0, 1) := by decide +kernel
theorem dX11_passes_1 : decode cX11_passes 1 = .ok (.iload_n 1, 1) := by decide +kernel
theorem dX11_passes_2 : decode cX11_passes 2 = .ok (.invokevirtual 163, 3) := by decide +kernel
theorem dX11_passes_5 : decode cX11_passes 5 = .ok (.istore_n 2, 1) := by decide +kernel
theorem dX11_passes_6 : decode cX11_passes 6 = .ok (.bipush 18, 2) := by decide +kernel
theorem dX11_passes_8 : decode cX11_passes 8 = .ok (.iload_n 1, 1) := by decide +kernel
theorem dX11_passes_9 : decode cX11_passes 9 = .ok (.imul, 1) := by decide +kernel
theorem dX11_passes_10 : decode cX11_passes 10 = .ok (.istore_n 3, 1) := by decide +kernel
theorem dX11_passes_11 : decode cX11_passes 11 = .ok (.iconst 0, 1) := by decide +kernel
theorem dX11_passes_12 : decode cX11_passes 12 = .ok (.istore 4, 2) := by decide +kernel
theorem dX11_passes_14 : decode cX11_passes 14 = .ok (.iload 4, 2) := by decide +kernel
theorem dX11_passes_16 : decode cX11_passes 16 = .ok (.aload_n 0, 1) := by decide +kernel
theorem dX11_passes_17 : decode cX11_passes 17 = .ok (.getfield 138, 3) := by decide +kernel
theorem dX11_passes_20 : decode cX11_passes 20 = .ok (.if_icmp .ge 166, 3) := by decide +kernel
theorem dX11_passes_23 : decode cX11_passes 23 = .ok (.iload_n 2, 1) := by decide +kernel
theorem dX11_passes_24 : decode cX11_passes 24 = .ok (.iload 4, 2) := by decide +kernel
theorem dX11_passes_26 : decode cX11_passes 26 = .ok (.invokestatic 166, 3) := by decide +kernel
theorem dX11_passes_29 : decode cX11_passes 29 = .ok (.ifCond .eq 91, 3) := by decide +kernel
theorem dX11_passes_32 : decode cX11_passes 32 = .ok (.aload_n 0, 1) := by decide +kernel
theorem dX11_passes_33 : decode cX11_passes 33 = .ok (.iload 4, 2) := by decide +kernel
theorem dX11_passes_35 : decode cX11_passes 35 = .ok (.aload_n 0, 1) := by decide +kernel
theorem dX11_passes_36 : decode cX11_passes 36 = .ok (.getfield 51, 3) := by decide +kernel
theorem dX11_passes_39 : decode cX11_passes 39 = .ok (.iload_n 3, 1) := by decide +kernel
theorem dX11_passes_40 : decode cX11_passes 40 = .ok (.bipush 15, 2) := by decide +kernel
theorem dX11_passes_42 : decode cX11_passes 42 = .ok (.iadd, 1) := by decide +kernel
theorem dX11_passes_43 : decode cX11_passes 43 = .ok (.iaload, 1) := by decide +kernel
theorem dX11_passes_44 : decode cX11_passes 44 = .ok (.invokevirtual 169, 3) := by decide +kernel
theorem dX11_passes_47 : decode cX11_passes 47 = .ok (.istore 5, 2) := by decide +kernel
theorem dX11_passes_49 : decode cX11_passes 49 = .ok (.aload_n 0, 1) := by decide +kernel
theorem dX11_passes_50 : decode cX11_passes 50 = .ok (.getfield 51, 3) := by decide +kernel
theorem dX11_passes_53 : decode cX11_passes 53 = .ok (.iload_n 3, 1) := by decide +kernel
theorem dX11_passes_54 : decode cX11_passes 54 = .ok (.iload 4, 2) := by decide +kernel
theorem dX11_passes_56 : decode cX11_passes 56 = .ok (.iadd, 1) := by decide +kernel
theorem dX11_passes_57 : decode cX11_passes 57 = .ok (.aload_n 0, 1) := by decide +kernel
theorem dX11_passes_58 : decode cX11_passes 58 = .ok (.getfield 51, 3) := by decide +kernel
theorem dX11_passes_61 : decode cX11_passes 61 = .ok (.iload_n 3, 1) := by decide +kernel
theorem dX11_passes_62 : decode cX11_passes 62 = .ok (.iload 4, 2) := by decide +kernel
theorem dX11_passes_64 : decode cX11_passes 64 = .ok (.iadd, 1) := by decide +kernel
theorem dX11_passes_65 : decode cX11_passes 65 = .ok (.iaload, 1) := by decide +kernel
theorem dX11_passes_66 : decode cX11_passes 66 = .ok (.iload 5, 2) := by decide +kernel
theorem dX11_passes_68 : decode cX11_passes 68 = .ok (.if_icmp .le 18, 3) := by decide +kernel
theorem dX11_passes_71 : decode cX11_passes 71 = .ok (.aload_n 0, 1) := by decide +kernel
theorem dX11_passes_72 : decode cX11_passes 72 = .ok (.getfield 51, 3) := by decide +kernel
theorem dX11_passes_75 : decode cX11_passes 75 = .ok (.iload_n 3, 1) := by decide +kernel
theorem dX11_passes_76 : decode cX11_passes 76 = .ok (.iload 4, 2) := by decide +kernel
theorem dX11_passes_78 : decode cX11_passes 78 = .ok (.iadd, 1) := by decide +kernel
theorem dX11_passes_79 : decode cX11_passes 79 = .ok (.iaload, 1) := by decide +kernel
theorem dX11_passes_80 : decode cX11_passes 80 = .ok (.iload 5, 2) := by decide +kernel
theorem dX11_passes_82 : decode cX11_passes 82 = .ok (.isub, 1) := by decide +kernel
theorem dX11_passes_83 : decode cX11_passes 83 = .ok (.goto 4, 3) := by decide +kernel
theorem dX11_passes_86 : decode cX11_passes 86 = .ok (.iconst 0, 1) := by decide +kernel
theorem dX11_passes_87 : decode cX11_passes 87 = .ok (.iastore, 1) := by decide +kernel
theorem dX11_passes_88 : decode cX11_passes 88 = .ok (.aload_n 0, 1) := by decide +kernel
theorem dX11_passes_89 : decode cX11_passes 89 = .ok (.getfield 51, 3) := by decide +kernel
theorem dX11_passes_92 : decode cX11_passes 92 = .ok (.iload_n 3, 1) := by decide +kernel
theorem dX11_passes_93 : decode cX11_passes 93 = .ok (.bipush 10, 2) := by decide +kernel
theorem dX11_passes_95 : decode cX11_passes 95 = .ok (.iadd, 1) := by decide +kernel
theorem dX11_passes_96 : decode cX11_passes 96 = .ok (.iload 4, 2) := by decide +kernel
theorem dX11_passes_98 : decode cX11_passes 98 = .ok (.iadd, 1) := by decide +kernel
theorem dX11_passes_99 : decode cX11_passes 99 = .ok (.aload_n 0, 1) := by decide +kernel
theorem dX11_passes_100 : decode cX11_passes 100 = .ok (.getfield 51, 3) := by decide +kernel
theorem dX11_passes_103 : decode cX11_passes 103 = .ok (.iload_n 3, 1) := by decide +kernel
theorem dX11_passes_104 : decode cX11_passes 104 = .ok (.iload 4, 2) := by decide +kernel
theorem dX11_passes_106 : decode cX11_passes 106 = .ok (.iadd, 1) := by decide +kernel
theorem dX11_passes_107 : decode cX11_passes 107 = .ok (.iaload, 1) := by decide +kernel
theorem dX11_passes_108 : decode cX11_passes 108 = .ok (.ifCond .le 7, 3) := by decide +kernel
theorem dX11_passes_111 : decode cX11_passes 111 = .ok (.iconst 1, 1) := by decide +kernel
theorem dX11_passes_112 : decode cX11_passes 112 = .ok (.goto 4, 3) := by decide +kernel
theorem dX11_passes_115 : decode cX11_passes 115 = .ok (.iconst 0, 1) := by decide +kernel
theorem dX11_passes_116 : decode cX11_passes 116 = .ok (.iastore, 1) := by decide +kernel
theorem dX11_passes_117 : decode cX11_passes 117 = .ok (.goto 63, 3) := by decide +kernel
theorem dX11_passes_120 : decode cX11_passes 120 = .ok (.iload_n 2, 1) := by decide +kernel
theorem dX11_passes_121 : decode cX11_passes 121 = .ok (.iload 4, 2) := by decide +kernel
theorem dX11_passes_123 : decode cX11_passes 123 = .ok (.iconst 1, 1) := by decide +kernel
theorem dX11_passes_124 : decode cX11_passes 124 = .ok (.iadd, 1) := by decide +kernel
theorem dX11_passes_125 : decode cX11_passes 125 = .ok (.invokestatic 166, 3) := by decide +kernel
theorem dX11_passes_128 : decode cX11_passes 128 = .ok (.ifCond .ne 19, 3) := by decide +kernel
theorem dX11_passes_131 : decode cX11_passes 131 = .ok (.iload 4, 2) := by decide +kernel
theorem dX11_passes_133 : decode cX11_passes 133 = .ok (.ifCond .le 47, 3) := by decide +kernel
theorem dX11_passes_136 : decode cX11_passes 136 = .ok (.iload_n 2, 1) := by decide +kernel
theorem dX11_passes_137 : decode cX11_passes 137 = .ok (.iload 4, 2) := by decide +kernel
theorem dX11_passes_139 : decode cX11_passes 139 = .ok (.iconst 1, 1) := by decide +kernel
theorem dX11_passes_140 : decode cX11_passes 140 = .ok (.isub, 1) := by decide +kernel
theorem dX11_passes_141 : decode cX11_passes 141 = .ok (.invokestatic 166, 3) := by decide +kernel
theorem dX11_passes_144 : decode cX11_passes 144 = .ok (.ifCond .eq 36, 3) := by decide +kernel
theorem dX11_passes_147 : decode cX11_passes 147 = .ok (.aload_n 0, 1) := by decide +kernel
theorem dX11_passes_148 : decode cX11_passes 148 = .ok (.getfield 51, 3) := by decide +kernel
theorem dX11_passes_151 : decode cX11_passes 151 = .ok (.iload_n 3, 1) := by decide +kernel
theorem dX11_passes_152 : decode cX11_passes 152 = .ok (.iconst 5, 1) := by decide +kernel
theorem dX11_passes_153 : decode cX11_passes 153 = .ok (.iadd, 1) := by decide +kernel
theorem dX11_passes_154 : decode cX11_passes 154 = .ok (.iload 4, 2) := by decide +kernel
theorem dX11_passes_156 : decode cX11_passes 156 = .ok (.iadd, 1) := by decide +kernel
theorem dX11_passes_157 : decode cX11_passes 157 = .ok (.dup2, 1) := by decide +kernel
theorem dX11_passes_158 : decode cX11_passes 158 = .ok (.iaload, 1) := by decide +kernel
theorem dX11_passes_159 : decode cX11_passes 159 = .ok (.aload_n 0, 1) := by decide +kernel
theorem dX11_passes_160 : decode cX11_passes 160 = .ok (.getfield 51, 3) := by decide +kernel
theorem dX11_passes_163 : decode cX11_passes 163 = .ok (.iload_n 3, 1) := by decide +kernel
theorem dX11_passes_164 : decode cX11_passes 164 = .ok (.iconst 5, 1) := by decide +kernel
theorem dX11_passes_165 : decode cX11_passes 165 = .ok (.iadd, 1) := by decide +kernel
theorem dX11_passes_166 : decode cX11_passes 166 = .ok (.iload 4, 2) := by decide +kernel
theorem dX11_passes_168 : decode cX11_passes 168 = .ok (.iadd, 1) := by decide +kernel
theorem dX11_passes_169 : decode cX11_passes 169 = .ok (.iaload, 1) := by decide +kernel
theorem dX11_passes_170 : decode cX11_passes 170 = .ok (.ifCond .le 7, 3) := by decide +kernel
theorem dX11_passes_173 : decode cX11_passes 173 = .ok (.iconst 1, 1) := by decide +kernel
theorem dX11_passes_174 : decode cX11_passes 174 = .ok (.goto 4, 3) := by decide +kernel
theorem dX11_passes_177 : decode cX11_passes 177 = .ok (.iconst 0, 1) := by decide +kernel
theorem dX11_passes_178 : decode cX11_passes 178 = .ok (.isub, 1) := by decide +kernel
theorem dX11_passes_179 : decode cX11_passes 179 = .ok (.iastore, 1) := by decide +kernel
theorem dX11_passes_180 : decode cX11_passes 180 = .ok (.iinc 4 1, 3) := by decide +kernel
theorem dX11_passes_183 : decode cX11_passes 183 = .ok (.goto (-169), 3) := by decide +kernel
theorem dX11_passes_186 : decode cX11_passes 186 = .ok (.aload_n 0, 1) := by decide +kernel
theorem dX11_passes_187 : decode cX11_passes 187 = .ok (.getfield 51, 3) := by decide +kernel
theorem dX11_passes_190 : decode cX11_passes 190 = .ok (.iload_n 3, 1) := by decide +kernel
theorem dX11_passes_191 : decode cX11_passes 191 = .ok (.bipush 15, 2) := by decide +kernel
theorem dX11_passes_193 : decode cX11_passes 193 = .ok (.iadd, 1) := by decide +kernel
theorem dX11_passes_194 : decode cX11_passes 194 = .ok (.dup2, 1) := by decide +kernel
theorem dX11_passes_195 : decode cX11_passes 195 = .ok (.iaload, 1) := by decide +kernel
theorem dX11_passes_196 : decode cX11_passes 196 = .ok (.iconst 1, 1) := by decide +kernel
theorem dX11_passes_197 : decode cX11_passes 197 = .ok (.iadd, 1) := by decide +kernel
theorem dX11_passes_198 : decode cX11_passes 198 = .ok (.iastore, 1) := by decide +kernel
theorem dX11_passes_199 : decode cX11_passes 199 = .ok (.aload_n 0, 1) := by decide +kernel
theorem dX11_passes_200 : decode cX11_passes 200 = .ok (.getfield 51, 3) := by decide +kernel
theorem dX11_passes_203 : decode cX11_passes 203 = .ok (.iload_n 3, 1) := by decide +kernel
theorem dX11_passes_204 : decode cX11_passes 204 = .ok (.bipush 17, 2) := by decide +kernel
theorem dX11_passes_206 : decode cX11_passes 206 = .ok (.iadd, 1) := by decide +kernel
theorem dX11_passes_207 : decode cX11_passes 207 = .ok (.iconst 0, 1) := by decide +kernel
theorem dX11_passes_208 : decode cX11_passes 208 = .ok (.iastore, 1) := by decide +kernel
theorem dX11_passes_209 : decode cX11_passes 209 = .ok (.return_, 1) := by decide +kernel
theorem dX11_houseTells_0 : decode cX11_houseTells 0 = .ok (.iload_n 2, 1) := by decide +kernel
theorem dX11_houseTells_1 : decode cX11_houseTells 1 = .ok (.tableswitch 75 0 4 #[35, 42, 49, 58, 65], 35) := by decide +kernel
theorem dX11_houseTells_36 : decode cX11_houseTells 36 = .ok (.aload_n 0, 1) := by decide +kernel
theorem dX11_houseTells_37 : decode cX11_houseTells 37 = .ok (.getfield 36, 3) := by decide +kernel
theorem dX11_houseTells_40 : decode cX11_houseTells 40 = .ok (.iload_n 1, 1) := by decide +kernel
theorem dX11_houseTells_41 : decode cX11_houseTells 41 = .ok (.iaload, 1) := by decide +kernel
theorem dX11_houseTells_42 : decode cX11_houseTells 42 = .ok (.ireturn, 1) := by decide +kernel
theorem dX11_houseTells_43 : decode cX11_houseTells 43 = .ok (.aload_n 0, 1) := by decide +kernel
theorem dX11_houseTells_44 : decode cX11_houseTells 44 = .ok (.getfield 51, 3) := by decide +kernel
theorem dX11_houseTells_47 : decode cX11_houseTells 47 = .ok (.iload_n 1, 1) := by decide +kernel
theorem dX11_houseTells_48 : decode cX11_houseTells 48 = .ok (.iaload, 1) := by decide +kernel
theorem dX11_houseTells_49 : decode cX11_houseTells 49 = .ok (.ireturn, 1) := by decide +kernel
theorem dX11_houseTells_50 : decode cX11_houseTells 50 = .ok (.aload_n 0, 1) := by decide +kernel
theorem dX11_houseTells_51 : decode cX11_houseTells 51 = .ok (.getfield 51, 3) := by decide +kernel
theorem dX11_houseTells_54 : decode cX11_houseTells 54 = .ok (.iconst 5, 1) := by decide +kernel
theorem dX11_houseTells_55 : decode cX11_houseTells 55 = .ok (.iload_n 1, 1) := by decide +kernel
theorem dX11_houseTells_56 : decode cX11_houseTells 56 = .ok (.iadd, 1) := by decide +kernel
theorem dX11_houseTells_57 : decode cX11_houseTells 57 = .ok (.iaload, 1) := by decide +kernel
theorem dX11_houseTells_58 : decode cX11_houseTells 58 = .ok (.ireturn, 1) := by decide +kernel
theorem dX11_houseTells_59 : decode cX11_houseTells 59 = .ok (.aload_n 0, 1) := by decide +kernel
theorem dX11_houseTells_60 : decode cX11_houseTells 60 = .ok (.getfield 39, 3) := by decide +kernel
theorem dX11_houseTells_63 : decode cX11_houseTells 63 = .ok (.iload_n 1, 1) := by decide +kernel
theorem dX11_houseTells_64 : decode cX11_houseTells 64 = .ok (.iaload, 1) := by decide +kernel
theorem dX11_houseTells_65 : decode cX11_houseTells 65 = .ok (.ireturn, 1) := by decide +kernel
theorem dX11_houseTells_66 : decode cX11_houseTells 66 = .ok (.aload_n 0, 1) := by decide +kernel
theorem dX11_houseTells_67 : decode cX11_houseTells 67 = .ok (.getfield 51, 3) := by decide +kernel
theorem dX11_houseTells_70 : decode cX11_houseTells 70 = .ok (.bipush 10, 2) := by decide +kernel
theorem dX11_houseTells_72 : decode cX11_houseTells 72 = .ok (.iload_n 1, 1) := by decide +kernel
theorem dX11_houseTells_73 : decode cX11_houseTells 73 = .ok (.iadd, 1) := by decide +kernel
theorem dX11_houseTells_74 : decode cX11_houseTells 74 = .ok (.iaload, 1) := by decide +kernel
theorem dX11_houseTells_75 : decode cX11_houseTells 75 = .ok (.ireturn, 1) := by decide +kernel
theorem dX11_houseTells_76 : decode cX11_houseTells 76 = .ok (.aload_n 0, 1) := by decide +kernel
theorem dX11_houseTells_77 : decode cX11_houseTells 77 = .ok (.iconst 0, 1) := by decide +kernel
theorem dX11_houseTells_78 : decode cX11_houseTells 78 = .ok (.iload_n 1, 1) := by decide +kernel
theorem dX11_houseTells_79 : decode cX11_houseTells 79 = .ok (.invokevirtual 151, 3) := by decide +kernel
theorem dX11_houseTells_82 : decode cX11_houseTells 82 = .ok (.ifCond .eq 7, 3) := by decide +kernel
theorem dX11_houseTells_85 : decode cX11_houseTells 85 = .ok (.iconst 1, 1) := by decide +kernel
theorem dX11_houseTells_86 : decode cX11_houseTells 86 = .ok (.goto 4, 3) := by decide +kernel
theorem dX11_houseTells_89 : decode cX11_houseTells 89 = .ok (.iconst 0, 1) := by decide +kernel
theorem dX11_houseTells_90 : decode cX11_houseTells 90 = .ok (.ireturn, 1) := by decide +kernel
theorem dX11_house_0 : decode cX11_house 0 = .ok (.aload_n 0, 1) := by decide +kernel
theorem dX11_house_1 : decode cX11_house 1 = .ok (.iload_n 1, 1) := by decide +kernel
theorem dX11_house_2 : decode cX11_house 2 = .ok (.invokevirtual 172, 3) := by decide +kernel
theorem dX11_house_5 : decode cX11_house 5 = .ok (.ifCond .eq 26, 3) := by decide +kernel
theorem dX11_house_8 : decode cX11_house 8 = .ok (.iload_n 2, 1) := by decide +kernel
theorem dX11_house_9 : decode cX11_house 9 = .ok (.iconst 0, 1) := by decide +kernel
theorem dX11_house_10 : decode cX11_house 10 = .ok (.iconst 5, 1) := by decide +kernel
theorem dX11_house_11 : decode cX11_house 11 = .ok (.invokestatic 83, 3) := by decide +kernel
theorem dX11_house_14 : decode cX11_house 14 = .ok (.ifCond .eq 17, 3) := by decide +kernel
theorem dX11_house_17 : decode cX11_house 17 = .ok (.aload_n 0, 1) := by decide +kernel
theorem dX11_house_18 : decode cX11_house 18 = .ok (.aload_n 0, 1) := by decide +kernel
theorem dX11_house_19 : decode cX11_house 19 = .ok (.iload_n 1, 1) := by decide +kernel
theorem dX11_house_20 : decode cX11_house 20 = .ok (.iload_n 2, 1) := by decide +kernel
theorem dX11_house_21 : decode cX11_house 21 = .ok (.invokevirtual 175, 3) := by decide +kernel
theorem dX11_house_24 : decode cX11_house 24 = .ok (.iconst 1, 1) := by decide +kernel
theorem dX11_house_25 : decode cX11_house 25 = .ok (.invokevirtual 105, 3) := by decide +kernel
theorem dX11_house_28 : decode cX11_house 28 = .ok (.goto 4, 3) := by decide +kernel
theorem dX11_house_31 : decode cX11_house 31 = .ok (.iconst (-1), 1) := by decide +kernel
theorem dX11_house_32 : decode cX11_house 32 = .ok (.ireturn, 1) := by decide +kernel
theorem dX11_wind_0 : decode cX11_wind 0 = .ok (.iload_n 1, 1) := by decide +kernel
theorem dX11_wind_1 : decode cX11_wind 1 = .ok (.iconst 0, 1) := by decide +kernel
theorem dX11_wind_2 : decode cX11_wind 2 = .ok (.sipush 999, 3) := by decide +kernel
theorem dX11_wind_5 : decode cX11_wind 5 = .ok (.invokestatic 83, 3) := by decide +kernel
theorem dX11_wind_8 : decode cX11_wind 8 = .ok (.ifCond .ne 7, 3) := by decide +kernel
theorem dX11_wind_11 : decode cX11_wind 11 = .ok (.iconst (-1), 1) := by decide +kernel
theorem dX11_wind_12 : decode cX11_wind 12 = .ok (.goto 20, 3) := by decide +kernel
theorem dX11_wind_15 : decode cX11_wind 15 = .ok (.aload_n 0, 1) := by decide +kernel
theorem dX11_wind_16 : decode cX11_wind 16 = .ok (.getfield 138, 3) := by decide +kernel
theorem dX11_wind_19 : decode cX11_wind 19 = .ok (.ifCond .ne 8, 3) := by decide +kernel
theorem dX11_wind_22 : decode cX11_wind 22 = .ok (.bipush (-4), 2) := by decide +kernel
theorem dX11_wind_24 : decode cX11_wind 24 = .ok (.goto 8, 3) := by decide +kernel
theorem dX11_wind_27 : decode cX11_wind 27 = .ok (.aload_n 0, 1) := by decide +kernel
theorem dX11_wind_28 : decode cX11_wind 28 = .ok (.iload_n 1, 1) := by decide +kernel
theorem dX11_wind_29 : decode cX11_wind 29 = .ok (.invokevirtual 160, 3) := by decide +kernel
theorem dX11_wind_32 : decode cX11_wind 32 = .ok (.ireturn, 1) := by decide +kernel
theorem dX11_springOf_0 : decode cX11_springOf 0 = .ok (.iconst 0, 1) := by decide +kernel
theorem dX11_springOf_1 : decode cX11_springOf 1 = .ok (.istore_n 3, 1) := by decide +kernel
theorem dX11_springOf_2 : decode cX11_springOf 2 = .ok (.iconst 0, 1) := by decide +kernel
theorem dX11_springOf_3 : decode cX11_springOf 3 = .ok (.istore 4, 2) := by decide +kernel
theorem dX11_springOf_5 : decode cX11_springOf 5 = .ok (.iload 4, 2) := by decide +kernel
theorem dX11_springOf_7 : decode cX11_springOf 7 = .ok (.iload_n 2, 1) := by decide +kernel
theorem dX11_springOf_8 : decode cX11_springOf 8 = .ok (.if_icmp .ge 27, 3) := by decide +kernel
theorem dX11_springOf_11 : decode cX11_springOf 11 = .ok (.iload_n 3, 1) := by decide +kernel
theorem dX11_springOf_12 : decode cX11_springOf 12 = .ok (.aload_n 0, 1) := by decide +kernel
theorem dX11_springOf_13 : decode cX11_springOf 13 = .ok (.iload_n 1, 1) := by decide +kernel
theorem dX11_springOf_14 : decode cX11_springOf 14 = .ok (.aload_n 0, 1) := by decide +kernel
theorem dX11_springOf_15 : decode cX11_springOf 15 = .ok (.getfield 51, 3) := by decide +kernel
theorem dX11_springOf_18 : decode cX11_springOf 18 = .ok (.bipush 15, 2) := by decide +kernel
theorem dX11_springOf_20 : decode cX11_springOf 20 = .ok (.iaload, 1) := by decide +kernel
theorem dX11_springOf_21 : decode cX11_springOf 21 = .ok (.iload 4, 2) := by decide +kernel
theorem dX11_springOf_23 : decode cX11_springOf 23 = .ok (.iadd, 1) := by decide +kernel
theorem dX11_springOf_24 : decode cX11_springOf 24 = .ok (.invokevirtual 169, 3) := by decide +kernel
theorem dX11_springOf_27 : decode cX11_springOf 27 = .ok (.iadd, 1) := by decide +kernel
theorem dX11_springOf_28 : decode cX11_springOf 28 = .ok (.istore_n 3, 1) := by decide +kernel
theorem dX11_springOf_29 : decode cX11_springOf 29 = .ok (.iinc 4 1, 3) := by decide +kernel
theorem dX11_springOf_32 : decode cX11_springOf 32 = .ok (.goto (-27), 3) := by decide +kernel
theorem dX11_springOf_35 : decode cX11_springOf 35 = .ok (.iload_n 3, 1) := by decide +kernel
theorem dX11_springOf_36 : decode cX11_springOf 36 = .ok (.ireturn, 1) := by decide +kernel
theorem dX11_wetBeside_0 : decode cX11_wetBeside 0 = .ok (.iconst 0, 1) := by decide +kernel
theorem dX11_wetBeside_1 : decode cX11_wetBeside 1 = .ok (.istore_n 2, 1) := by decide +kernel
theorem dX11_wetBeside_2 : decode cX11_wetBeside 2 = .ok (.iload_n 1, 1) := by decide +kernel
theorem dX11_wetBeside_3 : decode cX11_wetBeside 3 = .ok (.iconst 1, 1) := by decide +kernel
theorem dX11_wetBeside_4 : decode cX11_wetBeside 4 = .ok (.isub, 1) := by decide +kernel
theorem dX11_wetBeside_5 : decode cX11_wetBeside 5 = .ok (.istore_n 3, 1) := by decide +kernel
theorem dX11_wetBeside_6 : decode cX11_wetBeside 6 = .ok (.iload_n 3, 1) := by decide +kernel
theorem dX11_wetBeside_7 : decode cX11_wetBeside 7 = .ok (.iload_n 1, 1) := by decide +kernel
theorem dX11_wetBeside_8 : decode cX11_wetBeside 8 = .ok (.iconst 1, 1) := by decide +kernel
theorem dX11_wetBeside_9 : decode cX11_wetBeside 9 = .ok (.iadd, 1) := by decide +kernel
theorem dX11_wetBeside_10 : decode cX11_wetBeside 10 = .ok (.if_icmp .gt 36, 3) := by decide +kernel
theorem dX11_wetBeside_13 : decode cX11_wetBeside 13 = .ok (.iload_n 2, 1) := by decide +kernel
theorem dX11_wetBeside_14 : decode cX11_wetBeside 14 = .ok (.aload_n 0, 1) := by decide +kernel
theorem dX11_wetBeside_15 : decode cX11_wetBeside 15 = .ok (.iload_n 3, 1) := by decide +kernel
theorem dX11_wetBeside_16 : decode cX11_wetBeside 16 = .ok (.invokevirtual 172, 3) := by decide +kernel
theorem dX11_wetBeside_19 : decode cX11_wetBeside 19 = .ok (.ifCond .eq 18, 3) := by decide +kernel
theorem dX11_wetBeside_22 : decode cX11_wetBeside 22 = .ok (.aload_n 0, 1) := by decide +kernel
theorem dX11_wetBeside_23 : decode cX11_wetBeside 23 = .ok (.getfield 51, 3) := by decide +kernel
theorem dX11_wetBeside_26 : decode cX11_wetBeside 26 = .ok (.iconst 5, 1) := by decide +kernel
theorem dX11_wetBeside_27 : decode cX11_wetBeside 27 = .ok (.iload_n 3, 1) := by decide +kernel
theorem dX11_wetBeside_28 : decode cX11_wetBeside 28 = .ok (.iadd, 1) := by decide +kernel
theorem dX11_wetBeside_29 : decode cX11_wetBeside 29 = .ok (.iaload, 1) := by decide +kernel
theorem dX11_wetBeside_30 : decode cX11_wetBeside 30 = .ok (.ifCond .le 7, 3) := by decide +kernel
theorem dX11_wetBeside_33 : decode cX11_wetBeside 33 = .ok (.iconst 1, 1) := by decide +kernel
theorem dX11_wetBeside_34 : decode cX11_wetBeside 34 = .ok (.goto 4, 3) := by decide +kernel
theorem dX11_wetBeside_37 : decode cX11_wetBeside 37 = .ok (.iconst 0, 1) := by decide +kernel
theorem dX11_wetBeside_38 : decode cX11_wetBeside 38 = .ok (.iadd, 1) := by decide +kernel
theorem dX11_wetBeside_39 : decode cX11_wetBeside 39 = .ok (.istore_n 2, 1) := by decide +kernel
theorem dX11_wetBeside_40 : decode cX11_wetBeside 40 = .ok (.iinc 3 2, 3) := by decide +kernel
theorem dX11_wetBeside_43 : decode cX11_wetBeside 43 = .ok (.goto (-37), 3) := by decide +kernel
theorem dX11_wetBeside_46 : decode cX11_wetBeside 46 = .ok (.iload_n 2, 1) := by decide +kernel
theorem dX11_wetBeside_47 : decode cX11_wetBeside 47 = .ok (.ireturn, 1) := by decide +kernel
theorem dX11_mark_0 : decode cX11_mark 0 = .ok (.aload_n 0, 1) := by decide +kernel
theorem dX11_mark_1 : decode cX11_mark 1 = .ok (.iload_n 1, 1) := by decide +kernel
theorem dX11_mark_2 : decode cX11_mark 2 = .ok (.invokevirtual 172, 3) := by decide +kernel
theorem dX11_mark_5 : decode cX11_mark 5 = .ok (.ifCond .eq 12, 3) := by decide +kernel
theorem dX11_mark_8 : decode cX11_mark 8 = .ok (.iload_n 2, 1) := by decide +kernel
theorem dX11_mark_9 : decode cX11_mark 9 = .ok (.iconst 1, 1) := by decide +kernel
theorem dX11_mark_10 : decode cX11_mark 10 = .ok (.iconst 5, 1) := by decide +kernel
theorem dX11_mark_11 : decode cX11_mark 11 = .ok (.invokestatic 83, 3) := by decide +kernel
theorem dX11_mark_14 : decode cX11_mark 14 = .ok (.ifCond .ne 5, 3) := by decide +kernel
theorem dX11_mark_17 : decode cX11_mark 17 = .ok (.iconst (-1), 1) := by decide +kernel
theorem dX11_mark_18 : decode cX11_mark 18 = .ok (.ireturn, 1) := by decide +kernel
theorem dX11_mark_19 : decode cX11_mark 19 = .ok (.aload_n 0, 1) := by decide +kernel
theorem dX11_mark_20 : decode cX11_mark 20 = .ok (.getfield 36, 3) := by decide +kernel
theorem dX11_mark_23 : decode cX11_mark 23 = .ok (.iload_n 1, 1) := by decide +kernel
theorem dX11_mark_24 : decode cX11_mark 24 = .ok (.iaload, 1) := by decide +kernel
theorem dX11_mark_25 : decode cX11_mark 25 = .ok (.istore_n 3, 1) := by decide +kernel
theorem dX11_mark_26 : decode cX11_mark 26 = .ok (.iload_n 3, 1) := by decide +kernel
theorem dX11_mark_27 : decode cX11_mark 27 = .ok (.iload_n 2, 1) := by decide +kernel
theorem dX11_mark_28 : decode cX11_mark 28 = .ok (.if_icmp .eq 29, 3) := by decide +kernel
theorem dX11_mark_31 : decode cX11_mark 31 = .ok (.iload_n 2, 1) := by decide +kernel
theorem dX11_mark_32 : decode cX11_mark 32 = .ok (.iconst 1, 1) := by decide +kernel
theorem dX11_mark_33 : decode cX11_mark 33 = .ok (.if_icmp .ne 8, 3) := by decide +kernel
theorem dX11_mark_36 : decode cX11_mark 36 = .ok (.iload_n 3, 1) := by decide +kernel
theorem dX11_mark_37 : decode cX11_mark 37 = .ok (.iconst 4, 1) := by decide +kernel
theorem dX11_mark_38 : decode cX11_mark 38 = .ok (.if_icmp .eq 19, 3) := by decide +kernel
theorem dX11_mark_41 : decode cX11_mark 41 = .ok (.iload_n 2, 1) := by decide +kernel
theorem dX11_mark_42 : decode cX11_mark 42 = .ok (.iconst 2, 1) := by decide +kernel
theorem dX11_mark_43 : decode cX11_mark 43 = .ok (.if_icmp .ne 8, 3) := by decide +kernel
theorem dX11_mark_46 : decode cX11_mark 46 = .ok (.iload_n 3, 1) := by decide +kernel
theorem dX11_mark_47 : decode cX11_mark 47 = .ok (.iconst 5, 1) := by decide +kernel
theorem dX11_mark_48 : decode cX11_mark 48 = .ok (.if_icmp .eq 9, 3) := by decide +kernel
theorem dX11_mark_51 : decode cX11_mark 51 = .ok (.aload_n 0, 1) := by decide +kernel
theorem dX11_mark_52 : decode cX11_mark 52 = .ok (.iconst 3, 1) := by decide +kernel
theorem dX11_mark_53 : decode cX11_mark 53 = .ok (.invokevirtual 97, 3) := by decide +kernel
theorem dX11_mark_56 : decode cX11_mark 56 = .ok (.ireturn, 1) := by decide +kernel
theorem dX11_mark_57 : decode cX11_mark 57 = .ok (.iload_n 2, 1) := by decide +kernel
theorem dX11_mark_58 : decode cX11_mark 58 = .ok (.tableswitch 74 1 4 #[30, 38, 49, 60], 30) := by decide +kernel
theorem dX11_mark_88 : decode cX11_mark 88 = .ok (.aload_n 0, 1) := by decide +kernel
theorem dX11_mark_89 : decode cX11_mark 89 = .ok (.iload_n 1, 1) := by decide +kernel
theorem dX11_mark_90 : decode cX11_mark 90 = .ok (.bipush 8, 2) := by decide +kernel
theorem dX11_mark_92 : decode cX11_mark 92 = .ok (.invokevirtual 178, 3) := by decide +kernel
theorem dX11_mark_95 : decode cX11_mark 95 = .ok (.ireturn, 1) := by decide +kernel
theorem dX11_mark_96 : decode cX11_mark 96 = .ok (.iload_n 3, 1) := by decide +kernel
theorem dX11_mark_97 : decode cX11_mark 97 = .ok (.iconst 5, 1) := by decide +kernel
theorem dX11_mark_98 : decode cX11_mark 98 = .ok (.if_icmp .ne 7, 3) := by decide +kernel
theorem dX11_mark_101 : decode cX11_mark 101 = .ok (.iconst 0, 1) := by decide +kernel
theorem dX11_mark_102 : decode cX11_mark 102 = .ok (.goto 4, 3) := by decide +kernel
theorem dX11_mark_105 : decode cX11_mark 105 = .ok (.iconst 2, 1) := by decide +kernel
theorem dX11_mark_106 : decode cX11_mark 106 = .ok (.ireturn, 1) := by decide +kernel
theorem dX11_mark_107 : decode cX11_mark 107 = .ok (.aload_n 0, 1) := by decide +kernel
theorem dX11_mark_108 : decode cX11_mark 108 = .ok (.getfield 51, 3) := by decide +kernel
theorem dX11_mark_111 : decode cX11_mark 111 = .ok (.iload_n 1, 1) := by decide +kernel
theorem dX11_mark_112 : decode cX11_mark 112 = .ok (.iaload, 1) := by decide +kernel
theorem dX11_mark_113 : decode cX11_mark 113 = .ok (.iconst 1, 1) := by decide +kernel
theorem dX11_mark_114 : decode cX11_mark 114 = .ok (.iadd, 1) := by decide +kernel
theorem dX11_mark_115 : decode cX11_mark 115 = .ok (.iconst 2, 1) := by decide +kernel
theorem dX11_mark_116 : decode cX11_mark 116 = .ok (.idiv, 1) := by decide +kernel
theorem dX11_mark_117 : decode cX11_mark 117 = .ok (.ireturn, 1) := by decide +kernel
theorem dX11_mark_118 : decode cX11_mark 118 = .ok (.iconst 4, 1) := by decide +kernel
theorem dX11_mark_119 : decode cX11_mark 119 = .ok (.aload_n 0, 1) := by decide +kernel
theorem dX11_mark_120 : decode cX11_mark 120 = .ok (.getfield 51, 3) := by decide +kernel
theorem dX11_mark_123 : decode cX11_mark 123 = .ok (.bipush 15, 2) := by decide +kernel
theorem dX11_mark_125 : decode cX11_mark 125 = .ok (.iaload, 1) := by decide +kernel
theorem dX11_mark_126 : decode cX11_mark 126 = .ok (.iconst 4, 1) := by decide +kernel
theorem dX11_mark_127 : decode cX11_mark 127 = .ok (.irem, 1) := by decide +kernel
theorem dX11_mark_128 : decode cX11_mark 128 = .ok (.isub, 1) := by decide +kernel
theorem dX11_mark_129 : decode cX11_mark 129 = .ok (.iconst 4, 1) := by decide +kernel
theorem dX11_mark_130 : decode cX11_mark 130 = .ok (.irem, 1) := by decide +kernel
theorem dX11_mark_131 : decode cX11_mark 131 = .ok (.ireturn, 1) := by decide +kernel
theorem dX11_mark_132 : decode cX11_mark 132 = .ok (.aload_n 0, 1) := by decide +kernel
theorem dX11_mark_133 : decode cX11_mark 133 = .ok (.iload_n 1, 1) := by decide +kernel
theorem dX11_mark_134 : decode cX11_mark 134 = .ok (.invokevirtual 181, 3) := by decide +kernel
theorem dX11_mark_137 : decode cX11_mark 137 = .ok (.ireturn, 1) := by decide +kernel
theorem dX11_stack_0 : decode cX11_stack 0 = .ok (.aload_n 0, 1) := by decide +kernel
theorem dX11_stack_1 : decode cX11_stack 1 = .ok (.iload_n 1, 1) := by decide +kernel
theorem dX11_stack_2 : decode cX11_stack 2 = .ok (.invokevirtual 172, 3) := by decide +kernel
theorem dX11_stack_5 : decode cX11_stack 5 = .ok (.ifCond .eq 13, 3) := by decide +kernel
theorem dX11_stack_8 : decode cX11_stack 8 = .ok (.iload_n 2, 1) := by decide +kernel
theorem dX11_stack_9 : decode cX11_stack 9 = .ok (.iconst 0, 1) := by decide +kernel
theorem dX11_stack_10 : decode cX11_stack 10 = .ok (.bipush 9, 2) := by decide +kernel
theorem dX11_stack_12 : decode cX11_stack 12 = .ok (.invokestatic 83, 3) := by decide +kernel
theorem dX11_stack_15 : decode cX11_stack 15 = .ok (.ifCond .ne 5, 3) := by decide +kernel
theorem dX11_stack_18 : decode cX11_stack 18 = .ok (.iconst (-1), 1) := by decide +kernel
theorem dX11_stack_19 : decode cX11_stack 19 = .ok (.ireturn, 1) := by decide +kernel
theorem dX11_stack_20 : decode cX11_stack 20 = .ok (.aload_n 0, 1) := by decide +kernel
theorem dX11_stack_21 : decode cX11_stack 21 = .ok (.getfield 144, 3) := by decide +kernel
theorem dX11_stack_24 : decode cX11_stack 24 = .ok (.ifCond .le 6, 3) := by decide +kernel
theorem dX11_stack_27 : decode cX11_stack 27 = .ok (.bipush (-4), 2) := by decide +kernel
theorem dX11_stack_29 : decode cX11_stack 29 = .ok (.ireturn, 1) := by decide +kernel
theorem dX11_stack_30 : decode cX11_stack 30 = .ok (.aload_n 0, 1) := by decide +kernel
theorem dX11_stack_31 : decode cX11_stack 31 = .ok (.getfield 51, 3) := by decide +kernel
theorem dX11_stack_34 : decode cX11_stack 34 = .ok (.iload_n 1, 1) := by decide +kernel
theorem dX11_stack_35 : decode cX11_stack 35 = .ok (.iaload, 1) := by decide +kernel
theorem dX11_stack_36 : decode cX11_stack 36 = .ok (.istore_n 3, 1) := by decide +kernel
theorem dX11_stack_37 : decode cX11_stack 37 = .ok (.aload_n 0, 1) := by decide +kernel
theorem dX11_stack_38 : decode cX11_stack 38 = .ok (.getfield 51, 3) := by decide +kernel
theorem dX11_stack_41 : decode cX11_stack 41 = .ok (.iload_n 1, 1) := by decide +kernel
theorem dX11_stack_42 : decode cX11_stack 42 = .ok (.iload_n 2, 1) := by decide +kernel
theorem dX11_stack_43 : decode cX11_stack 43 = .ok (.iastore, 1) := by decide +kernel
theorem dX11_stack_44 : decode cX11_stack 44 = .ok (.aload_n 0, 1) := by decide +kernel
theorem dX11_stack_45 : decode cX11_stack 45 = .ok (.getfield 48, 3) := by decide +kernel
theorem dX11_stack_48 : decode cX11_stack 48 = .ok (.iload_n 1, 1) := by decide +kernel
theorem dX11_stack_49 : decode cX11_stack 49 = .ok (.iload_n 2, 1) := by decide +kernel
theorem dX11_stack_50 : decode cX11_stack 50 = .ok (.iastore, 1) := by decide +kernel
theorem dX11_stack_51 : decode cX11_stack 51 = .ok (.iload_n 3, 1) := by decide +kernel
theorem dX11_stack_52 : decode cX11_stack 52 = .ok (.ireturn, 1) := by decide +kernel
theorem dX11_remember_0 : decode cX11_remember 0 = .ok (.iconst 0, 1) := by decide +kernel
theorem dX11_remember_1 : decode cX11_remember 1 = .ok (.istore_n 1, 1) := by decide +kernel
theorem dX11_remember_2 : decode cX11_remember 2 = .ok (.iload_n 1, 1) := by decide +kernel
theorem dX11_remember_3 : decode cX11_remember 3 = .ok (.bipush 18, 2) := by decide +kernel
theorem dX11_remember_5 : decode cX11_remember 5 = .ok (.if_icmp .ge 29, 3) := by decide +kernel
theorem dX11_remember_8 : decode cX11_remember 8 = .ok (.aload_n 0, 1) := by decide +kernel
theorem dX11_remember_9 : decode cX11_remember 9 = .ok (.getfield 54, 3) := by decide +kernel
theorem dX11_remember_12 : decode cX11_remember 12 = .ok (.bipush 18, 2) := by decide +kernel
theorem dX11_remember_14 : decode cX11_remember 14 = .ok (.aload_n 0, 1) := by decide +kernel
theorem dX11_remember_15 : decode cX11_remember 15 = .ok (.getfield 144, 3) := by decide +kernel
theorem dX11_remember_18 : decode cX11_remember 18 = .ok (.imul, 1) := by decide +kernel
theorem dX11_remember_19 : decode cX11_remember 19 = .ok (.iload_n 1, 1) := by decide +kernel
theorem dX11_remember_20 : decode cX11_remember 20 = .ok (.iadd, 1) := by decide +kernel
theorem dX11_remember_21 : decode cX11_remember 21 = .ok (.aload_n 0, 1) := by decide +kernel
theorem dX11_remember_22 : decode cX11_remember 22 = .ok (.getfield 51, 3) := by decide +kernel
theorem dX11_remember_25 : decode cX11_remember 25 = .ok (.iload_n 1, 1) := by decide +kernel
theorem dX11_remember_26 : decode cX11_remember 26 = .ok (.iaload, 1) := by decide +kernel
theorem dX11_remember_27 : decode cX11_remember 27 = .ok (.iastore, 1) := by decide +kernel
theorem dX11_remember_28 : decode cX11_remember 28 = .ok (.iinc 1 1, 3) := by decide +kernel
theorem dX11_remember_31 : decode cX11_remember 31 = .ok (.goto (-29), 3) := by decide +kernel
theorem dX11_remember_34 : decode cX11_remember 34 = .ok (.aload_n 0, 1) := by decide +kernel
theorem dX11_remember_35 : decode cX11_remember 35 = .ok (.dup, 1) := by decide +kernel
theorem dX11_remember_36 : decode cX11_remember 36 = .ok (.getfield 144, 3) := by decide +kernel
theorem dX11_remember_39 : decode cX11_remember 39 = .ok (.iconst 1, 1) := by decide +kernel
theorem dX11_remember_40 : decode cX11_remember 40 = .ok (.iadd, 1) := by decide +kernel
theorem dX11_remember_41 : decode cX11_remember 41 = .ok (.putfield 144, 3) := by decide +kernel
theorem dX11_remember_44 : decode cX11_remember 44 = .ok (.return_, 1) := by decide +kernel
theorem dX11_strike_0 : decode cX11_strike 0 = .ok (.aload_n 0, 1) := by decide +kernel
theorem dX11_strike_1 : decode cX11_strike 1 = .ok (.iload_n 1, 1) := by decide +kernel
theorem dX11_strike_2 : decode cX11_strike 2 = .ok (.invokevirtual 172, 3) := by decide +kernel
theorem dX11_strike_5 : decode cX11_strike 5 = .ok (.ifCond .ne 5, 3) := by decide +kernel
theorem dX11_strike_8 : decode cX11_strike 8 = .ok (.iconst (-1), 1) := by decide +kernel
theorem dX11_strike_9 : decode cX11_strike 9 = .ok (.ireturn, 1) := by decide +kernel
theorem dX11_strike_10 : decode cX11_strike 10 = .ok (.aload_n 0, 1) := by decide +kernel
theorem dX11_strike_11 : decode cX11_strike 11 = .ok (.getfield 51, 3) := by decide +kernel
theorem dX11_strike_14 : decode cX11_strike 14 = .ok (.bipush 16, 2) := by decide +kernel
theorem dX11_strike_16 : decode cX11_strike 16 = .ok (.iaload, 1) := by decide +kernel
theorem dX11_strike_17 : decode cX11_strike 17 = .ok (.iconst 1, 1) := by decide +kernel
theorem dX11_strike_18 : decode cX11_strike 18 = .ok (.if_icmp .eq 12, 3) := by decide +kernel
theorem dX11_strike_21 : decode cX11_strike 21 = .ok (.aload_n 0, 1) := by decide +kernel
theorem dX11_strike_22 : decode cX11_strike 22 = .ok (.iconst 0, 1) := by decide +kernel
theorem dX11_strike_23 : decode cX11_strike 23 = .ok (.iload_n 1, 1) := by decide +kernel
theorem dX11_strike_24 : decode cX11_strike 24 = .ok (.invokevirtual 151, 3) := by decide +kernel
theorem dX11_strike_27 : decode cX11_strike 27 = .ok (.ifCond .ne 6, 3) := by decide +kernel
theorem dX11_strike_30 : decode cX11_strike 30 = .ok (.bipush (-4), 2) := by decide +kernel
theorem dX11_strike_32 : decode cX11_strike 32 = .ok (.ireturn, 1) := by decide +kernel
theorem dX11_strike_33 : decode cX11_strike 33 = .ok (.aload_n 0, 1) := by decide +kernel
theorem dX11_strike_34 : decode cX11_strike 34 = .ok (.getfield 144, 3) := by decide +kernel
theorem dX11_strike_37 : decode cX11_strike 37 = .ok (.bipush 40, 2) := by decide +kernel
theorem dX11_strike_39 : decode cX11_strike 39 = .ok (.if_icmp .ne 6, 3) := by decide +kernel
theorem dX11_strike_42 : decode cX11_strike 42 = .ok (.bipush (-2), 2) := by decide +kernel
theorem dX11_strike_44 : decode cX11_strike 44 = .ok (.ireturn, 1) := by decide +kernel
theorem dX11_strike_45 : decode cX11_strike 45 = .ok (.aload_n 0, 1) := by decide +kernel
theorem dX11_strike_46 : decode cX11_strike 46 = .ok (.invokevirtual 184, 3) := by decide +kernel
theorem dX11_strike_49 : decode cX11_strike 49 = .ok (.aload_n 0, 1) := by decide +kernel
theorem dX11_strike_50 : decode cX11_strike 50 = .ok (.getfield 51, 3) := by decide +kernel
theorem dX11_strike_53 : decode cX11_strike 53 = .ok (.bipush 16, 2) := by decide +kernel
theorem dX11_strike_55 : decode cX11_strike 55 = .ok (.iconst 1, 1) := by decide +kernel
theorem dX11_strike_56 : decode cX11_strike 56 = .ok (.iastore, 1) := by decide +kernel
theorem dX11_strike_57 : decode cX11_strike 57 = .ok (.aload_n 0, 1) := by decide +kernel
theorem dX11_strike_58 : decode cX11_strike 58 = .ok (.getfield 51, 3) := by decide +kernel
theorem dX11_strike_61 : decode cX11_strike 61 = .ok (.bipush 10, 2) := by decide +kernel
theorem dX11_strike_63 : decode cX11_strike 63 = .ok (.iload_n 1, 1) := by decide +kernel
theorem dX11_strike_64 : decode cX11_strike 64 = .ok (.iadd, 1) := by decide +kernel
theorem dX11_strike_65 : decode cX11_strike 65 = .ok (.iconst 1, 1) := by decide +kernel
theorem dX11_strike_66 : decode cX11_strike 66 = .ok (.iastore, 1) := by decide +kernel
theorem dX11_strike_67 : decode cX11_strike 67 = .ok (.iconst 1, 1) := by decide +kernel
theorem dX11_strike_68 : decode cX11_strike 68 = .ok (.ireturn, 1) := by decide +kernel
theorem dX11_carry_0 : decode cX11_carry 0 = .ok (.aload_n 0, 1) := by decide +kernel
theorem dX11_carry_1 : decode cX11_carry 1 = .ok (.iload_n 1, 1) := by decide +kernel
theorem dX11_carry_2 : decode cX11_carry 2 = .ok (.invokevirtual 172, 3) := by decide +kernel
theorem dX11_carry_5 : decode cX11_carry 5 = .ok (.ifCond .eq 16, 3) := by decide +kernel
theorem dX11_carry_8 : decode cX11_carry 8 = .ok (.aload_n 0, 1) := by decide +kernel
theorem dX11_carry_9 : decode cX11_carry 9 = .ok (.iload_n 2, 1) := by decide +kernel
theorem dX11_carry_10 : decode cX11_carry 10 = .ok (.invokevirtual 172, 3) := by decide +kernel
theorem dX11_carry_13 : decode cX11_carry 13 = .ok (.ifCond .eq 8, 3) := by decide +kernel
theorem dX11_carry_16 : decode cX11_carry 16 = .ok (.iload_n 1, 1) := by decide +kernel
theorem dX11_carry_17 : decode cX11_carry 17 = .ok (.iload_n 2, 1) := by decide +kernel
theorem dX11_carry_18 : decode cX11_carry 18 = .ok (.if_icmp .ne 5, 3) := by decide +kernel
theorem dX11_carry_21 : decode cX11_carry 21 = .ok (.iconst (-1), 1) := by decide +kernel
theorem dX11_carry_22 : decode cX11_carry 22 = .ok (.ireturn, 1) := by decide +kernel
theorem dX11_carry_23 : decode cX11_carry 23 = .ok (.aload_n 0, 1) := by decide +kernel
theorem dX11_carry_24 : decode cX11_carry 24 = .ok (.iconst 0, 1) := by decide +kernel
theorem dX11_carry_25 : decode cX11_carry 25 = .ok (.iload_n 1, 1) := by decide +kernel
theorem dX11_carry_26 : decode cX11_carry 26 = .ok (.iload_n 2, 1) := by decide +kernel
theorem dX11_carry_27 : decode cX11_carry 27 = .ok (.invokevirtual 187, 3) := by decide +kernel
theorem dX11_carry_30 : decode cX11_carry 30 = .ok (.ifCond .ne 6, 3) := by decide +kernel
theorem dX11_carry_33 : decode cX11_carry 33 = .ok (.bipush (-4), 2) := by decide +kernel
theorem dX11_carry_35 : decode cX11_carry 35 = .ok (.ireturn, 1) := by decide +kernel
theorem dX11_carry_36 : decode cX11_carry 36 = .ok (.aload_n 0, 1) := by decide +kernel
theorem dX11_carry_37 : decode cX11_carry 37 = .ok (.getfield 144, 3) := by decide +kernel
theorem dX11_carry_40 : decode cX11_carry 40 = .ok (.bipush 40, 2) := by decide +kernel
theorem dX11_carry_42 : decode cX11_carry 42 = .ok (.if_icmp .ne 6, 3) := by decide +kernel
theorem dX11_carry_45 : decode cX11_carry 45 = .ok (.bipush (-2), 2) := by decide +kernel
theorem dX11_carry_47 : decode cX11_carry 47 = .ok (.ireturn, 1) := by decide +kernel
theorem dX11_carry_48 : decode cX11_carry 48 = .ok (.aload_n 0, 1) := by decide +kernel
theorem dX11_carry_49 : decode cX11_carry 49 = .ok (.invokevirtual 184, 3) := by decide +kernel
theorem dX11_carry_52 : decode cX11_carry 52 = .ok (.aload_n 0, 1) := by decide +kernel
theorem dX11_carry_53 : decode cX11_carry 53 = .ok (.iconst 0, 1) := by decide +kernel
theorem dX11_carry_54 : decode cX11_carry 54 = .ok (.iload_n 2, 1) := by decide +kernel
theorem dX11_carry_55 : decode cX11_carry 55 = .ok (.invokevirtual 190, 3) := by decide +kernel
theorem dX11_carry_58 : decode cX11_carry 58 = .ok (.aload_n 0, 1) := by decide +kernel
theorem dX11_carry_59 : decode cX11_carry 59 = .ok (.iconst 0, 1) := by decide +kernel
theorem dX11_carry_60 : decode cX11_carry 60 = .ok (.invokevirtual 163, 3) := by decide +kernel
theorem dX11_carry_63 : decode cX11_carry 63 = .ok (.invokestatic 194, 3) := by decide +kernel
theorem dX11_carry_66 : decode cX11_carry 66 = .ok (.ireturn, 1) := by decide +kernel
theorem dX11_hour_0 : decode cX11_hour 0 = .ok (.aload_n 0, 1) := by decide +kernel
theorem dX11_hour_1 : decode cX11_hour 1 = .ok (.getfield 138, 3) := by decide +kernel
theorem dX11_hour_4 : decode cX11_hour 4 = .ok (.ifCond .ne 6, 3) := by decide +kernel
theorem dX11_hour_7 : decode cX11_hour 7 = .ok (.bipush (-4), 2) := by decide +kernel
theorem dX11_hour_9 : decode cX11_hour 9 = .ok (.ireturn, 1) := by decide +kernel
theorem dX11_hour_10 : decode cX11_hour 10 = .ok (.aload_n 0, 1) := by decide +kernel
theorem dX11_hour_11 : decode cX11_hour 11 = .ok (.getfield 144, 3) := by decide +kernel
theorem dX11_hour_14 : decode cX11_hour 14 = .ok (.bipush 40, 2) := by decide +kernel
theorem dX11_hour_16 : decode cX11_hour 16 = .ok (.if_icmp .ne 6, 3) := by decide +kernel
theorem dX11_hour_19 : decode cX11_hour 19 = .ok (.bipush (-2), 2) := by decide +kernel
theorem dX11_hour_21 : decode cX11_hour 21 = .ok (.ireturn, 1) := by decide +kernel
theorem dX11_hour_22 : decode cX11_hour 22 = .ok (.aload_n 0, 1) := by decide +kernel
theorem dX11_hour_23 : decode cX11_hour 23 = .ok (.invokevirtual 184, 3) := by decide +kernel
theorem dX11_hour_26 : decode cX11_hour 26 = .ok (.aload_n 0, 1) := by decide +kernel
theorem dX11_hour_27 : decode cX11_hour 27 = .ok (.iconst 0, 1) := by decide +kernel
theorem dX11_hour_28 : decode cX11_hour 28 = .ok (.invokevirtual 197, 3) := by decide +kernel
theorem dX11_hour_31 : decode cX11_hour 31 = .ok (.aload_n 0, 1) := by decide +kernel
theorem dX11_hour_32 : decode cX11_hour 32 = .ok (.iconst 0, 1) := by decide +kernel
theorem dX11_hour_33 : decode cX11_hour 33 = .ok (.invokevirtual 163, 3) := by decide +kernel
theorem dX11_hour_36 : decode cX11_hour 36 = .ok (.invokestatic 194, 3) := by decide +kernel
theorem dX11_hour_39 : decode cX11_hour 39 = .ok (.ireturn, 1) := by decide +kernel
theorem dX11_undo_0 : decode cX11_undo 0 = .ok (.iload_n 1, 1) := by decide +kernel
theorem dX11_undo_1 : decode cX11_undo 1 = .ok (.iconst 0, 1) := by decide +kernel
theorem dX11_undo_2 : decode cX11_undo 2 = .ok (.aload_n 0, 1) := by decide +kernel
theorem dX11_undo_3 : decode cX11_undo 3 = .ok (.getfield 144, 3) := by decide +kernel
theorem dX11_undo_6 : decode cX11_undo 6 = .ok (.invokestatic 83, 3) := by decide +kernel
theorem dX11_undo_9 : decode cX11_undo 9 = .ok (.ifCond .ne 5, 3) := by decide +kernel
theorem dX11_undo_12 : decode cX11_undo 12 = .ok (.iconst (-1), 1) := by decide +kernel
theorem dX11_undo_13 : decode cX11_undo 13 = .ok (.ireturn, 1) := by decide +kernel
theorem dX11_undo_14 : decode cX11_undo 14 = .ok (.aload_n 0, 1) := by decide +kernel
theorem dX11_undo_15 : decode cX11_undo 15 = .ok (.getfield 144, 3) := by decide +kernel
theorem dX11_undo_18 : decode cX11_undo 18 = .ok (.iload_n 1, 1) := by decide +kernel
theorem dX11_undo_19 : decode cX11_undo 19 = .ok (.isub, 1) := by decide +kernel
theorem dX11_undo_20 : decode cX11_undo 20 = .ok (.istore_n 2, 1) := by decide +kernel
theorem dX11_undo_21 : decode cX11_undo 21 = .ok (.iconst 0, 1) := by decide +kernel
theorem dX11_undo_22 : decode cX11_undo 22 = .ok (.istore_n 3, 1) := by decide +kernel
theorem dX11_undo_23 : decode cX11_undo 23 = .ok (.iload_n 3, 1) := by decide +kernel
theorem dX11_undo_24 : decode cX11_undo 24 = .ok (.bipush 18, 2) := by decide +kernel
theorem dX11_undo_26 : decode cX11_undo 26 = .ok (.if_icmp .ge 30, 3) := by decide +kernel
theorem dX11_undo_29 : decode cX11_undo 29 = .ok (.iload_n 2, 1) := by decide +kernel
theorem dX11_undo_30 : decode cX11_undo 30 = .ok (.ifCond .le 26, 3) := by decide +kernel
theorem dX11_undo_33 : decode cX11_undo 33 = .ok (.aload_n 0, 1) := by decide +kernel
theorem dX11_undo_34 : decode cX11_undo 34 = .ok (.getfield 51, 3) := by decide +kernel
theorem dX11_undo_37 : decode cX11_undo 37 = .ok (.iload_n 3, 1) := by decide +kernel
theorem dX11_undo_38 : decode cX11_undo 38 = .ok (.aload_n 0, 1) := by decide +kernel
theorem dX11_undo_39 : decode cX11_undo 39 = .ok (.getfield 54, 3) := by decide +kernel
theorem dX11_undo_42 : decode cX11_undo 42 = .ok (.bipush 18, 2) := by decide +kernel
theorem dX11_undo_44 : decode cX11_undo 44 = .ok (.iload_n 1, 1) := by decide +kernel
theorem dX11_undo_45 : decode cX11_undo 45 = .ok (.imul, 1) := by decide +kernel
theorem dX11_undo_46 : decode cX11_undo 46 = .ok (.iload_n 3, 1) := by decide +kernel
theorem dX11_undo_47 : decode cX11_undo 47 = .ok (.iadd, 1) := by decide +kernel
theorem dX11_undo_48 : decode cX11_undo 48 = .ok (.iaload, 1) := by decide +kernel
theorem dX11_undo_49 : decode cX11_undo 49 = .ok (.iastore, 1) := by decide +kernel
theorem dX11_undo_50 : decode cX11_undo 50 = .ok (.iinc 3 1, 3) := by decide +kernel
theorem dX11_undo_53 : decode cX11_undo 53 = .ok (.goto (-30), 3) := by decide +kernel
theorem dX11_undo_56 : decode cX11_undo 56 = .ok (.aload_n 0, 1) := by decide +kernel
theorem dX11_undo_57 : decode cX11_undo 57 = .ok (.iload_n 1, 1) := by decide +kernel
theorem dX11_undo_58 : decode cX11_undo 58 = .ok (.putfield 144, 3) := by decide +kernel
theorem dX11_undo_61 : decode cX11_undo 61 = .ok (.iload_n 2, 1) := by decide +kernel
theorem dX11_undo_62 : decode cX11_undo 62 = .ok (.ireturn, 1) := by decide +kernel
theorem dX11_keep_0 : decode cX11_keep 0 = .ok (.iload_n 1, 1) := by decide +kernel
theorem dX11_keep_1 : decode cX11_keep 1 = .ok (.iconst 0, 1) := by decide +kernel
theorem dX11_keep_2 : decode cX11_keep 2 = .ok (.iconst 2, 1) := by decide +kernel
theorem dX11_keep_3 : decode cX11_keep 3 = .ok (.invokestatic 83, 3) := by decide +kernel
theorem dX11_keep_6 : decode cX11_keep 6 = .ok (.ifCond .ne 5, 3) := by decide +kernel
theorem dX11_keep_9 : decode cX11_keep 9 = .ok (.iconst (-1), 1) := by decide +kernel
theorem dX11_keep_10 : decode cX11_keep 10 = .ok (.ireturn, 1) := by decide +kernel
theorem dX11_keep_11 : decode cX11_keep 11 = .ok (.aload_n 0, 1) := by decide +kernel
theorem dX11_keep_12 : decode cX11_keep 12 = .ok (.getfield 138, 3) := by decide +kernel
theorem dX11_keep_15 : decode cX11_keep 15 = .ok (.ifCond .ne 6, 3) := by decide +kernel
theorem dX11_keep_18 : decode cX11_keep 18 = .ok (.bipush (-4), 2) := by decide +kernel
theorem dX11_keep_20 : decode cX11_keep 20 = .ok (.ireturn, 1) := by decide +kernel
theorem dX11_keep_21 : decode cX11_keep 21 = .ok (.aload_n 0, 1) := by decide +kernel
theorem dX11_keep_22 : decode cX11_keep 22 = .ok (.getfield 57, 3) := by decide +kernel
theorem dX11_keep_25 : decode cX11_keep 25 = .ok (.iload_n 1, 1) := by decide +kernel
theorem dX11_keep_26 : decode cX11_keep 26 = .ok (.iconst 1, 1) := by decide +kernel
theorem dX11_keep_27 : decode cX11_keep 27 = .ok (.bastore, 1) := by decide +kernel
theorem dX11_keep_28 : decode cX11_keep 28 = .ok (.aload_n 0, 1) := by decide +kernel
theorem dX11_keep_29 : decode cX11_keep 29 = .ok (.getfield 61, 3) := by decide +kernel
theorem dX11_keep_32 : decode cX11_keep 32 = .ok (.iload_n 1, 1) := by decide +kernel
theorem dX11_keep_33 : decode cX11_keep 33 = .ok (.aload_n 0, 1) := by decide +kernel
theorem dX11_keep_34 : decode cX11_keep 34 = .ok (.getfield 144, 3) := by decide +kernel
theorem dX11_keep_37 : decode cX11_keep 37 = .ok (.iastore, 1) := by decide +kernel
theorem dX11_keep_38 : decode cX11_keep 38 = .ok (.iconst 0, 1) := by decide +kernel
theorem dX11_keep_39 : decode cX11_keep 39 = .ok (.istore_n 2, 1) := by decide +kernel
theorem dX11_keep_40 : decode cX11_keep 40 = .ok (.iload_n 2, 1) := by decide +kernel
theorem dX11_keep_41 : decode cX11_keep 41 = .ok (.bipush 18, 2) := by decide +kernel
theorem dX11_keep_43 : decode cX11_keep 43 = .ok (.if_icmp .ge 43, 3) := by decide +kernel
theorem dX11_keep_46 : decode cX11_keep 46 = .ok (.aload_n 0, 1) := by decide +kernel
theorem dX11_keep_47 : decode cX11_keep 47 = .ok (.getfield 64, 3) := by decide +kernel
theorem dX11_keep_50 : decode cX11_keep 50 = .ok (.bipush 18, 2) := by decide +kernel
theorem dX11_keep_52 : decode cX11_keep 52 = .ok (.iload_n 1, 1) := by decide +kernel
theorem dX11_keep_53 : decode cX11_keep 53 = .ok (.imul, 1) := by decide +kernel
theorem dX11_keep_54 : decode cX11_keep 54 = .ok (.iload_n 2, 1) := by decide +kernel
theorem dX11_keep_55 : decode cX11_keep 55 = .ok (.iadd, 1) := by decide +kernel
theorem dX11_keep_56 : decode cX11_keep 56 = .ok (.aload_n 0, 1) := by decide +kernel
theorem dX11_keep_57 : decode cX11_keep 57 = .ok (.getfield 48, 3) := by decide +kernel
theorem dX11_keep_60 : decode cX11_keep 60 = .ok (.iload_n 2, 1) := by decide +kernel
theorem dX11_keep_61 : decode cX11_keep 61 = .ok (.iaload, 1) := by decide +kernel
theorem dX11_keep_62 : decode cX11_keep 62 = .ok (.iastore, 1) := by decide +kernel
theorem dX11_keep_63 : decode cX11_keep 63 = .ok (.aload_n 0, 1) := by decide +kernel
theorem dX11_keep_64 : decode cX11_keep 64 = .ok (.getfield 67, 3) := by decide +kernel
theorem dX11_keep_67 : decode cX11_keep 67 = .ok (.bipush 18, 2) := by decide +kernel
theorem dX11_keep_69 : decode cX11_keep 69 = .ok (.iload_n 1, 1) := by decide +kernel
theorem dX11_keep_70 : decode cX11_keep 70 = .ok (.imul, 1) := by decide +kernel
theorem dX11_keep_71 : decode cX11_keep 71 = .ok (.iload_n 2, 1) := by decide +kernel
theorem dX11_keep_72 : decode cX11_keep 72 = .ok (.iadd, 1) := by decide +kernel
theorem dX11_keep_73 : decode cX11_keep 73 = .ok (.aload_n 0, 1) := by decide +kernel
theorem dX11_keep_74 : decode cX11_keep 74 = .ok (.getfield 51, 3) := by decide +kernel
theorem dX11_keep_77 : decode cX11_keep 77 = .ok (.iload_n 2, 1) := by decide +kernel
theorem dX11_keep_78 : decode cX11_keep 78 = .ok (.iaload, 1) := by decide +kernel
theorem dX11_keep_79 : decode cX11_keep 79 = .ok (.iastore, 1) := by decide +kernel
theorem dX11_keep_80 : decode cX11_keep 80 = .ok (.iinc 2 1, 3) := by decide +kernel
theorem dX11_keep_83 : decode cX11_keep 83 = .ok (.goto (-43), 3) := by decide +kernel
theorem dX11_keep_86 : decode cX11_keep 86 = .ok (.iconst 0, 1) := by decide +kernel
theorem dX11_keep_87 : decode cX11_keep 87 = .ok (.istore_n 2, 1) := by decide +kernel
theorem dX11_keep_88 : decode cX11_keep 88 = .ok (.iload_n 2, 1) := by decide +kernel
theorem dX11_keep_89 : decode cX11_keep 89 = .ok (.bipush 18, 2) := by decide +kernel
theorem dX11_keep_91 : decode cX11_keep 91 = .ok (.aload_n 0, 1) := by decide +kernel
theorem dX11_keep_92 : decode cX11_keep 92 = .ok (.getfield 144, 3) := by decide +kernel
theorem dX11_keep_95 : decode cX11_keep 95 = .ok (.imul, 1) := by decide +kernel
theorem dX11_keep_96 : decode cX11_keep 96 = .ok (.if_icmp .ge 27, 3) := by decide +kernel
theorem dX11_keep_99 : decode cX11_keep 99 = .ok (.aload_n 0, 1) := by decide +kernel
theorem dX11_keep_100 : decode cX11_keep 100 = .ok (.getfield 70, 3) := by decide +kernel
theorem dX11_keep_103 : decode cX11_keep 103 = .ok (.sipush 720, 3) := by decide +kernel
theorem dX11_keep_106 : decode cX11_keep 106 = .ok (.iload_n 1, 1) := by decide +kernel
theorem dX11_keep_107 : decode cX11_keep 107 = .ok (.imul, 1) := by decide +kernel
theorem dX11_keep_108 : decode cX11_keep 108 = .ok (.iload_n 2, 1) := by decide +kernel
theorem dX11_keep_109 : decode cX11_keep 109 = .ok (.iadd, 1) := by decide +kernel
theorem dX11_keep_110 : decode cX11_keep 110 = .ok (.aload_n 0, 1) := by decide +kernel
theorem dX11_keep_111 : decode cX11_keep 111 = .ok (.getfield 54, 3) := by decide +kernel
theorem dX11_keep_114 : decode cX11_keep 114 = .ok (.iload_n 2, 1) := by decide +kernel
theorem dX11_keep_115 : decode cX11_keep 115 = .ok (.iaload, 1) := by decide +kernel
theorem dX11_keep_116 : decode cX11_keep 116 = .ok (.iastore, 1) := by decide +kernel
theorem dX11_keep_117 : decode cX11_keep 117 = .ok (.iinc 2 1, 3) := by decide +kernel
theorem dX11_keep_120 : decode cX11_keep 120 = .ok (.goto (-32), 3) := by decide +kernel
theorem dX11_keep_123 : decode cX11_keep 123 = .ok (.aload_n 0, 1) := by decide +kernel
theorem dX11_keep_124 : decode cX11_keep 124 = .ok (.getfield 144, 3) := by decide +kernel
theorem dX11_keep_127 : decode cX11_keep 127 = .ok (.ireturn, 1) := by decide +kernel
theorem dX11_on_0 : decode cX11_on 0 = .ok (.iload_n 1, 1) := by decide +kernel
theorem dX11_on_1 : decode cX11_on 1 = .ok (.iconst 0, 1) := by decide +kernel
theorem dX11_on_2 : decode cX11_on 2 = .ok (.iconst 2, 1) := by decide +kernel
theorem dX11_on_3 : decode cX11_on 3 = .ok (.invokestatic 83, 3) := by decide +kernel
theorem dX11_on_6 : decode cX11_on 6 = .ok (.ifCond .ne 5, 3) := by decide +kernel
theorem dX11_on_9 : decode cX11_on 9 = .ok (.iconst (-1), 1) := by decide +kernel
theorem dX11_on_10 : decode cX11_on 10 = .ok (.ireturn, 1) := by decide +kernel
theorem dX11_on_11 : decode cX11_on 11 = .ok (.aload_n 0, 1) := by decide +kernel
theorem dX11_on_12 : decode cX11_on 12 = .ok (.getfield 57, 3) := by decide +kernel
theorem dX11_on_15 : decode cX11_on 15 = .ok (.iload_n 1, 1) := by decide +kernel
theorem dX11_on_16 : decode cX11_on 16 = .ok (.baload, 1) := by decide +kernel
theorem dX11_on_17 : decode cX11_on 17 = .ok (.ifCond .ne 9, 3) := by decide +kernel
theorem dX11_on_20 : decode cX11_on 20 = .ok (.aload_n 0, 1) := by decide +kernel
theorem dX11_on_21 : decode cX11_on 21 = .ok (.iconst 1, 1) := by decide +kernel
theorem dX11_on_22 : decode cX11_on 22 = .ok (.invokevirtual 97, 3) := by decide +kernel
theorem dX11_on_25 : decode cX11_on 25 = .ok (.ireturn, 1) := by decide +kernel
theorem dX11_on_26 : decode cX11_on 26 = .ok (.aload_n 0, 1) := by decide +kernel
theorem dX11_on_27 : decode cX11_on 27 = .ok (.aload_n 0, 1) := by decide +kernel
theorem dX11_on_28 : decode cX11_on 28 = .ok (.getfield 61, 3) := by decide +kernel
theorem dX11_on_31 : decode cX11_on 31 = .ok (.iload_n 1, 1) := by decide +kernel
theorem dX11_on_32 : decode cX11_on 32 = .ok (.iaload, 1) := by decide +kernel
theorem dX11_on_33 : decode cX11_on 33 = .ok (.putfield 144, 3) := by decide +kernel
theorem dX11_on_36 : decode cX11_on 36 = .ok (.iconst 0, 1) := by decide +kernel
theorem dX11_on_37 : decode cX11_on 37 = .ok (.istore_n 2, 1) := by decide +kernel
theorem dX11_on_38 : decode cX11_on 38 = .ok (.iload_n 2, 1) := by decide +kernel
theorem dX11_on_39 : decode cX11_on 39 = .ok (.bipush 18, 2) := by decide +kernel
theorem dX11_on_41 : decode cX11_on 41 = .ok (.if_icmp .ge 43, 3) := by decide +kernel
theorem dX11_on_44 : decode cX11_on 44 = .ok (.aload_n 0, 1) := by decide +kernel
theorem dX11_on_45 : decode cX11_on 45 = .ok (.getfield 48, 3) := by decide +kernel
theorem dX11_on_48 : decode cX11_on 48 = .ok (.iload_n 2, 1) := by decide +kernel
theorem dX11_on_49 : decode cX11_on 49 = .ok (.aload_n 0, 1) := by decide +kernel
theorem dX11_on_50 : decode cX11_on 50 = .ok (.getfield 64, 3) := by decide +kernel
theorem dX11_on_53 : decode cX11_on 53 = .ok (.bipush 18, 2) := by decide +kernel
theorem dX11_on_55 : decode cX11_on 55 = .ok (.iload_n 1, 1) := by decide +kernel
theorem dX11_on_56 : decode cX11_on 56 = .ok (.imul, 1) := by decide +kernel
theorem dX11_on_57 : decode cX11_on 57 = .ok (.iload_n 2, 1) := by decide +kernel
theorem dX11_on_58 : decode cX11_on 58 = .ok (.iadd, 1) := by decide +kernel
theorem dX11_on_59 : decode cX11_on 59 = .ok (.iaload, 1) := by decide +kernel
theorem dX11_on_60 : decode cX11_on 60 = .ok (.iastore, 1) := by decide +kernel
theorem dX11_on_61 : decode cX11_on 61 = .ok (.aload_n 0, 1) := by decide +kernel
theorem dX11_on_62 : decode cX11_on 62 = .ok (.getfield 51, 3) := by decide +kernel
theorem dX11_on_65 : decode cX11_on 65 = .ok (.iload_n 2, 1) := by decide +kernel
theorem dX11_on_66 : decode cX11_on 66 = .ok (.aload_n 0, 1) := by decide +kernel
theorem dX11_on_67 : decode cX11_on 67 = .ok (.getfield 67, 3) := by decide +kernel
theorem dX11_on_70 : decode cX11_on 70 = .ok (.bipush 18, 2) := by decide +kernel
theorem dX11_on_72 : decode cX11_on 72 = .ok (.iload_n 1, 1) := by decide +kernel
theorem dX11_on_73 : decode cX11_on 73 = .ok (.imul, 1) := by decide +kernel
theorem dX11_on_74 : decode cX11_on 74 = .ok (.iload_n 2, 1) := by decide +kernel
theorem dX11_on_75 : decode cX11_on 75 = .ok (.iadd, 1) := by decide +kernel
theorem dX11_on_76 : decode cX11_on 76 = .ok (.iaload, 1) := by decide +kernel
theorem dX11_on_77 : decode cX11_on 77 = .ok (.iastore, 1) := by decide +kernel
theorem dX11_on_78 : decode cX11_on 78 = .ok (.iinc 2 1, 3) := by decide +kernel
theorem dX11_on_81 : decode cX11_on 81 = .ok (.goto (-43), 3) := by decide +kernel
theorem dX11_on_84 : decode cX11_on 84 = .ok (.iconst 0, 1) := by decide +kernel
theorem dX11_on_85 : decode cX11_on 85 = .ok (.istore_n 2, 1) := by decide +kernel
theorem dX11_on_86 : decode cX11_on 86 = .ok (.iload_n 2, 1) := by decide +kernel
theorem dX11_on_87 : decode cX11_on 87 = .ok (.bipush 18, 2) := by decide +kernel
theorem dX11_on_89 : decode cX11_on 89 = .ok (.aload_n 0, 1) := by decide +kernel
theorem dX11_on_90 : decode cX11_on 90 = .ok (.getfield 144, 3) := by decide +kernel
theorem dX11_on_93 : decode cX11_on 93 = .ok (.imul, 1) := by decide +kernel
theorem dX11_on_94 : decode cX11_on 94 = .ok (.if_icmp .ge 27, 3) := by decide +kernel
theorem dX11_on_97 : decode cX11_on 97 = .ok (.aload_n 0, 1) := by decide +kernel
theorem dX11_on_98 : decode cX11_on 98 = .ok (.getfield 54, 3) := by decide +kernel
theorem dX11_on_101 : decode cX11_on 101 = .ok (.iload_n 2, 1) := by decide +kernel
theorem dX11_on_102 : decode cX11_on 102 = .ok (.aload_n 0, 1) := by decide +kernel
theorem dX11_on_103 : decode cX11_on 103 = .ok (.getfield 70, 3) := by decide +kernel
theorem dX11_on_106 : decode cX11_on 106 = .ok (.sipush 720, 3) := by decide +kernel
theorem dX11_on_109 : decode cX11_on 109 = .ok (.iload_n 1, 1) := by decide +kernel
theorem dX11_on_110 : decode cX11_on 110 = .ok (.imul, 1) := by decide +kernel
theorem dX11_on_111 : decode cX11_on 111 = .ok (.iload_n 2, 1) := by decide +kernel
theorem dX11_on_112 : decode cX11_on 112 = .ok (.iadd, 1) := by decide +kernel
theorem dX11_on_113 : decode cX11_on 113 = .ok (.iaload, 1) := by decide +kernel
theorem dX11_on_114 : decode cX11_on 114 = .ok (.iastore, 1) := by decide +kernel
theorem dX11_on_115 : decode cX11_on 115 = .ok (.iinc 2 1, 3) := by decide +kernel
theorem dX11_on_118 : decode cX11_on 118 = .ok (.goto (-32), 3) := by decide +kernel
theorem dX11_on_121 : decode cX11_on 121 = .ok (.aload_n 0, 1) := by decide +kernel
theorem dX11_on_122 : decode cX11_on 122 = .ok (.getfield 144, 3) := by decide +kernel
theorem dX11_on_125 : decode cX11_on 125 = .ok (.ireturn, 1) := by decide +kernel
theorem dX11_catching_0 : decode cX11_catching 0 = .ok (.iconst 0, 1) := by decide +kernel
theorem dX11_catching_1 : decode cX11_catching 1 = .ok (.istore_n 2, 1) := by decide +kernel
theorem dX11_catching_2 : decode cX11_catching 2 = .ok (.iconst 0, 1) := by decide +kernel
theorem dX11_catching_3 : decode cX11_catching 3 = .ok (.istore_n 3, 1) := by decide +kernel
theorem dX11_catching_4 : decode cX11_catching 4 = .ok (.iload_n 3, 1) := by decide +kernel
theorem dX11_catching_5 : decode cX11_catching 5 = .ok (.aload_n 0, 1) := by decide +kernel
theorem dX11_catching_6 : decode cX11_catching 6 = .ok (.getfield 138, 3) := by decide +kernel
theorem dX11_catching_9 : decode cX11_catching 9 = .ok (.if_icmp .ge 28, 3) := by decide +kernel
theorem dX11_catching_12 : decode cX11_catching 12 = .ok (.iload_n 2, 1) := by decide +kernel
theorem dX11_catching_13 : decode cX11_catching 13 = .ok (.aload_n 0, 1) := by decide +kernel
theorem dX11_catching_14 : decode cX11_catching 14 = .ok (.iload_n 1, 1) := by decide +kernel
theorem dX11_catching_15 : decode cX11_catching 15 = .ok (.iload_n 3, 1) := by decide +kernel
theorem dX11_catching_16 : decode cX11_catching 16 = .ok (.invokevirtual 151, 3) := by decide +kernel
theorem dX11_catching_19 : decode cX11_catching 19 = .ok (.ifCond .eq 9, 3) := by decide +kernel
theorem dX11_catching_22 : decode cX11_catching 22 = .ok (.iconst 1, 1) := by decide +kernel
theorem dX11_catching_23 : decode cX11_catching 23 = .ok (.iload_n 3, 1) := by decide +kernel
theorem dX11_catching_24 : decode cX11_catching 24 = .ok (.ishl, 1) := by decide +kernel
theorem dX11_catching_25 : decode cX11_catching 25 = .ok (.goto 4, 3) := by decide +kernel
theorem dX11_catching_28 : decode cX11_catching 28 = .ok (.iconst 0, 1) := by decide +kernel
theorem dX11_catching_29 : decode cX11_catching 29 = .ok (.ior, 1) := by decide +kernel
theorem dX11_catching_30 : decode cX11_catching 30 = .ok (.istore_n 2, 1) := by decide +kernel
theorem dX11_catching_31 : decode cX11_catching 31 = .ok (.iinc 3 1, 3) := by decide +kernel
theorem dX11_catching_34 : decode cX11_catching 34 = .ok (.goto (-30), 3) := by decide +kernel
theorem dX11_catching_37 : decode cX11_catching 37 = .ok (.iload_n 2, 1) := by decide +kernel
theorem dX11_catching_38 : decode cX11_catching 38 = .ok (.ireturn, 1) := by decide +kernel
theorem dX11_fires_0 : decode cX11_fires 0 = .ok (.aload_n 0, 1) := by decide +kernel
theorem dX11_fires_1 : decode cX11_fires 1 = .ok (.aload_n 0, 1) := by decide +kernel
theorem dX11_fires_2 : decode cX11_fires 2 = .ok (.iconst 0, 1) := by decide +kernel
theorem dX11_fires_3 : decode cX11_fires 3 = .ok (.invokevirtual 201, 3) := by decide +kernel
theorem dX11_fires_6 : decode cX11_fires 6 = .ok (.aload_n 0, 1) := by decide +kernel
theorem dX11_fires_7 : decode cX11_fires 7 = .ok (.iconst 0, 1) := by decide +kernel
theorem dX11_fires_8 : decode cX11_fires 8 = .ok (.invokevirtual 163, 3) := by decide +kernel
theorem dX11_fires_11 : decode cX11_fires 11 = .ok (.invokevirtual 105, 3) := by decide +kernel
theorem dX11_fires_14 : decode cX11_fires 14 = .ok (.ireturn, 1) := by decide +kernel
theorem dX11_reach_0 : decode cX11_reach 0 = .ok (.iconst 0, 1) := by decide +kernel
theorem dX11_reach_1 : decode cX11_reach 1 = .ok (.istore_n 1, 1) := by decide +kernel
theorem dX11_reach_2 : decode cX11_reach 2 = .ok (.iconst 0, 1) := by decide +kernel
theorem dX11_reach_3 : decode cX11_reach 3 = .ok (.istore_n 2, 1) := by decide +kernel
theorem dX11_reach_4 : decode cX11_reach 4 = .ok (.iload_n 2, 1) := by decide +kernel
theorem dX11_reach_5 : decode cX11_reach 5 = .ok (.aload_n 0, 1) := by decide +kernel
theorem dX11_reach_6 : decode cX11_reach 6 = .ok (.getfield 138, 3) := by decide +kernel
theorem dX11_reach_9 : decode cX11_reach 9 = .ok (.if_icmp .ge 45, 3) := by decide +kernel
theorem dX11_reach_12 : decode cX11_reach 12 = .ok (.iconst 0, 1) := by decide +kernel
theorem dX11_reach_13 : decode cX11_reach 13 = .ok (.istore_n 3, 1) := by decide +kernel
theorem dX11_reach_14 : decode cX11_reach 14 = .ok (.iload_n 3, 1) := by decide +kernel
theorem dX11_reach_15 : decode cX11_reach 15 = .ok (.aload_n 0, 1) := by decide +kernel
theorem dX11_reach_16 : decode cX11_reach 16 = .ok (.getfield 138, 3) := by decide +kernel
theorem dX11_reach_19 : decode cX11_reach 19 = .ok (.if_icmp .ge 29, 3) := by decide +kernel
theorem dX11_reach_22 : decode cX11_reach 22 = .ok (.iload_n 1, 1) := by decide +kernel
theorem dX11_reach_23 : decode cX11_reach 23 = .ok (.aload_n 0, 1) := by decide +kernel
theorem dX11_reach_24 : decode cX11_reach 24 = .ok (.iconst 0, 1) := by decide +kernel
theorem dX11_reach_25 : decode cX11_reach 25 = .ok (.iload_n 2, 1) := by decide +kernel
theorem dX11_reach_26 : decode cX11_reach 26 = .ok (.iload_n 3, 1) := by decide +kernel
theorem dX11_reach_27 : decode cX11_reach 27 = .ok (.invokevirtual 187, 3) := by decide +kernel
theorem dX11_reach_30 : decode cX11_reach 30 = .ok (.ifCond .eq 9, 3) := by decide +kernel
theorem dX11_reach_33 : decode cX11_reach 33 = .ok (.iconst 1, 1) := by decide +kernel
theorem dX11_reach_34 : decode cX11_reach 34 = .ok (.iload_n 3, 1) := by decide +kernel
theorem dX11_reach_35 : decode cX11_reach 35 = .ok (.ishl, 1) := by decide +kernel
theorem dX11_reach_36 : decode cX11_reach 36 = .ok (.goto 4, 3) := by decide +kernel
theorem dX11_reach_39 : decode cX11_reach 39 = .ok (.iconst 0, 1) := by decide +kernel
theorem dX11_reach_40 : decode cX11_reach 40 = .ok (.ior, 1) := by decide +kernel
theorem dX11_reach_41 : decode cX11_reach 41 = .ok (.istore_n 1, 1) := by decide +kernel
theorem dX11_reach_42 : decode cX11_reach 42 = .ok (.iinc 3 1, 3) := by decide +kernel
theorem dX11_reach_45 : decode cX11_reach 45 = .ok (.goto (-31), 3) := by decide +kernel
theorem dX11_reach_48 : decode cX11_reach 48 = .ok (.iinc 2 1, 3) := by decide +kernel
theorem dX11_reach_51 : decode cX11_reach 51 = .ok (.goto (-47), 3) := by decide +kernel
theorem dX11_reach_54 : decode cX11_reach 54 = .ok (.iload_n 1, 1) := by decide +kernel
theorem dX11_reach_55 : decode cX11_reach 55 = .ok (.ireturn, 1) := by decide +kernel
theorem dX11_outOf_0 : decode cX11_outOf 0 = .ok (.iconst 0, 1) := by decide +kernel
theorem dX11_outOf_1 : decode cX11_outOf 1 = .ok (.istore_n 2, 1) := by decide +kernel
theorem dX11_outOf_2 : decode cX11_outOf 2 = .ok (.aload_n 0, 1) := by decide +kernel
theorem dX11_outOf_3 : decode cX11_outOf 3 = .ok (.iconst 1, 1) := by decide +kernel
theorem dX11_outOf_4 : decode cX11_outOf 4 = .ok (.invokevirtual 163, 3) := by decide +kernel
theorem dX11_outOf_7 : decode cX11_outOf 7 = .ok (.iload_n 1, 1) := by decide +kernel
theorem dX11_outOf_8 : decode cX11_outOf 8 = .ok (.iand, 1) := by decide +kernel
theorem dX11_outOf_9 : decode cX11_outOf 9 = .ok (.ifCond .eq 14, 3) := by decide +kernel
theorem dX11_outOf_12 : decode cX11_outOf 12 = .ok (.aload_n 0, 1) := by decide +kernel
theorem dX11_outOf_13 : decode cX11_outOf 13 = .ok (.iconst 1, 1) := by decide +kernel
theorem dX11_outOf_14 : decode cX11_outOf 14 = .ok (.invokevirtual 197, 3) := by decide +kernel
theorem dX11_outOf_17 : decode cX11_outOf 17 = .ok (.iinc 2 1, 3) := by decide +kernel
theorem dX11_outOf_20 : decode cX11_outOf 20 = .ok (.goto (-18), 3) := by decide +kernel
theorem dX11_outOf_23 : decode cX11_outOf 23 = .ok (.iload_n 2, 1) := by decide +kernel
theorem dX11_outOf_24 : decode cX11_outOf 24 = .ok (.ireturn, 1) := by decide +kernel
theorem dX11_lasts_0 : decode cX11_lasts 0 = .ok (.aload_n 0, 1) := by decide +kernel
theorem dX11_lasts_1 : decode cX11_lasts 1 = .ok (.iload_n 1, 1) := by decide +kernel
theorem dX11_lasts_2 : decode cX11_lasts 2 = .ok (.invokevirtual 172, 3) := by decide +kernel
theorem dX11_lasts_5 : decode cX11_lasts 5 = .ok (.ifCond .ne 5, 3) := by decide +kernel
theorem dX11_lasts_8 : decode cX11_lasts 8 = .ok (.iconst (-1), 1) := by decide +kernel
theorem dX11_lasts_9 : decode cX11_lasts 9 = .ok (.ireturn, 1) := by decide +kernel
theorem dX11_lasts_10 : decode cX11_lasts 10 = .ok (.aload_n 0, 1) := by decide +kernel
theorem dX11_lasts_11 : decode cX11_lasts 11 = .ok (.iconst 0, 1) := by decide +kernel
theorem dX11_lasts_12 : decode cX11_lasts 12 = .ok (.iconst 1, 1) := by decide +kernel
theorem dX11_lasts_13 : decode cX11_lasts 13 = .ok (.invokevirtual 204, 3) := by decide +kernel
theorem dX11_lasts_16 : decode cX11_lasts 16 = .ok (.aload_n 0, 1) := by decide +kernel
theorem dX11_lasts_17 : decode cX11_lasts 17 = .ok (.iconst 1, 1) := by decide +kernel
theorem dX11_lasts_18 : decode cX11_lasts 18 = .ok (.iload_n 1, 1) := by decide +kernel
theorem dX11_lasts_19 : decode cX11_lasts 19 = .ok (.ishl, 1) := by decide +kernel
theorem dX11_lasts_20 : decode cX11_lasts 20 = .ok (.invokevirtual 207, 3) := by decide +kernel
theorem dX11_lasts_23 : decode cX11_lasts 23 = .ok (.ireturn, 1) := by decide +kernel
theorem dX11_everybody_0 : decode cX11_everybody 0 = .ok (.iconst 1, 1) := by decide +kernel
theorem dX11_everybody_1 : decode cX11_everybody 1 = .ok (.aload_n 0, 1) := by decide +kernel
theorem dX11_everybody_2 : decode cX11_everybody 2 = .ok (.getfield 138, 3) := by decide +kernel
theorem dX11_everybody_5 : decode cX11_everybody 5 = .ok (.ishl, 1) := by decide +kernel
theorem dX11_everybody_6 : decode cX11_everybody 6 = .ok (.iconst 1, 1) := by decide +kernel
theorem dX11_everybody_7 : decode cX11_everybody 7 = .ok (.isub, 1) := by decide +kernel
theorem dX11_everybody_8 : decode cX11_everybody 8 = .ok (.ireturn, 1) := by decide +kernel
theorem dX11_dark_0 : decode cX11_dark 0 = .ok (.aload_n 0, 1) := by decide +kernel
theorem dX11_dark_1 : decode cX11_dark 1 = .ok (.iconst 0, 1) := by decide +kernel
theorem dX11_dark_2 : decode cX11_dark 2 = .ok (.iconst 1, 1) := by decide +kernel
theorem dX11_dark_3 : decode cX11_dark 3 = .ok (.invokevirtual 204, 3) := by decide +kernel
theorem dX11_dark_6 : decode cX11_dark 6 = .ok (.aload_n 0, 1) := by decide +kernel
theorem dX11_dark_7 : decode cX11_dark 7 = .ok (.aload_n 0, 1) := by decide +kernel
theorem dX11_dark_8 : decode cX11_dark 8 = .ok (.invokevirtual 210, 3) := by decide +kernel
theorem dX11_dark_11 : decode cX11_dark 11 = .ok (.invokevirtual 207, 3) := by decide +kernel
theorem dX11_dark_14 : decode cX11_dark 14 = .ok (.ireturn, 1) := by decide +kernel
theorem dX11_worst_0 : decode cX11_worst 0 = .ok (.iload_n 1, 1) := by decide +kernel
theorem dX11_worst_1 : decode cX11_worst 1 = .ok (.iconst 1, 1) := by decide +kernel
theorem dX11_worst_2 : decode cX11_worst 2 = .ok (.bipush 20, 2) := by decide +kernel
theorem dX11_worst_4 : decode cX11_worst 4 = .ok (.invokestatic 83, 3) := by decide +kernel
theorem dX11_worst_7 : decode cX11_worst 7 = .ok (.ifCond .ne 5, 3) := by decide +kernel
theorem dX11_worst_10 : decode cX11_worst 10 = .ok (.iconst (-1), 1) := by decide +kernel
theorem dX11_worst_11 : decode cX11_worst 11 = .ok (.ireturn, 1) := by decide +kernel
theorem dX11_worst_12 : decode cX11_worst 12 = .ok (.aload_n 0, 1) := by decide +kernel
theorem dX11_worst_13 : decode cX11_worst 13 = .ok (.getfield 138, 3) := by decide +kernel
theorem dX11_worst_16 : decode cX11_worst 16 = .ok (.ifCond .ne 6, 3) := by decide +kernel
theorem dX11_worst_19 : decode cX11_worst 19 = .ok (.bipush (-4), 2) := by decide +kernel
theorem dX11_worst_21 : decode cX11_worst 21 = .ok (.ireturn, 1) := by decide +kernel
theorem dX11_worst_22 : decode cX11_worst 22 = .ok (.aload_n 0, 1) := by decide +kernel
theorem dX11_worst_23 : decode cX11_worst 23 = .ok (.iconst 0, 1) := by decide +kernel
theorem dX11_worst_24 : decode cX11_worst 24 = .ok (.iconst 1, 1) := by decide +kernel
theorem dX11_worst_25 : decode cX11_worst 25 = .ok (.invokevirtual 204, 3) := by decide +kernel
theorem dX11_worst_28 : decode cX11_worst 28 = .ok (.iconst 0, 1) := by decide +kernel
theorem dX11_worst_29 : decode cX11_worst 29 = .ok (.istore_n 2, 1) := by decide +kernel
theorem dX11_worst_30 : decode cX11_worst 30 = .ok (.bipush 6, 2) := by decide +kernel
theorem dX11_worst_32 : decode cX11_worst 32 = .ok (.istore_n 3, 1) := by decide +kernel
theorem dX11_worst_33 : decode cX11_worst 33 = .ok (.iconst 1, 1) := by decide +kernel
theorem dX11_worst_34 : decode cX11_worst 34 = .ok (.istore 4, 2) := by decide +kernel
theorem dX11_worst_36 : decode cX11_worst 36 = .ok (.iload 4, 2) := by decide +kernel
theorem dX11_worst_38 : decode cX11_worst 38 = .ok (.iload_n 1, 1) := by decide +kernel
theorem dX11_worst_39 : decode cX11_worst 39 = .ok (.if_icmp .gt 50, 3) := by decide +kernel
theorem dX11_worst_42 : decode cX11_worst 42 = .ok (.aload_n 0, 1) := by decide +kernel
theorem dX11_worst_43 : decode cX11_worst 43 = .ok (.iconst 1, 1) := by decide +kernel
theorem dX11_worst_44 : decode cX11_worst 44 = .ok (.invokevirtual 197, 3) := by decide +kernel
theorem dX11_worst_47 : decode cX11_worst 47 = .ok (.aload_n 0, 1) := by decide +kernel
theorem dX11_worst_48 : decode cX11_worst 48 = .ok (.iconst 1, 1) := by decide +kernel
theorem dX11_worst_49 : decode cX11_worst 49 = .ok (.invokevirtual 163, 3) := by decide +kernel
theorem dX11_worst_52 : decode cX11_worst 52 = .ok (.invokestatic 194, 3) := by decide +kernel
theorem dX11_worst_55 : decode cX11_worst 55 = .ok (.istore 5, 2) := by decide +kernel
theorem dX11_worst_57 : decode cX11_worst 57 = .ok (.iload 5, 2) := by decide +kernel
theorem dX11_worst_59 : decode cX11_worst 59 = .ok (.iload_n 3, 1) := by decide +kernel
theorem dX11_worst_60 : decode cX11_worst 60 = .ok (.if_icmp .ge 8, 3) := by decide +kernel
theorem dX11_worst_63 : decode cX11_worst 63 = .ok (.iload 4, 2) := by decide +kernel
theorem dX11_worst_65 : decode cX11_worst 65 = .ok (.goto 4, 3) := by decide +kernel
theorem dX11_worst_68 : decode cX11_worst 68 = .ok (.iload_n 2, 1) := by decide +kernel
theorem dX11_worst_69 : decode cX11_worst 69 = .ok (.istore_n 2, 1) := by decide +kernel
theorem dX11_worst_70 : decode cX11_worst 70 = .ok (.iload 5, 2) := by decide +kernel
theorem dX11_worst_72 : decode cX11_worst 72 = .ok (.iload_n 3, 1) := by decide +kernel
theorem dX11_worst_73 : decode cX11_worst 73 = .ok (.if_icmp .ge 8, 3) := by decide +kernel
theorem dX11_worst_76 : decode cX11_worst 76 = .ok (.iload 5, 2) := by decide +kernel
theorem dX11_worst_78 : decode cX11_worst 78 = .ok (.goto 4, 3) := by decide +kernel
theorem dX11_worst_81 : decode cX11_worst 81 = .ok (.iload_n 3, 1) := by decide +kernel
theorem dX11_worst_82 : decode cX11_worst 82 = .ok (.istore_n 3, 1) := by decide +kernel
theorem dX11_worst_83 : decode cX11_worst 83 = .ok (.iinc 4 1, 3) := by decide +kernel
theorem dX11_worst_86 : decode cX11_worst 86 = .ok (.goto (-50), 3) := by decide +kernel
theorem dX11_worst_89 : decode cX11_worst 89 = .ok (.aload_n 0, 1) := by decide +kernel
theorem dX11_worst_90 : decode cX11_worst 90 = .ok (.iload_n 3, 1) := by decide +kernel
theorem dX11_worst_91 : decode cX11_worst 91 = .ok (.iload_n 2, 1) := by decide +kernel
theorem dX11_worst_92 : decode cX11_worst 92 = .ok (.invokevirtual 105, 3) := by decide +kernel
theorem dX11_worst_95 : decode cX11_worst 95 = .ok (.ireturn, 1) := by decide +kernel
theorem dX11_isNone_0 : decode cX11_isNone 0 = .ok (.iload_n 0, 1) := by decide +kernel
theorem dX11_isNone_1 : decode cX11_isNone 1 = .ok (.bipush 36, 2) := by decide +kernel
theorem dX11_isNone_3 : decode cX11_isNone 3 = .ok (.if_icmp .ne 7, 3) := by decide +kernel
theorem dX11_isNone_6 : decode cX11_isNone 6 = .ok (.iconst 1, 1) := by decide +kernel
theorem dX11_isNone_7 : decode cX11_isNone 7 = .ok (.goto 4, 3) := by decide +kernel
theorem dX11_isNone_10 : decode cX11_isNone 10 = .ok (.iconst 0, 1) := by decide +kernel
theorem dX11_isNone_11 : decode cX11_isNone 11 = .ok (.ireturn, 1) := by decide +kernel
theorem dX11_canMove_0 : decode cX11_canMove 0 = .ok (.iload_n 2, 1) := by decide +kernel
theorem dX11_canMove_1 : decode cX11_canMove 1 = .ok (.invokestatic 214, 3) := by decide +kernel
theorem dX11_canMove_4 : decode cX11_canMove 4 = .ok (.ifCond .ne 41, 3) := by decide +kernel
theorem dX11_canMove_7 : decode cX11_canMove 7 = .ok (.iload_n 2, 1) := by decide +kernel
theorem dX11_canMove_8 : decode cX11_canMove 8 = .ok (.bipush 6, 2) := by decide +kernel
theorem dX11_canMove_10 : decode cX11_canMove 10 = .ok (.idiv, 1) := by decide +kernel
theorem dX11_canMove_11 : decode cX11_canMove 11 = .ok (.aload_n 0, 1) := by decide +kernel
theorem dX11_canMove_12 : decode cX11_canMove 12 = .ok (.getfield 138, 3) := by decide +kernel
theorem dX11_canMove_15 : decode cX11_canMove 15 = .ok (.if_icmp .ge 34, 3) := by decide +kernel
theorem dX11_canMove_18 : decode cX11_canMove 18 = .ok (.iload_n 2, 1) := by decide +kernel
theorem dX11_canMove_19 : decode cX11_canMove 19 = .ok (.bipush 6, 2) := by decide +kernel
theorem dX11_canMove_21 : decode cX11_canMove 21 = .ok (.irem, 1) := by decide +kernel
theorem dX11_canMove_22 : decode cX11_canMove 22 = .ok (.aload_n 0, 1) := by decide +kernel
theorem dX11_canMove_23 : decode cX11_canMove 23 = .ok (.getfield 138, 3) := by decide +kernel
theorem dX11_canMove_26 : decode cX11_canMove 26 = .ok (.if_icmp .ge 23, 3) := by decide +kernel
theorem dX11_canMove_29 : decode cX11_canMove 29 = .ok (.aload_n 0, 1) := by decide +kernel
theorem dX11_canMove_30 : decode cX11_canMove 30 = .ok (.iload_n 1, 1) := by decide +kernel
theorem dX11_canMove_31 : decode cX11_canMove 31 = .ok (.iload_n 2, 1) := by decide +kernel
theorem dX11_canMove_32 : decode cX11_canMove 32 = .ok (.bipush 6, 2) := by decide +kernel
theorem dX11_canMove_34 : decode cX11_canMove 34 = .ok (.idiv, 1) := by decide +kernel
theorem dX11_canMove_35 : decode cX11_canMove 35 = .ok (.iload_n 2, 1) := by decide +kernel
theorem dX11_canMove_36 : decode cX11_canMove 36 = .ok (.bipush 6, 2) := by decide +kernel
theorem dX11_canMove_38 : decode cX11_canMove 38 = .ok (.irem, 1) := by decide +kernel
theorem dX11_canMove_39 : decode cX11_canMove 39 = .ok (.invokevirtual 187, 3) := by decide +kernel
theorem dX11_canMove_42 : decode cX11_canMove 42 = .ok (.ifCond .eq 7, 3) := by decide +kernel
theorem dX11_canMove_45 : decode cX11_canMove 45 = .ok (.iconst 1, 1) := by decide +kernel
theorem dX11_canMove_46 : decode cX11_canMove 46 = .ok (.goto 4, 3) := by decide +kernel
theorem dX11_canMove_49 : decode cX11_canMove 49 = .ok (.iconst 0, 1) := by decide +kernel
theorem dX11_canMove_50 : decode cX11_canMove 50 = .ok (.ireturn, 1) := by decide +kernel
theorem dX11_takes_0 : decode cX11_takes 0 = .ok (.aload_n 0, 1) := by decide +kernel
theorem dX11_takes_1 : decode cX11_takes 1 = .ok (.iconst 1, 1) := by decide +kernel
theorem dX11_takes_2 : decode cX11_takes 2 = .ok (.putfield 217, 3) := by decide +kernel
theorem dX11_takes_5 : decode cX11_takes 5 = .ok (.iconst 0, 1) := by decide +kernel
theorem dX11_takes_6 : decode cX11_takes 6 = .ok (.istore_n 2, 1) := by decide +kernel
theorem dX11_takes_7 : decode cX11_takes 7 = .ok (.iload_n 2, 1) := by decide +kernel
theorem dX11_takes_8 : decode cX11_takes 8 = .ok (.iload_n 1, 1) := by decide +kernel
theorem dX11_takes_9 : decode cX11_takes 9 = .ok (.if_icmp .ge 21, 3) := by decide +kernel
theorem dX11_takes_12 : decode cX11_takes 12 = .ok (.aload_n 0, 1) := by decide +kernel
theorem dX11_takes_13 : decode cX11_takes 13 = .ok (.getfield 76, 3) := by decide +kernel
theorem dX11_takes_16 : decode cX11_takes 16 = .ok (.iload_n 2, 1) := by decide +kernel
theorem dX11_takes_17 : decode cX11_takes 17 = .ok (.aload_n 0, 1) := by decide +kernel
theorem dX11_takes_18 : decode cX11_takes 18 = .ok (.getfield 73, 3) := by decide +kernel
theorem dX11_takes_21 : decode cX11_takes 21 = .ok (.iload_n 2, 1) := by decide +kernel
theorem dX11_takes_22 : decode cX11_takes 22 = .ok (.iaload, 1) := by decide +kernel
theorem dX11_takes_23 : decode cX11_takes 23 = .ok (.iastore, 1) := by decide +kernel
theorem dX11_takes_24 : decode cX11_takes 24 = .ok (.iinc 2 1, 3) := by decide +kernel
theorem dX11_takes_27 : decode cX11_takes 27 = .ok (.goto (-20), 3) := by decide +kernel
theorem dX11_takes_30 : decode cX11_takes 30 = .ok (.return_, 1) := by decide +kernel
theorem dX11_ends_0 : decode cX11_ends 0 = .ok (.aload_n 0, 1) := by decide +kernel
theorem dX11_ends_1 : decode cX11_ends 1 = .ok (.iload_n 3, 1) := by decide +kernel
theorem dX11_ends_2 : decode cX11_ends 2 = .ok (.invokevirtual 163, 3) := by decide +kernel
theorem dX11_ends_5 : decode cX11_ends 5 = .ok (.istore 4, 2) := by decide +kernel
theorem dX11_ends_7 : decode cX11_ends 7 = .ok (.aload_n 0, 1) := by decide +kernel
theorem dX11_ends_8 : decode cX11_ends 8 = .ok (.dup, 1) := by decide +kernel
theorem dX11_ends_9 : decode cX11_ends 9 = .ok (.getfield 221, 3) := by decide +kernel
theorem dX11_ends_12 : decode cX11_ends 12 = .ok (.iconst 1, 1) := by decide +kernel
theorem dX11_ends_13 : decode cX11_ends 13 = .ok (.iadd, 1) := by decide +kernel
theorem dX11_ends_14 : decode cX11_ends 14 = .ok (.putfield 221, 3) := by decide +kernel
theorem dX11_ends_17 : decode cX11_ends 17 = .ok (.aload_n 0, 1) := by decide +kernel
theorem dX11_ends_18 : decode cX11_ends 18 = .ok (.dup, 1) := by decide +kernel
theorem dX11_ends_19 : decode cX11_ends 19 = .ok (.getfield 224, 3) := by decide +kernel
theorem dX11_ends_22 : decode cX11_ends 22 = .ok (.iload 4, 2) := by decide +kernel
theorem dX11_ends_24 : decode cX11_ends 24 = .ok (.ior, 1) := by decide +kernel
theorem dX11_ends_25 : decode cX11_ends 25 = .ok (.putfield 224, 3) := by decide +kernel
theorem dX11_ends_28 : decode cX11_ends 28 = .ok (.aload_n 0, 1) := by decide +kernel
theorem dX11_ends_29 : decode cX11_ends 29 = .ok (.dup, 1) := by decide +kernel
theorem dX11_ends_30 : decode cX11_ends 30 = .ok (.getfield 227, 3) := by decide +kernel
theorem dX11_ends_33 : decode cX11_ends 33 = .ok (.iload 4, 2) := by decide +kernel
theorem dX11_ends_35 : decode cX11_ends 35 = .ok (.aload_n 0, 1) := by decide +kernel
theorem dX11_ends_36 : decode cX11_ends 36 = .ok (.getfield 230, 3) := by decide +kernel
theorem dX11_ends_39 : decode cX11_ends 39 = .ok (.invokestatic 166, 3) := by decide +kernel
theorem dX11_ends_42 : decode cX11_ends 42 = .ok (.ifCond .eq 7, 3) := by decide +kernel
theorem dX11_ends_45 : decode cX11_ends 45 = .ok (.iconst 1, 1) := by decide +kernel
theorem dX11_ends_46 : decode cX11_ends 46 = .ok (.goto 4, 3) := by decide +kernel
theorem dX11_ends_49 : decode cX11_ends 49 = .ok (.iconst 0, 1) := by decide +kernel
theorem dX11_ends_50 : decode cX11_ends 50 = .ok (.iadd, 1) := by decide +kernel
theorem dX11_ends_51 : decode cX11_ends 51 = .ok (.putfield 227, 3) := by decide +kernel
theorem dX11_ends_54 : decode cX11_ends 54 = .ok (.iload_n 1, 1) := by decide +kernel
theorem dX11_ends_55 : decode cX11_ends 55 = .ok (.tableswitch 108 1 4 #[29, 108, 56, 85], 29) := by decide +kernel
theorem dX11_ends_84 : decode cX11_ends 84 = .ok (.aload_n 0, 1) := by decide +kernel
theorem dX11_ends_85 : decode cX11_ends 85 = .ok (.getfield 217, 3) := by decide +kernel
theorem dX11_ends_88 : decode cX11_ends 88 = .ok (.ifCond .ne 75, 3) := by decide +kernel
theorem dX11_ends_91 : decode cX11_ends 91 = .ok (.iload 4, 2) := by decide +kernel
theorem dX11_ends_93 : decode cX11_ends 93 = .ok (.aload_n 0, 1) := by decide +kernel
theorem dX11_ends_94 : decode cX11_ends 94 = .ok (.getfield 230, 3) := by decide +kernel
theorem dX11_ends_97 : decode cX11_ends 97 = .ok (.invokestatic 166, 3) := by decide +kernel
theorem dX11_ends_100 : decode cX11_ends 100 = .ok (.ifCond .eq 63, 3) := by decide +kernel
theorem dX11_ends_103 : decode cX11_ends 103 = .ok (.aload_n 0, 1) := by decide +kernel
theorem dX11_ends_104 : decode cX11_ends 104 = .ok (.iload_n 2, 1) := by decide +kernel
theorem dX11_ends_105 : decode cX11_ends 105 = .ok (.invokevirtual 233, 3) := by decide +kernel
theorem dX11_ends_108 : decode cX11_ends 108 = .ok (.goto 55, 3) := by decide +kernel
theorem dX11_ends_111 : decode cX11_ends 111 = .ok (.iload 4, 2) := by decide +kernel
theorem dX11_ends_113 : decode cX11_ends 113 = .ok (.invokestatic 194, 3) := by decide +kernel
theorem dX11_ends_116 : decode cX11_ends 116 = .ok (.aload_n 0, 1) := by decide +kernel
theorem dX11_ends_117 : decode cX11_ends 117 = .ok (.getfield 236, 3) := by decide +kernel
theorem dX11_ends_120 : decode cX11_ends 120 = .ok (.if_icmp .le 43, 3) := by decide +kernel
theorem dX11_ends_123 : decode cX11_ends 123 = .ok (.aload_n 0, 1) := by decide +kernel
theorem dX11_ends_124 : decode cX11_ends 124 = .ok (.iload 4, 2) := by decide +kernel
theorem dX11_ends_126 : decode cX11_ends 126 = .ok (.invokestatic 194, 3) := by decide +kernel
theorem dX11_ends_129 : decode cX11_ends 129 = .ok (.putfield 236, 3) := by decide +kernel
theorem dX11_ends_132 : decode cX11_ends 132 = .ok (.aload_n 0, 1) := by decide +kernel
theorem dX11_ends_133 : decode cX11_ends 133 = .ok (.iload_n 2, 1) := by decide +kernel
theorem dX11_ends_134 : decode cX11_ends 134 = .ok (.invokevirtual 233, 3) := by decide +kernel
theorem dX11_ends_137 : decode cX11_ends 137 = .ok (.goto 26, 3) := by decide +kernel
theorem dX11_ends_140 : decode cX11_ends 140 = .ok (.aload_n 0, 1) := by decide +kernel
theorem dX11_ends_141 : decode cX11_ends 141 = .ok (.getfield 217, 3) := by decide +kernel
theorem dX11_ends_144 : decode cX11_ends 144 = .ok (.ifCond .ne 19, 3) := by decide +kernel
theorem dX11_ends_147 : decode cX11_ends 147 = .ok (.aload_n 0, 1) := by decide +kernel
theorem dX11_ends_148 : decode cX11_ends 148 = .ok (.iload_n 3, 1) := by decide +kernel
theorem dX11_ends_149 : decode cX11_ends 149 = .ok (.invokevirtual 239, 3) := by decide +kernel
theorem dX11_ends_152 : decode cX11_ends 152 = .ok (.ifCond .eq 11, 3) := by decide +kernel
theorem dX11_ends_155 : decode cX11_ends 155 = .ok (.aload_n 0, 1) := by decide +kernel
theorem dX11_ends_156 : decode cX11_ends 156 = .ok (.iload_n 2, 1) := by decide +kernel
theorem dX11_ends_157 : decode cX11_ends 157 = .ok (.invokevirtual 233, 3) := by decide +kernel
theorem dX11_ends_160 : decode cX11_ends 160 = .ok (.goto 3, 3) := by decide +kernel
theorem dX11_ends_163 : decode cX11_ends 163 = .ok (.return_, 1) := by decide +kernel
theorem dX11_isServed_0 : decode cX11_isServed 0 = .ok (.iconst 1, 1) := by decide +kernel
theorem dX11_isServed_1 : decode cX11_isServed 1 = .ok (.istore_n 2, 1) := by decide +kernel
theorem dX11_isServed_2 : decode cX11_isServed 2 = .ok (.iconst 0, 1) := by decide +kernel
theorem dX11_isServed_3 : decode cX11_isServed 3 = .ok (.istore_n 3, 1) := by decide +kernel
theorem dX11_isServed_4 : decode cX11_isServed 4 = .ok (.iload_n 3, 1) := by decide +kernel
theorem dX11_isServed_5 : decode cX11_isServed 5 = .ok (.aload_n 0, 1) := by decide +kernel
theorem dX11_isServed_6 : decode cX11_isServed 6 = .ok (.getfield 138, 3) := by decide +kernel
theorem dX11_isServed_9 : decode cX11_isServed 9 = .ok (.if_icmp .ge 42, 3) := by decide +kernel
theorem dX11_isServed_12 : decode cX11_isServed 12 = .ok (.iload_n 2, 1) := by decide +kernel
theorem dX11_isServed_13 : decode cX11_isServed 13 = .ok (.ifCond .eq 30, 3) := by decide +kernel
theorem dX11_isServed_16 : decode cX11_isServed 16 = .ok (.aload_n 0, 1) := by decide +kernel
theorem dX11_isServed_17 : decode cX11_isServed 17 = .ok (.getfield 39, 3) := by decide +kernel
theorem dX11_isServed_20 : decode cX11_isServed 20 = .ok (.iload_n 3, 1) := by decide +kernel
theorem dX11_isServed_21 : decode cX11_isServed 21 = .ok (.iaload, 1) := by decide +kernel
theorem dX11_isServed_22 : decode cX11_isServed 22 = .ok (.aload_n 0, 1) := by decide +kernel
theorem dX11_isServed_23 : decode cX11_isServed 23 = .ok (.iload_n 1, 1) := by decide +kernel
theorem dX11_isServed_24 : decode cX11_isServed 24 = .ok (.invokevirtual 157, 3) := by decide +kernel
theorem dX11_isServed_27 : decode cX11_isServed 27 = .ok (.if_icmp .ne 12, 3) := by decide +kernel
theorem dX11_isServed_30 : decode cX11_isServed 30 = .ok (.aload_n 0, 1) := by decide +kernel
theorem dX11_isServed_31 : decode cX11_isServed 31 = .ok (.iload_n 1, 1) := by decide +kernel
theorem dX11_isServed_32 : decode cX11_isServed 32 = .ok (.iload_n 3, 1) := by decide +kernel
theorem dX11_isServed_33 : decode cX11_isServed 33 = .ok (.invokevirtual 147, 3) := by decide +kernel
theorem dX11_isServed_36 : decode cX11_isServed 36 = .ok (.ifCond .eq 7, 3) := by decide +kernel
theorem dX11_isServed_39 : decode cX11_isServed 39 = .ok (.iconst 1, 1) := by decide +kernel
theorem dX11_isServed_40 : decode cX11_isServed 40 = .ok (.goto 4, 3) := by decide +kernel
theorem dX11_isServed_43 : decode cX11_isServed 43 = .ok (.iconst 0, 1) := by decide +kernel
theorem dX11_isServed_44 : decode cX11_isServed 44 = .ok (.istore_n 2, 1) := by decide +kernel
theorem dX11_isServed_45 : decode cX11_isServed 45 = .ok (.iinc 3 1, 3) := by decide +kernel
theorem dX11_isServed_48 : decode cX11_isServed 48 = .ok (.goto (-44), 3) := by decide +kernel
theorem dX11_isServed_51 : decode cX11_isServed 51 = .ok (.iload_n 2, 1) := by decide +kernel
theorem dX11_isServed_52 : decode cX11_isServed 52 = .ok (.ireturn, 1) := by decide +kernel
theorem dX11_layPlans_0 : decode cX11_layPlans 0 = .ok (.iconst 1, 1) := by decide +kernel
theorem dX11_layPlans_1 : decode cX11_layPlans 1 = .ok (.iload_n 2, 1) := by decide +kernel
theorem dX11_layPlans_2 : decode cX11_layPlans 2 = .ok (.iadd, 1) := by decide +kernel
theorem dX11_layPlans_3 : decode cX11_layPlans 3 = .ok (.istore 4, 2) := by decide +kernel
theorem dX11_layPlans_5 : decode cX11_layPlans 5 = .ok (.iload_n 2, 1) := by decide +kernel
theorem dX11_layPlans_6 : decode cX11_layPlans 6 = .ok (.iload_n 3, 1) := by decide +kernel
theorem dX11_layPlans_7 : decode cX11_layPlans 7 = .ok (.if_icmp .ne 12, 3) := by decide +kernel
theorem dX11_layPlans_10 : decode cX11_layPlans 10 = .ok (.aload_n 0, 1) := by decide +kernel
theorem dX11_layPlans_11 : decode cX11_layPlans 11 = .ok (.iload_n 1, 1) := by decide +kernel
theorem dX11_layPlans_12 : decode cX11_layPlans 12 = .ok (.iload_n 3, 1) := by decide +kernel
theorem dX11_layPlans_13 : decode cX11_layPlans 13 = .ok (.iload 4, 2) := by decide +kernel
theorem dX11_layPlans_15 : decode cX11_layPlans 15 = .ok (.invokevirtual 242, 3) := by decide +kernel
theorem dX11_layPlans_18 : decode cX11_layPlans 18 = .ok (.return_, 1) := by decide +kernel
theorem dX11_layPlans_19 : decode cX11_layPlans 19 = .ok (.iconst 0, 1) := by decide +kernel
theorem dX11_layPlans_20 : decode cX11_layPlans 20 = .ok (.istore 5, 2) := by decide +kernel
theorem dX11_layPlans_22 : decode cX11_layPlans 22 = .ok (.iload 5, 2) := by decide +kernel
theorem dX11_layPlans_24 : decode cX11_layPlans 24 = .ok (.bipush 36, 2) := by decide +kernel
theorem dX11_layPlans_26 : decode cX11_layPlans 26 = .ok (.if_icmp .gt 92, 3) := by decide +kernel
theorem dX11_layPlans_29 : decode cX11_layPlans 29 = .ok (.aload_n 0, 1) := by decide +kernel
theorem dX11_layPlans_30 : decode cX11_layPlans 30 = .ok (.iload 4, 2) := by decide +kernel
theorem dX11_layPlans_32 : decode cX11_layPlans 32 = .ok (.iload 5, 2) := by decide +kernel
theorem dX11_layPlans_34 : decode cX11_layPlans 34 = .ok (.invokevirtual 246, 3) := by decide +kernel
theorem dX11_layPlans_37 : decode cX11_layPlans 37 = .ok (.ifCond .eq 75, 3) := by decide +kernel
theorem dX11_layPlans_40 : decode cX11_layPlans 40 = .ok (.aload_n 0, 1) := by decide +kernel
theorem dX11_layPlans_41 : decode cX11_layPlans 41 = .ok (.iload 4, 2) := by decide +kernel
theorem dX11_layPlans_43 : decode cX11_layPlans 43 = .ok (.iload 4, 2) := by decide +kernel
theorem dX11_layPlans_45 : decode cX11_layPlans 45 = .ok (.iconst 1, 1) := by decide +kernel
theorem dX11_layPlans_46 : decode cX11_layPlans 46 = .ok (.iadd, 1) := by decide +kernel
theorem dX11_layPlans_47 : decode cX11_layPlans 47 = .ok (.invokevirtual 204, 3) := by decide +kernel
theorem dX11_layPlans_50 : decode cX11_layPlans 50 = .ok (.iload 5, 2) := by decide +kernel
theorem dX11_layPlans_52 : decode cX11_layPlans 52 = .ok (.invokestatic 214, 3) := by decide +kernel
theorem dX11_layPlans_55 : decode cX11_layPlans 55 = .ok (.ifCond .ne 16, 3) := by decide +kernel
theorem dX11_layPlans_58 : decode cX11_layPlans 58 = .ok (.aload_n 0, 1) := by decide +kernel
theorem dX11_layPlans_59 : decode cX11_layPlans 59 = .ok (.iload 4, 2) := by decide +kernel
theorem dX11_layPlans_61 : decode cX11_layPlans 61 = .ok (.iconst 1, 1) := by decide +kernel
theorem dX11_layPlans_62 : decode cX11_layPlans 62 = .ok (.iadd, 1) := by decide +kernel
theorem dX11_layPlans_63 : decode cX11_layPlans 63 = .ok (.iload 5, 2) := by decide +kernel
theorem dX11_layPlans_65 : decode cX11_layPlans 65 = .ok (.bipush 6, 2) := by decide +kernel
theorem dX11_layPlans_67 : decode cX11_layPlans 67 = .ok (.irem, 1) := by decide +kernel
theorem dX11_layPlans_68 : decode cX11_layPlans 68 = .ok (.invokevirtual 190, 3) := by decide +kernel
theorem dX11_layPlans_71 : decode cX11_layPlans 71 = .ok (.iload_n 1, 1) := by decide +kernel
theorem dX11_layPlans_72 : decode cX11_layPlans 72 = .ok (.iconst 4, 1) := by decide +kernel
theorem dX11_layPlans_73 : decode cX11_layPlans 73 = .ok (.if_icmp .ne 14, 3) := by decide +kernel
theorem dX11_layPlans_76 : decode cX11_layPlans 76 = .ok (.aload_n 0, 1) := by decide +kernel
theorem dX11_layPlans_77 : decode cX11_layPlans 77 = .ok (.iload 4, 2) := by decide +kernel
theorem dX11_layPlans_79 : decode cX11_layPlans 79 = .ok (.iconst 1, 1) := by decide +kernel
theorem dX11_layPlans_80 : decode cX11_layPlans 80 = .ok (.iadd, 1) := by decide +kernel
theorem dX11_layPlans_81 : decode cX11_layPlans 81 = .ok (.invokevirtual 239, 3) := by decide +kernel
theorem dX11_layPlans_84 : decode cX11_layPlans 84 = .ok (.ifCond .eq 28, 3) := by decide +kernel
theorem dX11_layPlans_87 : decode cX11_layPlans 87 = .ok (.aload_n 0, 1) := by decide +kernel
theorem dX11_layPlans_88 : decode cX11_layPlans 88 = .ok (.iload 4, 2) := by decide +kernel
theorem dX11_layPlans_90 : decode cX11_layPlans 90 = .ok (.iconst 1, 1) := by decide +kernel
theorem dX11_layPlans_91 : decode cX11_layPlans 91 = .ok (.iadd, 1) := by decide +kernel
theorem dX11_layPlans_92 : decode cX11_layPlans 92 = .ok (.invokevirtual 197, 3) := by decide +kernel
theorem dX11_layPlans_95 : decode cX11_layPlans 95 = .ok (.aload_n 0, 1) := by decide +kernel
theorem dX11_layPlans_96 : decode cX11_layPlans 96 = .ok (.getfield 73, 3) := by decide +kernel
theorem dX11_layPlans_99 : decode cX11_layPlans 99 = .ok (.iload_n 2, 1) := by decide +kernel
theorem dX11_layPlans_100 : decode cX11_layPlans 100 = .ok (.iload 5, 2) := by decide +kernel
theorem dX11_layPlans_102 : decode cX11_layPlans 102 = .ok (.iastore, 1) := by decide +kernel
theorem dX11_layPlans_103 : decode cX11_layPlans 103 = .ok (.aload_n 0, 1) := by decide +kernel
theorem dX11_layPlans_104 : decode cX11_layPlans 104 = .ok (.iload_n 1, 1) := by decide +kernel
theorem dX11_layPlans_105 : decode cX11_layPlans 105 = .ok (.iload_n 2, 1) := by decide +kernel
theorem dX11_layPlans_106 : decode cX11_layPlans 106 = .ok (.iconst 1, 1) := by decide +kernel
theorem dX11_layPlans_107 : decode cX11_layPlans 107 = .ok (.iadd, 1) := by decide +kernel
theorem dX11_layPlans_108 : decode cX11_layPlans 108 = .ok (.iload_n 3, 1) := by decide +kernel
theorem dX11_layPlans_109 : decode cX11_layPlans 109 = .ok (.invokevirtual 249, 3) := by decide +kernel
theorem dX11_layPlans_112 : decode cX11_layPlans 112 = .ok (.iinc 5 1, 3) := by decide +kernel
theorem dX11_layPlans_115 : decode cX11_layPlans 115 = .ok (.goto (-93), 3) := by decide +kernel
theorem dX11_layPlans_118 : decode cX11_layPlans 118 = .ok (.return_, 1) := by decide +kernel
theorem dX11_allPlans_0 : decode cX11_allPlans 0 = .ok (.aload_n 0, 1) := by decide +kernel
theorem dX11_allPlans_1 : decode cX11_allPlans 1 = .ok (.iconst 0, 1) := by decide +kernel
theorem dX11_allPlans_2 : decode cX11_allPlans 2 = .ok (.putfield 217, 3) := by decide +kernel
theorem dX11_allPlans_5 : decode cX11_allPlans 5 = .ok (.aload_n 0, 1) := by decide +kernel
theorem dX11_allPlans_6 : decode cX11_allPlans 6 = .ok (.iconst (-1), 1) := by decide +kernel
theorem dX11_allPlans_7 : decode cX11_allPlans 7 = .ok (.putfield 236, 3) := by decide +kernel
theorem dX11_allPlans_10 : decode cX11_allPlans 10 = .ok (.aload_n 0, 1) := by decide +kernel
theorem dX11_allPlans_11 : decode cX11_allPlans 11 = .ok (.iconst 0, 1) := by decide +kernel
theorem dX11_allPlans_12 : decode cX11_allPlans 12 = .ok (.putfield 224, 3) := by decide +kernel
theorem dX11_allPlans_15 : decode cX11_allPlans 15 = .ok (.aload_n 0, 1) := by decide +kernel
theorem dX11_allPlans_16 : decode cX11_allPlans 16 = .ok (.iconst 0, 1) := by decide +kernel
theorem dX11_allPlans_17 : decode cX11_allPlans 17 = .ok (.putfield 221, 3) := by decide +kernel
theorem dX11_allPlans_20 : decode cX11_allPlans 20 = .ok (.aload_n 0, 1) := by decide +kernel
theorem dX11_allPlans_21 : decode cX11_allPlans 21 = .ok (.iconst 0, 1) := by decide +kernel
theorem dX11_allPlans_22 : decode cX11_allPlans 22 = .ok (.putfield 227, 3) := by decide +kernel
theorem dX11_allPlans_25 : decode cX11_allPlans 25 = .ok (.aload_n 0, 1) := by decide +kernel
theorem dX11_allPlans_26 : decode cX11_allPlans 26 = .ok (.iload_n 3, 1) := by decide +kernel
theorem dX11_allPlans_27 : decode cX11_allPlans 27 = .ok (.putfield 230, 3) := by decide +kernel
theorem dX11_allPlans_30 : decode cX11_allPlans 30 = .ok (.aload_n 0, 1) := by decide +kernel
theorem dX11_allPlans_31 : decode cX11_allPlans 31 = .ok (.iconst 0, 1) := by decide +kernel
theorem dX11_allPlans_32 : decode cX11_allPlans 32 = .ok (.iconst 1, 1) := by decide +kernel
theorem dX11_allPlans_33 : decode cX11_allPlans 33 = .ok (.invokevirtual 204, 3) := by decide +kernel
theorem dX11_allPlans_36 : decode cX11_allPlans 36 = .ok (.aload_n 0, 1) := by decide +kernel
theorem dX11_allPlans_37 : decode cX11_allPlans 37 = .ok (.iload_n 1, 1) := by decide +kernel
theorem dX11_allPlans_38 : decode cX11_allPlans 38 = .ok (.iconst 0, 1) := by decide +kernel
theorem dX11_allPlans_39 : decode cX11_allPlans 39 = .ok (.iload_n 2, 1) := by decide +kernel
theorem dX11_allPlans_40 : decode cX11_allPlans 40 = .ok (.invokevirtual 249, 3) := by decide +kernel
theorem dX11_allPlans_43 : decode cX11_allPlans 43 = .ok (.return_, 1) := by decide +kernel
theorem dX11_embers_0 : decode cX11_embers 0 = .ok (.iconst 0, 1) := by decide +kernel
theorem dX11_embers_1 : decode cX11_embers 1 = .ok (.istore_n 2, 1) := by decide +kernel
theorem dX11_embers_2 : decode cX11_embers 2 = .ok (.iconst 0, 1) := by decide +kernel
theorem dX11_embers_3 : decode cX11_embers 3 = .ok (.istore_n 3, 1) := by decide +kernel
theorem dX11_embers_4 : decode cX11_embers 4 = .ok (.iload_n 3, 1) := by decide +kernel
theorem dX11_embers_5 : decode cX11_embers 5 = .ok (.iload_n 1, 1) := by decide +kernel
theorem dX11_embers_6 : decode cX11_embers 6 = .ok (.if_icmp .ge 29, 3) := by decide +kernel
theorem dX11_embers_9 : decode cX11_embers 9 = .ok (.iload_n 2, 1) := by decide +kernel
theorem dX11_embers_10 : decode cX11_embers 10 = .ok (.aload_n 0, 1) := by decide +kernel
theorem dX11_embers_11 : decode cX11_embers 11 = .ok (.getfield 76, 3) := by decide +kernel
theorem dX11_embers_14 : decode cX11_embers 14 = .ok (.iload_n 3, 1) := by decide +kernel
theorem dX11_embers_15 : decode cX11_embers 15 = .ok (.iaload, 1) := by decide +kernel
theorem dX11_embers_16 : decode cX11_embers 16 = .ok (.invokestatic 214, 3) := by decide +kernel
theorem dX11_embers_19 : decode cX11_embers 19 = .ok (.ifCond .eq 7, 3) := by decide +kernel
theorem dX11_embers_22 : decode cX11_embers 22 = .ok (.iconst 0, 1) := by decide +kernel
theorem dX11_embers_23 : decode cX11_embers 23 = .ok (.goto 4, 3) := by decide +kernel
theorem dX11_embers_26 : decode cX11_embers 26 = .ok (.iconst 1, 1) := by decide +kernel
theorem dX11_embers_27 : decode cX11_embers 27 = .ok (.iadd, 1) := by decide +kernel
theorem dX11_embers_28 : decode cX11_embers 28 = .ok (.istore_n 2, 1) := by decide +kernel
theorem dX11_embers_29 : decode cX11_embers 29 = .ok (.iinc 3 1, 3) := by decide +kernel
theorem dX11_embers_32 : decode cX11_embers 32 = .ok (.goto (-28), 3) := by decide +kernel
theorem dX11_embers_35 : decode cX11_embers 35 = .ok (.iload_n 2, 1) := by decide +kernel
theorem dX11_embers_36 : decode cX11_embers 36 = .ok (.ireturn, 1) := by decide +kernel
theorem dX11_can_0 : decode cX11_can 0 = .ok (.iload_n 1, 1) := by decide +kernel
theorem dX11_can_1 : decode cX11_can 1 = .ok (.iconst 0, 1) := by decide +kernel
theorem dX11_can_2 : decode cX11_can 2 = .ok (.iconst 4, 1) := by decide +kernel
theorem dX11_can_3 : decode cX11_can 3 = .ok (.invokestatic 83, 3) := by decide +kernel
theorem dX11_can_6 : decode cX11_can 6 = .ok (.ifCond .ne 5, 3) := by decide +kernel
theorem dX11_can_9 : decode cX11_can 9 = .ok (.iconst (-1), 1) := by decide +kernel
theorem dX11_can_10 : decode cX11_can 10 = .ok (.ireturn, 1) := by decide +kernel
theorem dX11_can_11 : decode cX11_can 11 = .ok (.aload_n 0, 1) := by decide +kernel
theorem dX11_can_12 : decode cX11_can 12 = .ok (.getfield 138, 3) := by decide +kernel
theorem dX11_can_15 : decode cX11_can 15 = .ok (.ifCond .ne 5, 3) := by decide +kernel
theorem dX11_can_18 : decode cX11_can 18 = .ok (.iconst 0, 1) := by decide +kernel
theorem dX11_can_19 : decode cX11_can 19 = .ok (.ireturn, 1) := by decide +kernel
theorem dX11_can_20 : decode cX11_can 20 = .ok (.aload_n 0, 1) := by decide +kernel
theorem dX11_can_21 : decode cX11_can 21 = .ok (.iconst 0, 1) := by decide +kernel
theorem dX11_can_22 : decode cX11_can 22 = .ok (.iload_n 1, 1) := by decide +kernel
theorem dX11_can_23 : decode cX11_can 23 = .ok (.iconst 0, 1) := by decide +kernel
theorem dX11_can_24 : decode cX11_can 24 = .ok (.invokevirtual 252, 3) := by decide +kernel
theorem dX11_can_27 : decode cX11_can 27 = .ok (.aload_n 0, 1) := by decide +kernel
theorem dX11_can_28 : decode cX11_can 28 = .ok (.getfield 224, 3) := by decide +kernel
theorem dX11_can_31 : decode cX11_can 31 = .ok (.ireturn, 1) := by decide +kernel
theorem dX11_plan_0 : decode cX11_plan 0 = .ok (.aload_n 0, 1) := by decide +kernel
theorem dX11_plan_1 : decode cX11_plan 1 = .ok (.iload_n 1, 1) := by decide +kernel
theorem dX11_plan_2 : decode cX11_plan 2 = .ok (.invokevirtual 172, 3) := by decide +kernel
theorem dX11_plan_5 : decode cX11_plan 5 = .ok (.ifCond .eq 19, 3) := by decide +kernel
theorem dX11_plan_8 : decode cX11_plan 8 = .ok (.iload_n 2, 1) := by decide +kernel
theorem dX11_plan_9 : decode cX11_plan 9 = .ok (.iconst 0, 1) := by decide +kernel
theorem dX11_plan_10 : decode cX11_plan 10 = .ok (.iconst 4, 1) := by decide +kernel
theorem dX11_plan_11 : decode cX11_plan 11 = .ok (.invokestatic 83, 3) := by decide +kernel
theorem dX11_plan_14 : decode cX11_plan 14 = .ok (.ifCond .eq 10, 3) := by decide +kernel
theorem dX11_plan_17 : decode cX11_plan 17 = .ok (.iload_n 3, 1) := by decide +kernel
theorem dX11_plan_18 : decode cX11_plan 18 = .ok (.invokestatic 93, 3) := by decide +kernel
theorem dX11_plan_21 : decode cX11_plan 21 = .ok (.ifCond .ne 5, 3) := by decide +kernel
theorem dX11_plan_24 : decode cX11_plan 24 = .ok (.iconst (-1), 1) := by decide +kernel
theorem dX11_plan_25 : decode cX11_plan 25 = .ok (.ireturn, 1) := by decide +kernel
theorem dX11_plan_26 : decode cX11_plan 26 = .ok (.aload_n 0, 1) := by decide +kernel
theorem dX11_plan_27 : decode cX11_plan 27 = .ok (.iconst 1, 1) := by decide +kernel
theorem dX11_plan_28 : decode cX11_plan 28 = .ok (.iload_n 2, 1) := by decide +kernel
theorem dX11_plan_29 : decode cX11_plan 29 = .ok (.iload_n 1, 1) := by decide +kernel
theorem dX11_plan_30 : decode cX11_plan 30 = .ok (.invokevirtual 252, 3) := by decide +kernel
theorem dX11_plan_33 : decode cX11_plan 33 = .ok (.aload_n 0, 1) := by decide +kernel
theorem dX11_plan_34 : decode cX11_plan 34 = .ok (.getfield 217, 3) := by decide +kernel
theorem dX11_plan_37 : decode cX11_plan 37 = .ok (.ifCond .ne 6, 3) := by decide +kernel
theorem dX11_plan_40 : decode cX11_plan 40 = .ok (.bipush (-9), 2) := by decide +kernel
theorem dX11_plan_42 : decode cX11_plan 42 = .ok (.ireturn, 1) := by decide +kernel
theorem dX11_plan_43 : decode cX11_plan 43 = .ok (.aload_n 0, 1) := by decide +kernel
theorem dX11_plan_44 : decode cX11_plan 44 = .ok (.iload_n 3, 1) := by decide +kernel
theorem dX11_plan_45 : decode cX11_plan 45 = .ok (.aload_n 0, 1) := by decide +kernel
theorem dX11_plan_46 : decode cX11_plan 46 = .ok (.getfield 76, 3) := by decide +kernel
theorem dX11_plan_49 : decode cX11_plan 49 = .ok (.iload_n 2, 1) := by decide +kernel
theorem dX11_plan_50 : decode cX11_plan 50 = .ok (.invokevirtual 255, 3) := by decide +kernel
theorem dX11_plan_53 : decode cX11_plan 53 = .ok (.aload_n 0, 1) := by decide +kernel
theorem dX11_plan_54 : decode cX11_plan 54 = .ok (.iload_n 2, 1) := by decide +kernel
theorem dX11_plan_55 : decode cX11_plan 55 = .ok (.invokevirtual 259, 3) := by decide +kernel
theorem dX11_plan_58 : decode cX11_plan 58 = .ok (.ireturn, 1) := by decide +kernel
theorem dX11_ways_0 : decode cX11_ways 0 = .ok (.aload_n 0, 1) := by decide +kernel
theorem dX11_ways_1 : decode cX11_ways 1 = .ok (.iload_n 1, 1) := by decide +kernel
theorem dX11_ways_2 : decode cX11_ways 2 = .ok (.invokevirtual 172, 3) := by decide +kernel
theorem dX11_ways_5 : decode cX11_ways 5 = .ok (.ifCond .eq 12, 3) := by decide +kernel
theorem dX11_ways_8 : decode cX11_ways 8 = .ok (.iload_n 2, 1) := by decide +kernel
theorem dX11_ways_9 : decode cX11_ways 9 = .ok (.iconst 0, 1) := by decide +kernel
theorem dX11_ways_10 : decode cX11_ways 10 = .ok (.iconst 4, 1) := by decide +kernel
theorem dX11_ways_11 : decode cX11_ways 11 = .ok (.invokestatic 83, 3) := by decide +kernel
theorem dX11_ways_14 : decode cX11_ways 14 = .ok (.ifCond .ne 5, 3) := by decide +kernel
theorem dX11_ways_17 : decode cX11_ways 17 = .ok (.iconst (-1), 1) := by decide +kernel
theorem dX11_ways_18 : decode cX11_ways 18 = .ok (.ireturn, 1) := by decide +kernel
theorem dX11_ways_19 : decode cX11_ways 19 = .ok (.aload_n 0, 1) := by decide +kernel
theorem dX11_ways_20 : decode cX11_ways 20 = .ok (.iconst 2, 1) := by decide +kernel
theorem dX11_ways_21 : decode cX11_ways 21 = .ok (.iload_n 2, 1) := by decide +kernel
theorem dX11_ways_22 : decode cX11_ways 22 = .ok (.iload_n 1, 1) := by decide +kernel
theorem dX11_ways_23 : decode cX11_ways 23 = .ok (.invokevirtual 252, 3) := by decide +kernel
theorem dX11_ways_26 : decode cX11_ways 26 = .ok (.aload_n 0, 1) := by decide +kernel
theorem dX11_ways_27 : decode cX11_ways 27 = .ok (.aload_n 0, 1) := by decide +kernel
theorem dX11_ways_28 : decode cX11_ways 28 = .ok (.getfield 221, 3) := by decide +kernel
theorem dX11_ways_31 : decode cX11_ways 31 = .ok (.i2l, 1) := by decide +kernel
theorem dX11_ways_32 : decode cX11_ways 32 = .ok (.lconst 1, 1) := by decide +kernel
theorem dX11_ways_33 : decode cX11_ways 33 = .ok (.invokevirtual 262, 3) := by decide +kernel
theorem dX11_ways_36 : decode cX11_ways 36 = .ok (.pop, 1) := by decide +kernel
theorem dX11_ways_37 : decode cX11_ways 37 = .ok (.aload_n 0, 1) := by decide +kernel
theorem dX11_ways_38 : decode cX11_ways 38 = .ok (.aload_n 0, 1) := by decide +kernel
theorem dX11_ways_39 : decode cX11_ways 39 = .ok (.getfield 227, 3) := by decide +kernel
theorem dX11_ways_42 : decode cX11_ways 42 = .ok (.iconst 1, 1) := by decide +kernel
theorem dX11_ways_43 : decode cX11_ways 43 = .ok (.invokevirtual 105, 3) := by decide +kernel
theorem dX11_ways_46 : decode cX11_ways 46 = .ok (.ireturn, 1) := by decide +kernel
theorem dX11_most_0 : decode cX11_most 0 = .ok (.iload_n 1, 1) := by decide +kernel
theorem dX11_most_1 : decode cX11_most 1 = .ok (.iconst 0, 1) := by decide +kernel
theorem dX11_most_2 : decode cX11_most 2 = .ok (.iconst 4, 1) := by decide +kernel
theorem dX11_most_3 : decode cX11_most 3 = .ok (.invokestatic 83, 3) := by decide +kernel
theorem dX11_most_6 : decode cX11_most 6 = .ok (.ifCond .eq 10, 3) := by decide +kernel
theorem dX11_most_9 : decode cX11_most 9 = .ok (.iload_n 2, 1) := by decide +kernel
theorem dX11_most_10 : decode cX11_most 10 = .ok (.invokestatic 93, 3) := by decide +kernel
theorem dX11_most_13 : decode cX11_most 13 = .ok (.ifCond .ne 5, 3) := by decide +kernel
theorem dX11_most_16 : decode cX11_most 16 = .ok (.iconst (-1), 1) := by decide +kernel
theorem dX11_most_17 : decode cX11_most 17 = .ok (.ireturn, 1) := by decide +kernel
theorem dX11_most_18 : decode cX11_most 18 = .ok (.aload_n 0, 1) := by decide +kernel
theorem dX11_most_19 : decode cX11_most 19 = .ok (.getfield 138, 3) := by decide +kernel
theorem dX11_most_22 : decode cX11_most 22 = .ok (.ifCond .ne 6, 3) := by decide +kernel
theorem dX11_most_25 : decode cX11_most 25 = .ok (.bipush (-4), 2) := by decide +kernel
theorem dX11_most_27 : decode cX11_most 27 = .ok (.ireturn, 1) := by decide +kernel
theorem dX11_most_28 : decode cX11_most 28 = .ok (.aload_n 0, 1) := by decide +kernel
theorem dX11_most_29 : decode cX11_most 29 = .ok (.iconst 3, 1) := by decide +kernel
theorem dX11_most_30 : decode cX11_most 30 = .ok (.iload_n 1, 1) := by decide +kernel
theorem dX11_most_31 : decode cX11_most 31 = .ok (.iconst 0, 1) := by decide +kernel
theorem dX11_most_32 : decode cX11_most 32 = .ok (.invokevirtual 252, 3) := by decide +kernel
theorem dX11_most_35 : decode cX11_most 35 = .ok (.aload_n 0, 1) := by decide +kernel
theorem dX11_most_36 : decode cX11_most 36 = .ok (.iload_n 2, 1) := by decide +kernel
theorem dX11_most_37 : decode cX11_most 37 = .ok (.aload_n 0, 1) := by decide +kernel
theorem dX11_most_38 : decode cX11_most 38 = .ok (.getfield 76, 3) := by decide +kernel
theorem dX11_most_41 : decode cX11_most 41 = .ok (.iload_n 1, 1) := by decide +kernel
theorem dX11_most_42 : decode cX11_most 42 = .ok (.invokevirtual 255, 3) := by decide +kernel
theorem dX11_most_45 : decode cX11_most 45 = .ok (.aload_n 0, 1) := by decide +kernel
theorem dX11_most_46 : decode cX11_most 46 = .ok (.getfield 236, 3) := by decide +kernel
theorem dX11_most_49 : decode cX11_most 49 = .ok (.ireturn, 1) := by decide +kernel
theorem dX11_serve_0 : decode cX11_serve 0 = .ok (.iload_n 1, 1) := by decide +kernel
theorem dX11_serve_1 : decode cX11_serve 1 = .ok (.iconst 0, 1) := by decide +kernel
theorem dX11_serve_2 : decode cX11_serve 2 = .ok (.iconst 4, 1) := by decide +kernel
theorem dX11_serve_3 : decode cX11_serve 3 = .ok (.invokestatic 83, 3) := by decide +kernel
theorem dX11_serve_6 : decode cX11_serve 6 = .ok (.ifCond .eq 10, 3) := by decide +kernel
theorem dX11_serve_9 : decode cX11_serve 9 = .ok (.iload_n 2, 1) := by decide +kernel
theorem dX11_serve_10 : decode cX11_serve 10 = .ok (.invokestatic 93, 3) := by decide +kernel
theorem dX11_serve_13 : decode cX11_serve 13 = .ok (.ifCond .ne 5, 3) := by decide +kernel
theorem dX11_serve_16 : decode cX11_serve 16 = .ok (.iconst (-1), 1) := by decide +kernel
theorem dX11_serve_17 : decode cX11_serve 17 = .ok (.ireturn, 1) := by decide +kernel
theorem dX11_serve_18 : decode cX11_serve 18 = .ok (.aload_n 0, 1) := by decide +kernel
theorem dX11_serve_19 : decode cX11_serve 19 = .ok (.getfield 138, 3) := by decide +kernel
theorem dX11_serve_22 : decode cX11_serve 22 = .ok (.ifCond .ne 6, 3) := by decide +kernel
theorem dX11_serve_25 : decode cX11_serve 25 = .ok (.bipush (-4), 2) := by decide +kernel
theorem dX11_serve_27 : decode cX11_serve 27 = .ok (.ireturn, 1) := by decide +kernel
theorem dX11_serve_28 : decode cX11_serve 28 = .ok (.aload_n 0, 1) := by decide +kernel
theorem dX11_serve_29 : decode cX11_serve 29 = .ok (.iconst 4, 1) := by decide +kernel
theorem dX11_serve_30 : decode cX11_serve 30 = .ok (.iload_n 1, 1) := by decide +kernel
theorem dX11_serve_31 : decode cX11_serve 31 = .ok (.iconst 0, 1) := by decide +kernel
theorem dX11_serve_32 : decode cX11_serve 32 = .ok (.invokevirtual 252, 3) := by decide +kernel
theorem dX11_serve_35 : decode cX11_serve 35 = .ok (.aload_n 0, 1) := by decide +kernel
theorem dX11_serve_36 : decode cX11_serve 36 = .ok (.getfield 217, 3) := by decide +kernel
theorem dX11_serve_39 : decode cX11_serve 39 = .ok (.ifCond .ne 6, 3) := by decide +kernel
theorem dX11_serve_42 : decode cX11_serve 42 = .ok (.bipush (-9), 2) := by decide +kernel
theorem dX11_serve_44 : decode cX11_serve 44 = .ok (.ireturn, 1) := by decide +kernel
theorem dX11_serve_45 : decode cX11_serve 45 = .ok (.aload_n 0, 1) := by decide +kernel
theorem dX11_serve_46 : decode cX11_serve 46 = .ok (.iload_n 2, 1) := by decide +kernel
theorem dX11_serve_47 : decode cX11_serve 47 = .ok (.aload_n 0, 1) := by decide +kernel
theorem dX11_serve_48 : decode cX11_serve 48 = .ok (.getfield 76, 3) := by decide +kernel
theorem dX11_serve_51 : decode cX11_serve 51 = .ok (.iload_n 1, 1) := by decide +kernel
theorem dX11_serve_52 : decode cX11_serve 52 = .ok (.invokevirtual 255, 3) := by decide +kernel
theorem dX11_serve_55 : decode cX11_serve 55 = .ok (.aload_n 0, 1) := by decide +kernel
theorem dX11_serve_56 : decode cX11_serve 56 = .ok (.iload_n 1, 1) := by decide +kernel
theorem dX11_serve_57 : decode cX11_serve 57 = .ok (.invokevirtual 259, 3) := by decide +kernel
theorem dX11_serve_60 : decode cX11_serve 60 = .ok (.ireturn, 1) := by decide +kernel
theorem dX11_areMoves_0 : decode cX11_areMoves 0 = .ok (.iconst 1, 1) := by decide +kernel
theorem dX11_areMoves_1 : decode cX11_areMoves 1 = .ok (.istore_n 2, 1) := by decide +kernel
theorem dX11_areMoves_2 : decode cX11_areMoves 2 = .ok (.iconst 0, 1) := by decide +kernel
theorem dX11_areMoves_3 : decode cX11_areMoves 3 = .ok (.istore_n 3, 1) := by decide +kernel
theorem dX11_areMoves_4 : decode cX11_areMoves 4 = .ok (.iload_n 3, 1) := by decide +kernel
theorem dX11_areMoves_5 : decode cX11_areMoves 5 = .ok (.aload_n 0, 1) := by decide +kernel
theorem dX11_areMoves_6 : decode cX11_areMoves 6 = .ok (.getfield 17, 3) := by decide +kernel
theorem dX11_areMoves_9 : decode cX11_areMoves 9 = .ok (.iload_n 1, 1) := by decide +kernel
theorem dX11_areMoves_10 : decode cX11_areMoves 10 = .ok (.iaload, 1) := by decide +kernel
theorem dX11_areMoves_11 : decode cX11_areMoves 11 = .ok (.if_icmp .ge 34, 3) := by decide +kernel
theorem dX11_areMoves_14 : decode cX11_areMoves 14 = .ok (.iload_n 2, 1) := by decide +kernel
theorem dX11_areMoves_15 : decode cX11_areMoves 15 = .ok (.ifCond .eq 22, 3) := by decide +kernel
theorem dX11_areMoves_18 : decode cX11_areMoves 18 = .ok (.aload_n 0, 1) := by decide +kernel
theorem dX11_areMoves_19 : decode cX11_areMoves 19 = .ok (.iload_n 1, 1) := by decide +kernel
theorem dX11_areMoves_20 : decode cX11_areMoves 20 = .ok (.iload_n 3, 1) := by decide +kernel
theorem dX11_areMoves_21 : decode cX11_areMoves 21 = .ok (.invokevirtual 101, 3) := by decide +kernel
theorem dX11_areMoves_24 : decode cX11_areMoves 24 = .ok (.iconst 0, 1) := by decide +kernel
theorem dX11_areMoves_25 : decode cX11_areMoves 25 = .ok (.bipush 36, 2) := by decide +kernel
theorem dX11_areMoves_27 : decode cX11_areMoves 27 = .ok (.invokestatic 83, 3) := by decide +kernel
theorem dX11_areMoves_30 : decode cX11_areMoves 30 = .ok (.ifCond .eq 7, 3) := by decide +kernel
theorem dX11_areMoves_33 : decode cX11_areMoves 33 = .ok (.iconst 1, 1) := by decide +kernel
theorem dX11_areMoves_34 : decode cX11_areMoves 34 = .ok (.goto 4, 3) := by decide +kernel
theorem dX11_areMoves_37 : decode cX11_areMoves 37 = .ok (.iconst 0, 1) := by decide +kernel
theorem dX11_areMoves_38 : decode cX11_areMoves 38 = .ok (.istore_n 2, 1) := by decide +kernel
theorem dX11_areMoves_39 : decode cX11_areMoves 39 = .ok (.iinc 3 1, 3) := by decide +kernel
theorem dX11_areMoves_42 : decode cX11_areMoves 42 = .ok (.goto (-38), 3) := by decide +kernel
theorem dX11_areMoves_45 : decode cX11_areMoves 45 = .ok (.iload_n 2, 1) := by decide +kernel
theorem dX11_areMoves_46 : decode cX11_areMoves 46 = .ok (.ireturn, 1) := by decide +kernel
theorem dX11_run_0 : decode cX11_run 0 = .ok (.iload_n 1, 1) := by decide +kernel
theorem dX11_run_1 : decode cX11_run 1 = .ok (.invokestatic 93, 3) := by decide +kernel
theorem dX11_run_4 : decode cX11_run 4 = .ok (.ifCond .ne 5, 3) := by decide +kernel
theorem dX11_run_7 : decode cX11_run 7 = .ok (.iconst (-1), 1) := by decide +kernel
theorem dX11_run_8 : decode cX11_run 8 = .ok (.ireturn, 1) := by decide +kernel
theorem dX11_run_9 : decode cX11_run 9 = .ok (.aload_n 0, 1) := by decide +kernel
theorem dX11_run_10 : decode cX11_run 10 = .ok (.getfield 138, 3) := by decide +kernel
theorem dX11_run_13 : decode cX11_run 13 = .ok (.ifCond .ne 6, 3) := by decide +kernel
theorem dX11_run_16 : decode cX11_run 16 = .ok (.bipush (-4), 2) := by decide +kernel
theorem dX11_run_18 : decode cX11_run 18 = .ok (.ireturn, 1) := by decide +kernel
theorem dX11_run_19 : decode cX11_run 19 = .ok (.aload_n 0, 1) := by decide +kernel
theorem dX11_run_20 : decode cX11_run 20 = .ok (.getfield 17, 3) := by decide +kernel
theorem dX11_run_23 : decode cX11_run 23 = .ok (.iload_n 1, 1) := by decide +kernel
theorem dX11_run_24 : decode cX11_run 24 = .ok (.iaload, 1) := by decide +kernel
theorem dX11_run_25 : decode cX11_run 25 = .ok (.ifCond .ge 9, 3) := by decide +kernel
theorem dX11_run_28 : decode cX11_run 28 = .ok (.aload_n 0, 1) := by decide +kernel
theorem dX11_run_29 : decode cX11_run 29 = .ok (.iconst 1, 1) := by decide +kernel
theorem dX11_run_30 : decode cX11_run 30 = .ok (.invokevirtual 97, 3) := by decide +kernel
theorem dX11_run_33 : decode cX11_run 33 = .ok (.ireturn, 1) := by decide +kernel
theorem dX11_run_34 : decode cX11_run 34 = .ok (.aload_n 0, 1) := by decide +kernel
theorem dX11_run_35 : decode cX11_run 35 = .ok (.getfield 17, 3) := by decide +kernel
theorem dX11_run_38 : decode cX11_run 38 = .ok (.iload_n 1, 1) := by decide +kernel
theorem dX11_run_39 : decode cX11_run 39 = .ok (.iaload, 1) := by decide +kernel
theorem dX11_run_40 : decode cX11_run 40 = .ok (.bipush 10, 2) := by decide +kernel
theorem dX11_run_42 : decode cX11_run 42 = .ok (.if_icmp .le 9, 3) := by decide +kernel
theorem dX11_run_45 : decode cX11_run 45 = .ok (.aload_n 0, 1) := by decide +kernel
theorem dX11_run_46 : decode cX11_run 46 = .ok (.iconst 5, 1) := by decide +kernel
theorem dX11_run_47 : decode cX11_run 47 = .ok (.invokevirtual 97, 3) := by decide +kernel
theorem dX11_run_50 : decode cX11_run 50 = .ok (.ireturn, 1) := by decide +kernel
theorem dX11_run_51 : decode cX11_run 51 = .ok (.aload_n 0, 1) := by decide +kernel
theorem dX11_run_52 : decode cX11_run 52 = .ok (.iload_n 1, 1) := by decide +kernel
theorem dX11_run_53 : decode cX11_run 53 = .ok (.invokevirtual 266, 3) := by decide +kernel
theorem dX11_run_56 : decode cX11_run 56 = .ok (.ifCond .ne 9, 3) := by decide +kernel
theorem dX11_run_59 : decode cX11_run 59 = .ok (.aload_n 0, 1) := by decide +kernel
theorem dX11_run_60 : decode cX11_run 60 = .ok (.iconst 3, 1) := by decide +kernel
theorem dX11_run_61 : decode cX11_run 61 = .ok (.invokevirtual 97, 3) := by decide +kernel
theorem dX11_run_64 : decode cX11_run 64 = .ok (.ireturn, 1) := by decide +kernel
theorem dX11_run_65 : decode cX11_run 65 = .ok (.aload_n 0, 1) := by decide +kernel
theorem dX11_run_66 : decode cX11_run 66 = .ok (.iconst 0, 1) := by decide +kernel
theorem dX11_run_67 : decode cX11_run 67 = .ok (.iconst 1, 1) := by decide +kernel
theorem dX11_run_68 : decode cX11_run 68 = .ok (.invokevirtual 204, 3) := by decide +kernel
theorem dX11_run_71 : decode cX11_run 71 = .ok (.iconst 0, 1) := by decide +kernel
theorem dX11_run_72 : decode cX11_run 72 = .ok (.istore_n 2, 1) := by decide +kernel
theorem dX11_run_73 : decode cX11_run 73 = .ok (.iload_n 2, 1) := by decide +kernel
theorem dX11_run_74 : decode cX11_run 74 = .ok (.aload_n 0, 1) := by decide +kernel
theorem dX11_run_75 : decode cX11_run 75 = .ok (.getfield 17, 3) := by decide +kernel
theorem dX11_run_78 : decode cX11_run 78 = .ok (.iload_n 1, 1) := by decide +kernel
theorem dX11_run_79 : decode cX11_run 79 = .ok (.iaload, 1) := by decide +kernel
theorem dX11_run_80 : decode cX11_run 80 = .ok (.if_icmp .ge 46, 3) := by decide +kernel
theorem dX11_run_83 : decode cX11_run 83 = .ok (.aload_n 0, 1) := by decide +kernel
theorem dX11_run_84 : decode cX11_run 84 = .ok (.iload_n 1, 1) := by decide +kernel
theorem dX11_run_85 : decode cX11_run 85 = .ok (.iload_n 2, 1) := by decide +kernel
theorem dX11_run_86 : decode cX11_run 86 = .ok (.invokevirtual 101, 3) := by decide +kernel
theorem dX11_run_89 : decode cX11_run 89 = .ok (.istore_n 3, 1) := by decide +kernel
theorem dX11_run_90 : decode cX11_run 90 = .ok (.iload_n 3, 1) := by decide +kernel
theorem dX11_run_91 : decode cX11_run 91 = .ok (.invokestatic 214, 3) := by decide +kernel
theorem dX11_run_94 : decode cX11_run 94 = .ok (.ifCond .ne 21, 3) := by decide +kernel
theorem dX11_run_97 : decode cX11_run 97 = .ok (.aload_n 0, 1) := by decide +kernel
theorem dX11_run_98 : decode cX11_run 98 = .ok (.iconst 1, 1) := by decide +kernel
theorem dX11_run_99 : decode cX11_run 99 = .ok (.iload_n 3, 1) := by decide +kernel
theorem dX11_run_100 : decode cX11_run 100 = .ok (.invokevirtual 246, 3) := by decide +kernel
theorem dX11_run_103 : decode cX11_run 103 = .ok (.ifCond .eq 12, 3) := by decide +kernel
theorem dX11_run_106 : decode cX11_run 106 = .ok (.aload_n 0, 1) := by decide +kernel
theorem dX11_run_107 : decode cX11_run 107 = .ok (.iconst 1, 1) := by decide +kernel
theorem dX11_run_108 : decode cX11_run 108 = .ok (.iload_n 3, 1) := by decide +kernel
theorem dX11_run_109 : decode cX11_run 109 = .ok (.bipush 6, 2) := by decide +kernel
theorem dX11_run_111 : decode cX11_run 111 = .ok (.irem, 1) := by decide +kernel
theorem dX11_run_112 : decode cX11_run 112 = .ok (.invokevirtual 190, 3) := by decide +kernel
theorem dX11_run_115 : decode cX11_run 115 = .ok (.aload_n 0, 1) := by decide +kernel
theorem dX11_run_116 : decode cX11_run 116 = .ok (.iconst 1, 1) := by decide +kernel
theorem dX11_run_117 : decode cX11_run 117 = .ok (.invokevirtual 197, 3) := by decide +kernel
theorem dX11_run_120 : decode cX11_run 120 = .ok (.iinc 2 1, 3) := by decide +kernel
theorem dX11_run_123 : decode cX11_run 123 = .ok (.goto (-50), 3) := by decide +kernel
theorem dX11_run_126 : decode cX11_run 126 = .ok (.iconst 0, 1) := by decide +kernel
theorem dX11_run_127 : decode cX11_run 127 = .ok (.istore_n 2, 1) := by decide +kernel
theorem dX11_run_128 : decode cX11_run 128 = .ok (.iconst 0, 1) := by decide +kernel
theorem dX11_run_129 : decode cX11_run 129 = .ok (.istore_n 3, 1) := by decide +kernel
theorem dX11_run_130 : decode cX11_run 130 = .ok (.iload_n 3, 1) := by decide +kernel
theorem dX11_run_131 : decode cX11_run 131 = .ok (.aload_n 0, 1) := by decide +kernel
theorem dX11_run_132 : decode cX11_run 132 = .ok (.getfield 138, 3) := by decide +kernel
theorem dX11_run_135 : decode cX11_run 135 = .ok (.if_icmp .ge 21, 3) := by decide +kernel
theorem dX11_run_138 : decode cX11_run 138 = .ok (.iload_n 2, 1) := by decide +kernel
theorem dX11_run_139 : decode cX11_run 139 = .ok (.aload_n 0, 1) := by decide +kernel
theorem dX11_run_140 : decode cX11_run 140 = .ok (.getfield 51, 3) := by decide +kernel
theorem dX11_run_143 : decode cX11_run 143 = .ok (.bipush 18, 2) := by decide +kernel
theorem dX11_run_145 : decode cX11_run 145 = .ok (.iload_n 3, 1) := by decide +kernel
theorem dX11_run_146 : decode cX11_run 146 = .ok (.iadd, 1) := by decide +kernel
theorem dX11_run_147 : decode cX11_run 147 = .ok (.iaload, 1) := by decide +kernel
theorem dX11_run_148 : decode cX11_run 148 = .ok (.iadd, 1) := by decide +kernel
theorem dX11_run_149 : decode cX11_run 149 = .ok (.istore_n 2, 1) := by decide +kernel
theorem dX11_run_150 : decode cX11_run 150 = .ok (.iinc 3 1, 3) := by decide +kernel
theorem dX11_run_153 : decode cX11_run 153 = .ok (.goto (-23), 3) := by decide +kernel
theorem dX11_run_156 : decode cX11_run 156 = .ok (.aload_n 0, 1) := by decide +kernel
theorem dX11_run_157 : decode cX11_run 157 = .ok (.iload_n 2, 1) := by decide +kernel
theorem dX11_run_158 : decode cX11_run 158 = .ok (.aload_n 0, 1) := by decide +kernel
theorem dX11_run_159 : decode cX11_run 159 = .ok (.iconst 1, 1) := by decide +kernel
theorem dX11_run_160 : decode cX11_run 160 = .ok (.invokevirtual 163, 3) := by decide +kernel
theorem dX11_run_163 : decode cX11_run 163 = .ok (.invokevirtual 105, 3) := by decide +kernel
theorem dX11_run_166 : decode cX11_run 166 = .ok (.ireturn, 1) := by decide +kernel
theorem dX11_layFirst_0 : decode cX11_layFirst 0 = .ok (.iconst 0, 1) := by decide +kernel
theorem dX11_layFirst_1 : decode cX11_layFirst 1 = .ok (.istore_n 2, 1) := by decide +kernel
theorem dX11_layFirst_2 : decode cX11_layFirst 2 = .ok (.iload_n 2, 1) := by decide +kernel
theorem dX11_layFirst_3 : decode cX11_layFirst 3 = .ok (.bipush 18, 2) := by decide +kernel
theorem dX11_layFirst_5 : decode cX11_layFirst 5 = .ok (.if_icmp .ge 26, 3) := by decide +kernel
theorem dX11_layFirst_8 : decode cX11_layFirst 8 = .ok (.aload_n 0, 1) := by decide +kernel
theorem dX11_layFirst_9 : decode cX11_layFirst 9 = .ok (.getfield 51, 3) := by decide +kernel
theorem dX11_layFirst_12 : decode cX11_layFirst 12 = .ok (.bipush 18, 2) := by decide +kernel
theorem dX11_layFirst_14 : decode cX11_layFirst 14 = .ok (.iload_n 1, 1) := by decide +kernel
theorem dX11_layFirst_15 : decode cX11_layFirst 15 = .ok (.imul, 1) := by decide +kernel
theorem dX11_layFirst_16 : decode cX11_layFirst 16 = .ok (.iload_n 2, 1) := by decide +kernel
theorem dX11_layFirst_17 : decode cX11_layFirst 17 = .ok (.iadd, 1) := by decide +kernel
theorem dX11_layFirst_18 : decode cX11_layFirst 18 = .ok (.aload_n 0, 1) := by decide +kernel
theorem dX11_layFirst_19 : decode cX11_layFirst 19 = .ok (.getfield 48, 3) := by decide +kernel
theorem dX11_layFirst_22 : decode cX11_layFirst 22 = .ok (.iload_n 2, 1) := by decide +kernel
theorem dX11_layFirst_23 : decode cX11_layFirst 23 = .ok (.iaload, 1) := by decide +kernel
theorem dX11_layFirst_24 : decode cX11_layFirst 24 = .ok (.iastore, 1) := by decide +kernel
theorem dX11_layFirst_25 : decode cX11_layFirst 25 = .ok (.iinc 2 1, 3) := by decide +kernel
theorem dX11_layFirst_28 : decode cX11_layFirst 28 = .ok (.goto (-26), 3) := by decide +kernel
theorem dX11_layFirst_31 : decode cX11_layFirst 31 = .ok (.return_, 1) := by decide +kernel
theorem dX11_where_0 : decode cX11_where 0 = .ok (.aload_n 0, 1) := by decide +kernel
theorem dX11_where_1 : decode cX11_where 1 = .ok (.iconst 2, 1) := by decide +kernel
theorem dX11_where_2 : decode cX11_where 2 = .ok (.invokevirtual 269, 3) := by decide +kernel
theorem dX11_where_5 : decode cX11_where 5 = .ok (.aload_n 0, 1) := by decide +kernel
theorem dX11_where_6 : decode cX11_where 6 = .ok (.iconst 2, 1) := by decide +kernel
theorem dX11_where_7 : decode cX11_where 7 = .ok (.invokevirtual 201, 3) := by decide +kernel
theorem dX11_where_10 : decode cX11_where 10 = .ok (.istore_n 1, 1) := by decide +kernel
theorem dX11_where_11 : decode cX11_where 11 = .ok (.bipush (-9), 2) := by decide +kernel
theorem dX11_where_13 : decode cX11_where 13 = .ok (.istore_n 2, 1) := by decide +kernel
theorem dX11_where_14 : decode cX11_where 14 = .ok (.iconst (-1), 1) := by decide +kernel
theorem dX11_where_15 : decode cX11_where 15 = .ok (.istore_n 3, 1) := by decide +kernel
theorem dX11_where_16 : decode cX11_where 16 = .ok (.iconst 0, 1) := by decide +kernel
theorem dX11_where_17 : decode cX11_where 17 = .ok (.istore 4, 2) := by decide +kernel
theorem dX11_where_19 : decode cX11_where 19 = .ok (.iload 4, 2) := by decide +kernel
theorem dX11_where_21 : decode cX11_where 21 = .ok (.aload_n 0, 1) := by decide +kernel
theorem dX11_where_22 : decode cX11_where 22 = .ok (.getfield 138, 3) := by decide +kernel
theorem dX11_where_25 : decode cX11_where 25 = .ok (.if_icmp .ge 70, 3) := by decide +kernel
theorem dX11_where_28 : decode cX11_where 28 = .ok (.iload_n 1, 1) := by decide +kernel
theorem dX11_where_29 : decode cX11_where 29 = .ok (.iload 4, 2) := by decide +kernel
theorem dX11_where_31 : decode cX11_where 31 = .ok (.invokestatic 166, 3) := by decide +kernel
theorem dX11_where_34 : decode cX11_where 34 = .ok (.ifCond .eq 55, 3) := by decide +kernel
theorem dX11_where_37 : decode cX11_where 37 = .ok (.aload_n 0, 1) := by decide +kernel
theorem dX11_where_38 : decode cX11_where 38 = .ok (.iconst 1, 1) := by decide +kernel
theorem dX11_where_39 : decode cX11_where 39 = .ok (.invokevirtual 269, 3) := by decide +kernel
theorem dX11_where_42 : decode cX11_where 42 = .ok (.aload_n 0, 1) := by decide +kernel
theorem dX11_where_43 : decode cX11_where 43 = .ok (.getfield 51, 3) := by decide +kernel
theorem dX11_where_46 : decode cX11_where 46 = .ok (.bipush 28, 2) := by decide +kernel
theorem dX11_where_48 : decode cX11_where 48 = .ok (.iload 4, 2) := by decide +kernel
theorem dX11_where_50 : decode cX11_where 50 = .ok (.iadd, 1) := by decide +kernel
theorem dX11_where_51 : decode cX11_where 51 = .ok (.iconst 1, 1) := by decide +kernel
theorem dX11_where_52 : decode cX11_where 52 = .ok (.iastore, 1) := by decide +kernel
theorem dX11_where_53 : decode cX11_where 53 = .ok (.aload_n 0, 1) := by decide +kernel
theorem dX11_where_54 : decode cX11_where 54 = .ok (.iconst 1, 1) := by decide +kernel
theorem dX11_where_55 : decode cX11_where 55 = .ok (.iload 4, 2) := by decide +kernel
theorem dX11_where_57 : decode cX11_where 57 = .ok (.ishl, 1) := by decide +kernel
theorem dX11_where_58 : decode cX11_where 58 = .ok (.invokevirtual 207, 3) := by decide +kernel
theorem dX11_where_61 : decode cX11_where 61 = .ok (.istore 5, 2) := by decide +kernel
theorem dX11_where_63 : decode cX11_where 63 = .ok (.iload 5, 2) := by decide +kernel
theorem dX11_where_65 : decode cX11_where 65 = .ok (.iload_n 3, 1) := by decide +kernel
theorem dX11_where_66 : decode cX11_where 66 = .ok (.if_icmp .le 8, 3) := by decide +kernel
theorem dX11_where_69 : decode cX11_where 69 = .ok (.iload 4, 2) := by decide +kernel
theorem dX11_where_71 : decode cX11_where 71 = .ok (.goto 4, 3) := by decide +kernel
theorem dX11_where_74 : decode cX11_where 74 = .ok (.iload_n 2, 1) := by decide +kernel
theorem dX11_where_75 : decode cX11_where 75 = .ok (.istore_n 2, 1) := by decide +kernel
theorem dX11_where_76 : decode cX11_where 76 = .ok (.iload 5, 2) := by decide +kernel
theorem dX11_where_78 : decode cX11_where 78 = .ok (.iload_n 3, 1) := by decide +kernel
theorem dX11_where_79 : decode cX11_where 79 = .ok (.if_icmp .le 8, 3) := by decide +kernel
theorem dX11_where_82 : decode cX11_where 82 = .ok (.iload 5, 2) := by decide +kernel
theorem dX11_where_84 : decode cX11_where 84 = .ok (.goto 4, 3) := by decide +kernel
theorem dX11_where_87 : decode cX11_where 87 = .ok (.iload_n 3, 1) := by decide +kernel
theorem dX11_where_88 : decode cX11_where 88 = .ok (.istore_n 3, 1) := by decide +kernel
theorem dX11_where_89 : decode cX11_where 89 = .ok (.iinc 4 1, 3) := by decide +kernel
theorem dX11_where_92 : decode cX11_where 92 = .ok (.goto (-73), 3) := by decide +kernel
theorem dX11_where_95 : decode cX11_where 95 = .ok (.aload_n 0, 1) := by decide +kernel
theorem dX11_where_96 : decode cX11_where 96 = .ok (.iload_n 2, 1) := by decide +kernel
theorem dX11_where_97 : decode cX11_where 97 = .ok (.iload_n 1, 1) := by decide +kernel
theorem dX11_where_98 : decode cX11_where 98 = .ok (.invokevirtual 105, 3) := by decide +kernel
theorem dX11_where_101 : decode cX11_where 101 = .ok (.ireturn, 1) := by decide +kernel
theorem dX11_needBook_0 : decode cX11_needBook 0 = .ok (.iload_n 2, 1) := by decide +kernel
theorem dX11_needBook_1 : decode cX11_needBook 1 = .ok (.ifCond .eq 10, 3) := by decide +kernel
theorem dX11_needBook_4 : decode cX11_needBook 4 = .ok (.iload_n 1, 1) := by decide +kernel
theorem dX11_needBook_5 : decode cX11_needBook 5 = .ok (.invokestatic 93, 3) := by decide +kernel
theorem dX11_needBook_8 : decode cX11_needBook 8 = .ok (.ifCond .ne 5, 3) := by decide +kernel
theorem dX11_needBook_11 : decode cX11_needBook 11 = .ok (.iconst (-1), 1) := by decide +kernel
theorem dX11_needBook_12 : decode cX11_needBook 12 = .ok (.ireturn, 1) := by decide +kernel
theorem dX11_needBook_13 : decode cX11_needBook 13 = .ok (.aload_n 0, 1) := by decide +kernel
theorem dX11_needBook_14 : decode cX11_needBook 14 = .ok (.getfield 138, 3) := by decide +kernel
theorem dX11_needBook_17 : decode cX11_needBook 17 = .ok (.ifCond .ne 6, 3) := by decide +kernel
theorem dX11_needBook_20 : decode cX11_needBook 20 = .ok (.bipush (-4), 2) := by decide +kernel
theorem dX11_needBook_22 : decode cX11_needBook 22 = .ok (.ireturn, 1) := by decide +kernel
theorem dX11_needBook_23 : decode cX11_needBook 23 = .ok (.aload_n 0, 1) := by decide +kernel
theorem dX11_needBook_24 : decode cX11_needBook 24 = .ok (.getfield 17, 3) := by decide +kernel
theorem dX11_needBook_27 : decode cX11_needBook 27 = .ok (.iload_n 1, 1) := by decide +kernel
theorem dX11_needBook_28 : decode cX11_needBook 28 = .ok (.iaload, 1) := by decide +kernel
theorem dX11_needBook_29 : decode cX11_needBook 29 = .ok (.ifCond .ge 9, 3) := by decide +kernel
theorem dX11_needBook_32 : decode cX11_needBook 32 = .ok (.aload_n 0, 1) := by decide +kernel
theorem dX11_needBook_33 : decode cX11_needBook 33 = .ok (.iconst 1, 1) := by decide +kernel
theorem dX11_needBook_34 : decode cX11_needBook 34 = .ok (.invokevirtual 97, 3) := by decide +kernel
theorem dX11_needBook_37 : decode cX11_needBook 37 = .ok (.ireturn, 1) := by decide +kernel
theorem dX11_needBook_38 : decode cX11_needBook 38 = .ok (.aload_n 0, 1) := by decide +kernel
theorem dX11_needBook_39 : decode cX11_needBook 39 = .ok (.getfield 17, 3) := by decide +kernel
theorem dX11_needBook_42 : decode cX11_needBook 42 = .ok (.iload_n 1, 1) := by decide +kernel
theorem dX11_needBook_43 : decode cX11_needBook 43 = .ok (.iaload, 1) := by decide +kernel
theorem dX11_needBook_44 : decode cX11_needBook 44 = .ok (.iconst 1, 1) := by decide +kernel
theorem dX11_needBook_45 : decode cX11_needBook 45 = .ok (.iconst 5, 1) := by decide +kernel
theorem dX11_needBook_46 : decode cX11_needBook 46 = .ok (.invokestatic 83, 3) := by decide +kernel
theorem dX11_needBook_49 : decode cX11_needBook 49 = .ok (.ifCond .ne 9, 3) := by decide +kernel
theorem dX11_needBook_52 : decode cX11_needBook 52 = .ok (.aload_n 0, 1) := by decide +kernel
theorem dX11_needBook_53 : decode cX11_needBook 53 = .ok (.iconst 5, 1) := by decide +kernel
theorem dX11_needBook_54 : decode cX11_needBook 54 = .ok (.invokevirtual 97, 3) := by decide +kernel
theorem dX11_needBook_57 : decode cX11_needBook 57 = .ok (.ireturn, 1) := by decide +kernel
theorem dX11_needBook_58 : decode cX11_needBook 58 = .ok (.iconst 1, 1) := by decide +kernel
theorem dX11_needBook_59 : decode cX11_needBook 59 = .ok (.istore_n 3, 1) := by decide +kernel
theorem dX11_needBook_60 : decode cX11_needBook 60 = .ok (.iconst 0, 1) := by decide +kernel
theorem dX11_needBook_61 : decode cX11_needBook 61 = .ok (.istore 4, 2) := by decide +kernel
theorem dX11_needBook_63 : decode cX11_needBook 63 = .ok (.iload 4, 2) := by decide +kernel
theorem dX11_needBook_65 : decode cX11_needBook 65 = .ok (.aload_n 0, 1) := by decide +kernel
theorem dX11_needBook_66 : decode cX11_needBook 66 = .ok (.getfield 17, 3) := by decide +kernel
theorem dX11_needBook_69 : decode cX11_needBook 69 = .ok (.iload_n 1, 1) := by decide +kernel
theorem dX11_needBook_70 : decode cX11_needBook 70 = .ok (.iaload, 1) := by decide +kernel
theorem dX11_needBook_71 : decode cX11_needBook 71 = .ok (.if_icmp .ge 37, 3) := by decide +kernel
theorem dX11_needBook_74 : decode cX11_needBook 74 = .ok (.iload_n 3, 1) := by decide +kernel
theorem dX11_needBook_75 : decode cX11_needBook 75 = .ok (.ifCond .eq 25, 3) := by decide +kernel
theorem dX11_needBook_78 : decode cX11_needBook 78 = .ok (.aload_n 0, 1) := by decide +kernel
theorem dX11_needBook_79 : decode cX11_needBook 79 = .ok (.iload_n 1, 1) := by decide +kernel
theorem dX11_needBook_80 : decode cX11_needBook 80 = .ok (.iload 4, 2) := by decide +kernel
theorem dX11_needBook_82 : decode cX11_needBook 82 = .ok (.invokevirtual 101, 3) := by decide +kernel
theorem dX11_needBook_85 : decode cX11_needBook 85 = .ok (.iconst 0, 1) := by decide +kernel
theorem dX11_needBook_86 : decode cX11_needBook 86 = .ok (.aload_n 0, 1) := by decide +kernel
theorem dX11_needBook_87 : decode cX11_needBook 87 = .ok (.invokevirtual 210, 3) := by decide +kernel
theorem dX11_needBook_90 : decode cX11_needBook 90 = .ok (.invokestatic 83, 3) := by decide +kernel
theorem dX11_needBook_93 : decode cX11_needBook 93 = .ok (.ifCond .eq 7, 3) := by decide +kernel
theorem dX11_needBook_96 : decode cX11_needBook 96 = .ok (.iconst 1, 1) := by decide +kernel
theorem dX11_needBook_97 : decode cX11_needBook 97 = .ok (.goto 4, 3) := by decide +kernel
theorem dX11_needBook_100 : decode cX11_needBook 100 = .ok (.iconst 0, 1) := by decide +kernel
theorem dX11_needBook_101 : decode cX11_needBook 101 = .ok (.istore_n 3, 1) := by decide +kernel
theorem dX11_needBook_102 : decode cX11_needBook 102 = .ok (.iinc 4 1, 3) := by decide +kernel
theorem dX11_needBook_105 : decode cX11_needBook 105 = .ok (.goto (-42), 3) := by decide +kernel
theorem dX11_needBook_108 : decode cX11_needBook 108 = .ok (.iload_n 3, 1) := by decide +kernel
theorem dX11_needBook_109 : decode cX11_needBook 109 = .ok (.ifCond .eq 7, 3) := by decide +kernel
theorem dX11_needBook_112 : decode cX11_needBook 112 = .ok (.iconst 0, 1) := by decide +kernel
theorem dX11_needBook_113 : decode cX11_needBook 113 = .ok (.goto 8, 3) := by decide +kernel
theorem dX11_needBook_116 : decode cX11_needBook 116 = .ok (.aload_n 0, 1) := by decide +kernel
theorem dX11_needBook_117 : decode cX11_needBook 117 = .ok (.iconst 3, 1) := by decide +kernel
theorem dX11_needBook_118 : decode cX11_needBook 118 = .ok (.invokevirtual 97, 3) := by decide +kernel
theorem dX11_needBook_121 : decode cX11_needBook 121 = .ok (.ireturn, 1) := by decide +kernel
theorem dX11_smokes_0 : decode cX11_smokes 0 = .ok (.iload_n 2, 1) := by decide +kernel
theorem dX11_smokes_1 : decode cX11_smokes 1 = .ok (.aload_n 0, 1) := by decide +kernel
theorem dX11_smokes_2 : decode cX11_smokes 2 = .ok (.getfield 17, 3) := by decide +kernel
theorem dX11_smokes_5 : decode cX11_smokes 5 = .ok (.iload_n 1, 1) := by decide +kernel
theorem dX11_smokes_6 : decode cX11_smokes 6 = .ok (.iaload, 1) := by decide +kernel
theorem dX11_smokes_7 : decode cX11_smokes 7 = .ok (.if_icmp .ne 5, 3) := by decide +kernel
theorem dX11_smokes_10 : decode cX11_smokes 10 = .ok (.iconst 1, 1) := by decide +kernel
theorem dX11_smokes_11 : decode cX11_smokes 11 = .ok (.ireturn, 1) := by decide +kernel
theorem dX11_smokes_12 : decode cX11_smokes 12 = .ok (.iconst 1, 1) := by decide +kernel
theorem dX11_smokes_13 : decode cX11_smokes 13 = .ok (.iload_n 2, 1) := by decide +kernel
theorem dX11_smokes_14 : decode cX11_smokes 14 = .ok (.iadd, 1) := by decide +kernel
theorem dX11_smokes_15 : decode cX11_smokes 15 = .ok (.istore_n 3, 1) := by decide +kernel
theorem dX11_smokes_16 : decode cX11_smokes 16 = .ok (.iconst 0, 1) := by decide +kernel
theorem dX11_smokes_17 : decode cX11_smokes 17 = .ok (.istore 4, 2) := by decide +kernel
theorem dX11_smokes_19 : decode cX11_smokes 19 = .ok (.iconst 0, 1) := by decide +kernel
theorem dX11_smokes_20 : decode cX11_smokes 20 = .ok (.istore 5, 2) := by decide +kernel
theorem dX11_smokes_22 : decode cX11_smokes 22 = .ok (.iload 5, 2) := by decide +kernel
theorem dX11_smokes_24 : decode cX11_smokes 24 = .ok (.bipush 36, 2) := by decide +kernel
theorem dX11_smokes_26 : decode cX11_smokes 26 = .ok (.if_icmp .gt 87, 3) := by decide +kernel
theorem dX11_smokes_29 : decode cX11_smokes 29 = .ok (.aload_n 0, 1) := by decide +kernel
theorem dX11_smokes_30 : decode cX11_smokes 30 = .ok (.iload_n 3, 1) := by decide +kernel
theorem dX11_smokes_31 : decode cX11_smokes 31 = .ok (.iload 5, 2) := by decide +kernel
theorem dX11_smokes_33 : decode cX11_smokes 33 = .ok (.invokevirtual 246, 3) := by decide +kernel
theorem dX11_smokes_36 : decode cX11_smokes 36 = .ok (.ifCond .eq 71, 3) := by decide +kernel
theorem dX11_smokes_39 : decode cX11_smokes 39 = .ok (.aload_n 0, 1) := by decide +kernel
theorem dX11_smokes_40 : decode cX11_smokes 40 = .ok (.iload_n 3, 1) := by decide +kernel
theorem dX11_smokes_41 : decode cX11_smokes 41 = .ok (.iload_n 3, 1) := by decide +kernel
theorem dX11_smokes_42 : decode cX11_smokes 42 = .ok (.iconst 1, 1) := by decide +kernel
theorem dX11_smokes_43 : decode cX11_smokes 43 = .ok (.iadd, 1) := by decide +kernel
theorem dX11_smokes_44 : decode cX11_smokes 44 = .ok (.invokevirtual 204, 3) := by decide +kernel
theorem dX11_smokes_47 : decode cX11_smokes 47 = .ok (.iload 5, 2) := by decide +kernel
theorem dX11_smokes_49 : decode cX11_smokes 49 = .ok (.invokestatic 214, 3) := by decide +kernel
theorem dX11_smokes_52 : decode cX11_smokes 52 = .ok (.ifCond .ne 15, 3) := by decide +kernel
theorem dX11_smokes_55 : decode cX11_smokes 55 = .ok (.aload_n 0, 1) := by decide +kernel
theorem dX11_smokes_56 : decode cX11_smokes 56 = .ok (.iload_n 3, 1) := by decide +kernel
theorem dX11_smokes_57 : decode cX11_smokes 57 = .ok (.iconst 1, 1) := by decide +kernel
theorem dX11_smokes_58 : decode cX11_smokes 58 = .ok (.iadd, 1) := by decide +kernel
theorem dX11_smokes_59 : decode cX11_smokes 59 = .ok (.iload 5, 2) := by decide +kernel
theorem dX11_smokes_61 : decode cX11_smokes 61 = .ok (.bipush 6, 2) := by decide +kernel
theorem dX11_smokes_63 : decode cX11_smokes 63 = .ok (.irem, 1) := by decide +kernel
theorem dX11_smokes_64 : decode cX11_smokes 64 = .ok (.invokevirtual 190, 3) := by decide +kernel
theorem dX11_smokes_67 : decode cX11_smokes 67 = .ok (.aload_n 0, 1) := by decide +kernel
theorem dX11_smokes_68 : decode cX11_smokes 68 = .ok (.iload_n 3, 1) := by decide +kernel
theorem dX11_smokes_69 : decode cX11_smokes 69 = .ok (.iconst 1, 1) := by decide +kernel
theorem dX11_smokes_70 : decode cX11_smokes 70 = .ok (.iadd, 1) := by decide +kernel
theorem dX11_smokes_71 : decode cX11_smokes 71 = .ok (.invokevirtual 197, 3) := by decide +kernel
theorem dX11_smokes_74 : decode cX11_smokes 74 = .ok (.iload 4, 2) := by decide +kernel
theorem dX11_smokes_76 : decode cX11_smokes 76 = .ok (.aload_n 0, 1) := by decide +kernel
theorem dX11_smokes_77 : decode cX11_smokes 77 = .ok (.iload_n 3, 1) := by decide +kernel
theorem dX11_smokes_78 : decode cX11_smokes 78 = .ok (.iconst 1, 1) := by decide +kernel
theorem dX11_smokes_79 : decode cX11_smokes 79 = .ok (.iadd, 1) := by decide +kernel
theorem dX11_smokes_80 : decode cX11_smokes 80 = .ok (.invokevirtual 163, 3) := by decide +kernel
theorem dX11_smokes_83 : decode cX11_smokes 83 = .ok (.aload_n 0, 1) := by decide +kernel
theorem dX11_smokes_84 : decode cX11_smokes 84 = .ok (.iload_n 1, 1) := by decide +kernel
theorem dX11_smokes_85 : decode cX11_smokes 85 = .ok (.iload_n 2, 1) := by decide +kernel
theorem dX11_smokes_86 : decode cX11_smokes 86 = .ok (.invokevirtual 101, 3) := by decide +kernel
theorem dX11_smokes_89 : decode cX11_smokes 89 = .ok (.if_icmp .ne 14, 3) := by decide +kernel
theorem dX11_smokes_92 : decode cX11_smokes 92 = .ok (.aload_n 0, 1) := by decide +kernel
theorem dX11_smokes_93 : decode cX11_smokes 93 = .ok (.iload_n 1, 1) := by decide +kernel
theorem dX11_smokes_94 : decode cX11_smokes 94 = .ok (.iload_n 2, 1) := by decide +kernel
theorem dX11_smokes_95 : decode cX11_smokes 95 = .ok (.iconst 1, 1) := by decide +kernel
theorem dX11_smokes_96 : decode cX11_smokes 96 = .ok (.iadd, 1) := by decide +kernel
theorem dX11_smokes_97 : decode cX11_smokes 97 = .ok (.invokevirtual 272, 3) := by decide +kernel
theorem dX11_smokes_100 : decode cX11_smokes 100 = .ok (.goto 4, 3) := by decide +kernel
theorem dX11_smokes_103 : decode cX11_smokes 103 = .ok (.iconst 0, 1) := by decide +kernel
theorem dX11_smokes_104 : decode cX11_smokes 104 = .ok (.iadd, 1) := by decide +kernel
theorem dX11_smokes_105 : decode cX11_smokes 105 = .ok (.istore 4, 2) := by decide +kernel
theorem dX11_smokes_107 : decode cX11_smokes 107 = .ok (.iinc 5 1, 3) := by decide +kernel
theorem dX11_smokes_110 : decode cX11_smokes 110 = .ok (.goto (-88), 3) := by decide +kernel
theorem dX11_smokes_113 : decode cX11_smokes 113 = .ok (.iload 4, 2) := by decide +kernel
theorem dX11_smokes_115 : decode cX11_smokes 115 = .ok (.ireturn, 1) := by decide +kernel
theorem dX11_smoke_0 : decode cX11_smoke 0 = .ok (.aload_n 0, 1) := by decide +kernel
theorem dX11_smoke_1 : decode cX11_smoke 1 = .ok (.iload_n 1, 1) := by decide +kernel
theorem dX11_smoke_2 : decode cX11_smoke 2 = .ok (.iconst 1, 1) := by decide +kernel
theorem dX11_smoke_3 : decode cX11_smoke 3 = .ok (.invokevirtual 275, 3) := by decide +kernel
theorem dX11_smoke_6 : decode cX11_smoke 6 = .ok (.istore_n 2, 1) := by decide +kernel
theorem dX11_smoke_7 : decode cX11_smoke 7 = .ok (.iload_n 2, 1) := by decide +kernel
theorem dX11_smoke_8 : decode cX11_smoke 8 = .ok (.ifCond .ge 5, 3) := by decide +kernel
theorem dX11_smoke_11 : decode cX11_smoke 11 = .ok (.iload_n 2, 1) := by decide +kernel
theorem dX11_smoke_12 : decode cX11_smoke 12 = .ok (.ireturn, 1) := by decide +kernel
theorem dX11_smoke_13 : decode cX11_smoke 13 = .ok (.iconst 0, 1) := by decide +kernel
theorem dX11_smoke_14 : decode cX11_smoke 14 = .ok (.istore_n 3, 1) := by decide +kernel
theorem dX11_smoke_15 : decode cX11_smoke 15 = .ok (.iconst 0, 1) := by decide +kernel
theorem dX11_smoke_16 : decode cX11_smoke 16 = .ok (.istore 4, 2) := by decide +kernel
theorem dX11_smoke_18 : decode cX11_smoke 18 = .ok (.iconst 0, 1) := by decide +kernel
theorem dX11_smoke_19 : decode cX11_smoke 19 = .ok (.istore 5, 2) := by decide +kernel
theorem dX11_smoke_21 : decode cX11_smoke 21 = .ok (.iload 5, 2) := by decide +kernel
theorem dX11_smoke_23 : decode cX11_smoke 23 = .ok (.aload_n 0, 1) := by decide +kernel
theorem dX11_smoke_24 : decode cX11_smoke 24 = .ok (.getfield 138, 3) := by decide +kernel
theorem dX11_smoke_27 : decode cX11_smoke 27 = .ok (.if_icmp .ge 66, 3) := by decide +kernel
theorem dX11_smoke_30 : decode cX11_smoke 30 = .ok (.aload_n 0, 1) := by decide +kernel
theorem dX11_smoke_31 : decode cX11_smoke 31 = .ok (.iconst 1, 1) := by decide +kernel
theorem dX11_smoke_32 : decode cX11_smoke 32 = .ok (.invokevirtual 269, 3) := by decide +kernel
theorem dX11_smoke_35 : decode cX11_smoke 35 = .ok (.aload_n 0, 1) := by decide +kernel
theorem dX11_smoke_36 : decode cX11_smoke 36 = .ok (.iconst 1, 1) := by decide +kernel
theorem dX11_smoke_37 : decode cX11_smoke 37 = .ok (.iload 5, 2) := by decide +kernel
theorem dX11_smoke_39 : decode cX11_smoke 39 = .ok (.invokevirtual 151, 3) := by decide +kernel
theorem dX11_smoke_42 : decode cX11_smoke 42 = .ok (.ifCond .eq 45, 3) := by decide +kernel
theorem dX11_smoke_45 : decode cX11_smoke 45 = .ok (.aload_n 0, 1) := by decide +kernel
theorem dX11_smoke_46 : decode cX11_smoke 46 = .ok (.getfield 51, 3) := by decide +kernel
theorem dX11_smoke_49 : decode cX11_smoke 49 = .ok (.bipush 28, 2) := by decide +kernel
theorem dX11_smoke_51 : decode cX11_smoke 51 = .ok (.iload 5, 2) := by decide +kernel
theorem dX11_smoke_53 : decode cX11_smoke 53 = .ok (.iadd, 1) := by decide +kernel
theorem dX11_smoke_54 : decode cX11_smoke 54 = .ok (.iconst 1, 1) := by decide +kernel
theorem dX11_smoke_55 : decode cX11_smoke 55 = .ok (.iastore, 1) := by decide +kernel
theorem dX11_smoke_56 : decode cX11_smoke 56 = .ok (.aload_n 0, 1) := by decide +kernel
theorem dX11_smoke_57 : decode cX11_smoke 57 = .ok (.iload_n 1, 1) := by decide +kernel
theorem dX11_smoke_58 : decode cX11_smoke 58 = .ok (.iconst 0, 1) := by decide +kernel
theorem dX11_smoke_59 : decode cX11_smoke 59 = .ok (.invokevirtual 272, 3) := by decide +kernel
theorem dX11_smoke_62 : decode cX11_smoke 62 = .ok (.istore 6, 2) := by decide +kernel
theorem dX11_smoke_64 : decode cX11_smoke 64 = .ok (.iload_n 3, 1) := by decide +kernel
theorem dX11_smoke_65 : decode cX11_smoke 65 = .ok (.iload 6, 2) := by decide +kernel
theorem dX11_smoke_67 : decode cX11_smoke 67 = .ok (.iadd, 1) := by decide +kernel
theorem dX11_smoke_68 : decode cX11_smoke 68 = .ok (.istore_n 3, 1) := by decide +kernel
theorem dX11_smoke_69 : decode cX11_smoke 69 = .ok (.iload 4, 2) := by decide +kernel
theorem dX11_smoke_71 : decode cX11_smoke 71 = .ok (.iload 6, 2) := by decide +kernel
theorem dX11_smoke_73 : decode cX11_smoke 73 = .ok (.ifCond .le 10, 3) := by decide +kernel
theorem dX11_smoke_76 : decode cX11_smoke 76 = .ok (.iconst 1, 1) := by decide +kernel
theorem dX11_smoke_77 : decode cX11_smoke 77 = .ok (.iload 5, 2) := by decide +kernel
theorem dX11_smoke_79 : decode cX11_smoke 79 = .ok (.ishl, 1) := by decide +kernel
theorem dX11_smoke_80 : decode cX11_smoke 80 = .ok (.goto 4, 3) := by decide +kernel
theorem dX11_smoke_83 : decode cX11_smoke 83 = .ok (.iconst 0, 1) := by decide +kernel
theorem dX11_smoke_84 : decode cX11_smoke 84 = .ok (.ior, 1) := by decide +kernel
theorem dX11_smoke_85 : decode cX11_smoke 85 = .ok (.istore 4, 2) := by decide +kernel
theorem dX11_smoke_87 : decode cX11_smoke 87 = .ok (.iinc 5 1, 3) := by decide +kernel
theorem dX11_smoke_90 : decode cX11_smoke 90 = .ok (.goto (-69), 3) := by decide +kernel
theorem dX11_smoke_93 : decode cX11_smoke 93 = .ok (.aload_n 0, 1) := by decide +kernel
theorem dX11_smoke_94 : decode cX11_smoke 94 = .ok (.iload_n 3, 1) := by decide +kernel
theorem dX11_smoke_95 : decode cX11_smoke 95 = .ok (.i2l, 1) := by decide +kernel
theorem dX11_smoke_96 : decode cX11_smoke 96 = .ok (.lconst 1, 1) := by decide +kernel
theorem dX11_smoke_97 : decode cX11_smoke 97 = .ok (.invokevirtual 262, 3) := by decide +kernel
theorem dX11_smoke_100 : decode cX11_smoke 100 = .ok (.pop, 1) := by decide +kernel
theorem dX11_smoke_101 : decode cX11_smoke 101 = .ok (.aload_n 0, 1) := by decide +kernel
theorem dX11_smoke_102 : decode cX11_smoke 102 = .ok (.iload 4, 2) := by decide +kernel
theorem dX11_smoke_104 : decode cX11_smoke 104 = .ok (.iconst 1, 1) := by decide +kernel
theorem dX11_smoke_105 : decode cX11_smoke 105 = .ok (.invokevirtual 105, 3) := by decide +kernel
theorem dX11_smoke_108 : decode cX11_smoke 108 = .ok (.ireturn, 1) := by decide +kernel
theorem dX11_hides_0 : decode cX11_hides 0 = .ok (.aload_n 0, 1) := by decide +kernel
theorem dX11_hides_1 : decode cX11_hides 1 = .ok (.iload_n 1, 1) := by decide +kernel
theorem dX11_hides_2 : decode cX11_hides 2 = .ok (.iload_n 2, 1) := by decide +kernel
theorem dX11_hides_3 : decode cX11_hides 3 = .ok (.iconst 0, 1) := by decide +kernel
theorem dX11_hides_4 : decode cX11_hides 4 = .ok (.aload_n 0, 1) := by decide +kernel
theorem dX11_hides_5 : decode cX11_hides 5 = .ok (.invokevirtual 210, 3) := by decide +kernel
theorem dX11_hides_8 : decode cX11_hides 8 = .ok (.invokestatic 83, 3) := by decide +kernel
theorem dX11_hides_11 : decode cX11_hides 11 = .ok (.invokevirtual 275, 3) := by decide +kernel
theorem dX11_hides_14 : decode cX11_hides 14 = .ok (.istore_n 3, 1) := by decide +kernel
theorem dX11_hides_15 : decode cX11_hides 15 = .ok (.iload_n 3, 1) := by decide +kernel
theorem dX11_hides_16 : decode cX11_hides 16 = .ok (.ifCond .ge 5, 3) := by decide +kernel
theorem dX11_hides_19 : decode cX11_hides 19 = .ok (.iload_n 3, 1) := by decide +kernel
theorem dX11_hides_20 : decode cX11_hides 20 = .ok (.ireturn, 1) := by decide +kernel
theorem dX11_hides_21 : decode cX11_hides 21 = .ok (.iconst 0, 1) := by decide +kernel
theorem dX11_hides_22 : decode cX11_hides 22 = .ok (.istore 4, 2) := by decide +kernel
theorem dX11_hides_24 : decode cX11_hides 24 = .ok (.iconst 0, 1) := by decide +kernel
theorem dX11_hides_25 : decode cX11_hides 25 = .ok (.istore 5, 2) := by decide +kernel
theorem dX11_hides_27 : decode cX11_hides 27 = .ok (.iload 5, 2) := by decide +kernel
theorem dX11_hides_29 : decode cX11_hides 29 = .ok (.aload_n 0, 1) := by decide +kernel
theorem dX11_hides_30 : decode cX11_hides 30 = .ok (.getfield 17, 3) := by decide +kernel
theorem dX11_hides_33 : decode cX11_hides 33 = .ok (.iload_n 1, 1) := by decide +kernel
theorem dX11_hides_34 : decode cX11_hides 34 = .ok (.iaload, 1) := by decide +kernel
theorem dX11_hides_35 : decode cX11_hides 35 = .ok (.if_icmp .ge 21, 3) := by decide +kernel
theorem dX11_hides_38 : decode cX11_hides 38 = .ok (.iload 4, 2) := by decide +kernel
theorem dX11_hides_40 : decode cX11_hides 40 = .ok (.aload_n 0, 1) := by decide +kernel
theorem dX11_hides_41 : decode cX11_hides 41 = .ok (.iload_n 1, 1) := by decide +kernel
theorem dX11_hides_42 : decode cX11_hides 42 = .ok (.iload 5, 2) := by decide +kernel
theorem dX11_hides_44 : decode cX11_hides 44 = .ok (.invokevirtual 101, 3) := by decide +kernel
theorem dX11_hides_47 : decode cX11_hides 47 = .ok (.ior, 1) := by decide +kernel
theorem dX11_hides_48 : decode cX11_hides 48 = .ok (.istore 4, 2) := by decide +kernel
theorem dX11_hides_50 : decode cX11_hides 50 = .ok (.iinc 5 1, 3) := by decide +kernel
theorem dX11_hides_53 : decode cX11_hides 53 = .ok (.goto (-26), 3) := by decide +kernel
theorem dX11_hides_56 : decode cX11_hides 56 = .ok (.iconst 0, 1) := by decide +kernel
theorem dX11_hides_57 : decode cX11_hides 57 = .ok (.istore 5, 2) := by decide +kernel
theorem dX11_hides_59 : decode cX11_hides 59 = .ok (.iload 5, 2) := by decide +kernel
theorem dX11_hides_61 : decode cX11_hides 61 = .ok (.aload_n 0, 1) := by decide +kernel
theorem dX11_hides_62 : decode cX11_hides 62 = .ok (.getfield 138, 3) := by decide +kernel
theorem dX11_hides_65 : decode cX11_hides 65 = .ok (.if_icmp .ge 26, 3) := by decide +kernel
theorem dX11_hides_68 : decode cX11_hides 68 = .ok (.iload 4, 2) := by decide +kernel
theorem dX11_hides_70 : decode cX11_hides 70 = .ok (.iload_n 2, 1) := by decide +kernel
theorem dX11_hides_71 : decode cX11_hides 71 = .ok (.iconst (-1), 1) := by decide +kernel
theorem dX11_hides_72 : decode cX11_hides 72 = .ok (.ixor, 1) := by decide +kernel
theorem dX11_hides_73 : decode cX11_hides 73 = .ok (.iand, 1) := by decide +kernel
theorem dX11_hides_74 : decode cX11_hides 74 = .ok (.iload 5, 2) := by decide +kernel
theorem dX11_hides_76 : decode cX11_hides 76 = .ok (.invokestatic 166, 3) := by decide +kernel
theorem dX11_hides_79 : decode cX11_hides 79 = .ok (.ifCond .eq 6, 3) := by decide +kernel
theorem dX11_hides_82 : decode cX11_hides 82 = .ok (.iload 5, 2) := by decide +kernel
theorem dX11_hides_84 : decode cX11_hides 84 = .ok (.ireturn, 1) := by decide +kernel
theorem dX11_hides_85 : decode cX11_hides 85 = .ok (.iinc 5 1, 3) := by decide +kernel
theorem dX11_hides_88 : decode cX11_hides 88 = .ok (.goto (-29), 3) := by decide +kernel
theorem dX11_hides_91 : decode cX11_hides 91 = .ok (.bipush (-9), 2) := by decide +kernel
theorem dX11_hides_93 : decode cX11_hides 93 = .ok (.ireturn, 1) := by decide +kernel
theorem dX11_spring_0 : decode cX11_spring 0 = .ok (.aload_n 0, 1) := by decide +kernel
theorem dX11_spring_1 : decode cX11_spring 1 = .ok (.iload_n 1, 1) := by decide +kernel
theorem dX11_spring_2 : decode cX11_spring 2 = .ok (.invokevirtual 172, 3) := by decide +kernel
theorem dX11_spring_5 : decode cX11_spring 5 = .ok (.ifCond .eq 22, 3) := by decide +kernel
theorem dX11_spring_8 : decode cX11_spring 8 = .ok (.iload_n 2, 1) := by decide +kernel
theorem dX11_spring_9 : decode cX11_spring 9 = .ok (.iconst 0, 1) := by decide +kernel
theorem dX11_spring_10 : decode cX11_spring 10 = .ok (.bipush 20, 2) := by decide +kernel
theorem dX11_spring_12 : decode cX11_spring 12 = .ok (.invokestatic 83, 3) := by decide +kernel
theorem dX11_spring_15 : decode cX11_spring 15 = .ok (.ifCond .eq 12, 3) := by decide +kernel
theorem dX11_spring_18 : decode cX11_spring 18 = .ok (.aload_n 0, 1) := by decide +kernel
theorem dX11_spring_19 : decode cX11_spring 19 = .ok (.iload_n 1, 1) := by decide +kernel
theorem dX11_spring_20 : decode cX11_spring 20 = .ok (.iload_n 2, 1) := by decide +kernel
theorem dX11_spring_21 : decode cX11_spring 21 = .ok (.invokevirtual 178, 3) := by decide +kernel
theorem dX11_spring_24 : decode cX11_spring 24 = .ok (.goto 4, 3) := by decide +kernel
theorem dX11_spring_27 : decode cX11_spring 27 = .ok (.iconst (-1), 1) := by decide +kernel
theorem dX11_spring_28 : decode cX11_spring 28 = .ok (.ireturn, 1) := by decide +kernel
theorem dX11_partsOf_0 : decode cX11_partsOf 0 = .ok (.iconst 1, 1) := by decide +kernel
theorem dX11_partsOf_1 : decode cX11_partsOf 1 = .ok (.iload 4, 2) := by decide +kernel
theorem dX11_partsOf_3 : decode cX11_partsOf 3 = .ok (.iadd, 1) := by decide +kernel
theorem dX11_partsOf_4 : decode cX11_partsOf 4 = .ok (.istore 5, 2) := by decide +kernel
theorem dX11_partsOf_6 : decode cX11_partsOf 6 = .ok (.iload 4, 2) := by decide +kernel
theorem dX11_partsOf_8 : decode cX11_partsOf 8 = .ok (.aload_n 0, 1) := by decide +kernel
theorem dX11_partsOf_9 : decode cX11_partsOf 9 = .ok (.getfield 17, 3) := by decide +kernel
theorem dX11_partsOf_12 : decode cX11_partsOf 12 = .ok (.iload_n 2, 1) := by decide +kernel
theorem dX11_partsOf_13 : decode cX11_partsOf 13 = .ok (.iaload, 1) := by decide +kernel
theorem dX11_partsOf_14 : decode cX11_partsOf 14 = .ok (.if_icmp .ne 19, 3) := by decide +kernel
theorem dX11_partsOf_17 : decode cX11_partsOf 17 = .ok (.aload_n 0, 1) := by decide +kernel
theorem dX11_partsOf_18 : decode cX11_partsOf 18 = .ok (.iload 5, 2) := by decide +kernel
theorem dX11_partsOf_20 : decode cX11_partsOf 20 = .ok (.iload_n 1, 1) := by decide +kernel
theorem dX11_partsOf_21 : decode cX11_partsOf 21 = .ok (.invokevirtual 147, 3) := by decide +kernel
theorem dX11_partsOf_24 : decode cX11_partsOf 24 = .ok (.ifCond .eq 7, 3) := by decide +kernel
theorem dX11_partsOf_27 : decode cX11_partsOf 27 = .ok (.lconst 1, 1) := by decide +kernel
theorem dX11_partsOf_28 : decode cX11_partsOf 28 = .ok (.goto 4, 3) := by decide +kernel
theorem dX11_partsOf_31 : decode cX11_partsOf 31 = .ok (.lconst 0, 1) := by decide +kernel
theorem dX11_partsOf_32 : decode cX11_partsOf 32 = .ok (.lreturn, 1) := by decide +kernel
theorem dX11_partsOf_33 : decode cX11_partsOf 33 = .ok (.aload_n 0, 1) := by decide +kernel
theorem dX11_partsOf_34 : decode cX11_partsOf 34 = .ok (.iload_n 2, 1) := by decide +kernel
theorem dX11_partsOf_35 : decode cX11_partsOf 35 = .ok (.iload 4, 2) := by decide +kernel
theorem dX11_partsOf_37 : decode cX11_partsOf 37 = .ok (.invokevirtual 101, 3) := by decide +kernel
theorem dX11_partsOf_40 : decode cX11_partsOf 40 = .ok (.istore 6, 2) := by decide +kernel
theorem dX11_partsOf_42 : decode cX11_partsOf 42 = .ok (.iload 6, 2) := by decide +kernel
theorem dX11_partsOf_44 : decode cX11_partsOf 44 = .ok (.invokestatic 214, 3) := by decide +kernel
theorem dX11_partsOf_47 : decode cX11_partsOf 47 = .ok (.ifCond .ne 18, 3) := by decide +kernel
theorem dX11_partsOf_50 : decode cX11_partsOf 50 = .ok (.aload_n 0, 1) := by decide +kernel
theorem dX11_partsOf_51 : decode cX11_partsOf 51 = .ok (.iload 5, 2) := by decide +kernel
theorem dX11_partsOf_53 : decode cX11_partsOf 53 = .ok (.iload 6, 2) := by decide +kernel
theorem dX11_partsOf_55 : decode cX11_partsOf 55 = .ok (.invokevirtual 246, 3) := by decide +kernel
theorem dX11_partsOf_58 : decode cX11_partsOf 58 = .ok (.ifCond .eq 7, 3) := by decide +kernel
theorem dX11_partsOf_61 : decode cX11_partsOf 61 = .ok (.iconst 1, 1) := by decide +kernel
theorem dX11_partsOf_62 : decode cX11_partsOf 62 = .ok (.goto 4, 3) := by decide +kernel
theorem dX11_partsOf_65 : decode cX11_partsOf 65 = .ok (.iconst 0, 1) := by decide +kernel
theorem dX11_partsOf_66 : decode cX11_partsOf 66 = .ok (.istore 7, 2) := by decide +kernel
theorem dX11_partsOf_68 : decode cX11_partsOf 68 = .ok (.aload_n 0, 1) := by decide +kernel
theorem dX11_partsOf_69 : decode cX11_partsOf 69 = .ok (.iload 5, 2) := by decide +kernel
theorem dX11_partsOf_71 : decode cX11_partsOf 71 = .ok (.iload 5, 2) := by decide +kernel
theorem dX11_partsOf_73 : decode cX11_partsOf 73 = .ok (.iconst 1, 1) := by decide +kernel
theorem dX11_partsOf_74 : decode cX11_partsOf 74 = .ok (.iadd, 1) := by decide +kernel
theorem dX11_partsOf_75 : decode cX11_partsOf 75 = .ok (.invokevirtual 204, 3) := by decide +kernel
theorem dX11_partsOf_78 : decode cX11_partsOf 78 = .ok (.aload_n 0, 1) := by decide +kernel
theorem dX11_partsOf_79 : decode cX11_partsOf 79 = .ok (.iload 5, 2) := by decide +kernel
theorem dX11_partsOf_81 : decode cX11_partsOf 81 = .ok (.iconst 1, 1) := by decide +kernel
theorem dX11_partsOf_82 : decode cX11_partsOf 82 = .ok (.iadd, 1) := by decide +kernel
theorem dX11_partsOf_83 : decode cX11_partsOf 83 = .ok (.invokevirtual 197, 3) := by decide +kernel
theorem dX11_partsOf_86 : decode cX11_partsOf 86 = .ok (.aload_n 0, 1) := by decide +kernel
theorem dX11_partsOf_87 : decode cX11_partsOf 87 = .ok (.iload_n 1, 1) := by decide +kernel
theorem dX11_partsOf_88 : decode cX11_partsOf 88 = .ok (.iload_n 2, 1) := by decide +kernel
theorem dX11_partsOf_89 : decode cX11_partsOf 89 = .ok (.iload_n 3, 1) := by decide +kernel
theorem dX11_partsOf_90 : decode cX11_partsOf 90 = .ok (.iload 4, 2) := by decide +kernel
theorem dX11_partsOf_92 : decode cX11_partsOf 92 = .ok (.iconst 1, 1) := by decide +kernel
theorem dX11_partsOf_93 : decode cX11_partsOf 93 = .ok (.iadd, 1) := by decide +kernel
theorem dX11_partsOf_94 : decode cX11_partsOf 94 = .ok (.invokevirtual 279, 3) := by decide +kernel
theorem dX11_partsOf_97 : decode cX11_partsOf 97 = .ok (.lstore 8, 2) := by decide +kernel
theorem dX11_partsOf_99 : decode cX11_partsOf 99 = .ok (.iload 7, 2) := by decide +kernel
theorem dX11_partsOf_101 : decode cX11_partsOf 101 = .ok (.ifCond .ne 10, 3) := by decide +kernel
theorem dX11_partsOf_104 : decode cX11_partsOf 104 = .ok (.ldc2_w 283, 3) := by decide +kernel
theorem dX11_partsOf_107 : decode cX11_partsOf 107 = .ok (.lload 8, 2) := by decide +kernel
theorem dX11_partsOf_109 : decode cX11_partsOf 109 = .ok (.lmul, 1) := by decide +kernel
theorem dX11_partsOf_110 : decode cX11_partsOf 110 = .ok (.lreturn, 1) := by decide +kernel
theorem dX11_partsOf_111 : decode cX11_partsOf 111 = .ok (.aload_n 0, 1) := by decide +kernel
theorem dX11_partsOf_112 : decode cX11_partsOf 112 = .ok (.iload 5, 2) := by decide +kernel
theorem dX11_partsOf_114 : decode cX11_partsOf 114 = .ok (.iload 5, 2) := by decide +kernel
theorem dX11_partsOf_116 : decode cX11_partsOf 116 = .ok (.iconst 1, 1) := by decide +kernel
theorem dX11_partsOf_117 : decode cX11_partsOf 117 = .ok (.iadd, 1) := by decide +kernel
theorem dX11_partsOf_118 : decode cX11_partsOf 118 = .ok (.invokevirtual 204, 3) := by decide +kernel
theorem dX11_partsOf_121 : decode cX11_partsOf 121 = .ok (.aload_n 0, 1) := by decide +kernel
theorem dX11_partsOf_122 : decode cX11_partsOf 122 = .ok (.iload 5, 2) := by decide +kernel
theorem dX11_partsOf_124 : decode cX11_partsOf 124 = .ok (.iconst 1, 1) := by decide +kernel
theorem dX11_partsOf_125 : decode cX11_partsOf 125 = .ok (.iadd, 1) := by decide +kernel
theorem dX11_partsOf_126 : decode cX11_partsOf 126 = .ok (.iload 6, 2) := by decide +kernel
theorem dX11_partsOf_128 : decode cX11_partsOf 128 = .ok (.bipush 6, 2) := by decide +kernel
theorem dX11_partsOf_130 : decode cX11_partsOf 130 = .ok (.irem, 1) := by decide +kernel
theorem dX11_partsOf_131 : decode cX11_partsOf 131 = .ok (.invokevirtual 190, 3) := by decide +kernel
theorem dX11_partsOf_134 : decode cX11_partsOf 134 = .ok (.aload_n 0, 1) := by decide +kernel
theorem dX11_partsOf_135 : decode cX11_partsOf 135 = .ok (.iload 5, 2) := by decide +kernel
theorem dX11_partsOf_137 : decode cX11_partsOf 137 = .ok (.iconst 1, 1) := by decide +kernel
theorem dX11_partsOf_138 : decode cX11_partsOf 138 = .ok (.iadd, 1) := by decide +kernel
theorem dX11_partsOf_139 : decode cX11_partsOf 139 = .ok (.invokevirtual 197, 3) := by decide +kernel
theorem dX11_partsOf_142 : decode cX11_partsOf 142 = .ok (.iload_n 3, 1) := by decide +kernel
theorem dX11_partsOf_143 : decode cX11_partsOf 143 = .ok (.i2l, 1) := by decide +kernel
theorem dX11_partsOf_144 : decode cX11_partsOf 144 = .ok (.lload 8, 2) := by decide +kernel
theorem dX11_partsOf_146 : decode cX11_partsOf 146 = .ok (.lmul, 1) := by decide +kernel
theorem dX11_partsOf_147 : decode cX11_partsOf 147 = .ok (.bipush 12, 2) := by decide +kernel
theorem dX11_partsOf_149 : decode cX11_partsOf 149 = .ok (.iload_n 3, 1) := by decide +kernel
theorem dX11_partsOf_150 : decode cX11_partsOf 150 = .ok (.isub, 1) := by decide +kernel
theorem dX11_partsOf_151 : decode cX11_partsOf 151 = .ok (.i2l, 1) := by decide +kernel
theorem dX11_partsOf_152 : decode cX11_partsOf 152 = .ok (.aload_n 0, 1) := by decide +kernel
theorem dX11_partsOf_153 : decode cX11_partsOf 153 = .ok (.iload_n 1, 1) := by decide +kernel
theorem dX11_partsOf_154 : decode cX11_partsOf 154 = .ok (.iload_n 2, 1) := by decide +kernel
theorem dX11_partsOf_155 : decode cX11_partsOf 155 = .ok (.iload_n 3, 1) := by decide +kernel
theorem dX11_partsOf_156 : decode cX11_partsOf 156 = .ok (.iload 4, 2) := by decide +kernel
theorem dX11_partsOf_158 : decode cX11_partsOf 158 = .ok (.iconst 1, 1) := by decide +kernel
theorem dX11_partsOf_159 : decode cX11_partsOf 159 = .ok (.iadd, 1) := by decide +kernel
theorem dX11_partsOf_160 : decode cX11_partsOf 160 = .ok (.invokevirtual 279, 3) := by decide +kernel
theorem dX11_partsOf_163 : decode cX11_partsOf 163 = .ok (.lmul, 1) := by decide +kernel
theorem dX11_partsOf_164 : decode cX11_partsOf 164 = .ok (.ladd, 1) := by decide +kernel
theorem dX11_partsOf_165 : decode cX11_partsOf 165 = .ok (.lreturn, 1) := by decide +kernel
theorem dX11_odds_0 : decode cX11_odds 0 = .ok (.aload_n 0, 1) := by decide +kernel
theorem dX11_odds_1 : decode cX11_odds 1 = .ok (.iload_n 1, 1) := by decide +kernel
theorem dX11_odds_2 : decode cX11_odds 2 = .ok (.invokevirtual 172, 3) := by decide +kernel
theorem dX11_odds_5 : decode cX11_odds 5 = .ok (.ifCond .eq 20, 3) := by decide +kernel
theorem dX11_odds_8 : decode cX11_odds 8 = .ok (.iload_n 2, 1) := by decide +kernel
theorem dX11_odds_9 : decode cX11_odds 9 = .ok (.invokestatic 93, 3) := by decide +kernel
theorem dX11_odds_12 : decode cX11_odds 12 = .ok (.ifCond .eq 13, 3) := by decide +kernel
theorem dX11_odds_15 : decode cX11_odds 15 = .ok (.iload_n 3, 1) := by decide +kernel
theorem dX11_odds_16 : decode cX11_odds 16 = .ok (.iconst 0, 1) := by decide +kernel
theorem dX11_odds_17 : decode cX11_odds 17 = .ok (.bipush 12, 2) := by decide +kernel
theorem dX11_odds_19 : decode cX11_odds 19 = .ok (.invokestatic 83, 3) := by decide +kernel
theorem dX11_odds_22 : decode cX11_odds 22 = .ok (.ifCond .ne 5, 3) := by decide +kernel
theorem dX11_odds_25 : decode cX11_odds 25 = .ok (.iconst (-1), 1) := by decide +kernel
theorem dX11_odds_26 : decode cX11_odds 26 = .ok (.ireturn, 1) := by decide +kernel
theorem dX11_odds_27 : decode cX11_odds 27 = .ok (.aload_n 0, 1) := by decide +kernel
theorem dX11_odds_28 : decode cX11_odds 28 = .ok (.getfield 17, 3) := by decide +kernel
theorem dX11_odds_31 : decode cX11_odds 31 = .ok (.iload_n 2, 1) := by decide +kernel
theorem dX11_odds_32 : decode cX11_odds 32 = .ok (.iaload, 1) := by decide +kernel
theorem dX11_odds_33 : decode cX11_odds 33 = .ok (.ifCond .ge 9, 3) := by decide +kernel
theorem dX11_odds_36 : decode cX11_odds 36 = .ok (.aload_n 0, 1) := by decide +kernel
theorem dX11_odds_37 : decode cX11_odds 37 = .ok (.iconst 1, 1) := by decide +kernel
theorem dX11_odds_38 : decode cX11_odds 38 = .ok (.invokevirtual 97, 3) := by decide +kernel
theorem dX11_odds_41 : decode cX11_odds 41 = .ok (.ireturn, 1) := by decide +kernel
theorem dX11_odds_42 : decode cX11_odds 42 = .ok (.aload_n 0, 1) := by decide +kernel
theorem dX11_odds_43 : decode cX11_odds 43 = .ok (.getfield 17, 3) := by decide +kernel
theorem dX11_odds_46 : decode cX11_odds 46 = .ok (.iload_n 2, 1) := by decide +kernel
theorem dX11_odds_47 : decode cX11_odds 47 = .ok (.iaload, 1) := by decide +kernel
theorem dX11_odds_48 : decode cX11_odds 48 = .ok (.iconst 4, 1) := by decide +kernel
theorem dX11_odds_49 : decode cX11_odds 49 = .ok (.if_icmp .le 9, 3) := by decide +kernel
theorem dX11_odds_52 : decode cX11_odds 52 = .ok (.aload_n 0, 1) := by decide +kernel
theorem dX11_odds_53 : decode cX11_odds 53 = .ok (.iconst 5, 1) := by decide +kernel
theorem dX11_odds_54 : decode cX11_odds 54 = .ok (.invokevirtual 97, 3) := by decide +kernel
theorem dX11_odds_57 : decode cX11_odds 57 = .ok (.ireturn, 1) := by decide +kernel
theorem dX11_odds_58 : decode cX11_odds 58 = .ok (.aload_n 0, 1) := by decide +kernel
theorem dX11_odds_59 : decode cX11_odds 59 = .ok (.iload_n 2, 1) := by decide +kernel
theorem dX11_odds_60 : decode cX11_odds 60 = .ok (.invokevirtual 266, 3) := by decide +kernel
theorem dX11_odds_63 : decode cX11_odds 63 = .ok (.ifCond .ne 9, 3) := by decide +kernel
theorem dX11_odds_66 : decode cX11_odds 66 = .ok (.aload_n 0, 1) := by decide +kernel
theorem dX11_odds_67 : decode cX11_odds 67 = .ok (.iconst 3, 1) := by decide +kernel
theorem dX11_odds_68 : decode cX11_odds 68 = .ok (.invokevirtual 97, 3) := by decide +kernel
theorem dX11_odds_71 : decode cX11_odds 71 = .ok (.ireturn, 1) := by decide +kernel
theorem dX11_odds_72 : decode cX11_odds 72 = .ok (.lconst 1, 1) := by decide +kernel
theorem dX11_odds_73 : decode cX11_odds 73 = .ok (.lstore 4, 2) := by decide +kernel
theorem dX11_odds_75 : decode cX11_odds 75 = .ok (.iconst 0, 1) := by decide +kernel
theorem dX11_odds_76 : decode cX11_odds 76 = .ok (.istore 6, 2) := by decide +kernel
theorem dX11_odds_78 : decode cX11_odds 78 = .ok (.iload 6, 2) := by decide +kernel
theorem dX11_odds_80 : decode cX11_odds 80 = .ok (.aload_n 0, 1) := by decide +kernel
theorem dX11_odds_81 : decode cX11_odds 81 = .ok (.getfield 17, 3) := by decide +kernel
theorem dX11_odds_84 : decode cX11_odds 84 = .ok (.iload_n 2, 1) := by decide +kernel
theorem dX11_odds_85 : decode cX11_odds 85 = .ok (.iaload, 1) := by decide +kernel
theorem dX11_odds_86 : decode cX11_odds 86 = .ok (.if_icmp .ge 17, 3) := by decide +kernel
theorem dX11_odds_89 : decode cX11_odds 89 = .ok (.lload 4, 2) := by decide +kernel
theorem dX11_odds_91 : decode cX11_odds 91 = .ok (.ldc2_w 283, 3) := by decide +kernel
theorem dX11_odds_94 : decode cX11_odds 94 = .ok (.lmul, 1) := by decide +kernel
theorem dX11_odds_95 : decode cX11_odds 95 = .ok (.lstore 4, 2) := by decide +kernel
theorem dX11_odds_97 : decode cX11_odds 97 = .ok (.iinc 6 1, 3) := by decide +kernel
theorem dX11_odds_100 : decode cX11_odds 100 = .ok (.goto (-22), 3) := by decide +kernel
theorem dX11_odds_103 : decode cX11_odds 103 = .ok (.aload_n 0, 1) := by decide +kernel
theorem dX11_odds_104 : decode cX11_odds 104 = .ok (.iconst 0, 1) := by decide +kernel
theorem dX11_odds_105 : decode cX11_odds 105 = .ok (.iconst 1, 1) := by decide +kernel
theorem dX11_odds_106 : decode cX11_odds 106 = .ok (.invokevirtual 204, 3) := by decide +kernel
theorem dX11_odds_109 : decode cX11_odds 109 = .ok (.aload_n 0, 1) := by decide +kernel
theorem dX11_odds_110 : decode cX11_odds 110 = .ok (.aload_n 0, 1) := by decide +kernel
theorem dX11_odds_111 : decode cX11_odds 111 = .ok (.iload_n 1, 1) := by decide +kernel
theorem dX11_odds_112 : decode cX11_odds 112 = .ok (.iload_n 2, 1) := by decide +kernel
theorem dX11_odds_113 : decode cX11_odds 113 = .ok (.iload_n 3, 1) := by decide +kernel
theorem dX11_odds_114 : decode cX11_odds 114 = .ok (.iconst 0, 1) := by decide +kernel
theorem dX11_odds_115 : decode cX11_odds 115 = .ok (.invokevirtual 279, 3) := by decide +kernel
theorem dX11_odds_118 : decode cX11_odds 118 = .ok (.lload 4, 2) := by decide +kernel
theorem dX11_odds_120 : decode cX11_odds 120 = .ok (.invokevirtual 262, 3) := by decide +kernel
theorem dX11_odds_123 : decode cX11_odds 123 = .ok (.ireturn, 1) := by decide +kernel
theorem dX11_lots_0 : decode cX11_lots 0 = .ok (.iload_n 1, 1) := by decide +kernel
theorem dX11_lots_1 : decode cX11_lots 1 = .ok (.iconst 1, 1) := by decide +kernel
theorem dX11_lots_2 : decode cX11_lots 2 = .ok (.bipush 10, 2) := by decide +kernel
theorem dX11_lots_4 : decode cX11_lots 4 = .ok (.invokestatic 83, 3) := by decide +kernel
theorem dX11_lots_7 : decode cX11_lots 7 = .ok (.ifCond .eq 14, 3) := by decide +kernel
theorem dX11_lots_10 : decode cX11_lots 10 = .ok (.iload_n 2, 1) := by decide +kernel
theorem dX11_lots_11 : decode cX11_lots 11 = .ok (.iconst 1, 1) := by decide +kernel
theorem dX11_lots_12 : decode cX11_lots 12 = .ok (.ldc_w 285, 3) := by decide +kernel
theorem dX11_lots_15 : decode cX11_lots 15 = .ok (.invokestatic 83, 3) := by decide +kernel
theorem dX11_lots_18 : decode cX11_lots 18 = .ok (.ifCond .ne 5, 3) := by decide +kernel
theorem dX11_lots_21 : decode cX11_lots 21 = .ok (.iconst (-1), 1) := by decide +kernel
theorem dX11_lots_22 : decode cX11_lots 22 = .ok (.ireturn, 1) := by decide +kernel
theorem dX11_lots_23 : decode cX11_lots 23 = .ok (.aload_n 0, 1) := by decide +kernel
theorem dX11_lots_24 : decode cX11_lots 24 = .ok (.getfield 138, 3) := by decide +kernel
theorem dX11_lots_27 : decode cX11_lots 27 = .ok (.ifCond .ne 6, 3) := by decide +kernel
theorem dX11_lots_30 : decode cX11_lots 30 = .ok (.bipush (-4), 2) := by decide +kernel
theorem dX11_lots_32 : decode cX11_lots 32 = .ok (.ireturn, 1) := by decide +kernel
theorem dX11_lots_33 : decode cX11_lots 33 = .ok (.aload_n 0, 1) := by decide +kernel
theorem dX11_lots_34 : decode cX11_lots 34 = .ok (.getfield 144, 3) := by decide +kernel
theorem dX11_lots_37 : decode cX11_lots 37 = .ok (.iconst 2, 1) := by decide +kernel
theorem dX11_lots_38 : decode cX11_lots 38 = .ok (.iload_n 1, 1) := by decide +kernel
theorem dX11_lots_39 : decode cX11_lots 39 = .ok (.imul, 1) := by decide +kernel
theorem dX11_lots_40 : decode cX11_lots 40 = .ok (.iadd, 1) := by decide +kernel
theorem dX11_lots_41 : decode cX11_lots 41 = .ok (.bipush 40, 2) := by decide +kernel
theorem dX11_lots_43 : decode cX11_lots 43 = .ok (.if_icmp .le 6, 3) := by decide +kernel
theorem dX11_lots_46 : decode cX11_lots 46 = .ok (.bipush (-2), 2) := by decide +kernel
theorem dX11_lots_48 : decode cX11_lots 48 = .ok (.ireturn, 1) := by decide +kernel
theorem dX11_lots_49 : decode cX11_lots 49 = .ok (.iload_n 2, 1) := by decide +kernel
theorem dX11_lots_50 : decode cX11_lots 50 = .ok (.i2l, 1) := by decide +kernel
theorem dX11_lots_51 : decode cX11_lots 51 = .ok (.lstore_n 3, 1) := by decide +kernel
theorem dX11_lots_52 : decode cX11_lots 52 = .ok (.iconst 0, 1) := by decide +kernel
theorem dX11_lots_53 : decode cX11_lots 53 = .ok (.istore 5, 2) := by decide +kernel
theorem dX11_lots_55 : decode cX11_lots 55 = .ok (.iload 5, 2) := by decide +kernel
theorem dX11_lots_57 : decode cX11_lots 57 = .ok (.iload_n 1, 1) := by decide +kernel
theorem dX11_lots_58 : decode cX11_lots 58 = .ok (.if_icmp .ge 75, 3) := by decide +kernel
theorem dX11_lots_61 : decode cX11_lots 61 = .ok (.ldc2_w 286, 3) := by decide +kernel
theorem dX11_lots_64 : decode cX11_lots 64 = .ok (.lload_n 3, 1) := by decide +kernel
theorem dX11_lots_65 : decode cX11_lots 65 = .ok (.lmul, 1) := by decide +kernel
theorem dX11_lots_66 : decode cX11_lots 66 = .ok (.ldc2_w 288, 3) := by decide +kernel
theorem dX11_lots_69 : decode cX11_lots 69 = .ok (.lrem, 1) := by decide +kernel
theorem dX11_lots_70 : decode cX11_lots 70 = .ok (.lstore_n 3, 1) := by decide +kernel
theorem dX11_lots_71 : decode cX11_lots 71 = .ok (.lload_n 3, 1) := by decide +kernel
theorem dX11_lots_72 : decode cX11_lots 72 = .ok (.aload_n 0, 1) := by decide +kernel
theorem dX11_lots_73 : decode cX11_lots 73 = .ok (.getfield 138, 3) := by decide +kernel
theorem dX11_lots_76 : decode cX11_lots 76 = .ok (.i2l, 1) := by decide +kernel
theorem dX11_lots_77 : decode cX11_lots 77 = .ok (.lrem, 1) := by decide +kernel
theorem dX11_lots_78 : decode cX11_lots 78 = .ok (.l2i, 1) := by decide +kernel
theorem dX11_lots_79 : decode cX11_lots 79 = .ok (.istore 6, 2) := by decide +kernel
theorem dX11_lots_81 : decode cX11_lots 81 = .ok (.lload_n 3, 1) := by decide +kernel
theorem dX11_lots_82 : decode cX11_lots 82 = .ok (.ldc2_w 290, 3) := by decide +kernel
theorem dX11_lots_85 : decode cX11_lots 85 = .ok (.ldiv, 1) := by decide +kernel
theorem dX11_lots_86 : decode cX11_lots 86 = .ok (.aload_n 0, 1) := by decide +kernel
theorem dX11_lots_87 : decode cX11_lots 87 = .ok (.getfield 138, 3) := by decide +kernel
theorem dX11_lots_90 : decode cX11_lots 90 = .ok (.i2l, 1) := by decide +kernel
theorem dX11_lots_91 : decode cX11_lots 91 = .ok (.lrem, 1) := by decide +kernel
theorem dX11_lots_92 : decode cX11_lots 92 = .ok (.l2i, 1) := by decide +kernel
theorem dX11_lots_93 : decode cX11_lots 93 = .ok (.istore 7, 2) := by decide +kernel
theorem dX11_lots_95 : decode cX11_lots 95 = .ok (.aload_n 0, 1) := by decide +kernel
theorem dX11_lots_96 : decode cX11_lots 96 = .ok (.iconst 0, 1) := by decide +kernel
theorem dX11_lots_97 : decode cX11_lots 97 = .ok (.iload 6, 2) := by decide +kernel
theorem dX11_lots_99 : decode cX11_lots 99 = .ok (.iload 7, 2) := by decide +kernel
theorem dX11_lots_101 : decode cX11_lots 101 = .ok (.invokevirtual 187, 3) := by decide +kernel
theorem dX11_lots_104 : decode cX11_lots 104 = .ok (.ifCond .eq 14, 3) := by decide +kernel
theorem dX11_lots_107 : decode cX11_lots 107 = .ok (.aload_n 0, 1) := by decide +kernel
theorem dX11_lots_108 : decode cX11_lots 108 = .ok (.invokevirtual 184, 3) := by decide +kernel
theorem dX11_lots_111 : decode cX11_lots 111 = .ok (.aload_n 0, 1) := by decide +kernel
theorem dX11_lots_112 : decode cX11_lots 112 = .ok (.iconst 0, 1) := by decide +kernel
theorem dX11_lots_113 : decode cX11_lots 113 = .ok (.iload 7, 2) := by decide +kernel
theorem dX11_lots_115 : decode cX11_lots 115 = .ok (.invokevirtual 190, 3) := by decide +kernel
theorem dX11_lots_118 : decode cX11_lots 118 = .ok (.aload_n 0, 1) := by decide +kernel
theorem dX11_lots_119 : decode cX11_lots 119 = .ok (.invokevirtual 184, 3) := by decide +kernel
theorem dX11_lots_122 : decode cX11_lots 122 = .ok (.aload_n 0, 1) := by decide +kernel
theorem dX11_lots_123 : decode cX11_lots 123 = .ok (.iconst 0, 1) := by decide +kernel
theorem dX11_lots_124 : decode cX11_lots 124 = .ok (.invokevirtual 197, 3) := by decide +kernel
theorem dX11_lots_127 : decode cX11_lots 127 = .ok (.iinc 5 1, 3) := by decide +kernel
theorem dX11_lots_130 : decode cX11_lots 130 = .ok (.goto (-75), 3) := by decide +kernel
theorem dX11_lots_133 : decode cX11_lots 133 = .ok (.aload_n 0, 1) := by decide +kernel
theorem dX11_lots_134 : decode cX11_lots 134 = .ok (.iconst 0, 1) := by decide +kernel
theorem dX11_lots_135 : decode cX11_lots 135 = .ok (.invokevirtual 163, 3) := by decide +kernel
theorem dX11_lots_138 : decode cX11_lots 138 = .ok (.invokestatic 194, 3) := by decide +kernel
theorem dX11_lots_141 : decode cX11_lots 141 = .ok (.ireturn, 1) := by decide +kernel
theorem dX11_counted_0 : decode cX11_counted 0 = .ok (.iconst 0, 1) := by decide +kernel
theorem dX11_counted_1 : decode cX11_counted 1 = .ok (.istore_n 2, 1) := by decide +kernel
theorem dX11_counted_2 : decode cX11_counted 2 = .ok (.iconst 0, 1) := by decide +kernel
theorem dX11_counted_3 : decode cX11_counted 3 = .ok (.istore_n 3, 1) := by decide +kernel
theorem dX11_counted_4 : decode cX11_counted 4 = .ok (.iload_n 3, 1) := by decide +kernel
theorem dX11_counted_5 : decode cX11_counted 5 = .ok (.aload_n 0, 1) := by decide +kernel
theorem dX11_counted_6 : decode cX11_counted 6 = .ok (.getfield 138, 3) := by decide +kernel
theorem dX11_counted_9 : decode cX11_counted 9 = .ok (.if_icmp .ge 56, 3) := by decide +kernel
theorem dX11_counted_12 : decode cX11_counted 12 = .ok (.iload_n 2, 1) := by decide +kernel
theorem dX11_counted_13 : decode cX11_counted 13 = .ok (.iload_n 1, 1) := by decide +kernel
theorem dX11_counted_14 : decode cX11_counted 14 = .ok (.iconst 4, 1) := by decide +kernel
theorem dX11_counted_15 : decode cX11_counted 15 = .ok (.if_icmp .ne 12, 3) := by decide +kernel
theorem dX11_counted_18 : decode cX11_counted 18 = .ok (.aload_n 0, 1) := by decide +kernel
theorem dX11_counted_19 : decode cX11_counted 19 = .ok (.getfield 51, 3) := by decide +kernel
theorem dX11_counted_22 : decode cX11_counted 22 = .ok (.iload_n 3, 1) := by decide +kernel
theorem dX11_counted_23 : decode cX11_counted 23 = .ok (.iaload, 1) := by decide +kernel
theorem dX11_counted_24 : decode cX11_counted 24 = .ok (.goto 33, 3) := by decide +kernel
theorem dX11_counted_27 : decode cX11_counted 27 = .ok (.iload_n 1, 1) := by decide +kernel
theorem dX11_counted_28 : decode cX11_counted 28 = .ok (.iconst 5, 1) := by decide +kernel
theorem dX11_counted_29 : decode cX11_counted 29 = .ok (.if_icmp .ne 27, 3) := by decide +kernel
theorem dX11_counted_32 : decode cX11_counted 32 = .ok (.aload_n 0, 1) := by decide +kernel
theorem dX11_counted_33 : decode cX11_counted 33 = .ok (.getfield 36, 3) := by decide +kernel
theorem dX11_counted_36 : decode cX11_counted 36 = .ok (.iload_n 3, 1) := by decide +kernel
theorem dX11_counted_37 : decode cX11_counted 37 = .ok (.iaload, 1) := by decide +kernel
theorem dX11_counted_38 : decode cX11_counted 38 = .ok (.iconst 1, 1) := by decide +kernel
theorem dX11_counted_39 : decode cX11_counted 39 = .ok (.if_icmp .eq 13, 3) := by decide +kernel
theorem dX11_counted_42 : decode cX11_counted 42 = .ok (.aload_n 0, 1) := by decide +kernel
theorem dX11_counted_43 : decode cX11_counted 43 = .ok (.getfield 36, 3) := by decide +kernel
theorem dX11_counted_46 : decode cX11_counted 46 = .ok (.iload_n 3, 1) := by decide +kernel
theorem dX11_counted_47 : decode cX11_counted 47 = .ok (.iaload, 1) := by decide +kernel
theorem dX11_counted_48 : decode cX11_counted 48 = .ok (.iconst 4, 1) := by decide +kernel
theorem dX11_counted_49 : decode cX11_counted 49 = .ok (.if_icmp .ne 7, 3) := by decide +kernel
theorem dX11_counted_52 : decode cX11_counted 52 = .ok (.iconst 1, 1) := by decide +kernel
theorem dX11_counted_53 : decode cX11_counted 53 = .ok (.goto 4, 3) := by decide +kernel
theorem dX11_counted_56 : decode cX11_counted 56 = .ok (.iconst 0, 1) := by decide +kernel
theorem dX11_counted_57 : decode cX11_counted 57 = .ok (.iadd, 1) := by decide +kernel
theorem dX11_counted_58 : decode cX11_counted 58 = .ok (.istore_n 2, 1) := by decide +kernel
theorem dX11_counted_59 : decode cX11_counted 59 = .ok (.iinc 3 1, 3) := by decide +kernel
theorem dX11_counted_62 : decode cX11_counted 62 = .ok (.goto (-58), 3) := by decide +kernel
theorem dX11_counted_65 : decode cX11_counted 65 = .ok (.iconst 0, 1) := by decide +kernel
theorem dX11_counted_66 : decode cX11_counted 66 = .ok (.istore_n 3, 1) := by decide +kernel
theorem dX11_counted_67 : decode cX11_counted 67 = .ok (.iload_n 3, 1) := by decide +kernel
theorem dX11_counted_68 : decode cX11_counted 68 = .ok (.bipush 6, 2) := by decide +kernel
theorem dX11_counted_70 : decode cX11_counted 70 = .ok (.if_icmp .ge 32, 3) := by decide +kernel
theorem dX11_counted_73 : decode cX11_counted 73 = .ok (.iload_n 2, 1) := by decide +kernel
theorem dX11_counted_74 : decode cX11_counted 74 = .ok (.iload_n 1, 1) := by decide +kernel
theorem dX11_counted_75 : decode cX11_counted 75 = .ok (.bipush 6, 2) := by decide +kernel
theorem dX11_counted_77 : decode cX11_counted 77 = .ok (.if_icmp .ne 16, 3) := by decide +kernel
theorem dX11_counted_80 : decode cX11_counted 80 = .ok (.aload_n 0, 1) := by decide +kernel
theorem dX11_counted_81 : decode cX11_counted 81 = .ok (.getfield 17, 3) := by decide +kernel
theorem dX11_counted_84 : decode cX11_counted 84 = .ok (.iload_n 3, 1) := by decide +kernel
theorem dX11_counted_85 : decode cX11_counted 85 = .ok (.iaload, 1) := by decide +kernel
theorem dX11_counted_86 : decode cX11_counted 86 = .ok (.ifCond .lt 7, 3) := by decide +kernel
theorem dX11_counted_89 : decode cX11_counted 89 = .ok (.iconst 1, 1) := by decide +kernel
theorem dX11_counted_90 : decode cX11_counted 90 = .ok (.goto 4, 3) := by decide +kernel
theorem dX11_counted_93 : decode cX11_counted 93 = .ok (.iconst 0, 1) := by decide +kernel
theorem dX11_counted_94 : decode cX11_counted 94 = .ok (.iadd, 1) := by decide +kernel
theorem dX11_counted_95 : decode cX11_counted 95 = .ok (.istore_n 2, 1) := by decide +kernel
theorem dX11_counted_96 : decode cX11_counted 96 = .ok (.iinc 3 1, 3) := by decide +kernel
theorem dX11_counted_99 : decode cX11_counted 99 = .ok (.goto (-32), 3) := by decide +kernel
theorem dX11_counted_102 : decode cX11_counted 102 = .ok (.iconst 0, 1) := by decide +kernel
theorem dX11_counted_103 : decode cX11_counted 103 = .ok (.istore_n 3, 1) := by decide +kernel
theorem dX11_counted_104 : decode cX11_counted 104 = .ok (.iload_n 3, 1) := by decide +kernel
theorem dX11_counted_105 : decode cX11_counted 105 = .ok (.iconst 4, 1) := by decide +kernel
theorem dX11_counted_106 : decode cX11_counted 106 = .ok (.if_icmp .ge 32, 3) := by decide +kernel
theorem dX11_counted_109 : decode cX11_counted 109 = .ok (.iload_n 2, 1) := by decide +kernel
theorem dX11_counted_110 : decode cX11_counted 110 = .ok (.iload_n 1, 1) := by decide +kernel
theorem dX11_counted_111 : decode cX11_counted 111 = .ok (.bipush 7, 2) := by decide +kernel
theorem dX11_counted_113 : decode cX11_counted 113 = .ok (.if_icmp .ne 16, 3) := by decide +kernel
theorem dX11_counted_116 : decode cX11_counted 116 = .ok (.aload_n 0, 1) := by decide +kernel
theorem dX11_counted_117 : decode cX11_counted 117 = .ok (.getfield 26, 3) := by decide +kernel
theorem dX11_counted_120 : decode cX11_counted 120 = .ok (.iload_n 3, 1) := by decide +kernel
theorem dX11_counted_121 : decode cX11_counted 121 = .ok (.iaload, 1) := by decide +kernel
theorem dX11_counted_122 : decode cX11_counted 122 = .ok (.ifCond .lt 7, 3) := by decide +kernel
theorem dX11_counted_125 : decode cX11_counted 125 = .ok (.iconst 1, 1) := by decide +kernel
theorem dX11_counted_126 : decode cX11_counted 126 = .ok (.goto 4, 3) := by decide +kernel
theorem dX11_counted_129 : decode cX11_counted 129 = .ok (.iconst 0, 1) := by decide +kernel
theorem dX11_counted_130 : decode cX11_counted 130 = .ok (.iadd, 1) := by decide +kernel
theorem dX11_counted_131 : decode cX11_counted 131 = .ok (.istore_n 2, 1) := by decide +kernel
theorem dX11_counted_132 : decode cX11_counted 132 = .ok (.iinc 3 1, 3) := by decide +kernel
theorem dX11_counted_135 : decode cX11_counted 135 = .ok (.goto (-31), 3) := by decide +kernel
theorem dX11_counted_138 : decode cX11_counted 138 = .ok (.iconst 0, 1) := by decide +kernel
theorem dX11_counted_139 : decode cX11_counted 139 = .ok (.istore_n 3, 1) := by decide +kernel
theorem dX11_counted_140 : decode cX11_counted 140 = .ok (.iload_n 3, 1) := by decide +kernel
theorem dX11_counted_141 : decode cX11_counted 141 = .ok (.iconst 3, 1) := by decide +kernel
theorem dX11_counted_142 : decode cX11_counted 142 = .ok (.if_icmp .ge 32, 3) := by decide +kernel
theorem dX11_counted_145 : decode cX11_counted 145 = .ok (.iload_n 2, 1) := by decide +kernel
theorem dX11_counted_146 : decode cX11_counted 146 = .ok (.iload_n 1, 1) := by decide +kernel
theorem dX11_counted_147 : decode cX11_counted 147 = .ok (.bipush 8, 2) := by decide +kernel
theorem dX11_counted_149 : decode cX11_counted 149 = .ok (.if_icmp .ne 16, 3) := by decide +kernel
theorem dX11_counted_152 : decode cX11_counted 152 = .ok (.aload_n 0, 1) := by decide +kernel
theorem dX11_counted_153 : decode cX11_counted 153 = .ok (.getfield 57, 3) := by decide +kernel
theorem dX11_counted_156 : decode cX11_counted 156 = .ok (.iload_n 3, 1) := by decide +kernel
theorem dX11_counted_157 : decode cX11_counted 157 = .ok (.baload, 1) := by decide +kernel
theorem dX11_counted_158 : decode cX11_counted 158 = .ok (.ifCond .eq 7, 3) := by decide +kernel
theorem dX11_counted_161 : decode cX11_counted 161 = .ok (.iconst 1, 1) := by decide +kernel
theorem dX11_counted_162 : decode cX11_counted 162 = .ok (.goto 4, 3) := by decide +kernel
theorem dX11_counted_165 : decode cX11_counted 165 = .ok (.iconst 0, 1) := by decide +kernel
theorem dX11_counted_166 : decode cX11_counted 166 = .ok (.iadd, 1) := by decide +kernel
theorem dX11_counted_167 : decode cX11_counted 167 = .ok (.istore_n 2, 1) := by decide +kernel
theorem dX11_counted_168 : decode cX11_counted 168 = .ok (.iinc 3 1, 3) := by decide +kernel
theorem dX11_counted_171 : decode cX11_counted 171 = .ok (.goto (-31), 3) := by decide +kernel
theorem dX11_counted_174 : decode cX11_counted 174 = .ok (.iload_n 1, 1) := by decide +kernel
theorem dX11_counted_175 : decode cX11_counted 175 = .ok (.tableswitch 55 0 3 #[29, 34, 42, 50], 29) := by decide +kernel
theorem dX11_counted_204 : decode cX11_counted 204 = .ok (.aload_n 0, 1) := by decide +kernel
theorem dX11_counted_205 : decode cX11_counted 205 = .ok (.getfield 138, 3) := by decide +kernel
theorem dX11_counted_208 : decode cX11_counted 208 = .ok (.ireturn, 1) := by decide +kernel
theorem dX11_counted_209 : decode cX11_counted 209 = .ok (.aload_n 0, 1) := by decide +kernel
theorem dX11_counted_210 : decode cX11_counted 210 = .ok (.getfield 51, 3) := by decide +kernel
theorem dX11_counted_213 : decode cX11_counted 213 = .ok (.bipush 15, 2) := by decide +kernel
theorem dX11_counted_215 : decode cX11_counted 215 = .ok (.iaload, 1) := by decide +kernel
theorem dX11_counted_216 : decode cX11_counted 216 = .ok (.ireturn, 1) := by decide +kernel
theorem dX11_counted_217 : decode cX11_counted 217 = .ok (.aload_n 0, 1) := by decide +kernel
theorem dX11_counted_218 : decode cX11_counted 218 = .ok (.getfield 51, 3) := by decide +kernel
theorem dX11_counted_221 : decode cX11_counted 221 = .ok (.bipush 16, 2) := by decide +kernel
theorem dX11_counted_223 : decode cX11_counted 223 = .ok (.iaload, 1) := by decide +kernel
theorem dX11_counted_224 : decode cX11_counted 224 = .ok (.ireturn, 1) := by decide +kernel
theorem dX11_counted_225 : decode cX11_counted 225 = .ok (.aload_n 0, 1) := by decide +kernel
theorem dX11_counted_226 : decode cX11_counted 226 = .ok (.getfield 144, 3) := by decide +kernel
theorem dX11_counted_229 : decode cX11_counted 229 = .ok (.ireturn, 1) := by decide +kernel
theorem dX11_counted_230 : decode cX11_counted 230 = .ok (.iload_n 2, 1) := by decide +kernel
theorem dX11_counted_231 : decode cX11_counted 231 = .ok (.ireturn, 1) := by decide +kernel
theorem dX11_count_0 : decode cX11_count 0 = .ok (.iload_n 1, 1) := by decide +kernel
theorem dX11_count_1 : decode cX11_count 1 = .ok (.iconst 0, 1) := by decide +kernel
theorem dX11_count_2 : decode cX11_count 2 = .ok (.bipush 8, 2) := by decide +kernel
theorem dX11_count_4 : decode cX11_count 4 = .ok (.invokestatic 83, 3) := by decide +kernel
theorem dX11_count_7 : decode cX11_count 7 = .ok (.ifCond .eq 11, 3) := by decide +kernel
theorem dX11_count_10 : decode cX11_count 10 = .ok (.aload_n 0, 1) := by decide +kernel
theorem dX11_count_11 : decode cX11_count 11 = .ok (.iload_n 1, 1) := by decide +kernel
theorem dX11_count_12 : decode cX11_count 12 = .ok (.invokevirtual 292, 3) := by decide +kernel
theorem dX11_count_15 : decode cX11_count 15 = .ok (.goto 4, 3) := by decide +kernel
theorem dX11_count_18 : decode cX11_count 18 = .ok (.iconst (-1), 1) := by decide +kernel
theorem dX11_count_19 : decode cX11_count 19 = .ok (.ireturn, 1) := by decide +kernel
theorem dX11_mix_0 : decode cX11_mix 0 = .ok (.aload_n 0, 1) := by decide +kernel
theorem dX11_mix_1 : decode cX11_mix 1 = .ok (.ldc2_w 295, 3) := by decide +kernel
theorem dX11_mix_4 : decode cX11_mix 4 = .ok (.aload_n 0, 1) := by decide +kernel
theorem dX11_mix_5 : decode cX11_mix 5 = .ok (.getfield 297, 3) := by decide +kernel
theorem dX11_mix_8 : decode cX11_mix 8 = .ok (.lmul, 1) := by decide +kernel
theorem dX11_mix_9 : decode cX11_mix 9 = .ok (.lload_n 1, 1) := by decide +kernel
theorem dX11_mix_10 : decode cX11_mix 10 = .ok (.ladd, 1) := by decide +kernel
theorem dX11_mix_11 : decode cX11_mix 11 = .ok (.putfield 297, 3) := by decide +kernel
theorem dX11_mix_14 : decode cX11_mix 14 = .ok (.return_, 1) := by decide +kernel
theorem dX11_mixVillage_0 : decode cX11_mixVillage 0 = .ok (.iconst 0, 1) := by decide +kernel
theorem dX11_mixVillage_1 : decode cX11_mixVillage 1 = .ok (.istore_n 1, 1) := by decide +kernel
theorem dX11_mixVillage_2 : decode cX11_mixVillage 2 = .ok (.iload_n 1, 1) := by decide +kernel
theorem dX11_mixVillage_3 : decode cX11_mixVillage 3 = .ok (.aload_n 0, 1) := by decide +kernel
theorem dX11_mixVillage_4 : decode cX11_mixVillage 4 = .ok (.getfield 138, 3) := by decide +kernel
theorem dX11_mixVillage_7 : decode cX11_mixVillage 7 = .ok (.if_icmp .ge 34, 3) := by decide +kernel
theorem dX11_mixVillage_10 : decode cX11_mixVillage 10 = .ok (.iconst 0, 1) := by decide +kernel
theorem dX11_mixVillage_11 : decode cX11_mixVillage 11 = .ok (.istore_n 2, 1) := by decide +kernel
theorem dX11_mixVillage_12 : decode cX11_mixVillage 12 = .ok (.iload_n 2, 1) := by decide +kernel
theorem dX11_mixVillage_13 : decode cX11_mixVillage 13 = .ok (.bipush 6, 2) := by decide +kernel
theorem dX11_mixVillage_15 : decode cX11_mixVillage 15 = .ok (.if_icmp .ge 20, 3) := by decide +kernel
theorem dX11_mixVillage_18 : decode cX11_mixVillage 18 = .ok (.aload_n 0, 1) := by decide +kernel
theorem dX11_mixVillage_19 : decode cX11_mixVillage 19 = .ok (.aload_n 0, 1) := by decide +kernel
theorem dX11_mixVillage_20 : decode cX11_mixVillage 20 = .ok (.iload_n 1, 1) := by decide +kernel
theorem dX11_mixVillage_21 : decode cX11_mixVillage 21 = .ok (.iload_n 2, 1) := by decide +kernel
theorem dX11_mixVillage_22 : decode cX11_mixVillage 22 = .ok (.invokevirtual 175, 3) := by decide +kernel
theorem dX11_mixVillage_25 : decode cX11_mixVillage 25 = .ok (.i2l, 1) := by decide +kernel
theorem dX11_mixVillage_26 : decode cX11_mixVillage 26 = .ok (.invokevirtual 300, 3) := by decide +kernel
theorem dX11_mixVillage_29 : decode cX11_mixVillage 29 = .ok (.iinc 2 1, 3) := by decide +kernel
theorem dX11_mixVillage_32 : decode cX11_mixVillage 32 = .ok (.goto (-20), 3) := by decide +kernel
theorem dX11_mixVillage_35 : decode cX11_mixVillage 35 = .ok (.iinc 1 1, 3) := by decide +kernel
theorem dX11_mixVillage_38 : decode cX11_mixVillage 38 = .ok (.goto (-36), 3) := by decide +kernel
theorem dX11_mixVillage_41 : decode cX11_mixVillage 41 = .ok (.iconst 0, 1) := by decide +kernel
theorem dX11_mixVillage_42 : decode cX11_mixVillage 42 = .ok (.istore_n 1, 1) := by decide +kernel
theorem dX11_mixVillage_43 : decode cX11_mixVillage 43 = .ok (.iload_n 1, 1) := by decide +kernel
theorem dX11_mixVillage_44 : decode cX11_mixVillage 44 = .ok (.iconst 3, 1) := by decide +kernel
theorem dX11_mixVillage_45 : decode cX11_mixVillage 45 = .ok (.if_icmp .ge 35, 3) := by decide +kernel
theorem dX11_mixVillage_48 : decode cX11_mixVillage 48 = .ok (.aload_n 0, 1) := by decide +kernel
theorem dX11_mixVillage_49 : decode cX11_mixVillage 49 = .ok (.aload_n 0, 1) := by decide +kernel
theorem dX11_mixVillage_50 : decode cX11_mixVillage 50 = .ok (.getfield 57, 3) := by decide +kernel
theorem dX11_mixVillage_53 : decode cX11_mixVillage 53 = .ok (.iload_n 1, 1) := by decide +kernel
theorem dX11_mixVillage_54 : decode cX11_mixVillage 54 = .ok (.baload, 1) := by decide +kernel
theorem dX11_mixVillage_55 : decode cX11_mixVillage 55 = .ok (.ifCond .eq 13, 3) := by decide +kernel
theorem dX11_mixVillage_58 : decode cX11_mixVillage 58 = .ok (.aload_n 0, 1) := by decide +kernel
theorem dX11_mixVillage_59 : decode cX11_mixVillage 59 = .ok (.getfield 61, 3) := by decide +kernel
theorem dX11_mixVillage_62 : decode cX11_mixVillage 62 = .ok (.iload_n 1, 1) := by decide +kernel
theorem dX11_mixVillage_63 : decode cX11_mixVillage 63 = .ok (.iaload, 1) := by decide +kernel
theorem dX11_mixVillage_64 : decode cX11_mixVillage 64 = .ok (.i2l, 1) := by decide +kernel
theorem dX11_mixVillage_65 : decode cX11_mixVillage 65 = .ok (.goto 6, 3) := by decide +kernel
theorem dX11_mixVillage_68 : decode cX11_mixVillage 68 = .ok (.ldc2_w 304, 3) := by decide +kernel
theorem dX11_mixVillage_71 : decode cX11_mixVillage 71 = .ok (.invokevirtual 300, 3) := by decide +kernel
theorem dX11_mixVillage_74 : decode cX11_mixVillage 74 = .ok (.iinc 1 1, 3) := by decide +kernel
theorem dX11_mixVillage_77 : decode cX11_mixVillage 77 = .ok (.goto (-34), 3) := by decide +kernel
theorem dX11_mixVillage_80 : decode cX11_mixVillage 80 = .ok (.return_, 1) := by decide +kernel
theorem dX11_digest_0 : decode cX11_digest 0 = .ok (.aload_n 0, 1) := by decide +kernel
theorem dX11_digest_1 : decode cX11_digest 1 = .ok (.ldc2_w 306, 3) := by decide +kernel
theorem dX11_digest_4 : decode cX11_digest 4 = .ok (.putfield 297, 3) := by decide +kernel
theorem dX11_digest_7 : decode cX11_digest 7 = .ok (.iconst 0, 1) := by decide +kernel
theorem dX11_digest_8 : decode cX11_digest 8 = .ok (.istore_n 1, 1) := by decide +kernel
theorem dX11_digest_9 : decode cX11_digest 9 = .ok (.iload_n 1, 1) := by decide +kernel
theorem dX11_digest_10 : decode cX11_digest 10 = .ok (.bipush 9, 2) := by decide +kernel
theorem dX11_digest_12 : decode cX11_digest 12 = .ok (.if_icmp .ge 19, 3) := by decide +kernel
theorem dX11_digest_15 : decode cX11_digest 15 = .ok (.aload_n 0, 1) := by decide +kernel
theorem dX11_digest_16 : decode cX11_digest 16 = .ok (.aload_n 0, 1) := by decide +kernel
theorem dX11_digest_17 : decode cX11_digest 17 = .ok (.iload_n 1, 1) := by decide +kernel
theorem dX11_digest_18 : decode cX11_digest 18 = .ok (.invokevirtual 292, 3) := by decide +kernel
theorem dX11_digest_21 : decode cX11_digest 21 = .ok (.i2l, 1) := by decide +kernel
theorem dX11_digest_22 : decode cX11_digest 22 = .ok (.invokevirtual 300, 3) := by decide +kernel
theorem dX11_digest_25 : decode cX11_digest 25 = .ok (.iinc 1 1, 3) := by decide +kernel
theorem dX11_digest_28 : decode cX11_digest 28 = .ok (.goto (-19), 3) := by decide +kernel
theorem dX11_digest_31 : decode cX11_digest 31 = .ok (.aload_n 0, 1) := by decide +kernel
theorem dX11_digest_32 : decode cX11_digest 32 = .ok (.invokevirtual 308, 3) := by decide +kernel
theorem dX11_digest_35 : decode cX11_digest 35 = .ok (.iconst 0, 1) := by decide +kernel
theorem dX11_digest_36 : decode cX11_digest 36 = .ok (.istore_n 1, 1) := by decide +kernel
theorem dX11_digest_37 : decode cX11_digest 37 = .ok (.iload_n 1, 1) := by decide +kernel
theorem dX11_digest_38 : decode cX11_digest 38 = .ok (.bipush 6, 2) := by decide +kernel
theorem dX11_digest_40 : decode cX11_digest 40 = .ok (.if_icmp .ge 49, 3) := by decide +kernel
theorem dX11_digest_43 : decode cX11_digest 43 = .ok (.aload_n 0, 1) := by decide +kernel
theorem dX11_digest_44 : decode cX11_digest 44 = .ok (.aload_n 0, 1) := by decide +kernel
theorem dX11_digest_45 : decode cX11_digest 45 = .ok (.getfield 17, 3) := by decide +kernel
theorem dX11_digest_48 : decode cX11_digest 48 = .ok (.iload_n 1, 1) := by decide +kernel
theorem dX11_digest_49 : decode cX11_digest 49 = .ok (.iaload, 1) := by decide +kernel
theorem dX11_digest_50 : decode cX11_digest 50 = .ok (.i2l, 1) := by decide +kernel
theorem dX11_digest_51 : decode cX11_digest 51 = .ok (.invokevirtual 300, 3) := by decide +kernel
theorem dX11_digest_54 : decode cX11_digest 54 = .ok (.iconst 0, 1) := by decide +kernel
theorem dX11_digest_55 : decode cX11_digest 55 = .ok (.istore_n 2, 1) := by decide +kernel
theorem dX11_digest_56 : decode cX11_digest 56 = .ok (.iload_n 2, 1) := by decide +kernel
theorem dX11_digest_57 : decode cX11_digest 57 = .ok (.aload_n 0, 1) := by decide +kernel
theorem dX11_digest_58 : decode cX11_digest 58 = .ok (.getfield 17, 3) := by decide +kernel
theorem dX11_digest_61 : decode cX11_digest 61 = .ok (.iload_n 1, 1) := by decide +kernel
theorem dX11_digest_62 : decode cX11_digest 62 = .ok (.iaload, 1) := by decide +kernel
theorem dX11_digest_63 : decode cX11_digest 63 = .ok (.if_icmp .ge 20, 3) := by decide +kernel
theorem dX11_digest_66 : decode cX11_digest 66 = .ok (.aload_n 0, 1) := by decide +kernel
theorem dX11_digest_67 : decode cX11_digest 67 = .ok (.aload_n 0, 1) := by decide +kernel
theorem dX11_digest_68 : decode cX11_digest 68 = .ok (.iload_n 1, 1) := by decide +kernel
theorem dX11_digest_69 : decode cX11_digest 69 = .ok (.iload_n 2, 1) := by decide +kernel
theorem dX11_digest_70 : decode cX11_digest 70 = .ok (.invokevirtual 101, 3) := by decide +kernel
theorem dX11_digest_73 : decode cX11_digest 73 = .ok (.i2l, 1) := by decide +kernel
theorem dX11_digest_74 : decode cX11_digest 74 = .ok (.invokevirtual 300, 3) := by decide +kernel
theorem dX11_digest_77 : decode cX11_digest 77 = .ok (.iinc 2 1, 3) := by decide +kernel
theorem dX11_digest_80 : decode cX11_digest 80 = .ok (.goto (-24), 3) := by decide +kernel
theorem dX11_digest_83 : decode cX11_digest 83 = .ok (.iinc 1 1, 3) := by decide +kernel
theorem dX11_digest_86 : decode cX11_digest 86 = .ok (.goto (-49), 3) := by decide +kernel
theorem dX11_digest_89 : decode cX11_digest 89 = .ok (.iconst 0, 1) := by decide +kernel
theorem dX11_digest_90 : decode cX11_digest 90 = .ok (.istore_n 1, 1) := by decide +kernel
theorem dX11_digest_91 : decode cX11_digest 91 = .ok (.iload_n 1, 1) := by decide +kernel
theorem dX11_digest_92 : decode cX11_digest 92 = .ok (.iconst 4, 1) := by decide +kernel
theorem dX11_digest_93 : decode cX11_digest 93 = .ok (.if_icmp .ge 49, 3) := by decide +kernel
theorem dX11_digest_96 : decode cX11_digest 96 = .ok (.aload_n 0, 1) := by decide +kernel
theorem dX11_digest_97 : decode cX11_digest 97 = .ok (.aload_n 0, 1) := by decide +kernel
theorem dX11_digest_98 : decode cX11_digest 98 = .ok (.getfield 26, 3) := by decide +kernel
theorem dX11_digest_101 : decode cX11_digest 101 = .ok (.iload_n 1, 1) := by decide +kernel
theorem dX11_digest_102 : decode cX11_digest 102 = .ok (.iaload, 1) := by decide +kernel
theorem dX11_digest_103 : decode cX11_digest 103 = .ok (.i2l, 1) := by decide +kernel
theorem dX11_digest_104 : decode cX11_digest 104 = .ok (.invokevirtual 300, 3) := by decide +kernel
theorem dX11_digest_107 : decode cX11_digest 107 = .ok (.iconst 0, 1) := by decide +kernel
theorem dX11_digest_108 : decode cX11_digest 108 = .ok (.istore_n 2, 1) := by decide +kernel
theorem dX11_digest_109 : decode cX11_digest 109 = .ok (.iload_n 2, 1) := by decide +kernel
theorem dX11_digest_110 : decode cX11_digest 110 = .ok (.aload_n 0, 1) := by decide +kernel
theorem dX11_digest_111 : decode cX11_digest 111 = .ok (.getfield 26, 3) := by decide +kernel
theorem dX11_digest_114 : decode cX11_digest 114 = .ok (.iload_n 1, 1) := by decide +kernel
theorem dX11_digest_115 : decode cX11_digest 115 = .ok (.iaload, 1) := by decide +kernel
theorem dX11_digest_116 : decode cX11_digest 116 = .ok (.if_icmp .ge 20, 3) := by decide +kernel
theorem dX11_digest_119 : decode cX11_digest 119 = .ok (.aload_n 0, 1) := by decide +kernel
theorem dX11_digest_120 : decode cX11_digest 120 = .ok (.aload_n 0, 1) := by decide +kernel
theorem dX11_digest_121 : decode cX11_digest 121 = .ok (.iload_n 1, 1) := by decide +kernel
theorem dX11_digest_122 : decode cX11_digest 122 = .ok (.iload_n 2, 1) := by decide +kernel
theorem dX11_digest_123 : decode cX11_digest 123 = .ok (.invokevirtual 114, 3) := by decide +kernel
theorem dX11_digest_126 : decode cX11_digest 126 = .ok (.i2l, 1) := by decide +kernel
theorem dX11_digest_127 : decode cX11_digest 127 = .ok (.invokevirtual 300, 3) := by decide +kernel
theorem dX11_digest_130 : decode cX11_digest 130 = .ok (.iinc 2 1, 3) := by decide +kernel
theorem dX11_digest_133 : decode cX11_digest 133 = .ok (.goto (-24), 3) := by decide +kernel
theorem dX11_digest_136 : decode cX11_digest 136 = .ok (.iinc 1 1, 3) := by decide +kernel
theorem dX11_digest_139 : decode cX11_digest 139 = .ok (.goto (-48), 3) := by decide +kernel
theorem dX11_digest_142 : decode cX11_digest 142 = .ok (.aload_n 0, 1) := by decide +kernel
theorem dX11_digest_143 : decode cX11_digest 143 = .ok (.getfield 297, 3) := by decide +kernel
theorem dX11_digest_146 : decode cX11_digest 146 = .ok (.lreturn, 1) := by decide +kernel
