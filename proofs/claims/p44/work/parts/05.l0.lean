theorem dL_cell_0 : decode cL_cell 0 = .ok (.aload_n 0, 1) := by decide +kernel
theorem dL_cell_1 : decode cL_cell 1 = .ok (.arraylength, 1) := by decide +kernel
theorem dL_cell_2 : decode cL_cell 2 = .ok (.ifCond .ne 13, 3) := by decide +kernel
theorem dL_cell_5 : decode cL_cell 5 = .ok (.sipush 7919, 3) := by decide +kernel
theorem dL_cell_8 : decode cL_cell 8 = .ok (.iload_n 1, 1) := by decide +kernel
theorem dL_cell_9 : decode cL_cell 9 = .ok (.imul, 1) := by decide +kernel
theorem dL_cell_10 : decode cL_cell 10 = .ok (.iconst 3, 1) := by decide +kernel
theorem dL_cell_11 : decode cL_cell 11 = .ok (.iadd, 1) := by decide +kernel
theorem dL_cell_12 : decode cL_cell 12 = .ok (.goto 27, 3) := by decide +kernel
theorem dL_cell_15 : decode cL_cell 15 = .ok (.aload_n 0, 1) := by decide +kernel
theorem dL_cell_16 : decode cL_cell 16 = .ok (.iload_n 1, 1) := by decide +kernel
theorem dL_cell_17 : decode cL_cell 17 = .ok (.aload_n 0, 1) := by decide +kernel
theorem dL_cell_18 : decode cL_cell 18 = .ok (.arraylength, 1) := by decide +kernel
theorem dL_cell_19 : decode cL_cell 19 = .ok (.irem, 1) := by decide +kernel
theorem dL_cell_20 : decode cL_cell 20 = .ok (.iaload, 1) := by decide +kernel
theorem dL_cell_21 : decode cL_cell 21 = .ok (.iload_n 1, 1) := by decide +kernel
theorem dL_cell_22 : decode cL_cell 22 = .ok (.bipush 7, 2) := by decide +kernel
theorem dL_cell_24 : decode cL_cell 24 = .ok (.irem, 1) := by decide +kernel
theorem dL_cell_25 : decode cL_cell 25 = .ok (.ishr, 1) := by decide +kernel
theorem dL_cell_26 : decode cL_cell 26 = .ok (.iload_n 1, 1) := by decide +kernel
theorem dL_cell_27 : decode cL_cell 27 = .ok (.aload_n 0, 1) := by decide +kernel
theorem dL_cell_28 : decode cL_cell 28 = .ok (.arraylength, 1) := by decide +kernel
theorem dL_cell_29 : decode cL_cell 29 = .ok (.idiv, 1) := by decide +kernel
theorem dL_cell_30 : decode cL_cell 30 = .ok (.bipush 31, 2) := by decide +kernel
theorem dL_cell_32 : decode cL_cell 32 = .ok (.imul, 1) := by decide +kernel
theorem dL_cell_33 : decode cL_cell 33 = .ok (.ixor, 1) := by decide +kernel
theorem dL_cell_34 : decode cL_cell 34 = .ok (.iload_n 1, 1) := by decide +kernel
theorem dL_cell_35 : decode cL_cell 35 = .ok (.ldc 8, 2) := by decide +kernel
theorem dL_cell_37 : decode cL_cell 37 = .ok (.imul, 1) := by decide +kernel
theorem dL_cell_38 : decode cL_cell 38 = .ok (.ixor, 1) := by decide +kernel
theorem dL_cell_39 : decode cL_cell 39 = .ok (.ireturn, 1) := by decide +kernel
theorem dL_part_0 : decode cL_part 0 = .ok (.iload_n 0, 1) := by decide +kernel
theorem dL_part_1 : decode cL_part 1 = .ok (.ldc 7, 2) := by decide +kernel
theorem dL_part_3 : decode cL_part 3 = .ok (.iand, 1) := by decide +kernel
theorem dL_part_4 : decode cL_part 4 = .ok (.iload_n 1, 1) := by decide +kernel
theorem dL_part_5 : decode cL_part 5 = .ok (.irem, 1) := by decide +kernel
theorem dL_part_6 : decode cL_part 6 = .ok (.ireturn, 1) := by decide +kernel
theorem dL_letter_0 : decode cL_letter 0 = .ok (.iload_n 0, 1) := by decide +kernel
theorem dL_letter_1 : decode cL_letter 1 = .ok (.ifCond .ne 8, 3) := by decide +kernel
theorem dL_letter_4 : decode cL_letter 4 = .ok (.bipush 112, 2) := by decide +kernel
theorem dL_letter_6 : decode cL_letter 6 = .ok (.goto 45, 3) := by decide +kernel
theorem dL_letter_9 : decode cL_letter 9 = .ok (.iload_n 0, 1) := by decide +kernel
theorem dL_letter_10 : decode cL_letter 10 = .ok (.iconst 1, 1) := by decide +kernel
theorem dL_letter_11 : decode cL_letter 11 = .ok (.if_icmp .ne 8, 3) := by decide +kernel
theorem dL_letter_14 : decode cL_letter 14 = .ok (.bipush 99, 2) := by decide +kernel
theorem dL_letter_16 : decode cL_letter 16 = .ok (.goto 35, 3) := by decide +kernel
theorem dL_letter_19 : decode cL_letter 19 = .ok (.iload_n 0, 1) := by decide +kernel
theorem dL_letter_20 : decode cL_letter 20 = .ok (.iconst 2, 1) := by decide +kernel
theorem dL_letter_21 : decode cL_letter 21 = .ok (.if_icmp .ne 8, 3) := by decide +kernel
theorem dL_letter_24 : decode cL_letter 24 = .ok (.bipush 108, 2) := by decide +kernel
theorem dL_letter_26 : decode cL_letter 26 = .ok (.goto 25, 3) := by decide +kernel
theorem dL_letter_29 : decode cL_letter 29 = .ok (.iload_n 0, 1) := by decide +kernel
theorem dL_letter_30 : decode cL_letter 30 = .ok (.iconst 3, 1) := by decide +kernel
theorem dL_letter_31 : decode cL_letter 31 = .ok (.if_icmp .ne 8, 3) := by decide +kernel
theorem dL_letter_34 : decode cL_letter 34 = .ok (.bipush 109, 2) := by decide +kernel
theorem dL_letter_36 : decode cL_letter 36 = .ok (.goto 15, 3) := by decide +kernel
theorem dL_letter_39 : decode cL_letter 39 = .ok (.iload_n 0, 1) := by decide +kernel
theorem dL_letter_40 : decode cL_letter 40 = .ok (.iconst 4, 1) := by decide +kernel
theorem dL_letter_41 : decode cL_letter 41 = .ok (.if_icmp .ne 8, 3) := by decide +kernel
theorem dL_letter_44 : decode cL_letter 44 = .ok (.bipush 98, 2) := by decide +kernel
theorem dL_letter_46 : decode cL_letter 46 = .ok (.goto 5, 3) := by decide +kernel
theorem dL_letter_49 : decode cL_letter 49 = .ok (.bipush 119, 2) := by decide +kernel
theorem dL_letter_51 : decode cL_letter 51 = .ok (.ireturn, 1) := by decide +kernel
theorem dL_byte0_0 : decode cL_byte0 0 = .ok (.aload_n 0, 1) := by decide +kernel
theorem dL_byte0_1 : decode cL_byte0 1 = .ok (.iconst 3, 1) := by decide +kernel
theorem dL_byte0_2 : decode cL_byte0 2 = .ok (.iload_n 1, 1) := by decide +kernel
theorem dL_byte0_3 : decode cL_byte0 3 = .ok (.iload_n 2, 1) := by decide +kernel
theorem dL_byte0_4 : decode cL_byte0 4 = .ok (.invokevirtual 9, 3) := by decide +kernel
theorem dL_byte0_7 : decode cL_byte0 7 = .ok (.sipush 1032, 3) := by decide +kernel
theorem dL_byte0_10 : decode cL_byte0 10 = .ok (.if_icmp .ne 9, 3) := by decide +kernel
theorem dL_byte0_13 : decode cL_byte0 13 = .ok (.iload_n 1, 1) := by decide +kernel
theorem dL_byte0_14 : decode cL_byte0 14 = .ok (.iconst 1, 1) := by decide +kernel
theorem dL_byte0_15 : decode cL_byte0 15 = .ok (.iadd, 1) := by decide +kernel
theorem dL_byte0_16 : decode cL_byte0 16 = .ok (.goto 6, 3) := by decide +kernel
theorem dL_byte0_19 : decode cL_byte0 19 = .ok (.sipush (-1000), 3) := by decide +kernel
theorem dL_byte0_22 : decode cL_byte0 22 = .ok (.ireturn, 1) := by decide +kernel
theorem dL_tells_0 : decode cL_tells 0 = .ok (.iconst 0, 1) := by decide +kernel
theorem dL_tells_1 : decode cL_tells 1 = .ok (.istore 5, 2) := by decide +kernel
theorem dL_tells_3 : decode cL_tells 3 = .ok (.iload 5, 2) := by decide +kernel
theorem dL_tells_5 : decode cL_tells 5 = .ok (.bipush 33, 2) := by decide +kernel
theorem dL_tells_7 : decode cL_tells 7 = .ok (.if_icmp .ge 14, 3) := by decide +kernel
theorem dL_tells_10 : decode cL_tells 10 = .ok (.aload_n 2, 1) := by decide +kernel
theorem dL_tells_11 : decode cL_tells 11 = .ok (.iload 5, 2) := by decide +kernel
theorem dL_tells_13 : decode cL_tells 13 = .ok (.iconst 0, 1) := by decide +kernel
theorem dL_tells_14 : decode cL_tells 14 = .ok (.iastore, 1) := by decide +kernel
theorem dL_tells_15 : decode cL_tells 15 = .ok (.iinc 5 1, 3) := by decide +kernel
theorem dL_tells_18 : decode cL_tells 18 = .ok (.goto (-15), 3) := by decide +kernel
theorem dL_tells_21 : decode cL_tells 21 = .ok (.iconst 0, 1) := by decide +kernel
theorem dL_tells_22 : decode cL_tells 22 = .ok (.istore 5, 2) := by decide +kernel
theorem dL_tells_24 : decode cL_tells 24 = .ok (.iload 5, 2) := by decide +kernel
theorem dL_tells_26 : decode cL_tells 26 = .ok (.bipush 9, 2) := by decide +kernel
theorem dL_tells_28 : decode cL_tells 28 = .ok (.if_icmp .ge 14, 3) := by decide +kernel
theorem dL_tells_31 : decode cL_tells 31 = .ok (.aload_n 3, 1) := by decide +kernel
theorem dL_tells_32 : decode cL_tells 32 = .ok (.iload 5, 2) := by decide +kernel
theorem dL_tells_34 : decode cL_tells 34 = .ok (.iconst 0, 1) := by decide +kernel
theorem dL_tells_35 : decode cL_tells 35 = .ok (.iastore, 1) := by decide +kernel
theorem dL_tells_36 : decode cL_tells 36 = .ok (.iinc 5 1, 3) := by decide +kernel
theorem dL_tells_39 : decode cL_tells 39 = .ok (.goto (-15), 3) := by decide +kernel
theorem dL_tells_42 : decode cL_tells 42 = .ok (.aload_n 1, 1) := by decide +kernel
theorem dL_tells_43 : decode cL_tells 43 = .ok (.iconst 0, 1) := by decide +kernel
theorem dL_tells_44 : decode cL_tells 44 = .ok (.invokestatic 15, 3) := by decide +kernel
theorem dL_tells_47 : decode cL_tells 47 = .ok (.istore 5, 2) := by decide +kernel
theorem dL_tells_49 : decode cL_tells 49 = .ok (.aload_n 2, 1) := by decide +kernel
theorem dL_tells_50 : decode cL_tells 50 = .ok (.iconst 0, 1) := by decide +kernel
theorem dL_tells_51 : decode cL_tells 51 = .ok (.iconst 1, 1) := by decide +kernel
theorem dL_tells_52 : decode cL_tells 52 = .ok (.iload 5, 2) := by decide +kernel
theorem dL_tells_54 : decode cL_tells 54 = .ok (.iload 4, 2) := by decide +kernel
theorem dL_tells_56 : decode cL_tells 56 = .ok (.invokestatic 21, 3) := by decide +kernel
theorem dL_tells_59 : decode cL_tells 59 = .ok (.iadd, 1) := by decide +kernel
theorem dL_tells_60 : decode cL_tells 60 = .ok (.iastore, 1) := by decide +kernel
theorem dL_tells_61 : decode cL_tells 61 = .ok (.aload_n 0, 1) := by decide +kernel
theorem dL_tells_62 : decode cL_tells 62 = .ok (.iconst 3, 1) := by decide +kernel
theorem dL_tells_63 : decode cL_tells 63 = .ok (.bipush 60, 2) := by decide +kernel
theorem dL_tells_65 : decode cL_tells 65 = .ok (.invokevirtual 25, 3) := by decide +kernel
theorem dL_tells_68 : decode cL_tells 68 = .ok (.bipush 60, 2) := by decide +kernel
theorem dL_tells_70 : decode cL_tells 70 = .ok (.if_icmp .eq 5, 3) := by decide +kernel
theorem dL_tells_73 : decode cL_tells 73 = .ok (.iconst 0, 1) := by decide +kernel
theorem dL_tells_74 : decode cL_tells 74 = .ok (.ireturn, 1) := by decide +kernel
theorem dL_tells_75 : decode cL_tells 75 = .ok (.iload 5, 2) := by decide +kernel
theorem dL_tells_77 : decode cL_tells 77 = .ok (.iconst 4, 1) := by decide +kernel
theorem dL_tells_78 : decode cL_tells 78 = .ok (.ishr, 1) := by decide +kernel
theorem dL_tells_79 : decode cL_tells 79 = .ok (.iconst 3, 1) := by decide +kernel
theorem dL_tells_80 : decode cL_tells 80 = .ok (.invokestatic 21, 3) := by decide +kernel
theorem dL_tells_83 : decode cL_tells 83 = .ok (.istore 6, 2) := by decide +kernel
theorem dL_tells_85 : decode cL_tells 85 = .ok (.iconst 0, 1) := by decide +kernel
theorem dL_tells_86 : decode cL_tells 86 = .ok (.istore 7, 2) := by decide +kernel
theorem dL_tells_88 : decode cL_tells 88 = .ok (.iload 7, 2) := by decide +kernel
theorem dL_tells_90 : decode cL_tells 90 = .ok (.aload_n 2, 1) := by decide +kernel
theorem dL_tells_91 : decode cL_tells 91 = .ok (.iconst 0, 1) := by decide +kernel
theorem dL_tells_92 : decode cL_tells 92 = .ok (.iaload, 1) := by decide +kernel
theorem dL_tells_93 : decode cL_tells 93 = .ok (.if_icmp .ge 225, 3) := by decide +kernel
theorem dL_tells_96 : decode cL_tells 96 = .ok (.aload_n 1, 1) := by decide +kernel
theorem dL_tells_97 : decode cL_tells 97 = .ok (.iconst 1, 1) := by decide +kernel
theorem dL_tells_98 : decode cL_tells 98 = .ok (.iload 7, 2) := by decide +kernel
theorem dL_tells_100 : decode cL_tells 100 = .ok (.iadd, 1) := by decide +kernel
theorem dL_tells_101 : decode cL_tells 101 = .ok (.invokestatic 15, 3) := by decide +kernel
theorem dL_tells_104 : decode cL_tells 104 = .ok (.istore 5, 2) := by decide +kernel
theorem dL_tells_106 : decode cL_tells 106 = .ok (.aload_n 2, 1) := by decide +kernel
theorem dL_tells_107 : decode cL_tells 107 = .ok (.iconst 1, 1) := by decide +kernel
theorem dL_tells_108 : decode cL_tells 108 = .ok (.iload 7, 2) := by decide +kernel
theorem dL_tells_110 : decode cL_tells 110 = .ok (.iadd, 1) := by decide +kernel
theorem dL_tells_111 : decode cL_tells 111 = .ok (.iload 5, 2) := by decide +kernel
theorem dL_tells_113 : decode cL_tells 113 = .ok (.bipush 6, 2) := by decide +kernel
theorem dL_tells_115 : decode cL_tells 115 = .ok (.invokestatic 21, 3) := by decide +kernel
theorem dL_tells_118 : decode cL_tells 118 = .ok (.iastore, 1) := by decide +kernel
theorem dL_tells_119 : decode cL_tells 119 = .ok (.aload_n 3, 1) := by decide +kernel
theorem dL_tells_120 : decode cL_tells 120 = .ok (.iconst 1, 1) := by decide +kernel
theorem dL_tells_121 : decode cL_tells 121 = .ok (.iload 7, 2) := by decide +kernel
theorem dL_tells_123 : decode cL_tells 123 = .ok (.iadd, 1) := by decide +kernel
theorem dL_tells_124 : decode cL_tells 124 = .ok (.iload 5, 2) := by decide +kernel
theorem dL_tells_126 : decode cL_tells 126 = .ok (.iconst 3, 1) := by decide +kernel
theorem dL_tells_127 : decode cL_tells 127 = .ok (.ishr, 1) := by decide +kernel
theorem dL_tells_128 : decode cL_tells 128 = .ok (.iload 5, 2) := by decide +kernel
theorem dL_tells_130 : decode cL_tells 130 = .ok (.bipush 24, 2) := by decide +kernel
theorem dL_tells_132 : decode cL_tells 132 = .ok (.ishr, 1) := by decide +kernel
theorem dL_tells_133 : decode cL_tells 133 = .ok (.iconst 2, 1) := by decide +kernel
theorem dL_tells_134 : decode cL_tells 134 = .ok (.invokestatic 21, 3) := by decide +kernel
theorem dL_tells_137 : decode cL_tells 137 = .ok (.ifCond .ne 8, 3) := by decide +kernel
theorem dL_tells_140 : decode cL_tells 140 = .ok (.bipush 10, 2) := by decide +kernel
theorem dL_tells_142 : decode cL_tells 142 = .ok (.goto 4, 3) := by decide +kernel
theorem dL_tells_145 : decode cL_tells 145 = .ok (.iconst 4, 1) := by decide +kernel
theorem dL_tells_146 : decode cL_tells 146 = .ok (.invokestatic 21, 3) := by decide +kernel
theorem dL_tells_149 : decode cL_tells 149 = .ok (.iastore, 1) := by decide +kernel
theorem dL_tells_150 : decode cL_tells 150 = .ok (.aload_n 2, 1) := by decide +kernel
theorem dL_tells_151 : decode cL_tells 151 = .ok (.bipush 9, 2) := by decide +kernel
theorem dL_tells_153 : decode cL_tells 153 = .ok (.iload 7, 2) := by decide +kernel
theorem dL_tells_155 : decode cL_tells 155 = .ok (.iadd, 1) := by decide +kernel
theorem dL_tells_156 : decode cL_tells 156 = .ok (.iload 5, 2) := by decide +kernel
theorem dL_tells_158 : decode cL_tells 158 = .ok (.bipush 7, 2) := by decide +kernel
theorem dL_tells_160 : decode cL_tells 160 = .ok (.ishr, 1) := by decide +kernel
theorem dL_tells_161 : decode cL_tells 161 = .ok (.bipush 10, 2) := by decide +kernel
theorem dL_tells_163 : decode cL_tells 163 = .ok (.invokestatic 21, 3) := by decide +kernel
theorem dL_tells_166 : decode cL_tells 166 = .ok (.iastore, 1) := by decide +kernel
theorem dL_tells_167 : decode cL_tells 167 = .ok (.aload_n 2, 1) := by decide +kernel
theorem dL_tells_168 : decode cL_tells 168 = .ok (.bipush 17, 2) := by decide +kernel
theorem dL_tells_170 : decode cL_tells 170 = .ok (.iload 7, 2) := by decide +kernel
theorem dL_tells_172 : decode cL_tells 172 = .ok (.iadd, 1) := by decide +kernel
theorem dL_tells_173 : decode cL_tells 173 = .ok (.iconst 1, 1) := by decide +kernel
theorem dL_tells_174 : decode cL_tells 174 = .ok (.iload 5, 2) := by decide +kernel
theorem dL_tells_176 : decode cL_tells 176 = .ok (.bipush 11, 2) := by decide +kernel
theorem dL_tells_178 : decode cL_tells 178 = .ok (.ishr, 1) := by decide +kernel
theorem dL_tells_179 : decode cL_tells 179 = .ok (.iconst 4, 1) := by decide +kernel
theorem dL_tells_180 : decode cL_tells 180 = .ok (.invokestatic 21, 3) := by decide +kernel
theorem dL_tells_183 : decode cL_tells 183 = .ok (.iadd, 1) := by decide +kernel
theorem dL_tells_184 : decode cL_tells 184 = .ok (.iastore, 1) := by decide +kernel
theorem dL_tells_185 : decode cL_tells 185 = .ok (.aload_n 2, 1) := by decide +kernel
theorem dL_tells_186 : decode cL_tells 186 = .ok (.bipush 25, 2) := by decide +kernel
theorem dL_tells_188 : decode cL_tells 188 = .ok (.iload 7, 2) := by decide +kernel
theorem dL_tells_190 : decode cL_tells 190 = .ok (.iadd, 1) := by decide +kernel
theorem dL_tells_191 : decode cL_tells 191 = .ok (.iload 5, 2) := by decide +kernel
theorem dL_tells_193 : decode cL_tells 193 = .ok (.bipush 13, 2) := by decide +kernel
theorem dL_tells_195 : decode cL_tells 195 = .ok (.ishr, 1) := by decide +kernel
theorem dL_tells_196 : decode cL_tells 196 = .ok (.bipush 10, 2) := by decide +kernel
theorem dL_tells_198 : decode cL_tells 198 = .ok (.invokestatic 21, 3) := by decide +kernel
theorem dL_tells_201 : decode cL_tells 201 = .ok (.iastore, 1) := by decide +kernel
theorem dL_tells_202 : decode cL_tells 202 = .ok (.aload_n 0, 1) := by decide +kernel
theorem dL_tells_203 : decode cL_tells 203 = .ok (.iload 6, 2) := by decide +kernel
theorem dL_tells_205 : decode cL_tells 205 = .ok (.aload_n 2, 1) := by decide +kernel
theorem dL_tells_206 : decode cL_tells 206 = .ok (.iconst 1, 1) := by decide +kernel
theorem dL_tells_207 : decode cL_tells 207 = .ok (.iload 7, 2) := by decide +kernel
theorem dL_tells_209 : decode cL_tells 209 = .ok (.iadd, 1) := by decide +kernel
theorem dL_tells_210 : decode cL_tells 210 = .ok (.iaload, 1) := by decide +kernel
theorem dL_tells_211 : decode cL_tells 211 = .ok (.invokestatic 28, 3) := by decide +kernel
theorem dL_tells_214 : decode cL_tells 214 = .ok (.invokestatic 32, 3) := by decide +kernel
theorem dL_tells_217 : decode cL_tells 217 = .ok (.istore 6, 2) := by decide +kernel
theorem dL_tells_219 : decode cL_tells 219 = .ok (.aload_n 0, 1) := by decide +kernel
theorem dL_tells_220 : decode cL_tells 220 = .ok (.iload 6, 2) := by decide +kernel
theorem dL_tells_222 : decode cL_tells 222 = .ok (.bipush 48, 2) := by decide +kernel
theorem dL_tells_224 : decode cL_tells 224 = .ok (.aload_n 3, 1) := by decide +kernel
theorem dL_tells_225 : decode cL_tells 225 = .ok (.iconst 1, 1) := by decide +kernel
theorem dL_tells_226 : decode cL_tells 226 = .ok (.iload 7, 2) := by decide +kernel
theorem dL_tells_228 : decode cL_tells 228 = .ok (.iadd, 1) := by decide +kernel
theorem dL_tells_229 : decode cL_tells 229 = .ok (.iaload, 1) := by decide +kernel
theorem dL_tells_230 : decode cL_tells 230 = .ok (.iadd, 1) := by decide +kernel
theorem dL_tells_231 : decode cL_tells 231 = .ok (.invokestatic 32, 3) := by decide +kernel
theorem dL_tells_234 : decode cL_tells 234 = .ok (.istore 6, 2) := by decide +kernel
theorem dL_tells_236 : decode cL_tells 236 = .ok (.aload_n 0, 1) := by decide +kernel
theorem dL_tells_237 : decode cL_tells 237 = .ok (.iload 6, 2) := by decide +kernel
theorem dL_tells_239 : decode cL_tells 239 = .ok (.bipush 48, 2) := by decide +kernel
theorem dL_tells_241 : decode cL_tells 241 = .ok (.aload_n 2, 1) := by decide +kernel
theorem dL_tells_242 : decode cL_tells 242 = .ok (.bipush 9, 2) := by decide +kernel
theorem dL_tells_244 : decode cL_tells 244 = .ok (.iload 7, 2) := by decide +kernel
theorem dL_tells_246 : decode cL_tells 246 = .ok (.iadd, 1) := by decide +kernel
theorem dL_tells_247 : decode cL_tells 247 = .ok (.iaload, 1) := by decide +kernel
theorem dL_tells_248 : decode cL_tells 248 = .ok (.iadd, 1) := by decide +kernel
theorem dL_tells_249 : decode cL_tells 249 = .ok (.invokestatic 32, 3) := by decide +kernel
theorem dL_tells_252 : decode cL_tells 252 = .ok (.istore 6, 2) := by decide +kernel
theorem dL_tells_254 : decode cL_tells 254 = .ok (.aload_n 0, 1) := by decide +kernel
theorem dL_tells_255 : decode cL_tells 255 = .ok (.iload 6, 2) := by decide +kernel
theorem dL_tells_257 : decode cL_tells 257 = .ok (.bipush 48, 2) := by decide +kernel
theorem dL_tells_259 : decode cL_tells 259 = .ok (.aload_n 2, 1) := by decide +kernel
theorem dL_tells_260 : decode cL_tells 260 = .ok (.bipush 17, 2) := by decide +kernel
theorem dL_tells_262 : decode cL_tells 262 = .ok (.iload 7, 2) := by decide +kernel
theorem dL_tells_264 : decode cL_tells 264 = .ok (.iadd, 1) := by decide +kernel
theorem dL_tells_265 : decode cL_tells 265 = .ok (.iaload, 1) := by decide +kernel
theorem dL_tells_266 : decode cL_tells 266 = .ok (.iadd, 1) := by decide +kernel
theorem dL_tells_267 : decode cL_tells 267 = .ok (.invokestatic 32, 3) := by decide +kernel
theorem dL_tells_270 : decode cL_tells 270 = .ok (.istore 6, 2) := by decide +kernel
theorem dL_tells_272 : decode cL_tells 272 = .ok (.aload_n 0, 1) := by decide +kernel
theorem dL_tells_273 : decode cL_tells 273 = .ok (.iload 6, 2) := by decide +kernel
theorem dL_tells_275 : decode cL_tells 275 = .ok (.bipush 48, 2) := by decide +kernel
theorem dL_tells_277 : decode cL_tells 277 = .ok (.aload_n 2, 1) := by decide +kernel
theorem dL_tells_278 : decode cL_tells 278 = .ok (.bipush 25, 2) := by decide +kernel
theorem dL_tells_280 : decode cL_tells 280 = .ok (.iload 7, 2) := by decide +kernel
theorem dL_tells_282 : decode cL_tells 282 = .ok (.iadd, 1) := by decide +kernel
theorem dL_tells_283 : decode cL_tells 283 = .ok (.iaload, 1) := by decide +kernel
theorem dL_tells_284 : decode cL_tells 284 = .ok (.iadd, 1) := by decide +kernel
theorem dL_tells_285 : decode cL_tells 285 = .ok (.invokestatic 32, 3) := by decide +kernel
theorem dL_tells_288 : decode cL_tells 288 = .ok (.istore 6, 2) := by decide +kernel
theorem dL_tells_290 : decode cL_tells 290 = .ok (.iload 6, 2) := by decide +kernel
theorem dL_tells_292 : decode cL_tells 292 = .ok (.iload 5, 2) := by decide +kernel
theorem dL_tells_294 : decode cL_tells 294 = .ok (.bipush 20, 2) := by decide +kernel
theorem dL_tells_296 : decode cL_tells 296 = .ok (.ishr, 1) := by decide +kernel
theorem dL_tells_297 : decode cL_tells 297 = .ok (.iconst 3, 1) := by decide +kernel
theorem dL_tells_298 : decode cL_tells 298 = .ok (.invokestatic 21, 3) := by decide +kernel
theorem dL_tells_301 : decode cL_tells 301 = .ok (.ifCond .ne 7, 3) := by decide +kernel
theorem dL_tells_304 : decode cL_tells 304 = .ok (.iconst 2, 1) := by decide +kernel
theorem dL_tells_305 : decode cL_tells 305 = .ok (.goto 4, 3) := by decide +kernel
theorem dL_tells_308 : decode cL_tells 308 = .ok (.iconst 0, 1) := by decide +kernel
theorem dL_tells_309 : decode cL_tells 309 = .ok (.iadd, 1) := by decide +kernel
theorem dL_tells_310 : decode cL_tells 310 = .ok (.istore 6, 2) := by decide +kernel
theorem dL_tells_312 : decode cL_tells 312 = .ok (.iinc 7 1, 3) := by decide +kernel
theorem dL_tells_315 : decode cL_tells 315 = .ok (.goto (-227), 3) := by decide +kernel
theorem dL_tells_318 : decode cL_tells 318 = .ok (.iload 6, 2) := by decide +kernel
theorem dL_tells_320 : decode cL_tells 320 = .ok (.ifCond .le 95, 3) := by decide +kernel
theorem dL_tells_323 : decode cL_tells 323 = .ok (.aload_n 0, 1) := by decide +kernel
theorem dL_tells_324 : decode cL_tells 324 = .ok (.iconst 3, 1) := by decide +kernel
theorem dL_tells_325 : decode cL_tells 325 = .ok (.invokevirtual 36, 3) := by decide +kernel
theorem dL_tells_328 : decode cL_tells 328 = .ok (.bipush (-9), 2) := by decide +kernel
theorem dL_tells_330 : decode cL_tells 330 = .ok (.if_icmp .ne 85, 3) := by decide +kernel
theorem dL_tells_333 : decode cL_tells 333 = .ok (.aload_n 0, 1) := by decide +kernel
theorem dL_tells_334 : decode cL_tells 334 = .ok (.iconst 3, 1) := by decide +kernel
theorem dL_tells_335 : decode cL_tells 335 = .ok (.invokevirtual 39, 3) := by decide +kernel
theorem dL_tells_338 : decode cL_tells 338 = .ok (.aload_n 2, 1) := by decide +kernel
theorem dL_tells_339 : decode cL_tells 339 = .ok (.iconst 0, 1) := by decide +kernel
theorem dL_tells_340 : decode cL_tells 340 = .ok (.iaload, 1) := by decide +kernel
theorem dL_tells_341 : decode cL_tells 341 = .ok (.if_icmp .ne 74, 3) := by decide +kernel
theorem dL_tells_344 : decode cL_tells 344 = .ok (.aload_n 0, 1) := by decide +kernel
theorem dL_tells_345 : decode cL_tells 345 = .ok (.iconst 0, 1) := by decide +kernel
theorem dL_tells_346 : decode cL_tells 346 = .ok (.invokevirtual 42, 3) := by decide +kernel
theorem dL_tells_349 : decode cL_tells 349 = .ok (.aload_n 2, 1) := by decide +kernel
theorem dL_tells_350 : decode cL_tells 350 = .ok (.iconst 0, 1) := by decide +kernel
theorem dL_tells_351 : decode cL_tells 351 = .ok (.iaload, 1) := by decide +kernel
theorem dL_tells_352 : decode cL_tells 352 = .ok (.if_icmp .ne 63, 3) := by decide +kernel
theorem dL_tells_355 : decode cL_tells 355 = .ok (.aload_n 0, 1) := by decide +kernel
theorem dL_tells_356 : decode cL_tells 356 = .ok (.iconst 1, 1) := by decide +kernel
theorem dL_tells_357 : decode cL_tells 357 = .ok (.invokevirtual 42, 3) := by decide +kernel
theorem dL_tells_360 : decode cL_tells 360 = .ok (.ifCond .ne 55, 3) := by decide +kernel
theorem dL_tells_363 : decode cL_tells 363 = .ok (.aload_n 0, 1) := by decide +kernel
theorem dL_tells_364 : decode cL_tells 364 = .ok (.iconst 2, 1) := by decide +kernel
theorem dL_tells_365 : decode cL_tells 365 = .ok (.invokevirtual 42, 3) := by decide +kernel
theorem dL_tells_368 : decode cL_tells 368 = .ok (.ifCond .ne 47, 3) := by decide +kernel
theorem dL_tells_371 : decode cL_tells 371 = .ok (.aload_n 0, 1) := by decide +kernel
theorem dL_tells_372 : decode cL_tells 372 = .ok (.iconst 3, 1) := by decide +kernel
theorem dL_tells_373 : decode cL_tells 373 = .ok (.invokevirtual 42, 3) := by decide +kernel
theorem dL_tells_376 : decode cL_tells 376 = .ok (.ifCond .ne 39, 3) := by decide +kernel
theorem dL_tells_379 : decode cL_tells 379 = .ok (.aload_n 0, 1) := by decide +kernel
theorem dL_tells_380 : decode cL_tells 380 = .ok (.iconst 4, 1) := by decide +kernel
theorem dL_tells_381 : decode cL_tells 381 = .ok (.invokevirtual 42, 3) := by decide +kernel
theorem dL_tells_384 : decode cL_tells 384 = .ok (.iconst 1, 1) := by decide +kernel
theorem dL_tells_385 : decode cL_tells 385 = .ok (.aload_n 2, 1) := by decide +kernel
theorem dL_tells_386 : decode cL_tells 386 = .ok (.iconst 0, 1) := by decide +kernel
theorem dL_tells_387 : decode cL_tells 387 = .ok (.iaload, 1) := by decide +kernel
theorem dL_tells_388 : decode cL_tells 388 = .ok (.ishl, 1) := by decide +kernel
theorem dL_tells_389 : decode cL_tells 389 = .ok (.iconst 1, 1) := by decide +kernel
theorem dL_tells_390 : decode cL_tells 390 = .ok (.isub, 1) := by decide +kernel
theorem dL_tells_391 : decode cL_tells 391 = .ok (.if_icmp .ne 24, 3) := by decide +kernel
theorem dL_tells_394 : decode cL_tells 394 = .ok (.aload_n 0, 1) := by decide +kernel
theorem dL_tells_395 : decode cL_tells 395 = .ok (.iconst 5, 1) := by decide +kernel
theorem dL_tells_396 : decode cL_tells 396 = .ok (.invokevirtual 42, 3) := by decide +kernel
theorem dL_tells_399 : decode cL_tells 399 = .ok (.ifCond .ne 16, 3) := by decide +kernel
theorem dL_tells_402 : decode cL_tells 402 = .ok (.aload_n 0, 1) := by decide +kernel
theorem dL_tells_403 : decode cL_tells 403 = .ok (.bipush 8, 2) := by decide +kernel
theorem dL_tells_405 : decode cL_tells 405 = .ok (.invokevirtual 42, 3) := by decide +kernel
theorem dL_tells_408 : decode cL_tells 408 = .ok (.ifCond .ne 7, 3) := by decide +kernel
theorem dL_tells_411 : decode cL_tells 411 = .ok (.iconst 1, 1) := by decide +kernel
theorem dL_tells_412 : decode cL_tells 412 = .ok (.goto 4, 3) := by decide +kernel
theorem dL_tells_415 : decode cL_tells 415 = .ok (.iconst 0, 1) := by decide +kernel
theorem dL_tells_416 : decode cL_tells 416 = .ok (.ireturn, 1) := by decide +kernel
theorem dL_many_0 : decode cL_many 0 = .ok (.iconst 0, 1) := by decide +kernel
theorem dL_many_1 : decode cL_many 1 = .ok (.istore_n 1, 1) := by decide +kernel
theorem dL_many_2 : decode cL_many 2 = .ok (.iconst 0, 1) := by decide +kernel
theorem dL_many_3 : decode cL_many 3 = .ok (.istore_n 2, 1) := by decide +kernel
theorem dL_many_4 : decode cL_many 4 = .ok (.iload_n 2, 1) := by decide +kernel
theorem dL_many_5 : decode cL_many 5 = .ok (.bipush 8, 2) := by decide +kernel
theorem dL_many_7 : decode cL_many 7 = .ok (.if_icmp .ge 17, 3) := by decide +kernel
theorem dL_many_10 : decode cL_many 10 = .ok (.iload_n 1, 1) := by decide +kernel
theorem dL_many_11 : decode cL_many 11 = .ok (.iload_n 0, 1) := by decide +kernel
theorem dL_many_12 : decode cL_many 12 = .ok (.iload_n 2, 1) := by decide +kernel
theorem dL_many_13 : decode cL_many 13 = .ok (.ishr, 1) := by decide +kernel
theorem dL_many_14 : decode cL_many 14 = .ok (.iconst 1, 1) := by decide +kernel
theorem dL_many_15 : decode cL_many 15 = .ok (.iand, 1) := by decide +kernel
theorem dL_many_16 : decode cL_many 16 = .ok (.iadd, 1) := by decide +kernel
theorem dL_many_17 : decode cL_many 17 = .ok (.istore_n 1, 1) := by decide +kernel
theorem dL_many_18 : decode cL_many 18 = .ok (.iinc 2 1, 3) := by decide +kernel
theorem dL_many_21 : decode cL_many 21 = .ok (.goto (-17), 3) := by decide +kernel
theorem dL_many_24 : decode cL_many 24 = .ok (.iload_n 1, 1) := by decide +kernel
theorem dL_many_25 : decode cL_many 25 = .ok (.ireturn, 1) := by decide +kernel
theorem dL_told_0 : decode cL_told 0 = .ok (.iload_n 1, 1) := by decide +kernel
theorem dL_told_1 : decode cL_told 1 = .ok (.iconst 1, 1) := by decide +kernel
theorem dL_told_2 : decode cL_told 2 = .ok (.if_icmp .ne 10, 3) := by decide +kernel
theorem dL_told_5 : decode cL_told 5 = .ok (.aload_n 0, 1) := by decide +kernel
theorem dL_told_6 : decode cL_told 6 = .ok (.invokevirtual 101, 3) := by decide +kernel
theorem dL_told_9 : decode cL_told 9 = .ok (.goto 6, 3) := by decide +kernel
theorem dL_told_12 : decode cL_told 12 = .ok (.sipush (-7777), 3) := by decide +kernel
theorem dL_told_15 : decode cL_told 15 = .ok (.ireturn, 1) := by decide +kernel
theorem dL_many13_0 : decode cL_many13 0 = .ok (.iconst 0, 1) := by decide +kernel
theorem dL_many13_1 : decode cL_many13 1 = .ok (.istore_n 1, 1) := by decide +kernel
theorem dL_many13_2 : decode cL_many13 2 = .ok (.iconst 0, 1) := by decide +kernel
theorem dL_many13_3 : decode cL_many13 3 = .ok (.istore_n 2, 1) := by decide +kernel
theorem dL_many13_4 : decode cL_many13 4 = .ok (.iload_n 2, 1) := by decide +kernel
theorem dL_many13_5 : decode cL_many13 5 = .ok (.bipush 13, 2) := by decide +kernel
theorem dL_many13_7 : decode cL_many13 7 = .ok (.if_icmp .ge 17, 3) := by decide +kernel
theorem dL_many13_10 : decode cL_many13 10 = .ok (.iload_n 1, 1) := by decide +kernel
theorem dL_many13_11 : decode cL_many13 11 = .ok (.iload_n 0, 1) := by decide +kernel
theorem dL_many13_12 : decode cL_many13 12 = .ok (.iload_n 2, 1) := by decide +kernel
theorem dL_many13_13 : decode cL_many13 13 = .ok (.ishr, 1) := by decide +kernel
theorem dL_many13_14 : decode cL_many13 14 = .ok (.iconst 1, 1) := by decide +kernel
theorem dL_many13_15 : decode cL_many13 15 = .ok (.iand, 1) := by decide +kernel
theorem dL_many13_16 : decode cL_many13 16 = .ok (.iadd, 1) := by decide +kernel
theorem dL_many13_17 : decode cL_many13 17 = .ok (.istore_n 1, 1) := by decide +kernel
theorem dL_many13_18 : decode cL_many13 18 = .ok (.iinc 2 1, 3) := by decide +kernel
theorem dL_many13_21 : decode cL_many13 21 = .ok (.goto (-17), 3) := by decide +kernel
theorem dL_many13_24 : decode cL_many13 24 = .ok (.iload_n 1, 1) := by decide +kernel
theorem dL_many13_25 : decode cL_many13 25 = .ok (.ireturn, 1) := by decide +kernel
def f9_cell_S (sL : Nat) (sx : Nat → Int32) (M : Mem) (x1 : Int32) : Option (Int32) :=
    if (nI sL) = 0 then ((some (((7919 : Int32) * x1) + (3 : Int32))))
    else ((rmI x1 (nI sL)).bind fun v2 =>
    (rdS sL sx v2).bind fun v3 =>
    (rmI x1 (7 : Int32)).bind fun v4 =>
    (dvI x1 (nI sL)).bind fun v5 =>
    (some (((v3 >>> (v4 &&& 31)) ^^^ (v5 * (31 : Int32))) ^^^ (x1 * (2654435 : Int32)))))
set_option maxHeartbeats 4000000 in
set_option maxRecDepth 10000 in
theorem w9_cell_S {ad : Nat → Nat} {X : XX} {R : Int32} {M : Mem} (h : Cx layC ad X cL_cell RL 2 1 (some .int) M (some (.int R))) {x1 : Int32} (hF : f9_cell_S (zL X.1) (zX X.1) M x1 = some R) : Wp layC ad X M 0 [(0, .ref (zB X.1)), (1, .int x1)] [] := by
  unfold f9_cell_S at hF
  refine R_aload_n (pc := 0) h 0 rfl rfl dL_cell_0 ?_
  refine R_slen (pc := 1) h rfl dL_cell_1 ?_
  refine R_if_ne (pc := 2) (tgt := 15) h dL_cell_2 (by decide) (fun c1 => ?_) (fun c1 => ?_)
  · have hF := ifn c1 hF
    refine R_aload_n (pc := 15) h 0 rfl rfl dL_cell_15 ?_
    refine R_iload_n (pc := 16) h 1 rfl rfl dL_cell_16 ?_
    refine R_aload_n (pc := 17) h 0 rfl rfl dL_cell_17 ?_
    refine R_slen (pc := 18) h rfl dL_cell_18 ?_
    obtain ⟨v2, hv2, hF⟩ := bd hF
    refine R_irem (pc := 19) h hv2 dL_cell_19 ?_
    obtain ⟨v3, hv3, hF⟩ := bd hF
    refine R_sld (pc := 20) h hv3 dL_cell_20 ?_
    refine R_iload_n (pc := 21) h 1 rfl rfl dL_cell_21 ?_
    refine R_bipush (pc := 22) (v := 7) h (by decide) dL_cell_22 ?_
    obtain ⟨v4, hv4, hF⟩ := bd hF
    refine R_irem (pc := 24) h hv4 dL_cell_24 ?_
    refine R_ishr (pc := 25) h dL_cell_25 ?_
    refine R_iload_n (pc := 26) h 1 rfl rfl dL_cell_26 ?_
    refine R_aload_n (pc := 27) h 0 rfl rfl dL_cell_27 ?_
    refine R_slen (pc := 28) h rfl dL_cell_28 ?_
    obtain ⟨v5, hv5, hF⟩ := bd hF
    refine R_idiv (pc := 29) h hv5 dL_cell_29 ?_
    refine R_bipush (pc := 30) (v := 31) h (by decide) dL_cell_30 ?_
    refine R_imul (pc := 32) h dL_cell_32 ?_
    refine R_ixor (pc := 33) h dL_cell_33 ?_
    refine R_iload_n (pc := 34) h 1 rfl rfl dL_cell_34 ?_
    refine R_ldc (pc := 35) h kiL_8 dL_cell_35 ?_
    refine R_imul (pc := 37) h dL_cell_37 ?_
    refine R_ixor (pc := 38) h dL_cell_38 ?_
    cases hF
    exact R_ireturn (pc := 39) h rfl rfl rfl dL_cell_39
  · have hF := itp c1 hF
    refine R_sipush (pc := 5) (v := 7919) h (by decide) dL_cell_5 ?_
    refine R_iload_n (pc := 8) h 1 rfl rfl dL_cell_8 ?_
    refine R_imul (pc := 9) h dL_cell_9 ?_
    refine R_iconst (pc := 10) (v := 3) h (by decide) dL_cell_10 ?_
    refine R_iadd (pc := 11) h dL_cell_11 ?_
    refine R_goto (pc := 12) (tgt := 39) h dL_cell_12 (by decide) ?_
    cases hF
    exact R_ireturn (pc := 39) h rfl rfl rfl dL_cell_39
theorem c9_cell_S {ad : Nat → Nat} {z : ZZ} {R : Int32} {M : Mem} {x1 : Int32} (hF : f9_cell_S (zL z) (zX z) M x1 = some R) : Con layC ad z yL_cell cL_cell 2 (some .int) 1 M [.ref (zB z), .int x1] (M) (some (.int R)) := con_of (own := RL) (lv := [(0, .ref (zB z)), (1, .int x1)]) (by decide +kernel) rfl (Nat.le_of_ble_eq_true rfl) rfl (fun X hz h => by subst hz; exact w9_cell_S h hF)
def f9_part (x0 : Int32) (x1 : Int32) : Option (Int32) :=
    (rmI (x0 &&& (2147483647 : Int32)) x1).bind fun v1 =>
    (some v1)
set_option maxHeartbeats 4000000 in
set_option maxRecDepth 10000 in
theorem w9_part {ad : Nat → Nat} {X : XX} {R : Int32} {M : Mem} (h : Cx layC ad X cL_part RL 2 1 (some .int) M (some (.int R))) {x0 : Int32} {x1 : Int32} (hF : f9_part x0 x1 = some R) : Wp layC ad X M 0 [(0, .int x0), (1, .int x1)] [] := by
  unfold f9_part at hF
  refine R_iload_n (pc := 0) h 0 rfl rfl dL_part_0 ?_
  refine R_ldc (pc := 1) h kiL_7 dL_part_1 ?_
  refine R_iand (pc := 3) h dL_part_3 ?_
  refine R_iload_n (pc := 4) h 1 rfl rfl dL_part_4 ?_
  obtain ⟨v1, hv1, hF⟩ := bd hF
  refine R_irem (pc := 5) h hv1 dL_part_5 ?_
  cases hF
  exact R_ireturn (pc := 6) h rfl rfl rfl dL_part_6
theorem c9_part {ad : Nat → Nat} {z : ZZ} {R : Int32} {M : Mem} {x0 : Int32} {x1 : Int32} (hF : f9_part x0 x1 = some R) : Con layC ad z yL_part cL_part 2 (some .int) 1 M [.int x0, .int x1] (M) (some (.int R)) := con_of (own := RL) (lv := [(0, .int x0), (1, .int x1)]) (by decide +kernel) rfl (Nat.le_of_ble_eq_true rfl) rfl (fun X hz h => w9_part h hF)
def f9_letter (x0 : Int32) : Option (Int32) :=
    if x0 = 0 then ((some (112 : Int32)))
    else (if x0 = (1 : Int32) then ((some (99 : Int32)))
    else (if x0 = (2 : Int32) then ((some (108 : Int32)))
    else (if x0 = (3 : Int32) then ((some (109 : Int32)))
    else (if x0 = (4 : Int32) then ((some (98 : Int32)))
    else ((some (119 : Int32)))))))
set_option maxHeartbeats 4000000 in
set_option maxRecDepth 10000 in
theorem w9_letter {ad : Nat → Nat} {X : XX} {R : Int32} {M : Mem} (h : Cx layC ad X cL_letter RL 1 1 (some .int) M (some (.int R))) {x0 : Int32} (hF : f9_letter x0 = some R) : Wp layC ad X M 0 [(0, .int x0)] [] := by
  unfold f9_letter at hF
  refine R_iload_n (pc := 0) h 0 rfl rfl dL_letter_0 ?_
  refine R_if_ne (pc := 1) (tgt := 9) h dL_letter_1 (by decide) (fun c1 => ?_) (fun c1 => ?_)
  · have hF := ifn c1 hF
    refine R_iload_n (pc := 9) h 0 rfl rfl dL_letter_9 ?_
    refine R_iconst (pc := 10) (v := 1) h (by decide) dL_letter_10 ?_
    refine R_icmp_ne (pc := 11) (tgt := 19) h dL_letter_11 (by decide) (fun c2 => ?_) (fun c2 => ?_)
    · have hF := ifn c2 hF
      refine R_iload_n (pc := 19) h 0 rfl rfl dL_letter_19 ?_
      refine R_iconst (pc := 20) (v := 2) h (by decide) dL_letter_20 ?_
      refine R_icmp_ne (pc := 21) (tgt := 29) h dL_letter_21 (by decide) (fun c3 => ?_) (fun c3 => ?_)
      · have hF := ifn c3 hF
        refine R_iload_n (pc := 29) h 0 rfl rfl dL_letter_29 ?_
        refine R_iconst (pc := 30) (v := 3) h (by decide) dL_letter_30 ?_
        refine R_icmp_ne (pc := 31) (tgt := 39) h dL_letter_31 (by decide) (fun c4 => ?_) (fun c4 => ?_)
        · have hF := ifn c4 hF
          refine R_iload_n (pc := 39) h 0 rfl rfl dL_letter_39 ?_
          refine R_iconst (pc := 40) (v := 4) h (by decide) dL_letter_40 ?_
          refine R_icmp_ne (pc := 41) (tgt := 49) h dL_letter_41 (by decide) (fun c5 => ?_) (fun c5 => ?_)
          · have hF := ifn c5 hF
            refine R_bipush (pc := 49) (v := 119) h (by decide) dL_letter_49 ?_
            cases hF
            exact R_ireturn (pc := 51) h rfl rfl rfl dL_letter_51
          · have hF := itp c5 hF
            refine R_bipush (pc := 44) (v := 98) h (by decide) dL_letter_44 ?_
            refine R_goto (pc := 46) (tgt := 51) h dL_letter_46 (by decide) ?_
            cases hF
            exact R_ireturn (pc := 51) h rfl rfl rfl dL_letter_51
        · have hF := itp c4 hF
          refine R_bipush (pc := 34) (v := 109) h (by decide) dL_letter_34 ?_
          refine R_goto (pc := 36) (tgt := 51) h dL_letter_36 (by decide) ?_
          cases hF
          exact R_ireturn (pc := 51) h rfl rfl rfl dL_letter_51
      · have hF := itp c3 hF
        refine R_bipush (pc := 24) (v := 108) h (by decide) dL_letter_24 ?_
        refine R_goto (pc := 26) (tgt := 51) h dL_letter_26 (by decide) ?_
        cases hF
        exact R_ireturn (pc := 51) h rfl rfl rfl dL_letter_51
    · have hF := itp c2 hF
      refine R_bipush (pc := 14) (v := 99) h (by decide) dL_letter_14 ?_
      refine R_goto (pc := 16) (tgt := 51) h dL_letter_16 (by decide) ?_
      cases hF
      exact R_ireturn (pc := 51) h rfl rfl rfl dL_letter_51
  · have hF := itp c1 hF
    refine R_bipush (pc := 4) (v := 112) h (by decide) dL_letter_4 ?_
    refine R_goto (pc := 6) (tgt := 51) h dL_letter_6 (by decide) ?_
    cases hF
    exact R_ireturn (pc := 51) h rfl rfl rfl dL_letter_51
theorem c9_letter {ad : Nat → Nat} {z : ZZ} {R : Int32} {M : Mem} {x0 : Int32} (hF : f9_letter x0 = some R) : Con layC ad z yL_letter cL_letter 1 (some .int) 1 M [.int x0] (M) (some (.int R)) := con_of (own := RL) (lv := [(0, .int x0)]) (by decide +kernel) rfl (Nat.le_of_ble_eq_true rfl) rfl (fun X hz h => w9_letter h hF)
def f9_byte0_28 (x1 : Int32) (x2 : Int32) (M : Mem) : Option (Mem × Int32) :=
    (f4_put (3 : Int32) x1 x2 M).bind fun ⟨M2, r3⟩ =>
    if r3 = (1032 : Int32) then ((some (M2, (x1 + (1 : Int32)))))
    else ((some (M2, (-1000 : Int32))))
set_option maxHeartbeats 4000000 in
set_option maxRecDepth 10000 in
theorem w9_byte0_28 {ad : Nat → Nat} {X : XX} {R : Mem × Int32} (h : Cx layC ad X cL_byte0 RL 3 5 (some .int) (R.1) (some (.int R.2))) {x1 : Int32} {x2 : Int32} {M : Mem} (hF : f9_byte0_28 x1 x2 M = some R) : Wp layC ad X M 0 [(0, .ref (ad 28)), (1, .int x1), (2, .int x2)] [] := by
  unfold f9_byte0_28 at hF
  refine R_aload_n (pc := 0) h 0 rfl rfl dL_byte0_0 ?_
  refine R_iconst (pc := 1) (v := 3) h (by decide) dL_byte0_1 ?_
  refine R_iload_n (pc := 2) h 1 rfl rfl dL_byte0_2 ?_
  refine R_iload_n (pc := 3) h 2 rfl rfl dL_byte0_3 ?_
  obtain ⟨⟨M2, r3⟩, hc1, hF⟩ := bd hF
  refine R_callV (pc := 4) (st := []) h [.int (3 : Int32), .int x1, .int x2] cvL_9 (c4_put (ad := ad) (z := X.1) hc1) rfl rfl lc_28 (by decide) (by decide) (Nat.le_of_ble_eq_true rfl) dL_byte0_4 (st1 := [.int r3]) rfl ?_
  refine R_sipush (pc := 7) (v := 1032) h (by decide) dL_byte0_7 ?_
  refine R_icmp_ne (pc := 10) (tgt := 19) h dL_byte0_10 (by decide) (fun c4 => ?_) (fun c4 => ?_)
  · have hF := ifn c4 hF
    refine R_sipush (pc := 19) (v := (-1000)) h (by decide) dL_byte0_19 ?_
    cases hF
    exact R_ireturn (pc := 22) h rfl rfl rfl dL_byte0_22
  · have hF := itp c4 hF
    refine R_iload_n (pc := 13) h 1 rfl rfl dL_byte0_13 ?_
    refine R_iconst (pc := 14) (v := 1) h (by decide) dL_byte0_14 ?_
    refine R_iadd (pc := 15) h dL_byte0_15 ?_
    refine R_goto (pc := 16) (tgt := 22) h dL_byte0_16 (by decide) ?_
    cases hF
    exact R_ireturn (pc := 22) h rfl rfl rfl dL_byte0_22
theorem c9_byte0_28 {ad : Nat → Nat} {z : ZZ} {R : Mem × Int32} {x1 : Int32} {x2 : Int32} {M : Mem} (hF : f9_byte0_28 x1 x2 M = some R) : Con layC ad z yL_byte0 cL_byte0 3 (some .int) 5 M [.ref (ad 28), .int x1, .int x2] (R.1) (some (.int R.2)) := con_of (own := RL) (lv := [(0, .ref (ad 28)), (1, .int x1), (2, .int x2)]) (by decide +kernel) rfl (Nat.le_of_ble_eq_true rfl) rfl (fun X hz h => w9_byte0_28 h hF)
def f9_tells_28_S_47_48_146 (sL : Nat) (sx : Nat → Int32) (fu : Nat) (k88 : Int32 → Int32 → Mem → Option (Mem × Int32)) (x5 : Int32) (x6 : Int32) (x7 : Int32) (s0 : Int32) (s1 : Int32) (s2 : Int32) (M : Mem) : Option (Mem × Int32) :=
    (f9_part s1 s0).bind fun r2 =>
    (wr M 48 9 s2 r2).bind fun M3 =>
    (f9_part (x5 >>> ((7 : Int32) &&& 31)) (10 : Int32)).bind fun r5 =>
    (wr M3 47 33 ((9 : Int32) + x7) r5).bind fun M6 =>
    (f9_part (x5 >>> ((11 : Int32) &&& 31)) (4 : Int32)).bind fun r8 =>
    (wr M6 47 33 ((17 : Int32) + x7) ((1 : Int32) + r8)).bind fun M9 =>
    (f9_part (x5 >>> ((13 : Int32) &&& 31)) (10 : Int32)).bind fun r11 =>
    (wr M9 47 33 ((25 : Int32) + x7) r11).bind fun M12 =>
    (rd M12 47 33 ((1 : Int32) + x7)).bind fun v13 =>
    (f9_letter v13).bind fun r15 =>
    (f9_byte0_28 x6 r15 M12).bind fun ⟨M17, r18⟩ =>
    (rd M17 48 9 ((1 : Int32) + x7)).bind fun v19 =>
    (f9_byte0_28 r18 ((48 : Int32) + v19) M17).bind fun ⟨M21, r22⟩ =>
    (rd M21 47 33 ((9 : Int32) + x7)).bind fun v23 =>
    (f9_byte0_28 r22 ((48 : Int32) + v23) M21).bind fun ⟨M25, r26⟩ =>
    (rd M25 47 33 ((17 : Int32) + x7)).bind fun v27 =>
    (f9_byte0_28 r26 ((48 : Int32) + v27) M25).bind fun ⟨M29, r30⟩ =>
    (rd M29 47 33 ((25 : Int32) + x7)).bind fun v31 =>
    (f9_byte0_28 r30 ((48 : Int32) + v31) M29).bind fun ⟨M33, r34⟩ =>
    (f9_part (x5 >>> ((20 : Int32) &&& 31)) (3 : Int32)).bind fun r36 =>
    if r36 = 0 then (nm (r34 + (2 : Int32)) fun v38 =>
    nm (x7 + (1 : Int32)) fun v39 =>
    (k88 v38 v39 M33))
    else (nm (r34 + (0 : Int32)) fun v40 =>
    nm (x7 + (1 : Int32)) fun v41 =>
    (k88 v40 v41 M33))
set_option maxHeartbeats 4000000 in
set_option maxRecDepth 10000 in
theorem w9_tells_28_S_47_48_146 {ad : Nat → Nat} {X : XX} {R : Mem × Int32} {fu : Nat} {k88 : Int32 → Int32 → Mem → Option (Mem × Int32)} (h : Cx layC ad X cL_tells RL 8 7 (some .boolean) (R.1) (some (.int R.2))) (hk88 : ∀ (x6 : Int32) (x7 : Int32) (M : Mem), k88 x6 x7 M = some R → Wp layC ad X M 88 [(0, .ref (ad 28)), (1, .ref (zB X.1)), (2, .ref (ad 47)), (3, .ref (ad 48)), (6, .int x6), (7, .int x7)] []) {x5 : Int32} {x6 : Int32} {x7 : Int32} {s0 : Int32} {s1 : Int32} {s2 : Int32} {M : Mem} (hF : f9_tells_28_S_47_48_146 (zL X.1) (zX X.1) fu k88 x5 x6 x7 s0 s1 s2 M = some R) : Wp layC ad X M 146 [(0, .ref (ad 28)), (1, .ref (zB X.1)), (2, .ref (ad 47)), (3, .ref (ad 48)), (5, .int x5), (6, .int x6), (7, .int x7)] [.int s0, .int s1, .int s2, .ref (ad 48)] := by
  unfold f9_tells_28_S_47_48_146 at hF
  obtain ⟨r2, hc1, hF⟩ := bd hF
  refine R_callS (pc := 146) (st := [.int s2, .ref (ad 48)]) h [.int s1, .int s0] csL_21 (c9_part (ad := ad) (z := X.1) (M := M) hc1) rfl rfl (by decide) (by decide) (Nat.le_of_ble_eq_true rfl) dL_tells_146 (st1 := [.int r2, .int s2, .ref (ad 48)]) rfl ?_
  obtain ⟨M3, hM3, hF⟩ := bd hF
  refine R_iast (pc := 149) h hM3 lc_48 dL_tells_149 ?_
  refine R_aload_n (pc := 150) h 2 rfl rfl dL_tells_150 ?_
  refine R_bipush (pc := 151) (v := 9) h (by decide) dL_tells_151 ?_
  refine R_iload (pc := 153) h 6 rfl dL_tells_153 ?_
  refine R_iadd (pc := 155) h dL_tells_155 ?_
  refine R_iload (pc := 156) h 4 rfl dL_tells_156 ?_
  refine R_bipush (pc := 158) (v := 7) h (by decide) dL_tells_158 ?_
  refine R_ishr (pc := 160) h dL_tells_160 ?_
  refine R_bipush (pc := 161) (v := 10) h (by decide) dL_tells_161 ?_
  obtain ⟨r5, hc4, hF⟩ := bd hF
  refine R_callS (pc := 163) (st := [.int ((9 : Int32) + x7), .ref (ad 47)]) h [.int (x5 >>> ((7 : Int32) &&& 31)), .int (10 : Int32)] csL_21 (c9_part (ad := ad) (z := X.1) (M := M3) hc4) rfl rfl (by decide) (by decide) (Nat.le_of_ble_eq_true rfl) dL_tells_163 (st1 := [.int r5, .int ((9 : Int32) + x7), .ref (ad 47)]) rfl ?_
  obtain ⟨M6, hM6, hF⟩ := bd hF
  refine R_iast (pc := 166) h hM6 lc_47 dL_tells_166 ?_
  refine R_aload_n (pc := 167) h 2 rfl rfl dL_tells_167 ?_
  refine R_bipush (pc := 168) (v := 17) h (by decide) dL_tells_168 ?_
  refine R_iload (pc := 170) h 6 rfl dL_tells_170 ?_
  refine R_iadd (pc := 172) h dL_tells_172 ?_
  refine R_iconst (pc := 173) (v := 1) h (by decide) dL_tells_173 ?_
  refine R_iload (pc := 174) h 4 rfl dL_tells_174 ?_
  refine R_bipush (pc := 176) (v := 11) h (by decide) dL_tells_176 ?_
  refine R_ishr (pc := 178) h dL_tells_178 ?_
  refine R_iconst (pc := 179) (v := 4) h (by decide) dL_tells_179 ?_
  obtain ⟨r8, hc7, hF⟩ := bd hF
  refine R_callS (pc := 180) (st := [.int (1 : Int32), .int ((17 : Int32) + x7), .ref (ad 47)]) h [.int (x5 >>> ((11 : Int32) &&& 31)), .int (4 : Int32)] csL_21 (c9_part (ad := ad) (z := X.1) (M := M6) hc7) rfl rfl (by decide) (by decide) (Nat.le_of_ble_eq_true rfl) dL_tells_180 (st1 := [.int r8, .int (1 : Int32), .int ((17 : Int32) + x7), .ref (ad 47)]) rfl ?_
  refine R_iadd (pc := 183) h dL_tells_183 ?_
  obtain ⟨M9, hM9, hF⟩ := bd hF
  refine R_iast (pc := 184) h hM9 lc_47 dL_tells_184 ?_
  refine R_aload_n (pc := 185) h 2 rfl rfl dL_tells_185 ?_
  refine R_bipush (pc := 186) (v := 25) h (by decide) dL_tells_186 ?_
  refine R_iload (pc := 188) h 6 rfl dL_tells_188 ?_
  refine R_iadd (pc := 190) h dL_tells_190 ?_
  refine R_iload (pc := 191) h 4 rfl dL_tells_191 ?_
  refine R_bipush (pc := 193) (v := 13) h (by decide) dL_tells_193 ?_
  refine R_ishr (pc := 195) h dL_tells_195 ?_
  refine R_bipush (pc := 196) (v := 10) h (by decide) dL_tells_196 ?_
  obtain ⟨r11, hc10, hF⟩ := bd hF
  refine R_callS (pc := 198) (st := [.int ((25 : Int32) + x7), .ref (ad 47)]) h [.int (x5 >>> ((13 : Int32) &&& 31)), .int (10 : Int32)] csL_21 (c9_part (ad := ad) (z := X.1) (M := M9) hc10) rfl rfl (by decide) (by decide) (Nat.le_of_ble_eq_true rfl) dL_tells_198 (st1 := [.int r11, .int ((25 : Int32) + x7), .ref (ad 47)]) rfl ?_
  obtain ⟨M12, hM12, hF⟩ := bd hF
  refine R_iast (pc := 201) h hM12 lc_47 dL_tells_201 ?_
  refine R_aload_n (pc := 202) h 0 rfl rfl dL_tells_202 ?_
  refine R_iload (pc := 203) h 5 rfl dL_tells_203 ?_
  refine R_aload_n (pc := 205) h 2 rfl rfl dL_tells_205 ?_
  refine R_iconst (pc := 206) (v := 1) h (by decide) dL_tells_206 ?_
  refine R_iload (pc := 207) h 6 rfl dL_tells_207 ?_
  refine R_iadd (pc := 209) h dL_tells_209 ?_
  obtain ⟨v13, hv13, hF⟩ := bd hF
  refine R_iald (pc := 210) h hv13 lc_47 dL_tells_210 ?_
  obtain ⟨r15, hc14, hF⟩ := bd hF
  refine R_callS (pc := 211) (st := [.int x6, .ref (ad 28)]) h [.int v13] csL_28 (c9_letter (ad := ad) (z := X.1) (M := M12) hc14) rfl rfl (by decide) (by decide) (Nat.le_of_ble_eq_true rfl) dL_tells_211 (st1 := [.int r15, .int x6, .ref (ad 28)]) rfl ?_
  obtain ⟨⟨M17, r18⟩, hc16, hF⟩ := bd hF
  refine R_callS (pc := 214) (st := []) h [.ref (ad 28), .int x6, .int r15] csL_32 (c9_byte0_28 (ad := ad) (z := X.1) hc16) rfl rfl (by decide) (by decide) (Nat.le_of_ble_eq_true rfl) dL_tells_214 (st1 := [.int r18]) rfl ?_
  refine R_istore (pc := 217) (lv' := [(6, .int r18), (0, .ref (ad 28)), (1, .ref (zB X.1)), (2, .ref (ad 47)), (3, .ref (ad 48)), (5, .int x5), (7, .int x7)]) h rfl (by decide) rfl dL_tells_217 ?_
  refine R_aload_n (pc := 219) h 1 rfl rfl dL_tells_219 ?_
  refine R_iload (pc := 220) h 0 rfl dL_tells_220 ?_
  refine R_bipush (pc := 222) (v := 48) h (by decide) dL_tells_222 ?_
  refine R_aload_n (pc := 224) h 4 rfl rfl dL_tells_224 ?_
  refine R_iconst (pc := 225) (v := 1) h (by decide) dL_tells_225 ?_
  refine R_iload (pc := 226) h 6 rfl dL_tells_226 ?_
  refine R_iadd (pc := 228) h dL_tells_228 ?_
  obtain ⟨v19, hv19, hF⟩ := bd hF
  refine R_iald (pc := 229) h hv19 lc_48 dL_tells_229 ?_
  refine R_iadd (pc := 230) h dL_tells_230 ?_
  obtain ⟨⟨M21, r22⟩, hc20, hF⟩ := bd hF
  refine R_callS (pc := 231) (st := []) h [.ref (ad 28), .int r18, .int ((48 : Int32) + v19)] csL_32 (c9_byte0_28 (ad := ad) (z := X.1) hc20) rfl rfl (by decide) (by decide) (Nat.le_of_ble_eq_true rfl) dL_tells_231 (st1 := [.int r22]) rfl ?_
  refine R_istore (pc := 234) (lv' := [(6, .int r22), (0, .ref (ad 28)), (1, .ref (zB X.1)), (2, .ref (ad 47)), (3, .ref (ad 48)), (5, .int x5), (7, .int x7)]) h rfl (by decide) rfl dL_tells_234 ?_
  refine R_aload_n (pc := 236) h 1 rfl rfl dL_tells_236 ?_
  refine R_iload (pc := 237) h 0 rfl dL_tells_237 ?_
  refine R_bipush (pc := 239) (v := 48) h (by decide) dL_tells_239 ?_
  refine R_aload_n (pc := 241) h 3 rfl rfl dL_tells_241 ?_
  refine R_bipush (pc := 242) (v := 9) h (by decide) dL_tells_242 ?_
  refine R_iload (pc := 244) h 6 rfl dL_tells_244 ?_
  refine R_iadd (pc := 246) h dL_tells_246 ?_
  obtain ⟨v23, hv23, hF⟩ := bd hF
  refine R_iald (pc := 247) h hv23 lc_47 dL_tells_247 ?_
  refine R_iadd (pc := 248) h dL_tells_248 ?_
  obtain ⟨⟨M25, r26⟩, hc24, hF⟩ := bd hF
  refine R_callS (pc := 249) (st := []) h [.ref (ad 28), .int r22, .int ((48 : Int32) + v23)] csL_32 (c9_byte0_28 (ad := ad) (z := X.1) hc24) rfl rfl (by decide) (by decide) (Nat.le_of_ble_eq_true rfl) dL_tells_249 (st1 := [.int r26]) rfl ?_
  refine R_istore (pc := 252) (lv' := [(6, .int r26), (0, .ref (ad 28)), (1, .ref (zB X.1)), (2, .ref (ad 47)), (3, .ref (ad 48)), (5, .int x5), (7, .int x7)]) h rfl (by decide) rfl dL_tells_252 ?_
  refine R_aload_n (pc := 254) h 1 rfl rfl dL_tells_254 ?_
  refine R_iload (pc := 255) h 0 rfl dL_tells_255 ?_
  refine R_bipush (pc := 257) (v := 48) h (by decide) dL_tells_257 ?_
  refine R_aload_n (pc := 259) h 3 rfl rfl dL_tells_259 ?_
  refine R_bipush (pc := 260) (v := 17) h (by decide) dL_tells_260 ?_
  refine R_iload (pc := 262) h 6 rfl dL_tells_262 ?_
  refine R_iadd (pc := 264) h dL_tells_264 ?_
  obtain ⟨v27, hv27, hF⟩ := bd hF
  refine R_iald (pc := 265) h hv27 lc_47 dL_tells_265 ?_
  refine R_iadd (pc := 266) h dL_tells_266 ?_
  obtain ⟨⟨M29, r30⟩, hc28, hF⟩ := bd hF
  refine R_callS (pc := 267) (st := []) h [.ref (ad 28), .int r26, .int ((48 : Int32) + v27)] csL_32 (c9_byte0_28 (ad := ad) (z := X.1) hc28) rfl rfl (by decide) (by decide) (Nat.le_of_ble_eq_true rfl) dL_tells_267 (st1 := [.int r30]) rfl ?_
  refine R_istore (pc := 270) (lv' := [(6, .int r30), (0, .ref (ad 28)), (1, .ref (zB X.1)), (2, .ref (ad 47)), (3, .ref (ad 48)), (5, .int x5), (7, .int x7)]) h rfl (by decide) rfl dL_tells_270 ?_
  refine R_aload_n (pc := 272) h 1 rfl rfl dL_tells_272 ?_
  refine R_iload (pc := 273) h 0 rfl dL_tells_273 ?_
  refine R_bipush (pc := 275) (v := 48) h (by decide) dL_tells_275 ?_
  refine R_aload_n (pc := 277) h 3 rfl rfl dL_tells_277 ?_
  refine R_bipush (pc := 278) (v := 25) h (by decide) dL_tells_278 ?_
  refine R_iload (pc := 280) h 6 rfl dL_tells_280 ?_
  refine R_iadd (pc := 282) h dL_tells_282 ?_
  obtain ⟨v31, hv31, hF⟩ := bd hF
  refine R_iald (pc := 283) h hv31 lc_47 dL_tells_283 ?_
  refine R_iadd (pc := 284) h dL_tells_284 ?_
  obtain ⟨⟨M33, r34⟩, hc32, hF⟩ := bd hF
  refine R_callS (pc := 285) (st := []) h [.ref (ad 28), .int r30, .int ((48 : Int32) + v31)] csL_32 (c9_byte0_28 (ad := ad) (z := X.1) hc32) rfl rfl (by decide) (by decide) (Nat.le_of_ble_eq_true rfl) dL_tells_285 (st1 := [.int r34]) rfl ?_
  refine R_istore (pc := 288) (lv' := [(6, .int r34), (0, .ref (ad 28)), (1, .ref (zB X.1)), (2, .ref (ad 47)), (3, .ref (ad 48)), (5, .int x5), (7, .int x7)]) h rfl (by decide) rfl dL_tells_288 ?_
  refine R_iload (pc := 290) h 0 rfl dL_tells_290 ?_
  refine R_iload (pc := 292) h 5 rfl dL_tells_292 ?_
  refine R_bipush (pc := 294) (v := 20) h (by decide) dL_tells_294 ?_
  refine R_ishr (pc := 296) h dL_tells_296 ?_
  refine R_iconst (pc := 297) (v := 3) h (by decide) dL_tells_297 ?_
  obtain ⟨r36, hc35, hF⟩ := bd hF
  refine R_callS (pc := 298) (st := [.int r34]) h [.int (x5 >>> ((20 : Int32) &&& 31)), .int (3 : Int32)] csL_21 (c9_part (ad := ad) (z := X.1) (M := M33) hc35) rfl rfl (by decide) (by decide) (Nat.le_of_ble_eq_true rfl) dL_tells_298 (st1 := [.int r36, .int r34]) rfl ?_
  refine R_if_ne (pc := 301) (tgt := 308) h dL_tells_301 (by decide) (fun c37 => ?_) (fun c37 => ?_)
  · have hF := ifn c37 hF
    refine R_iconst (pc := 308) (v := 0) h (by decide) dL_tells_308 ?_
    refine R_iadd (pc := 309) h dL_tells_309 ?_
    obtain ⟨v40, hv40, hF⟩ := nm_e2 hF
    refine R_istore (pc := 310) (lv' := [(6, .int v40), (0, .ref (ad 28)), (1, .ref (zB X.1)), (2, .ref (ad 47)), (3, .ref (ad 48)), (5, .int x5), (7, .int x7)]) h hv40 (by decide) rfl dL_tells_310 ?_
    obtain ⟨v41, hv41, hF⟩ := nm_e2 hF
    refine R_iinc (pc := 312) (lv' := [(7, .int v41), (6, .int v40), (0, .ref (ad 28)), (1, .ref (zB X.1)), (2, .ref (ad 47)), (3, .ref (ad 48)), (5, .int x5)]) h 6 rfl (by decide) hv41 (by decide) rfl dL_tells_312 ?_
    refine R_goto (pc := 315) (tgt := 88) h dL_tells_315 (by decide) ?_
    exact Wp_sub (nX := 0) (lv' := [(0, .ref (ad 28)), (1, .ref (zB X.1)), (2, .ref (ad 47)), (3, .ref (ad 48)), (6, .int v40), (7, .int v41)]) [2, 3, 4, 5, 1, 0] rfl (hk88 _ _ _ hF)
  · have hF := itp c37 hF
    refine R_iconst (pc := 304) (v := 2) h (by decide) dL_tells_304 ?_
    refine R_goto (pc := 305) (tgt := 309) h dL_tells_305 (by decide) ?_
    refine R_iadd (pc := 309) h dL_tells_309 ?_
    obtain ⟨v38, hv38, hF⟩ := nm_e2 hF
    refine R_istore (pc := 310) (lv' := [(6, .int v38), (0, .ref (ad 28)), (1, .ref (zB X.1)), (2, .ref (ad 47)), (3, .ref (ad 48)), (5, .int x5), (7, .int x7)]) h hv38 (by decide) rfl dL_tells_310 ?_
    obtain ⟨v39, hv39, hF⟩ := nm_e2 hF
    refine R_iinc (pc := 312) (lv' := [(7, .int v39), (6, .int v38), (0, .ref (ad 28)), (1, .ref (zB X.1)), (2, .ref (ad 47)), (3, .ref (ad 48)), (5, .int x5)]) h 6 rfl (by decide) hv39 (by decide) rfl dL_tells_312 ?_
    refine R_goto (pc := 315) (tgt := 88) h dL_tells_315 (by decide) ?_
    exact Wp_sub (nX := 0) (lv' := [(0, .ref (ad 28)), (1, .ref (zB X.1)), (2, .ref (ad 47)), (3, .ref (ad 48)), (6, .int v38), (7, .int v39)]) [2, 3, 4, 5, 1, 0] rfl (hk88 _ _ _ hF)
def f9_tells_28_S_47_48_88 (sL : Nat) (sx : Nat → Int32) (fu : Nat) : Nat → Int32 → Int32 → Mem → Option (Mem × Int32)
  | 0 => fun _ _ _ => none
  | f + 1 => fun x6 x7 M =>
    (rd M 47 33 (0 : Int32)).bind fun v1 =>
    if v1 ≤ x7 then (if x6 ≤ 0 then ((some (M, (0 : Int32))))
    else ((f4_fault fu (3 : Int32) M).bind fun ⟨M5, r6⟩ =>
    if r6 = (-9 : Int32) then ((f4_street fu (3 : Int32) M5).bind fun ⟨M9, r10⟩ =>
    (rd M9 47 33 (0 : Int32)).bind fun v11 =>
    if r10 = v11 then ((f4_count M9 fu (0 : Int32)).bind fun r14 =>
    (rd M9 47 33 (0 : Int32)).bind fun v15 =>
    if r14 = v15 then ((f4_count M9 fu (1 : Int32)).bind fun r18 =>
    if r18 = 0 then ((f4_count M9 fu (2 : Int32)).bind fun r21 =>
    if r21 = 0 then ((f4_count M9 fu (3 : Int32)).bind fun r24 =>
    if r24 = 0 then ((f4_count M9 fu (4 : Int32)).bind fun r27 =>
    (rd M9 47 33 (0 : Int32)).bind fun v28 =>
    if r27 = (((1 : Int32) <<< (v28 &&& 31)) - (1 : Int32)) then ((f4_count M9 fu (5 : Int32)).bind fun r31 =>
    if r31 = 0 then ((f4_count M9 fu (8 : Int32)).bind fun r34 =>
    if r34 = 0 then ((some (M9, (1 : Int32))))
    else ((some (M9, (0 : Int32)))))
    else ((some (M9, (0 : Int32)))))
    else ((some (M9, (0 : Int32)))))
    else ((some (M9, (0 : Int32)))))
    else ((some (M9, (0 : Int32)))))
    else ((some (M9, (0 : Int32)))))
    else ((some (M9, (0 : Int32)))))
    else ((some (M9, (0 : Int32)))))
    else ((some (M5, (0 : Int32))))))
    else ((f9_cell_S sL sx M ((1 : Int32) + x7)).bind fun r37 =>
    (f9_part r37 (6 : Int32)).bind fun r39 =>
    (wr M 47 33 ((1 : Int32) + x7) r39).bind fun M40 =>
    (f9_part (r37 >>> ((24 : Int32) &&& 31)) (2 : Int32)).bind fun r42 =>
    if r42 = 0 then ((f9_tells_28_S_47_48_146 sL sx fu (f9_tells_28_S_47_48_88 sL sx fu f) r37 x6 x7 (10 : Int32) (r37 >>> ((3 : Int32) &&& 31)) ((1 : Int32) + x7) M40))
    else ((f9_tells_28_S_47_48_146 sL sx fu (f9_tells_28_S_47_48_88 sL sx fu f) r37 x6 x7 (4 : Int32) (r37 >>> ((3 : Int32) &&& 31)) ((1 : Int32) + x7) M40)))
set_option maxHeartbeats 4000000 in
set_option maxRecDepth 10000 in
theorem w9_tells_28_S_47_48i_88 {ad : Nat → Nat} {X : XX} {R : Mem × Int32} {fu : Nat}  (h : Cx layC ad X cL_tells RL 8 7 (some .boolean) (R.1) (some (.int R.2)))  : ∀ (f : Nat) (x6 : Int32) (x7 : Int32) (M : Mem), f9_tells_28_S_47_48_88 (zL X.1) (zX X.1) fu f x6 x7 M = some R → Wp layC ad X M 88 [(0, .ref (ad 28)), (1, .ref (zB X.1)), (2, .ref (ad 47)), (3, .ref (ad 48)), (6, .int x6), (7, .int x7)] [] := by
  intro f
  induction f with
  | zero => intro x6 x7 M hF; exact absurd hF (by simp [f9_tells_28_S_47_48_88])
  | succ f ih =>
    intro x6 x7 M hF
    rw [f9_tells_28_S_47_48_88] at hF
    refine R_iload (pc := 88) h 5 rfl dL_tells_88 ?_
    refine R_aload_n (pc := 90) h 2 rfl rfl dL_tells_90 ?_
    refine R_iconst (pc := 91) (v := 0) h (by decide) dL_tells_91 ?_
    obtain ⟨v1, hv1, hF⟩ := bd hF
    refine R_iald (pc := 92) h hv1 lc_47 dL_tells_92 ?_
    refine R_icmp_ge (pc := 93) (tgt := 318) h dL_tells_93 (by decide) (fun c2 => ?_) (fun c2 => ?_)
    · have hF := itp c2 hF
      refine R_iload (pc := 318) h 4 rfl dL_tells_318 ?_
      refine R_if_le (pc := 320) (tgt := 415) h dL_tells_320 (by decide) (fun c3 => ?_) (fun c3 => ?_)
      · have hF := itp c3 hF
        refine R_iconst (pc := 415) (v := 0) h (by decide) dL_tells_415 ?_
        cases hF
        exact R_zreturn (pc := 416) h rfl zr0 rfl rfl dL_tells_416
      · have hF := ifn c3 hF
        refine R_aload_n (pc := 323) h 0 rfl rfl dL_tells_323 ?_
        refine R_iconst (pc := 324) (v := 3) h (by decide) dL_tells_324 ?_
        obtain ⟨⟨M5, r6⟩, hc4, hF⟩ := bd hF
        refine R_callV (pc := 325) (st := []) h [.int (3 : Int32)] cvL_36 (c4_fault (ad := ad) (z := X.1) hc4) rfl rfl lc_28 (by decide) (by decide) (Nat.le_of_ble_eq_true rfl) dL_tells_325 (st1 := [.int r6]) rfl ?_
        refine R_bipush (pc := 328) (v := (-9)) h (by decide) dL_tells_328 ?_
        refine R_icmp_ne (pc := 330) (tgt := 415) h dL_tells_330 (by decide) (fun c7 => ?_) (fun c7 => ?_)
        · have hF := ifn c7 hF
          refine R_iconst (pc := 415) (v := 0) h (by decide) dL_tells_415 ?_
          cases hF
          exact R_zreturn (pc := 416) h rfl zr0 rfl rfl dL_tells_416
        · have hF := itp c7 hF
          refine R_aload_n (pc := 333) h 0 rfl rfl dL_tells_333 ?_
          refine R_iconst (pc := 334) (v := 3) h (by decide) dL_tells_334 ?_
          obtain ⟨⟨M9, r10⟩, hc8, hF⟩ := bd hF
          refine R_callV (pc := 335) (st := []) h [.int (3 : Int32)] cvL_39 (c4_street (ad := ad) (z := X.1) hc8) rfl rfl lc_28 (by decide) (by decide) (Nat.le_of_ble_eq_true rfl) dL_tells_335 (st1 := [.int r10]) rfl ?_
          refine R_aload_n (pc := 338) h 2 rfl rfl dL_tells_338 ?_
          refine R_iconst (pc := 339) (v := 0) h (by decide) dL_tells_339 ?_
          obtain ⟨v11, hv11, hF⟩ := bd hF
          refine R_iald (pc := 340) h hv11 lc_47 dL_tells_340 ?_
          refine R_icmp_ne (pc := 341) (tgt := 415) h dL_tells_341 (by decide) (fun c12 => ?_) (fun c12 => ?_)
          · have hF := ifn c12 hF
            refine R_iconst (pc := 415) (v := 0) h (by decide) dL_tells_415 ?_
            cases hF
            exact R_zreturn (pc := 416) h rfl zr0 rfl rfl dL_tells_416
          · have hF := itp c12 hF
            refine R_aload_n (pc := 344) h 0 rfl rfl dL_tells_344 ?_
            refine R_iconst (pc := 345) (v := 0) h (by decide) dL_tells_345 ?_
            obtain ⟨r14, hc13, hF⟩ := bd hF
            refine R_callV (pc := 346) (st := []) h [.int (0 : Int32)] cvL_42 (c4_count (ad := ad) (z := X.1) hc13) rfl rfl lc_28 (by decide) (by decide) (Nat.le_of_ble_eq_true rfl) dL_tells_346 (st1 := [.int r14]) rfl ?_
            refine R_aload_n (pc := 349) h 2 rfl rfl dL_tells_349 ?_
            refine R_iconst (pc := 350) (v := 0) h (by decide) dL_tells_350 ?_
            obtain ⟨v15, hv15, hF⟩ := bd hF
            refine R_iald (pc := 351) h hv15 lc_47 dL_tells_351 ?_
            refine R_icmp_ne (pc := 352) (tgt := 415) h dL_tells_352 (by decide) (fun c16 => ?_) (fun c16 => ?_)
            · have hF := ifn c16 hF
              refine R_iconst (pc := 415) (v := 0) h (by decide) dL_tells_415 ?_
              cases hF
              exact R_zreturn (pc := 416) h rfl zr0 rfl rfl dL_tells_416
            · have hF := itp c16 hF
              refine R_aload_n (pc := 355) h 0 rfl rfl dL_tells_355 ?_
              refine R_iconst (pc := 356) (v := 1) h (by decide) dL_tells_356 ?_
              obtain ⟨r18, hc17, hF⟩ := bd hF
              refine R_callV (pc := 357) (st := []) h [.int (1 : Int32)] cvL_42 (c4_count (ad := ad) (z := X.1) hc17) rfl rfl lc_28 (by decide) (by decide) (Nat.le_of_ble_eq_true rfl) dL_tells_357 (st1 := [.int r18]) rfl ?_
              refine R_if_ne (pc := 360) (tgt := 415) h dL_tells_360 (by decide) (fun c19 => ?_) (fun c19 => ?_)
              · have hF := ifn c19 hF
                refine R_iconst (pc := 415) (v := 0) h (by decide) dL_tells_415 ?_
                cases hF
                exact R_zreturn (pc := 416) h rfl zr0 rfl rfl dL_tells_416
              · have hF := itp c19 hF
                refine R_aload_n (pc := 363) h 0 rfl rfl dL_tells_363 ?_
                refine R_iconst (pc := 364) (v := 2) h (by decide) dL_tells_364 ?_
                obtain ⟨r21, hc20, hF⟩ := bd hF
                refine R_callV (pc := 365) (st := []) h [.int (2 : Int32)] cvL_42 (c4_count (ad := ad) (z := X.1) hc20) rfl rfl lc_28 (by decide) (by decide) (Nat.le_of_ble_eq_true rfl) dL_tells_365 (st1 := [.int r21]) rfl ?_
                refine R_if_ne (pc := 368) (tgt := 415) h dL_tells_368 (by decide) (fun c22 => ?_) (fun c22 => ?_)
                · have hF := ifn c22 hF
                  refine R_iconst (pc := 415) (v := 0) h (by decide) dL_tells_415 ?_
                  cases hF
                  exact R_zreturn (pc := 416) h rfl zr0 rfl rfl dL_tells_416
                · have hF := itp c22 hF
                  refine R_aload_n (pc := 371) h 0 rfl rfl dL_tells_371 ?_
                  refine R_iconst (pc := 372) (v := 3) h (by decide) dL_tells_372 ?_
                  obtain ⟨r24, hc23, hF⟩ := bd hF
                  refine R_callV (pc := 373) (st := []) h [.int (3 : Int32)] cvL_42 (c4_count (ad := ad) (z := X.1) hc23) rfl rfl lc_28 (by decide) (by decide) (Nat.le_of_ble_eq_true rfl) dL_tells_373 (st1 := [.int r24]) rfl ?_
                  refine R_if_ne (pc := 376) (tgt := 415) h dL_tells_376 (by decide) (fun c25 => ?_) (fun c25 => ?_)
                  · have hF := ifn c25 hF
                    refine R_iconst (pc := 415) (v := 0) h (by decide) dL_tells_415 ?_
                    cases hF
                    exact R_zreturn (pc := 416) h rfl zr0 rfl rfl dL_tells_416
                  · have hF := itp c25 hF
                    refine R_aload_n (pc := 379) h 0 rfl rfl dL_tells_379 ?_
                    refine R_iconst (pc := 380) (v := 4) h (by decide) dL_tells_380 ?_
                    obtain ⟨r27, hc26, hF⟩ := bd hF
                    refine R_callV (pc := 381) (st := []) h [.int (4 : Int32)] cvL_42 (c4_count (ad := ad) (z := X.1) hc26) rfl rfl lc_28 (by decide) (by decide) (Nat.le_of_ble_eq_true rfl) dL_tells_381 (st1 := [.int r27]) rfl ?_
                    refine R_iconst (pc := 384) (v := 1) h (by decide) dL_tells_384 ?_
                    refine R_aload_n (pc := 385) h 2 rfl rfl dL_tells_385 ?_
                    refine R_iconst (pc := 386) (v := 0) h (by decide) dL_tells_386 ?_
                    obtain ⟨v28, hv28, hF⟩ := bd hF
                    refine R_iald (pc := 387) h hv28 lc_47 dL_tells_387 ?_
                    refine R_ishl (pc := 388) h dL_tells_388 ?_
                    refine R_iconst (pc := 389) (v := 1) h (by decide) dL_tells_389 ?_
                    refine R_isub (pc := 390) h dL_tells_390 ?_
                    refine R_icmp_ne (pc := 391) (tgt := 415) h dL_tells_391 (by decide) (fun c29 => ?_) (fun c29 => ?_)
                    · have hF := ifn c29 hF
                      refine R_iconst (pc := 415) (v := 0) h (by decide) dL_tells_415 ?_
                      cases hF
                      exact R_zreturn (pc := 416) h rfl zr0 rfl rfl dL_tells_416
                    · have hF := itp c29 hF
                      refine R_aload_n (pc := 394) h 0 rfl rfl dL_tells_394 ?_
                      refine R_iconst (pc := 395) (v := 5) h (by decide) dL_tells_395 ?_
                      obtain ⟨r31, hc30, hF⟩ := bd hF
                      refine R_callV (pc := 396) (st := []) h [.int (5 : Int32)] cvL_42 (c4_count (ad := ad) (z := X.1) hc30) rfl rfl lc_28 (by decide) (by decide) (Nat.le_of_ble_eq_true rfl) dL_tells_396 (st1 := [.int r31]) rfl ?_
                      refine R_if_ne (pc := 399) (tgt := 415) h dL_tells_399 (by decide) (fun c32 => ?_) (fun c32 => ?_)
                      · have hF := ifn c32 hF
                        refine R_iconst (pc := 415) (v := 0) h (by decide) dL_tells_415 ?_
                        cases hF
                        exact R_zreturn (pc := 416) h rfl zr0 rfl rfl dL_tells_416
                      · have hF := itp c32 hF
                        refine R_aload_n (pc := 402) h 0 rfl rfl dL_tells_402 ?_
                        refine R_bipush (pc := 403) (v := 8) h (by decide) dL_tells_403 ?_
                        obtain ⟨r34, hc33, hF⟩ := bd hF
                        refine R_callV (pc := 405) (st := []) h [.int (8 : Int32)] cvL_42 (c4_count (ad := ad) (z := X.1) hc33) rfl rfl lc_28 (by decide) (by decide) (Nat.le_of_ble_eq_true rfl) dL_tells_405 (st1 := [.int r34]) rfl ?_
                        refine R_if_ne (pc := 408) (tgt := 415) h dL_tells_408 (by decide) (fun c35 => ?_) (fun c35 => ?_)
                        · have hF := ifn c35 hF
                          refine R_iconst (pc := 415) (v := 0) h (by decide) dL_tells_415 ?_
                          cases hF
                          exact R_zreturn (pc := 416) h rfl zr0 rfl rfl dL_tells_416
                        · have hF := itp c35 hF
                          refine R_iconst (pc := 411) (v := 1) h (by decide) dL_tells_411 ?_
                          refine R_goto (pc := 412) (tgt := 416) h dL_tells_412 (by decide) ?_
                          cases hF
                          exact R_zreturn (pc := 416) h rfl zr1 rfl rfl dL_tells_416
    · have hF := ifn c2 hF
      refine R_aload_n (pc := 96) h 1 rfl rfl dL_tells_96 ?_
      refine R_iconst (pc := 97) (v := 1) h (by decide) dL_tells_97 ?_
      refine R_iload (pc := 98) h 5 rfl dL_tells_98 ?_
      refine R_iadd (pc := 100) h dL_tells_100 ?_
      obtain ⟨r37, hc36, hF⟩ := bd hF
      refine R_callS (pc := 101) (st := []) h [.ref (zB X.1), .int ((1 : Int32) + x7)] csL_15 (c9_cell_S (ad := ad) (z := X.1) hc36) rfl rfl (by decide) (by decide) (Nat.le_of_ble_eq_true rfl) dL_tells_101 (st1 := [.int r37]) rfl ?_
      refine R_istore (pc := 104) (lv' := [(5, .int r37), (0, .ref (ad 28)), (1, .ref (zB X.1)), (2, .ref (ad 47)), (3, .ref (ad 48)), (6, .int x6), (7, .int x7)]) h rfl (by decide) rfl dL_tells_104 ?_
      refine R_aload_n (pc := 106) h 3 rfl rfl dL_tells_106 ?_
      refine R_iconst (pc := 107) (v := 1) h (by decide) dL_tells_107 ?_
      refine R_iload (pc := 108) h 6 rfl dL_tells_108 ?_
      refine R_iadd (pc := 110) h dL_tells_110 ?_
      refine R_iload (pc := 111) h 0 rfl dL_tells_111 ?_
      refine R_bipush (pc := 113) (v := 6) h (by decide) dL_tells_113 ?_
      obtain ⟨r39, hc38, hF⟩ := bd hF
      refine R_callS (pc := 115) (st := [.int ((1 : Int32) + x7), .ref (ad 47)]) h [.int r37, .int (6 : Int32)] csL_21 (c9_part (ad := ad) (z := X.1) (M := M) hc38) rfl rfl (by decide) (by decide) (Nat.le_of_ble_eq_true rfl) dL_tells_115 (st1 := [.int r39, .int ((1 : Int32) + x7), .ref (ad 47)]) rfl ?_
      obtain ⟨M40, hM40, hF⟩ := bd hF
      refine R_iast (pc := 118) h hM40 lc_47 dL_tells_118 ?_
      refine R_aload_n (pc := 119) h 4 rfl rfl dL_tells_119 ?_
      refine R_iconst (pc := 120) (v := 1) h (by decide) dL_tells_120 ?_
      refine R_iload (pc := 121) h 6 rfl dL_tells_121 ?_
      refine R_iadd (pc := 123) h dL_tells_123 ?_
      refine R_iload (pc := 124) h 0 rfl dL_tells_124 ?_
      refine R_iconst (pc := 126) (v := 3) h (by decide) dL_tells_126 ?_
      refine R_ishr (pc := 127) h dL_tells_127 ?_
      refine R_iload (pc := 128) h 0 rfl dL_tells_128 ?_
      refine R_bipush (pc := 130) (v := 24) h (by decide) dL_tells_130 ?_
      refine R_ishr (pc := 132) h dL_tells_132 ?_
      refine R_iconst (pc := 133) (v := 2) h (by decide) dL_tells_133 ?_
      obtain ⟨r42, hc41, hF⟩ := bd hF
      refine R_callS (pc := 134) (st := [.int (r37 >>> ((3 : Int32) &&& 31)), .int ((1 : Int32) + x7), .ref (ad 48)]) h [.int (r37 >>> ((24 : Int32) &&& 31)), .int (2 : Int32)] csL_21 (c9_part (ad := ad) (z := X.1) (M := M40) hc41) rfl rfl (by decide) (by decide) (Nat.le_of_ble_eq_true rfl) dL_tells_134 (st1 := [.int r42, .int (r37 >>> ((3 : Int32) &&& 31)), .int ((1 : Int32) + x7), .ref (ad 48)]) rfl ?_
      refine R_if_ne (pc := 137) (tgt := 145) h dL_tells_137 (by decide) (fun c43 => ?_) (fun c43 => ?_)
      · have hF := ifn c43 hF
        refine R_iconst (pc := 145) (v := 4) h (by decide) dL_tells_145 ?_
        exact Wp_sub (nX := 0) (lv' := [(0, .ref (ad 28)), (1, .ref (zB X.1)), (2, .ref (ad 47)), (3, .ref (ad 48)), (5, .int r37), (6, .int x6), (7, .int x7)]) [1, 2, 3, 4, 0, 5, 6] rfl (w9_tells_28_S_47_48_146 h (hk88 := fun a0 a1 a2 hF => ih a0 a1 a2 hF) (hF := hF))
      · have hF := itp c43 hF
        refine R_bipush (pc := 140) (v := 10) h (by decide) dL_tells_140 ?_
        refine R_goto (pc := 142) (tgt := 146) h dL_tells_142 (by decide) ?_
        exact Wp_sub (nX := 0) (lv' := [(0, .ref (ad 28)), (1, .ref (zB X.1)), (2, .ref (ad 47)), (3, .ref (ad 48)), (5, .int r37), (6, .int x6), (7, .int x7)]) [1, 2, 3, 4, 0, 5, 6] rfl (w9_tells_28_S_47_48_146 h (hk88 := fun a0 a1 a2 hF => ih a0 a1 a2 hF) (hF := hF))
theorem w9_tells_28_S_47_48_88 {ad : Nat → Nat} {X : XX} {R : Mem × Int32} {fu : Nat}  (h : Cx layC ad X cL_tells RL 8 7 (some .boolean) (R.1) (some (.int R.2)))  {f : Nat} {x6 : Int32} {x7 : Int32} {M : Mem} (hF : f9_tells_28_S_47_48_88 (zL X.1) (zX X.1) fu f x6 x7 M = some R) : Wp layC ad X M 88 [(0, .ref (ad 28)), (1, .ref (zB X.1)), (2, .ref (ad 47)), (3, .ref (ad 48)), (6, .int x6), (7, .int x7)] [] := w9_tells_28_S_47_48i_88 h  f _ _ _ hF
def f9_tells_28_S_47_48_24 (sL : Nat) (sx : Nat → Int32) (fu : Nat) : Nat → Int32 → Int32 → Mem → Option (Mem × Int32)
  | 0 => fun _ _ _ => none
  | f + 1 => fun x4 x5 M =>
    if (9 : Int32) ≤ x5 then ((f9_cell_S sL sx M (0 : Int32)).bind fun r3 =>
    (f9_part r3 x4).bind fun r5 =>
    (wr M 47 33 (0 : Int32) ((1 : Int32) + r5)).bind fun M6 =>
    (f4_text fu (3 : Int32) (60 : Int32) M6).bind fun ⟨M8, r9⟩ =>
    if r9 = (60 : Int32) then ((f9_part (r3 >>> ((4 : Int32) &&& 31)) (3 : Int32)).bind fun r12 =>
    (f9_tells_28_S_47_48_88 sL sx fu fu r12 (0 : Int32) M8))
    else ((some (M8, (0 : Int32)))))
    else ((wr M 48 9 x5 (0 : Int32)).bind fun M13 =>
    nm (x5 + (1 : Int32)) fun v14 =>
    ((f9_tells_28_S_47_48_24 sL sx fu f) x4 v14 M13))
set_option maxHeartbeats 4000000 in
set_option maxRecDepth 10000 in
theorem w9_tells_28_S_47_48i_24 {ad : Nat → Nat} {X : XX} {R : Mem × Int32} {fu : Nat}  (h : Cx layC ad X cL_tells RL 8 7 (some .boolean) (R.1) (some (.int R.2)))  : ∀ (f : Nat) (x4 : Int32) (x5 : Int32) (M : Mem), f9_tells_28_S_47_48_24 (zL X.1) (zX X.1) fu f x4 x5 M = some R → Wp layC ad X M 24 [(0, .ref (ad 28)), (1, .ref (zB X.1)), (2, .ref (ad 47)), (3, .ref (ad 48)), (4, .int x4), (5, .int x5)] [] := by
  intro f
  induction f with
  | zero => intro x4 x5 M hF; exact absurd hF (by simp [f9_tells_28_S_47_48_24])
  | succ f ih =>
    intro x4 x5 M hF
    rw [f9_tells_28_S_47_48_24] at hF
    refine R_iload (pc := 24) h 5 rfl dL_tells_24 ?_
    refine R_bipush (pc := 26) (v := 9) h (by decide) dL_tells_26 ?_
    refine R_icmp_ge (pc := 28) (tgt := 42) h dL_tells_28 (by decide) (fun c1 => ?_) (fun c1 => ?_)
    · have hF := itp c1 hF
      refine R_aload_n (pc := 42) h 1 rfl rfl dL_tells_42 ?_
      refine R_iconst (pc := 43) (v := 0) h (by decide) dL_tells_43 ?_
      obtain ⟨r3, hc2, hF⟩ := bd hF
      refine R_callS (pc := 44) (st := []) h [.ref (zB X.1), .int (0 : Int32)] csL_15 (c9_cell_S (ad := ad) (z := X.1) hc2) rfl rfl (by decide) (by decide) (Nat.le_of_ble_eq_true rfl) dL_tells_44 (st1 := [.int r3]) rfl ?_
      refine R_istore (pc := 47) (lv' := [(5, .int r3), (0, .ref (ad 28)), (1, .ref (zB X.1)), (2, .ref (ad 47)), (3, .ref (ad 48)), (4, .int x4)]) h rfl (by decide) rfl dL_tells_47 ?_
      refine R_aload_n (pc := 49) h 3 rfl rfl dL_tells_49 ?_
      refine R_iconst (pc := 50) (v := 0) h (by decide) dL_tells_50 ?_
      refine R_iconst (pc := 51) (v := 1) h (by decide) dL_tells_51 ?_
      refine R_iload (pc := 52) h 0 rfl dL_tells_52 ?_
      refine R_iload (pc := 54) h 5 rfl dL_tells_54 ?_
      obtain ⟨r5, hc4, hF⟩ := bd hF
      refine R_callS (pc := 56) (st := [.int (1 : Int32), .int (0 : Int32), .ref (ad 47)]) h [.int r3, .int x4] csL_21 (c9_part (ad := ad) (z := X.1) (M := M) hc4) rfl rfl (by decide) (by decide) (Nat.le_of_ble_eq_true rfl) dL_tells_56 (st1 := [.int r5, .int (1 : Int32), .int (0 : Int32), .ref (ad 47)]) rfl ?_
      refine R_iadd (pc := 59) h dL_tells_59 ?_
      obtain ⟨M6, hM6, hF⟩ := bd hF
      refine R_iast (pc := 60) h hM6 lc_47 dL_tells_60 ?_
      refine R_aload_n (pc := 61) h 1 rfl rfl dL_tells_61 ?_
      refine R_iconst (pc := 62) (v := 3) h (by decide) dL_tells_62 ?_
      refine R_bipush (pc := 63) (v := 60) h (by decide) dL_tells_63 ?_
      obtain ⟨⟨M8, r9⟩, hc7, hF⟩ := bd hF
      refine R_callV (pc := 65) (st := []) h [.int (3 : Int32), .int (60 : Int32)] cvL_25 (c4_text (ad := ad) (z := X.1) hc7) rfl rfl lc_28 (by decide) (by decide) (Nat.le_of_ble_eq_true rfl) dL_tells_65 (st1 := [.int r9]) rfl ?_
      refine R_bipush (pc := 68) (v := 60) h (by decide) dL_tells_68 ?_
      refine R_icmp_eq (pc := 70) (tgt := 75) h dL_tells_70 (by decide) (fun c10 => ?_) (fun c10 => ?_)
      · have hF := itp c10 hF
        refine R_iload (pc := 75) h 0 rfl dL_tells_75 ?_
        refine R_iconst (pc := 77) (v := 4) h (by decide) dL_tells_77 ?_
        refine R_ishr (pc := 78) h dL_tells_78 ?_
        refine R_iconst (pc := 79) (v := 3) h (by decide) dL_tells_79 ?_
        obtain ⟨r12, hc11, hF⟩ := bd hF
        refine R_callS (pc := 80) (st := []) h [.int (r3 >>> ((4 : Int32) &&& 31)), .int (3 : Int32)] csL_21 (c9_part (ad := ad) (z := X.1) (M := M8) hc11) rfl rfl (by decide) (by decide) (Nat.le_of_ble_eq_true rfl) dL_tells_80 (st1 := [.int r12]) rfl ?_
        refine R_istore (pc := 83) (lv' := [(6, .int r12), (5, .int r3), (0, .ref (ad 28)), (1, .ref (zB X.1)), (2, .ref (ad 47)), (3, .ref (ad 48)), (4, .int x4)]) h rfl (by decide) rfl dL_tells_83 ?_
        refine R_iconst (pc := 85) (v := 0) h (by decide) dL_tells_85 ?_
        refine R_istore (pc := 86) (lv' := [(7, .int (0 : Int32)), (6, .int r12), (5, .int r3), (0, .ref (ad 28)), (1, .ref (zB X.1)), (2, .ref (ad 47)), (3, .ref (ad 48)), (4, .int x4)]) h rfl (by decide) rfl dL_tells_86 ?_
        exact Wp_sub (nX := 0) (lv' := [(0, .ref (ad 28)), (1, .ref (zB X.1)), (2, .ref (ad 47)), (3, .ref (ad 48)), (6, .int r12), (7, .int (0 : Int32))]) [3, 4, 5, 6, 1, 0] rfl (w9_tells_28_S_47_48_88 h  (hF := hF))
      · have hF := ifn c10 hF
        refine R_iconst (pc := 73) (v := 0) h (by decide) dL_tells_73 ?_
        cases hF
        exact R_zreturn (pc := 74) h rfl zr0 rfl rfl dL_tells_74
    · have hF := ifn c1 hF
      refine R_aload_n (pc := 31) h 3 rfl rfl dL_tells_31 ?_
      refine R_iload (pc := 32) h 5 rfl dL_tells_32 ?_
      refine R_iconst (pc := 34) (v := 0) h (by decide) dL_tells_34 ?_
      obtain ⟨M13, hM13, hF⟩ := bd hF
      refine R_iast (pc := 35) h hM13 lc_48 dL_tells_35 ?_
      obtain ⟨v14, hv14, hF⟩ := nm_e2 hF
      refine R_iinc (pc := 36) (lv' := [(5, .int v14), (0, .ref (ad 28)), (1, .ref (zB X.1)), (2, .ref (ad 47)), (3, .ref (ad 48)), (4, .int x4)]) h 5 rfl (by decide) hv14 (by decide) rfl dL_tells_36 ?_
      refine R_goto (pc := 39) (tgt := 24) h dL_tells_39 (by decide) ?_
      exact Wp_sub (nX := 0) (lv' := [(0, .ref (ad 28)), (1, .ref (zB X.1)), (2, .ref (ad 47)), (3, .ref (ad 48)), (4, .int x4), (5, .int v14)]) [1, 2, 3, 4, 5, 0] rfl (ih _ _ _ hF)
theorem w9_tells_28_S_47_48_24 {ad : Nat → Nat} {X : XX} {R : Mem × Int32} {fu : Nat}  (h : Cx layC ad X cL_tells RL 8 7 (some .boolean) (R.1) (some (.int R.2)))  {f : Nat} {x4 : Int32} {x5 : Int32} {M : Mem} (hF : f9_tells_28_S_47_48_24 (zL X.1) (zX X.1) fu f x4 x5 M = some R) : Wp layC ad X M 24 [(0, .ref (ad 28)), (1, .ref (zB X.1)), (2, .ref (ad 47)), (3, .ref (ad 48)), (4, .int x4), (5, .int x5)] [] := w9_tells_28_S_47_48i_24 h  f _ _ _ hF
def f9_tells_28_S_47_48_3 (sL : Nat) (sx : Nat → Int32) (fu : Nat) : Nat → Int32 → Int32 → Mem → Option (Mem × Int32)
  | 0 => fun _ _ _ => none
  | f + 1 => fun x4 x5 M =>
    if (33 : Int32) ≤ x5 then ((f9_tells_28_S_47_48_24 sL sx fu fu x4 (0 : Int32) M))
    else ((wr M 47 33 x5 (0 : Int32)).bind fun M2 =>
    nm (x5 + (1 : Int32)) fun v3 =>
    ((f9_tells_28_S_47_48_3 sL sx fu f) x4 v3 M2))
set_option maxHeartbeats 4000000 in
set_option maxRecDepth 10000 in
theorem w9_tells_28_S_47_48i_3 {ad : Nat → Nat} {X : XX} {R : Mem × Int32} {fu : Nat}  (h : Cx layC ad X cL_tells RL 8 7 (some .boolean) (R.1) (some (.int R.2)))  : ∀ (f : Nat) (x4 : Int32) (x5 : Int32) (M : Mem), f9_tells_28_S_47_48_3 (zL X.1) (zX X.1) fu f x4 x5 M = some R → Wp layC ad X M 3 [(0, .ref (ad 28)), (1, .ref (zB X.1)), (2, .ref (ad 47)), (3, .ref (ad 48)), (4, .int x4), (5, .int x5)] [] := by
  intro f
  induction f with
  | zero => intro x4 x5 M hF; exact absurd hF (by simp [f9_tells_28_S_47_48_3])
  | succ f ih =>
    intro x4 x5 M hF
    rw [f9_tells_28_S_47_48_3] at hF
    refine R_iload (pc := 3) h 5 rfl dL_tells_3 ?_
    refine R_bipush (pc := 5) (v := 33) h (by decide) dL_tells_5 ?_
    refine R_icmp_ge (pc := 7) (tgt := 21) h dL_tells_7 (by decide) (fun c1 => ?_) (fun c1 => ?_)
    · have hF := itp c1 hF
      refine R_iconst (pc := 21) (v := 0) h (by decide) dL_tells_21 ?_
      refine R_istore (pc := 22) (lv' := [(5, .int (0 : Int32)), (0, .ref (ad 28)), (1, .ref (zB X.1)), (2, .ref (ad 47)), (3, .ref (ad 48)), (4, .int x4)]) h rfl (by decide) rfl dL_tells_22 ?_
      exact Wp_sub (nX := 0) (lv' := [(0, .ref (ad 28)), (1, .ref (zB X.1)), (2, .ref (ad 47)), (3, .ref (ad 48)), (4, .int x4), (5, .int (0 : Int32))]) [1, 2, 3, 4, 5, 0] rfl (w9_tells_28_S_47_48_24 h  (hF := hF))
    · have hF := ifn c1 hF
      refine R_aload_n (pc := 10) h 2 rfl rfl dL_tells_10 ?_
      refine R_iload (pc := 11) h 5 rfl dL_tells_11 ?_
      refine R_iconst (pc := 13) (v := 0) h (by decide) dL_tells_13 ?_
      obtain ⟨M2, hM2, hF⟩ := bd hF
      refine R_iast (pc := 14) h hM2 lc_47 dL_tells_14 ?_
      obtain ⟨v3, hv3, hF⟩ := nm_e2 hF
      refine R_iinc (pc := 15) (lv' := [(5, .int v3), (0, .ref (ad 28)), (1, .ref (zB X.1)), (2, .ref (ad 47)), (3, .ref (ad 48)), (4, .int x4)]) h 5 rfl (by decide) hv3 (by decide) rfl dL_tells_15 ?_
      refine R_goto (pc := 18) (tgt := 3) h dL_tells_18 (by decide) ?_
      exact Wp_sub (nX := 0) (lv' := [(0, .ref (ad 28)), (1, .ref (zB X.1)), (2, .ref (ad 47)), (3, .ref (ad 48)), (4, .int x4), (5, .int v3)]) [1, 2, 3, 4, 5, 0] rfl (ih _ _ _ hF)
theorem w9_tells_28_S_47_48_3 {ad : Nat → Nat} {X : XX} {R : Mem × Int32} {fu : Nat}  (h : Cx layC ad X cL_tells RL 8 7 (some .boolean) (R.1) (some (.int R.2)))  {f : Nat} {x4 : Int32} {x5 : Int32} {M : Mem} (hF : f9_tells_28_S_47_48_3 (zL X.1) (zX X.1) fu f x4 x5 M = some R) : Wp layC ad X M 3 [(0, .ref (ad 28)), (1, .ref (zB X.1)), (2, .ref (ad 47)), (3, .ref (ad 48)), (4, .int x4), (5, .int x5)] [] := w9_tells_28_S_47_48i_3 h  f _ _ _ hF
def f9_tells_28_S_47_48 (sL : Nat) (sx : Nat → Int32) (fu : Nat) (x4 : Int32) (M : Mem) : Option (Mem × Int32) :=
    (f9_tells_28_S_47_48_3 sL sx fu fu x4 (0 : Int32) M)
set_option maxHeartbeats 4000000 in
set_option maxRecDepth 10000 in
theorem w9_tells_28_S_47_48 {ad : Nat → Nat} {X : XX} {R : Mem × Int32} {fu : Nat} (h : Cx layC ad X cL_tells RL 8 7 (some .boolean) (R.1) (some (.int R.2))) {x4 : Int32} {M : Mem} (hF : f9_tells_28_S_47_48 (zL X.1) (zX X.1) fu x4 M = some R) : Wp layC ad X M 0 [(0, .ref (ad 28)), (1, .ref (zB X.1)), (2, .ref (ad 47)), (3, .ref (ad 48)), (4, .int x4)] [] := by
  unfold f9_tells_28_S_47_48 at hF
  refine R_iconst (pc := 0) (v := 0) h (by decide) dL_tells_0 ?_
  refine R_istore (pc := 1) (lv' := [(5, .int (0 : Int32)), (0, .ref (ad 28)), (1, .ref (zB X.1)), (2, .ref (ad 47)), (3, .ref (ad 48)), (4, .int x4)]) h rfl (by decide) rfl dL_tells_1 ?_
  exact Wp_sub (nX := 0) (lv' := [(0, .ref (ad 28)), (1, .ref (zB X.1)), (2, .ref (ad 47)), (3, .ref (ad 48)), (4, .int x4), (5, .int (0 : Int32))]) [1, 2, 3, 4, 5, 0] rfl (w9_tells_28_S_47_48_3 h  (hF := hF))
theorem c9_tells_28_S_47_48 {ad : Nat → Nat} {z : ZZ} {R : Mem × Int32} {fu : Nat} {x4 : Int32} {M : Mem} (hF : f9_tells_28_S_47_48 (zL z) (zX z) fu x4 M = some R) : Con layC ad z yL_tells cL_tells 8 (some .boolean) 7 M [.ref (ad 28), .ref (zB z), .ref (ad 47), .ref (ad 48), .int x4] (R.1) (some (.int R.2)) := con_of (own := RL) (lv := [(0, .ref (ad 28)), (1, .ref (zB z)), (2, .ref (ad 47)), (3, .ref (ad 48)), (4, .int x4)]) (by decide +kernel) rfl (Nat.le_of_ble_eq_true rfl) rfl (fun X hz h => by subst hz; exact w9_tells_28_S_47_48 h hF)
def f9_many_4 (fu : Nat) : Nat → Int32 → Int32 → Int32 → Option (Int32)
  | 0 => fun _ _ _ => none
  | f + 1 => fun x0 x1 x2 =>
    if (8 : Int32) ≤ x2 then ((some x1))
    else (nm (x1 + ((x0 >>> (x2 &&& 31)) &&& (1 : Int32))) fun v2 =>
    nm (x2 + (1 : Int32)) fun v3 =>
    ((f9_many_4 fu f) x0 v2 v3))
set_option maxHeartbeats 4000000 in
set_option maxRecDepth 10000 in
theorem w9_manyi_4 {ad : Nat → Nat} {X : XX} {R : Int32} {M : Mem} {fu : Nat}  (h : Cx layC ad X cL_many RL 3 1 (some .int) M (some (.int R)))  : ∀ (f : Nat) (x0 : Int32) (x1 : Int32) (x2 : Int32), f9_many_4 fu f x0 x1 x2 = some R → Wp layC ad X M 4 [(0, .int x0), (1, .int x1), (2, .int x2)] [] := by
  intro f
  induction f with
  | zero => intro x0 x1 x2 hF; exact absurd hF (by simp [f9_many_4])
  | succ f ih =>
    intro x0 x1 x2 hF
    rw [f9_many_4] at hF
    refine R_iload_n (pc := 4) h 2 rfl rfl dL_many_4 ?_
    refine R_bipush (pc := 5) (v := 8) h (by decide) dL_many_5 ?_
    refine R_icmp_ge (pc := 7) (tgt := 24) h dL_many_7 (by decide) (fun c1 => ?_) (fun c1 => ?_)
    · have hF := itp c1 hF
      refine R_iload_n (pc := 24) h 1 rfl rfl dL_many_24 ?_
      cases hF
      exact R_ireturn (pc := 25) h rfl rfl rfl dL_many_25
    · have hF := ifn c1 hF
      refine R_iload_n (pc := 10) h 1 rfl rfl dL_many_10 ?_
      refine R_iload_n (pc := 11) h 0 rfl rfl dL_many_11 ?_
      refine R_iload_n (pc := 12) h 2 rfl rfl dL_many_12 ?_
      refine R_ishr (pc := 13) h dL_many_13 ?_
      refine R_iconst (pc := 14) (v := 1) h (by decide) dL_many_14 ?_
      refine R_iand (pc := 15) h dL_many_15 ?_
      refine R_iadd (pc := 16) h dL_many_16 ?_
      obtain ⟨v2, hv2, hF⟩ := nm_e2 hF
      refine R_istore_n (pc := 17) (lv' := [(1, .int v2), (0, .int x0), (2, .int x2)]) h hv2 rfl (by decide) rfl dL_many_17 ?_
      obtain ⟨v3, hv3, hF⟩ := nm_e2 hF
      refine R_iinc (pc := 18) (lv' := [(2, .int v3), (1, .int v2), (0, .int x0)]) h 2 rfl (by decide) hv3 (by decide) rfl dL_many_18 ?_
      refine R_goto (pc := 21) (tgt := 4) h dL_many_21 (by decide) ?_
      exact Wp_sub (nX := 0) (lv' := [(0, .int x0), (1, .int v2), (2, .int v3)]) [2, 1, 0] rfl (ih _ _ _ hF)
theorem w9_many_4 {ad : Nat → Nat} {X : XX} {R : Int32} {M : Mem} {fu : Nat}  (h : Cx layC ad X cL_many RL 3 1 (some .int) M (some (.int R)))  {f : Nat} {x0 : Int32} {x1 : Int32} {x2 : Int32} (hF : f9_many_4 fu f x0 x1 x2 = some R) : Wp layC ad X M 4 [(0, .int x0), (1, .int x1), (2, .int x2)] [] := w9_manyi_4 h  f _ _ _ hF
def f9_many (fu : Nat) (x0 : Int32) : Option (Int32) :=
    (f9_many_4 fu fu x0 (0 : Int32) (0 : Int32))
set_option maxHeartbeats 4000000 in
set_option maxRecDepth 10000 in
theorem w9_many {ad : Nat → Nat} {X : XX} {R : Int32} {M : Mem} {fu : Nat} (h : Cx layC ad X cL_many RL 3 1 (some .int) M (some (.int R))) {x0 : Int32} (hF : f9_many fu x0 = some R) : Wp layC ad X M 0 [(0, .int x0)] [] := by
  unfold f9_many at hF
  refine R_iconst (pc := 0) (v := 0) h (by decide) dL_many_0 ?_
  refine R_istore_n (pc := 1) (lv' := [(1, .int (0 : Int32)), (0, .int x0)]) h rfl rfl (by decide) rfl dL_many_1 ?_
  refine R_iconst (pc := 2) (v := 0) h (by decide) dL_many_2 ?_
  refine R_istore_n (pc := 3) (lv' := [(2, .int (0 : Int32)), (1, .int (0 : Int32)), (0, .int x0)]) h rfl rfl (by decide) rfl dL_many_3 ?_
  exact Wp_sub (nX := 0) (lv' := [(0, .int x0), (1, .int (0 : Int32)), (2, .int (0 : Int32))]) [2, 1, 0] rfl (w9_many_4 h  (hF := hF))
theorem c9_many {ad : Nat → Nat} {z : ZZ} {R : Int32} {M : Mem} {fu : Nat} {x0 : Int32} (hF : f9_many fu x0 = some R) : Con layC ad z yL_many cL_many 3 (some .int) 1 M [.int x0] (M) (some (.int R)) := con_of (own := RL) (lv := [(0, .int x0)]) (by decide +kernel) rfl (Nat.le_of_ble_eq_true rfl) rfl (fun X hz h => w9_many h hF)
def f9_told_28 (M : Mem) (x1 : Int32) : Option (Int32) :=
    if x1 = (1 : Int32) then ((f4_asked M).bind fun r3 =>
    (some r3))
    else ((some (-7777 : Int32)))
set_option maxHeartbeats 4000000 in
set_option maxRecDepth 10000 in
theorem w9_told_28 {ad : Nat → Nat} {X : XX} {R : Int32} {M : Mem} (h : Cx layC ad X cL_told RL 2 2 (some .int) M (some (.int R))) {x1 : Int32} (hF : f9_told_28 M x1 = some R) : Wp layC ad X M 0 [(0, .ref (ad 28)), (1, .int x1)] [] := by
  unfold f9_told_28 at hF
  refine R_iload_n (pc := 0) h 1 rfl rfl dL_told_0 ?_
  refine R_iconst (pc := 1) (v := 1) h (by decide) dL_told_1 ?_
  refine R_icmp_ne (pc := 2) (tgt := 12) h dL_told_2 (by decide) (fun c1 => ?_) (fun c1 => ?_)
  · have hF := ifn c1 hF
    refine R_sipush (pc := 12) (v := (-7777)) h (by decide) dL_told_12 ?_
    cases hF
    exact R_ireturn (pc := 15) h rfl rfl rfl dL_told_15
  · have hF := itp c1 hF
    refine R_aload_n (pc := 5) h 0 rfl rfl dL_told_5 ?_
    obtain ⟨r3, hc2, hF⟩ := bd hF
    refine R_callV (pc := 6) (st := []) h [] cvL_101 (c4_asked (ad := ad) (z := X.1) hc2) rfl rfl lc_28 (by decide) (by decide) (Nat.le_of_ble_eq_true rfl) dL_told_6 (st1 := [.int r3]) rfl ?_
    refine R_goto (pc := 9) (tgt := 15) h dL_told_9 (by decide) ?_
    cases hF
    exact R_ireturn (pc := 15) h rfl rfl rfl dL_told_15
theorem c9_told_28 {ad : Nat → Nat} {z : ZZ} {R : Int32} {M : Mem} {x1 : Int32} (hF : f9_told_28 M x1 = some R) : Con layC ad z yL_told cL_told 2 (some .int) 2 M [.ref (ad 28), .int x1] (M) (some (.int R)) := con_of (own := RL) (lv := [(0, .ref (ad 28)), (1, .int x1)]) (by decide +kernel) rfl (Nat.le_of_ble_eq_true rfl) rfl (fun X hz h => w9_told_28 h hF)
def f9_many13_4 (fu : Nat) : Nat → Int32 → Int32 → Int32 → Option (Int32)
  | 0 => fun _ _ _ => none
  | f + 1 => fun x0 x1 x2 =>
    if (13 : Int32) ≤ x2 then ((some x1))
    else (nm (x1 + ((x0 >>> (x2 &&& 31)) &&& (1 : Int32))) fun v2 =>
    nm (x2 + (1 : Int32)) fun v3 =>
    ((f9_many13_4 fu f) x0 v2 v3))
set_option maxHeartbeats 4000000 in
set_option maxRecDepth 10000 in
theorem w9_many13i_4 {ad : Nat → Nat} {X : XX} {R : Int32} {M : Mem} {fu : Nat}  (h : Cx layC ad X cL_many13 RL 3 1 (some .int) M (some (.int R)))  : ∀ (f : Nat) (x0 : Int32) (x1 : Int32) (x2 : Int32), f9_many13_4 fu f x0 x1 x2 = some R → Wp layC ad X M 4 [(0, .int x0), (1, .int x1), (2, .int x2)] [] := by
  intro f
  induction f with
  | zero => intro x0 x1 x2 hF; exact absurd hF (by simp [f9_many13_4])
  | succ f ih =>
    intro x0 x1 x2 hF
    rw [f9_many13_4] at hF
    refine R_iload_n (pc := 4) h 2 rfl rfl dL_many13_4 ?_
    refine R_bipush (pc := 5) (v := 13) h (by decide) dL_many13_5 ?_
    refine R_icmp_ge (pc := 7) (tgt := 24) h dL_many13_7 (by decide) (fun c1 => ?_) (fun c1 => ?_)
    · have hF := itp c1 hF
      refine R_iload_n (pc := 24) h 1 rfl rfl dL_many13_24 ?_
      cases hF
      exact R_ireturn (pc := 25) h rfl rfl rfl dL_many13_25
    · have hF := ifn c1 hF
      refine R_iload_n (pc := 10) h 1 rfl rfl dL_many13_10 ?_
      refine R_iload_n (pc := 11) h 0 rfl rfl dL_many13_11 ?_
      refine R_iload_n (pc := 12) h 2 rfl rfl dL_many13_12 ?_
      refine R_ishr (pc := 13) h dL_many13_13 ?_
      refine R_iconst (pc := 14) (v := 1) h (by decide) dL_many13_14 ?_
      refine R_iand (pc := 15) h dL_many13_15 ?_
      refine R_iadd (pc := 16) h dL_many13_16 ?_
      obtain ⟨v2, hv2, hF⟩ := nm_e2 hF
      refine R_istore_n (pc := 17) (lv' := [(1, .int v2), (0, .int x0), (2, .int x2)]) h hv2 rfl (by decide) rfl dL_many13_17 ?_
      obtain ⟨v3, hv3, hF⟩ := nm_e2 hF
      refine R_iinc (pc := 18) (lv' := [(2, .int v3), (1, .int v2), (0, .int x0)]) h 2 rfl (by decide) hv3 (by decide) rfl dL_many13_18 ?_
      refine R_goto (pc := 21) (tgt := 4) h dL_many13_21 (by decide) ?_
      exact Wp_sub (nX := 0) (lv' := [(0, .int x0), (1, .int v2), (2, .int v3)]) [2, 1, 0] rfl (ih _ _ _ hF)
theorem w9_many13_4 {ad : Nat → Nat} {X : XX} {R : Int32} {M : Mem} {fu : Nat}  (h : Cx layC ad X cL_many13 RL 3 1 (some .int) M (some (.int R)))  {f : Nat} {x0 : Int32} {x1 : Int32} {x2 : Int32} (hF : f9_many13_4 fu f x0 x1 x2 = some R) : Wp layC ad X M 4 [(0, .int x0), (1, .int x1), (2, .int x2)] [] := w9_many13i_4 h  f _ _ _ hF
def f9_many13 (fu : Nat) (x0 : Int32) : Option (Int32) :=
    (f9_many13_4 fu fu x0 (0 : Int32) (0 : Int32))
set_option maxHeartbeats 4000000 in
set_option maxRecDepth 10000 in
theorem w9_many13 {ad : Nat → Nat} {X : XX} {R : Int32} {M : Mem} {fu : Nat} (h : Cx layC ad X cL_many13 RL 3 1 (some .int) M (some (.int R))) {x0 : Int32} (hF : f9_many13 fu x0 = some R) : Wp layC ad X M 0 [(0, .int x0)] [] := by
  unfold f9_many13 at hF
  refine R_iconst (pc := 0) (v := 0) h (by decide) dL_many13_0 ?_
  refine R_istore_n (pc := 1) (lv' := [(1, .int (0 : Int32)), (0, .int x0)]) h rfl rfl (by decide) rfl dL_many13_1 ?_
  refine R_iconst (pc := 2) (v := 0) h (by decide) dL_many13_2 ?_
  refine R_istore_n (pc := 3) (lv' := [(2, .int (0 : Int32)), (1, .int (0 : Int32)), (0, .int x0)]) h rfl rfl (by decide) rfl dL_many13_3 ?_
  exact Wp_sub (nX := 0) (lv' := [(0, .int x0), (1, .int (0 : Int32)), (2, .int (0 : Int32))]) [2, 1, 0] rfl (w9_many13_4 h  (hF := hF))
theorem c9_many13 {ad : Nat → Nat} {z : ZZ} {R : Int32} {M : Mem} {fu : Nat} {x0 : Int32} (hF : f9_many13 fu x0 = some R) : Con layC ad z yL_many13 cL_many13 3 (some .int) 1 M [.int x0] (M) (some (.int R)) := con_of (own := RL) (lv := [(0, .int x0)]) (by decide +kernel) rfl (Nat.le_of_ble_eq_true rfl) rfl (fun X hz h => w9_many13 h hF)
