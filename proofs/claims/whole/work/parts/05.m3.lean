theorem dX5_duel_0 : decode cX5_duel 0 = .ok (.iload_n 1, 1) := by decide +kernel
theorem dX5_duel_1 : decode cX5_duel 1 = .ok (.i2l, 1) := by decide +kernel
theorem dX5_duel_2 : decode cX5_duel 2 = .ok (.lconst 0, 1) := by decide +kernel
theorem dX5_duel_3 : decode cX5_duel 3 = .ok (.ldc2_w 219, 3) := by decide +kernel
theorem dX5_duel_6 : decode cX5_duel 6 = .ok (.invokestatic 71, 3) := by decide +kernel
theorem dX5_duel_9 : decode cX5_duel 9 = .ok (.ifCond .ne 5, 3) := by decide +kernel
theorem dX5_duel_12 : decode cX5_duel 12 = .ok (.iconst (-1), 1) := by decide +kernel
theorem dX5_duel_13 : decode cX5_duel 13 = .ok (.ireturn, 1) := by decide +kernel
theorem dX5_duel_14 : decode cX5_duel 14 = .ok (.aload_n 0, 1) := by decide +kernel
theorem dX5_duel_15 : decode cX5_duel 15 = .ok (.getfield 130, 3) := by decide +kernel
theorem dX5_duel_18 : decode cX5_duel 18 = .ok (.ifCond .ne 6, 3) := by decide +kernel
theorem dX5_duel_21 : decode cX5_duel 21 = .ok (.bipush (-4), 2) := by decide +kernel
theorem dX5_duel_23 : decode cX5_duel 23 = .ok (.ireturn, 1) := by decide +kernel
theorem dX5_duel_24 : decode cX5_duel 24 = .ok (.iconst 1, 1) := by decide +kernel
theorem dX5_duel_25 : decode cX5_duel 25 = .ok (.istore_n 2, 1) := by decide +kernel
theorem dX5_duel_26 : decode cX5_duel 26 = .ok (.iconst 0, 1) := by decide +kernel
theorem dX5_duel_27 : decode cX5_duel 27 = .ok (.istore_n 3, 1) := by decide +kernel
theorem dX5_duel_28 : decode cX5_duel 28 = .ok (.iload_n 3, 1) := by decide +kernel
theorem dX5_duel_29 : decode cX5_duel 29 = .ok (.iload_n 1, 1) := by decide +kernel
theorem dX5_duel_30 : decode cX5_duel 30 = .ok (.if_icmp .ge 14, 3) := by decide +kernel
theorem dX5_duel_33 : decode cX5_duel 33 = .ok (.iload_n 2, 1) := by decide +kernel
theorem dX5_duel_34 : decode cX5_duel 34 = .ok (.bipush 9, 2) := by decide +kernel
theorem dX5_duel_36 : decode cX5_duel 36 = .ok (.imul, 1) := by decide +kernel
theorem dX5_duel_37 : decode cX5_duel 37 = .ok (.istore_n 2, 1) := by decide +kernel
theorem dX5_duel_38 : decode cX5_duel 38 = .ok (.iinc 3 1, 3) := by decide +kernel
theorem dX5_duel_41 : decode cX5_duel 41 = .ok (.goto (-13), 3) := by decide +kernel
theorem dX5_duel_44 : decode cX5_duel 44 = .ok (.iconst 0, 1) := by decide +kernel
theorem dX5_duel_45 : decode cX5_duel 45 = .ok (.istore_n 3, 1) := by decide +kernel
theorem dX5_duel_46 : decode cX5_duel 46 = .ok (.iload_n 3, 1) := by decide +kernel
theorem dX5_duel_47 : decode cX5_duel 47 = .ok (.iload_n 2, 1) := by decide +kernel
theorem dX5_duel_48 : decode cX5_duel 48 = .ok (.if_icmp .ge 21, 3) := by decide +kernel
theorem dX5_duel_51 : decode cX5_duel 51 = .ok (.aload_n 0, 1) := by decide +kernel
theorem dX5_duel_52 : decode cX5_duel 52 = .ok (.getfield 53, 3) := by decide +kernel
theorem dX5_duel_55 : decode cX5_duel 55 = .ok (.iload_n 3, 1) := by decide +kernel
theorem dX5_duel_56 : decode cX5_duel 56 = .ok (.aload_n 0, 1) := by decide +kernel
theorem dX5_duel_57 : decode cX5_duel 57 = .ok (.iload_n 3, 1) := by decide +kernel
theorem dX5_duel_58 : decode cX5_duel 58 = .ok (.iload_n 1, 1) := by decide +kernel
theorem dX5_duel_59 : decode cX5_duel 59 = .ok (.invokevirtual 221, 3) := by decide +kernel
theorem dX5_duel_62 : decode cX5_duel 62 = .ok (.iastore, 1) := by decide +kernel
theorem dX5_duel_63 : decode cX5_duel 63 = .ok (.iinc 3 1, 3) := by decide +kernel
theorem dX5_duel_66 : decode cX5_duel 66 = .ok (.goto (-20), 3) := by decide +kernel
theorem dX5_duel_69 : decode cX5_duel 69 = .ok (.iload_n 1, 1) := by decide +kernel
theorem dX5_duel_70 : decode cX5_duel 70 = .ok (.iconst 1, 1) := by decide +kernel
theorem dX5_duel_71 : decode cX5_duel 71 = .ok (.isub, 1) := by decide +kernel
theorem dX5_duel_72 : decode cX5_duel 72 = .ok (.istore_n 3, 1) := by decide +kernel
theorem dX5_duel_73 : decode cX5_duel 73 = .ok (.iload_n 3, 1) := by decide +kernel
theorem dX5_duel_74 : decode cX5_duel 74 = .ok (.ifCond .lt 140, 3) := by decide +kernel
theorem dX5_duel_77 : decode cX5_duel 77 = .ok (.iload_n 2, 1) := by decide +kernel
theorem dX5_duel_78 : decode cX5_duel 78 = .ok (.bipush 9, 2) := by decide +kernel
theorem dX5_duel_80 : decode cX5_duel 80 = .ok (.idiv, 1) := by decide +kernel
theorem dX5_duel_81 : decode cX5_duel 81 = .ok (.istore_n 2, 1) := by decide +kernel
theorem dX5_duel_82 : decode cX5_duel 82 = .ok (.iconst 0, 1) := by decide +kernel
theorem dX5_duel_83 : decode cX5_duel 83 = .ok (.istore 4, 2) := by decide +kernel
theorem dX5_duel_85 : decode cX5_duel 85 = .ok (.iload 4, 2) := by decide +kernel
theorem dX5_duel_87 : decode cX5_duel 87 = .ok (.iload_n 2, 1) := by decide +kernel
theorem dX5_duel_88 : decode cX5_duel 88 = .ok (.if_icmp .ge 120, 3) := by decide +kernel
theorem dX5_duel_91 : decode cX5_duel 91 = .ok (.aload_n 0, 1) := by decide +kernel
theorem dX5_duel_92 : decode cX5_duel 92 = .ok (.getfield 53, 3) := by decide +kernel
theorem dX5_duel_95 : decode cX5_duel 95 = .ok (.bipush 9, 2) := by decide +kernel
theorem dX5_duel_97 : decode cX5_duel 97 = .ok (.iload 4, 2) := by decide +kernel
theorem dX5_duel_99 : decode cX5_duel 99 = .ok (.imul, 1) := by decide +kernel
theorem dX5_duel_100 : decode cX5_duel 100 = .ok (.bipush 8, 2) := by decide +kernel
theorem dX5_duel_102 : decode cX5_duel 102 = .ok (.iadd, 1) := by decide +kernel
theorem dX5_duel_103 : decode cX5_duel 103 = .ok (.iaload, 1) := by decide +kernel
theorem dX5_duel_104 : decode cX5_duel 104 = .ok (.istore 5, 2) := by decide +kernel
theorem dX5_duel_106 : decode cX5_duel 106 = .ok (.iconst 0, 1) := by decide +kernel
theorem dX5_duel_107 : decode cX5_duel 107 = .ok (.istore 6, 2) := by decide +kernel
theorem dX5_duel_109 : decode cX5_duel 109 = .ok (.iload 6, 2) := by decide +kernel
theorem dX5_duel_111 : decode cX5_duel 111 = .ok (.bipush 8, 2) := by decide +kernel
theorem dX5_duel_113 : decode cX5_duel 113 = .ok (.if_icmp .ge 80, 3) := by decide +kernel
theorem dX5_duel_116 : decode cX5_duel 116 = .ok (.aload_n 0, 1) := by decide +kernel
theorem dX5_duel_117 : decode cX5_duel 117 = .ok (.getfield 53, 3) := by decide +kernel
theorem dX5_duel_120 : decode cX5_duel 120 = .ok (.bipush 9, 2) := by decide +kernel
theorem dX5_duel_122 : decode cX5_duel 122 = .ok (.iload 4, 2) := by decide +kernel
theorem dX5_duel_124 : decode cX5_duel 124 = .ok (.imul, 1) := by decide +kernel
theorem dX5_duel_125 : decode cX5_duel 125 = .ok (.iload 6, 2) := by decide +kernel
theorem dX5_duel_127 : decode cX5_duel 127 = .ok (.iadd, 1) := by decide +kernel
theorem dX5_duel_128 : decode cX5_duel 128 = .ok (.iaload, 1) := by decide +kernel
theorem dX5_duel_129 : decode cX5_duel 129 = .ok (.istore 7, 2) := by decide +kernel
theorem dX5_duel_131 : decode cX5_duel 131 = .ok (.iload_n 3, 1) := by decide +kernel
theorem dX5_duel_132 : decode cX5_duel 132 = .ok (.iconst 2, 1) := by decide +kernel
theorem dX5_duel_133 : decode cX5_duel 133 = .ok (.irem, 1) := by decide +kernel
theorem dX5_duel_134 : decode cX5_duel 134 = .ok (.ifCond .ne 18, 3) := by decide +kernel
theorem dX5_duel_137 : decode cX5_duel 137 = .ok (.iload 7, 2) := by decide +kernel
theorem dX5_duel_139 : decode cX5_duel 139 = .ok (.iload 5, 2) := by decide +kernel
theorem dX5_duel_141 : decode cX5_duel 141 = .ok (.if_icmp .le 7, 3) := by decide +kernel
theorem dX5_duel_144 : decode cX5_duel 144 = .ok (.iconst 1, 1) := by decide +kernel
theorem dX5_duel_145 : decode cX5_duel 145 = .ok (.goto 19, 3) := by decide +kernel
theorem dX5_duel_148 : decode cX5_duel 148 = .ok (.iconst 0, 1) := by decide +kernel
theorem dX5_duel_149 : decode cX5_duel 149 = .ok (.goto 15, 3) := by decide +kernel
theorem dX5_duel_152 : decode cX5_duel 152 = .ok (.iload 7, 2) := by decide +kernel
theorem dX5_duel_154 : decode cX5_duel 154 = .ok (.iload 5, 2) := by decide +kernel
theorem dX5_duel_156 : decode cX5_duel 156 = .ok (.if_icmp .ge 7, 3) := by decide +kernel
theorem dX5_duel_159 : decode cX5_duel 159 = .ok (.iconst 1, 1) := by decide +kernel
theorem dX5_duel_160 : decode cX5_duel 160 = .ok (.goto 4, 3) := by decide +kernel
theorem dX5_duel_163 : decode cX5_duel 163 = .ok (.iconst 0, 1) := by decide +kernel
theorem dX5_duel_164 : decode cX5_duel 164 = .ok (.istore 8, 2) := by decide +kernel
theorem dX5_duel_166 : decode cX5_duel 166 = .ok (.iload 7, 2) := by decide +kernel
theorem dX5_duel_168 : decode cX5_duel 168 = .ok (.ldc 218, 2) := by decide +kernel
theorem dX5_duel_170 : decode cX5_duel 170 = .ok (.if_icmp .le 13, 3) := by decide +kernel
theorem dX5_duel_173 : decode cX5_duel 173 = .ok (.iload 8, 2) := by decide +kernel
theorem dX5_duel_175 : decode cX5_duel 175 = .ok (.ifCond .eq 8, 3) := by decide +kernel
theorem dX5_duel_178 : decode cX5_duel 178 = .ok (.iload 7, 2) := by decide +kernel
theorem dX5_duel_180 : decode cX5_duel 180 = .ok (.goto 5, 3) := by decide +kernel
theorem dX5_duel_183 : decode cX5_duel 183 = .ok (.iload 5, 2) := by decide +kernel
theorem dX5_duel_185 : decode cX5_duel 185 = .ok (.istore 5, 2) := by decide +kernel
theorem dX5_duel_187 : decode cX5_duel 187 = .ok (.iinc 6 1, 3) := by decide +kernel
theorem dX5_duel_190 : decode cX5_duel 190 = .ok (.goto (-81), 3) := by decide +kernel
theorem dX5_duel_193 : decode cX5_duel 193 = .ok (.aload_n 0, 1) := by decide +kernel
theorem dX5_duel_194 : decode cX5_duel 194 = .ok (.getfield 53, 3) := by decide +kernel
theorem dX5_duel_197 : decode cX5_duel 197 = .ok (.iload 4, 2) := by decide +kernel
theorem dX5_duel_199 : decode cX5_duel 199 = .ok (.iload 5, 2) := by decide +kernel
theorem dX5_duel_201 : decode cX5_duel 201 = .ok (.iastore, 1) := by decide +kernel
theorem dX5_duel_202 : decode cX5_duel 202 = .ok (.iinc 4 1, 3) := by decide +kernel
theorem dX5_duel_205 : decode cX5_duel 205 = .ok (.goto (-120), 3) := by decide +kernel
theorem dX5_duel_208 : decode cX5_duel 208 = .ok (.iinc 3 (-1), 3) := by decide +kernel
theorem dX5_duel_211 : decode cX5_duel 211 = .ok (.goto (-138), 3) := by decide +kernel
theorem dX5_duel_214 : decode cX5_duel 214 = .ok (.sipush 500, 3) := by decide +kernel
theorem dX5_duel_217 : decode cX5_duel 217 = .ok (.aload_n 0, 1) := by decide +kernel
theorem dX5_duel_218 : decode cX5_duel 218 = .ok (.getfield 53, 3) := by decide +kernel
theorem dX5_duel_221 : decode cX5_duel 221 = .ok (.iconst 0, 1) := by decide +kernel
theorem dX5_duel_222 : decode cX5_duel 222 = .ok (.iaload, 1) := by decide +kernel
theorem dX5_duel_223 : decode cX5_duel 223 = .ok (.iadd, 1) := by decide +kernel
theorem dX5_duel_224 : decode cX5_duel 224 = .ok (.ireturn, 1) := by decide +kernel
theorem dX5_laysBests_0 : decode cX5_laysBests 0 = .ok (.iconst 0, 1) := by decide +kernel
theorem dX5_laysBests_1 : decode cX5_laysBests 1 = .ok (.istore_n 1, 1) := by decide +kernel
theorem dX5_laysBests_2 : decode cX5_laysBests 2 = .ok (.iload_n 1, 1) := by decide +kernel
theorem dX5_laysBests_3 : decode cX5_laysBests 3 = .ok (.iconst 1, 1) := by decide +kernel
theorem dX5_laysBests_4 : decode cX5_laysBests 4 = .ok (.aload_n 0, 1) := by decide +kernel
theorem dX5_laysBests_5 : decode cX5_laysBests 5 = .ok (.getfield 130, 3) := by decide +kernel
theorem dX5_laysBests_8 : decode cX5_laysBests 8 = .ok (.ishl, 1) := by decide +kernel
theorem dX5_laysBests_9 : decode cX5_laysBests 9 = .ok (.if_icmp .ge 93, 3) := by decide +kernel
theorem dX5_laysBests_12 : decode cX5_laysBests 12 = .ok (.aload_n 0, 1) := by decide +kernel
theorem dX5_laysBests_13 : decode cX5_laysBests 13 = .ok (.iload_n 1, 1) := by decide +kernel
theorem dX5_laysBests_14 : decode cX5_laysBests 14 = .ok (.invokevirtual 188, 3) := by decide +kernel
theorem dX5_laysBests_17 : decode cX5_laysBests 17 = .ok (.ifCond .eq 7, 3) := by decide +kernel
theorem dX5_laysBests_20 : decode cX5_laysBests 20 = .ok (.iconst 0, 1) := by decide +kernel
theorem dX5_laysBests_21 : decode cX5_laysBests 21 = .ok (.goto 8, 3) := by decide +kernel
theorem dX5_laysBests_24 : decode cX5_laysBests 24 = .ok (.aload_n 0, 1) := by decide +kernel
theorem dX5_laysBests_25 : decode cX5_laysBests 25 = .ok (.iload_n 1, 1) := by decide +kernel
theorem dX5_laysBests_26 : decode cX5_laysBests 26 = .ok (.invokevirtual 185, 3) := by decide +kernel
theorem dX5_laysBests_29 : decode cX5_laysBests 29 = .ok (.istore_n 2, 1) := by decide +kernel
theorem dX5_laysBests_30 : decode cX5_laysBests 30 = .ok (.iload_n 2, 1) := by decide +kernel
theorem dX5_laysBests_31 : decode cX5_laysBests 31 = .ok (.ifCond .le 7, 3) := by decide +kernel
theorem dX5_laysBests_34 : decode cX5_laysBests 34 = .ok (.iload_n 2, 1) := by decide +kernel
theorem dX5_laysBests_35 : decode cX5_laysBests 35 = .ok (.goto 4, 3) := by decide +kernel
theorem dX5_laysBests_38 : decode cX5_laysBests 38 = .ok (.iconst 0, 1) := by decide +kernel
theorem dX5_laysBests_39 : decode cX5_laysBests 39 = .ok (.istore_n 2, 1) := by decide +kernel
theorem dX5_laysBests_40 : decode cX5_laysBests 40 = .ok (.iconst 0, 1) := by decide +kernel
theorem dX5_laysBests_41 : decode cX5_laysBests 41 = .ok (.istore_n 3, 1) := by decide +kernel
theorem dX5_laysBests_42 : decode cX5_laysBests 42 = .ok (.iload_n 3, 1) := by decide +kernel
theorem dX5_laysBests_43 : decode cX5_laysBests 43 = .ok (.aload_n 0, 1) := by decide +kernel
theorem dX5_laysBests_44 : decode cX5_laysBests 44 = .ok (.getfield 130, 3) := by decide +kernel
theorem dX5_laysBests_47 : decode cX5_laysBests 47 = .ok (.if_icmp .ge 42, 3) := by decide +kernel
theorem dX5_laysBests_50 : decode cX5_laysBests 50 = .ok (.iload_n 1, 1) := by decide +kernel
theorem dX5_laysBests_51 : decode cX5_laysBests 51 = .ok (.iload_n 3, 1) := by decide +kernel
theorem dX5_laysBests_52 : decode cX5_laysBests 52 = .ok (.invokestatic 139, 3) := by decide +kernel
theorem dX5_laysBests_55 : decode cX5_laysBests 55 = .ok (.ifCond .eq 28, 3) := by decide +kernel
theorem dX5_laysBests_58 : decode cX5_laysBests 58 = .ok (.aload_n 0, 1) := by decide +kernel
theorem dX5_laysBests_59 : decode cX5_laysBests 59 = .ok (.getfield 56, 3) := by decide +kernel
theorem dX5_laysBests_62 : decode cX5_laysBests 62 = .ok (.iload_n 1, 1) := by decide +kernel
theorem dX5_laysBests_63 : decode cX5_laysBests 63 = .ok (.iconst 1, 1) := by decide +kernel
theorem dX5_laysBests_64 : decode cX5_laysBests 64 = .ok (.iload_n 3, 1) := by decide +kernel
theorem dX5_laysBests_65 : decode cX5_laysBests 65 = .ok (.ishl, 1) := by decide +kernel
theorem dX5_laysBests_66 : decode cX5_laysBests 66 = .ok (.ixor, 1) := by decide +kernel
theorem dX5_laysBests_67 : decode cX5_laysBests 67 = .ok (.iaload, 1) := by decide +kernel
theorem dX5_laysBests_68 : decode cX5_laysBests 68 = .ok (.istore 4, 2) := by decide +kernel
theorem dX5_laysBests_70 : decode cX5_laysBests 70 = .ok (.iload 4, 2) := by decide +kernel
theorem dX5_laysBests_72 : decode cX5_laysBests 72 = .ok (.iload_n 2, 1) := by decide +kernel
theorem dX5_laysBests_73 : decode cX5_laysBests 73 = .ok (.if_icmp .le 8, 3) := by decide +kernel
theorem dX5_laysBests_76 : decode cX5_laysBests 76 = .ok (.iload 4, 2) := by decide +kernel
theorem dX5_laysBests_78 : decode cX5_laysBests 78 = .ok (.goto 4, 3) := by decide +kernel
theorem dX5_laysBests_81 : decode cX5_laysBests 81 = .ok (.iload_n 2, 1) := by decide +kernel
theorem dX5_laysBests_82 : decode cX5_laysBests 82 = .ok (.istore_n 2, 1) := by decide +kernel
theorem dX5_laysBests_83 : decode cX5_laysBests 83 = .ok (.iinc 3 1, 3) := by decide +kernel
theorem dX5_laysBests_86 : decode cX5_laysBests 86 = .ok (.goto (-44), 3) := by decide +kernel
theorem dX5_laysBests_89 : decode cX5_laysBests 89 = .ok (.aload_n 0, 1) := by decide +kernel
theorem dX5_laysBests_90 : decode cX5_laysBests 90 = .ok (.getfield 56, 3) := by decide +kernel
theorem dX5_laysBests_93 : decode cX5_laysBests 93 = .ok (.iload_n 1, 1) := by decide +kernel
theorem dX5_laysBests_94 : decode cX5_laysBests 94 = .ok (.iload_n 2, 1) := by decide +kernel
theorem dX5_laysBests_95 : decode cX5_laysBests 95 = .ok (.iastore, 1) := by decide +kernel
theorem dX5_laysBests_96 : decode cX5_laysBests 96 = .ok (.iinc 1 1, 3) := by decide +kernel
theorem dX5_laysBests_99 : decode cX5_laysBests 99 = .ok (.goto (-97), 3) := by decide +kernel
theorem dX5_laysBests_102 : decode cX5_laysBests 102 = .ok (.return_, 1) := by decide +kernel
theorem dX5_ways_0 : decode cX5_ways 0 = .ok (.aload_n 0, 1) := by decide +kernel
theorem dX5_ways_1 : decode cX5_ways 1 = .ok (.invokevirtual 227, 3) := by decide +kernel
theorem dX5_ways_4 : decode cX5_ways 4 = .ok (.aload_n 0, 1) := by decide +kernel
theorem dX5_ways_5 : decode cX5_ways 5 = .ok (.bipush (-9), 2) := by decide +kernel
theorem dX5_ways_7 : decode cX5_ways 7 = .ok (.invokevirtual 170, 3) := by decide +kernel
theorem dX5_ways_10 : decode cX5_ways 10 = .ok (.istore_n 3, 1) := by decide +kernel
theorem dX5_ways_11 : decode cX5_ways 11 = .ok (.aload_n 0, 1) := by decide +kernel
theorem dX5_ways_12 : decode cX5_ways 12 = .ok (.iconst (-1), 1) := by decide +kernel
theorem dX5_ways_13 : decode cX5_ways 13 = .ok (.invokevirtual 170, 3) := by decide +kernel
theorem dX5_ways_16 : decode cX5_ways 16 = .ok (.istore 4, 2) := by decide +kernel
theorem dX5_ways_18 : decode cX5_ways 18 = .ok (.lconst 0, 1) := by decide +kernel
theorem dX5_ways_19 : decode cX5_ways 19 = .ok (.lstore 5, 2) := by decide +kernel
theorem dX5_ways_21 : decode cX5_ways 21 = .ok (.iconst 0, 1) := by decide +kernel
theorem dX5_ways_22 : decode cX5_ways 22 = .ok (.istore 7, 2) := by decide +kernel
theorem dX5_ways_24 : decode cX5_ways 24 = .ok (.iload 7, 2) := by decide +kernel
theorem dX5_ways_26 : decode cX5_ways 26 = .ok (.iconst 1, 1) := by decide +kernel
theorem dX5_ways_27 : decode cX5_ways 27 = .ok (.aload_n 0, 1) := by decide +kernel
theorem dX5_ways_28 : decode cX5_ways 28 = .ok (.getfield 130, 3) := by decide +kernel
theorem dX5_ways_31 : decode cX5_ways 31 = .ok (.ishl, 1) := by decide +kernel
theorem dX5_ways_32 : decode cX5_ways 32 = .ok (.if_icmp .ge 125, 3) := by decide +kernel
theorem dX5_ways_35 : decode cX5_ways 35 = .ok (.iload 7, 2) := by decide +kernel
theorem dX5_ways_37 : decode cX5_ways 37 = .ok (.iload_n 3, 1) := by decide +kernel
theorem dX5_ways_38 : decode cX5_ways 38 = .ok (.iconst (-1), 1) := by decide +kernel
theorem dX5_ways_39 : decode cX5_ways 39 = .ok (.ixor, 1) := by decide +kernel
theorem dX5_ways_40 : decode cX5_ways 40 = .ok (.iand, 1) := by decide +kernel
theorem dX5_ways_41 : decode cX5_ways 41 = .ok (.ifCond .ne 110, 3) := by decide +kernel
theorem dX5_ways_44 : decode cX5_ways 44 = .ok (.lconst 1, 1) := by decide +kernel
theorem dX5_ways_45 : decode cX5_ways 45 = .ok (.lstore 8, 2) := by decide +kernel
theorem dX5_ways_47 : decode cX5_ways 47 = .ok (.iconst 0, 1) := by decide +kernel
theorem dX5_ways_48 : decode cX5_ways 48 = .ok (.istore 10, 2) := by decide +kernel
theorem dX5_ways_50 : decode cX5_ways 50 = .ok (.iload 10, 2) := by decide +kernel
theorem dX5_ways_52 : decode cX5_ways 52 = .ok (.aload_n 0, 1) := by decide +kernel
theorem dX5_ways_53 : decode cX5_ways 53 = .ok (.getfield 130, 3) := by decide +kernel
theorem dX5_ways_56 : decode cX5_ways 56 = .ok (.if_icmp .ge 48, 3) := by decide +kernel
theorem dX5_ways_59 : decode cX5_ways 59 = .ok (.lload 8, 2) := by decide +kernel
theorem dX5_ways_61 : decode cX5_ways 61 = .ok (.iload_n 3, 1) := by decide +kernel
theorem dX5_ways_62 : decode cX5_ways 62 = .ok (.iload 10, 2) := by decide +kernel
theorem dX5_ways_64 : decode cX5_ways 64 = .ok (.invokestatic 139, 3) := by decide +kernel
theorem dX5_ways_67 : decode cX5_ways 67 = .ok (.ifCond .ne 7, 3) := by decide +kernel
theorem dX5_ways_70 : decode cX5_ways 70 = .ok (.lconst 1, 1) := by decide +kernel
theorem dX5_ways_71 : decode cX5_ways 71 = .ok (.goto 24, 3) := by decide +kernel
theorem dX5_ways_74 : decode cX5_ways 74 = .ok (.iload 7, 2) := by decide +kernel
theorem dX5_ways_76 : decode cX5_ways 76 = .ok (.iload 10, 2) := by decide +kernel
theorem dX5_ways_78 : decode cX5_ways 78 = .ok (.invokestatic 139, 3) := by decide +kernel
theorem dX5_ways_81 : decode cX5_ways 81 = .ok (.ifCond .eq 8, 3) := by decide +kernel
theorem dX5_ways_84 : decode cX5_ways 84 = .ok (.iload_n 2, 1) := by decide +kernel
theorem dX5_ways_85 : decode cX5_ways 85 = .ok (.i2l, 1) := by decide +kernel
theorem dX5_ways_86 : decode cX5_ways 86 = .ok (.goto 9, 3) := by decide +kernel
theorem dX5_ways_89 : decode cX5_ways 89 = .ok (.ldc2_w 230, 3) := by decide +kernel
theorem dX5_ways_92 : decode cX5_ways 92 = .ok (.iload_n 2, 1) := by decide +kernel
theorem dX5_ways_93 : decode cX5_ways 93 = .ok (.i2l, 1) := by decide +kernel
theorem dX5_ways_94 : decode cX5_ways 94 = .ok (.lsub, 1) := by decide +kernel
theorem dX5_ways_95 : decode cX5_ways 95 = .ok (.lmul, 1) := by decide +kernel
theorem dX5_ways_96 : decode cX5_ways 96 = .ok (.lstore 8, 2) := by decide +kernel
theorem dX5_ways_98 : decode cX5_ways 98 = .ok (.iinc 10 1, 3) := by decide +kernel
theorem dX5_ways_101 : decode cX5_ways 101 = .ok (.goto (-51), 3) := by decide +kernel
theorem dX5_ways_104 : decode cX5_ways 104 = .ok (.aload_n 0, 1) := by decide +kernel
theorem dX5_ways_105 : decode cX5_ways 105 = .ok (.getfield 56, 3) := by decide +kernel
theorem dX5_ways_108 : decode cX5_ways 108 = .ok (.iload 4, 2) := by decide +kernel
theorem dX5_ways_110 : decode cX5_ways 110 = .ok (.iload_n 3, 1) := by decide +kernel
theorem dX5_ways_111 : decode cX5_ways 111 = .ok (.iload 7, 2) := by decide +kernel
theorem dX5_ways_113 : decode cX5_ways 113 = .ok (.iconst (-1), 1) := by decide +kernel
theorem dX5_ways_114 : decode cX5_ways 114 = .ok (.ixor, 1) := by decide +kernel
theorem dX5_ways_115 : decode cX5_ways 115 = .ok (.iand, 1) := by decide +kernel
theorem dX5_ways_116 : decode cX5_ways 116 = .ok (.ior, 1) := by decide +kernel
theorem dX5_ways_117 : decode cX5_ways 117 = .ok (.iaload, 1) := by decide +kernel
theorem dX5_ways_118 : decode cX5_ways 118 = .ok (.istore 10, 2) := by decide +kernel
theorem dX5_ways_120 : decode cX5_ways 120 = .ok (.lload 5, 2) := by decide +kernel
theorem dX5_ways_122 : decode cX5_ways 122 = .ok (.lload 8, 2) := by decide +kernel
theorem dX5_ways_124 : decode cX5_ways 124 = .ok (.iload_n 1, 1) := by decide +kernel
theorem dX5_ways_125 : decode cX5_ways 125 = .ok (.bipush (-9), 2) := by decide +kernel
theorem dX5_ways_127 : decode cX5_ways 127 = .ok (.if_icmp .ne 8, 3) := by decide +kernel
theorem dX5_ways_130 : decode cX5_ways 130 = .ok (.iload 10, 2) := by decide +kernel
theorem dX5_ways_132 : decode cX5_ways 132 = .ok (.goto 14, 3) := by decide +kernel
theorem dX5_ways_135 : decode cX5_ways 135 = .ok (.iload 10, 2) := by decide +kernel
theorem dX5_ways_137 : decode cX5_ways 137 = .ok (.iload_n 1, 1) := by decide +kernel
theorem dX5_ways_138 : decode cX5_ways 138 = .ok (.if_icmp .lt 7, 3) := by decide +kernel
theorem dX5_ways_141 : decode cX5_ways 141 = .ok (.iconst 1, 1) := by decide +kernel
theorem dX5_ways_142 : decode cX5_ways 142 = .ok (.goto 4, 3) := by decide +kernel
theorem dX5_ways_145 : decode cX5_ways 145 = .ok (.iconst 0, 1) := by decide +kernel
theorem dX5_ways_146 : decode cX5_ways 146 = .ok (.i2l, 1) := by decide +kernel
theorem dX5_ways_147 : decode cX5_ways 147 = .ok (.lmul, 1) := by decide +kernel
theorem dX5_ways_148 : decode cX5_ways 148 = .ok (.ladd, 1) := by decide +kernel
theorem dX5_ways_149 : decode cX5_ways 149 = .ok (.lstore 5, 2) := by decide +kernel
theorem dX5_ways_151 : decode cX5_ways 151 = .ok (.iinc 7 1, 3) := by decide +kernel
theorem dX5_ways_154 : decode cX5_ways 154 = .ok (.goto (-130), 3) := by decide +kernel
theorem dX5_ways_157 : decode cX5_ways 157 = .ok (.lload 5, 2) := by decide +kernel
theorem dX5_ways_159 : decode cX5_ways 159 = .ok (.lreturn, 1) := by decide +kernel
theorem dX5_allWays_0 : decode cX5_allWays 0 = .ok (.lconst 1, 1) := by decide +kernel
theorem dX5_allWays_1 : decode cX5_allWays 1 = .ok (.lstore_n 1, 1) := by decide +kernel
theorem dX5_allWays_2 : decode cX5_allWays 2 = .ok (.aload_n 0, 1) := by decide +kernel
theorem dX5_allWays_3 : decode cX5_allWays 3 = .ok (.bipush (-9), 2) := by decide +kernel
theorem dX5_allWays_5 : decode cX5_allWays 5 = .ok (.invokevirtual 170, 3) := by decide +kernel
theorem dX5_allWays_8 : decode cX5_allWays 8 = .ok (.invokestatic 173, 3) := by decide +kernel
theorem dX5_allWays_11 : decode cX5_allWays 11 = .ok (.istore_n 3, 1) := by decide +kernel
theorem dX5_allWays_12 : decode cX5_allWays 12 = .ok (.iload_n 3, 1) := by decide +kernel
theorem dX5_allWays_13 : decode cX5_allWays 13 = .ok (.ifCond .le 15, 3) := by decide +kernel
theorem dX5_allWays_16 : decode cX5_allWays 16 = .ok (.lload_n 1, 1) := by decide +kernel
theorem dX5_allWays_17 : decode cX5_allWays 17 = .ok (.ldc2_w 230, 3) := by decide +kernel
theorem dX5_allWays_20 : decode cX5_allWays 20 = .ok (.lmul, 1) := by decide +kernel
theorem dX5_allWays_21 : decode cX5_allWays 21 = .ok (.lstore_n 1, 1) := by decide +kernel
theorem dX5_allWays_22 : decode cX5_allWays 22 = .ok (.iinc 3 (-1), 3) := by decide +kernel
theorem dX5_allWays_25 : decode cX5_allWays 25 = .ok (.goto (-13), 3) := by decide +kernel
theorem dX5_allWays_28 : decode cX5_allWays 28 = .ok (.lload_n 1, 1) := by decide +kernel
theorem dX5_allWays_29 : decode cX5_allWays 29 = .ok (.lreturn, 1) := by decide +kernel
theorem dX5_fraction_0 : decode cX5_fraction 0 = .ok (.lload_n 1, 1) := by decide +kernel
theorem dX5_fraction_1 : decode cX5_fraction 1 = .ok (.lstore 5, 2) := by decide +kernel
theorem dX5_fraction_3 : decode cX5_fraction 3 = .ok (.lload_n 3, 1) := by decide +kernel
theorem dX5_fraction_4 : decode cX5_fraction 4 = .ok (.lstore 7, 2) := by decide +kernel
theorem dX5_fraction_6 : decode cX5_fraction 6 = .ok (.lload 7, 2) := by decide +kernel
theorem dX5_fraction_8 : decode cX5_fraction 8 = .ok (.lconst 0, 1) := by decide +kernel
theorem dX5_fraction_9 : decode cX5_fraction 9 = .ok (.lcmp, 1) := by decide +kernel
theorem dX5_fraction_10 : decode cX5_fraction 10 = .ok (.ifCond .eq 21, 3) := by decide +kernel
theorem dX5_fraction_13 : decode cX5_fraction 13 = .ok (.lload 5, 2) := by decide +kernel
theorem dX5_fraction_15 : decode cX5_fraction 15 = .ok (.lload 7, 2) := by decide +kernel
theorem dX5_fraction_17 : decode cX5_fraction 17 = .ok (.lrem, 1) := by decide +kernel
theorem dX5_fraction_18 : decode cX5_fraction 18 = .ok (.lstore 9, 2) := by decide +kernel
theorem dX5_fraction_20 : decode cX5_fraction 20 = .ok (.lload 7, 2) := by decide +kernel
theorem dX5_fraction_22 : decode cX5_fraction 22 = .ok (.lstore 5, 2) := by decide +kernel
theorem dX5_fraction_24 : decode cX5_fraction 24 = .ok (.lload 9, 2) := by decide +kernel
theorem dX5_fraction_26 : decode cX5_fraction 26 = .ok (.lstore 7, 2) := by decide +kernel
theorem dX5_fraction_28 : decode cX5_fraction 28 = .ok (.goto (-22), 3) := by decide +kernel
theorem dX5_fraction_31 : decode cX5_fraction 31 = .ok (.aload_n 0, 1) := by decide +kernel
theorem dX5_fraction_32 : decode cX5_fraction 32 = .ok (.lload_n 1, 1) := by decide +kernel
theorem dX5_fraction_33 : decode cX5_fraction 33 = .ok (.lload 5, 2) := by decide +kernel
theorem dX5_fraction_35 : decode cX5_fraction 35 = .ok (.ldiv, 1) := by decide +kernel
theorem dX5_fraction_36 : decode cX5_fraction 36 = .ok (.putfield 224, 3) := by decide +kernel
theorem dX5_fraction_39 : decode cX5_fraction 39 = .ok (.aload_n 0, 1) := by decide +kernel
theorem dX5_fraction_40 : decode cX5_fraction 40 = .ok (.lload_n 3, 1) := by decide +kernel
theorem dX5_fraction_41 : decode cX5_fraction 41 = .ok (.lload 5, 2) := by decide +kernel
theorem dX5_fraction_43 : decode cX5_fraction 43 = .ok (.ldiv, 1) := by decide +kernel
theorem dX5_fraction_44 : decode cX5_fraction 44 = .ok (.putfield 22, 3) := by decide +kernel
theorem dX5_fraction_47 : decode cX5_fraction 47 = .ok (.iconst 1, 1) := by decide +kernel
theorem dX5_fraction_48 : decode cX5_fraction 48 = .ok (.ireturn, 1) := by decide +kernel
theorem dX5_odds_0 : decode cX5_odds 0 = .ok (.iload_n 1, 1) := by decide +kernel
theorem dX5_odds_1 : decode cX5_odds 1 = .ok (.i2l, 1) := by decide +kernel
theorem dX5_odds_2 : decode cX5_odds 2 = .ok (.lconst 0, 1) := by decide +kernel
theorem dX5_odds_3 : decode cX5_odds 3 = .ok (.ldc2_w 232, 3) := by decide +kernel
theorem dX5_odds_6 : decode cX5_odds 6 = .ok (.invokestatic 71, 3) := by decide +kernel
theorem dX5_odds_9 : decode cX5_odds 9 = .ok (.ifCond .eq 15, 3) := by decide +kernel
theorem dX5_odds_12 : decode cX5_odds 12 = .ok (.iload_n 2, 1) := by decide +kernel
theorem dX5_odds_13 : decode cX5_odds 13 = .ok (.i2l, 1) := by decide +kernel
theorem dX5_odds_14 : decode cX5_odds 14 = .ok (.lconst 0, 1) := by decide +kernel
theorem dX5_odds_15 : decode cX5_odds 15 = .ok (.ldc2_w 230, 3) := by decide +kernel
theorem dX5_odds_18 : decode cX5_odds 18 = .ok (.invokestatic 71, 3) := by decide +kernel
theorem dX5_odds_21 : decode cX5_odds 21 = .ok (.ifCond .ne 5, 3) := by decide +kernel
theorem dX5_odds_24 : decode cX5_odds 24 = .ok (.iconst (-1), 1) := by decide +kernel
theorem dX5_odds_25 : decode cX5_odds 25 = .ok (.ireturn, 1) := by decide +kernel
theorem dX5_odds_26 : decode cX5_odds 26 = .ok (.aload_n 0, 1) := by decide +kernel
theorem dX5_odds_27 : decode cX5_odds 27 = .ok (.getfield 130, 3) := by decide +kernel
theorem dX5_odds_30 : decode cX5_odds 30 = .ok (.ifCond .ne 8, 3) := by decide +kernel
theorem dX5_odds_33 : decode cX5_odds 33 = .ok (.bipush (-4), 2) := by decide +kernel
theorem dX5_odds_35 : decode cX5_odds 35 = .ok (.goto 17, 3) := by decide +kernel
theorem dX5_odds_38 : decode cX5_odds 38 = .ok (.aload_n 0, 1) := by decide +kernel
theorem dX5_odds_39 : decode cX5_odds 39 = .ok (.aload_n 0, 1) := by decide +kernel
theorem dX5_odds_40 : decode cX5_odds 40 = .ok (.iload_n 1, 1) := by decide +kernel
theorem dX5_odds_41 : decode cX5_odds 41 = .ok (.iload_n 2, 1) := by decide +kernel
theorem dX5_odds_42 : decode cX5_odds 42 = .ok (.invokevirtual 234, 3) := by decide +kernel
theorem dX5_odds_45 : decode cX5_odds 45 = .ok (.aload_n 0, 1) := by decide +kernel
theorem dX5_odds_46 : decode cX5_odds 46 = .ok (.invokevirtual 238, 3) := by decide +kernel
theorem dX5_odds_49 : decode cX5_odds 49 = .ok (.invokevirtual 242, 3) := by decide +kernel
theorem dX5_odds_52 : decode cX5_odds 52 = .ok (.ireturn, 1) := by decide +kernel
theorem dX5_mid_0 : decode cX5_mid 0 = .ok (.iload_n 1, 1) := by decide +kernel
theorem dX5_mid_1 : decode cX5_mid 1 = .ok (.i2l, 1) := by decide +kernel
theorem dX5_mid_2 : decode cX5_mid 2 = .ok (.lconst 0, 1) := by decide +kernel
theorem dX5_mid_3 : decode cX5_mid 3 = .ok (.ldc2_w 230, 3) := by decide +kernel
theorem dX5_mid_6 : decode cX5_mid 6 = .ok (.invokestatic 71, 3) := by decide +kernel
theorem dX5_mid_9 : decode cX5_mid 9 = .ok (.ifCond .ne 5, 3) := by decide +kernel
theorem dX5_mid_12 : decode cX5_mid 12 = .ok (.iconst (-1), 1) := by decide +kernel
theorem dX5_mid_13 : decode cX5_mid 13 = .ok (.ireturn, 1) := by decide +kernel
theorem dX5_mid_14 : decode cX5_mid 14 = .ok (.aload_n 0, 1) := by decide +kernel
theorem dX5_mid_15 : decode cX5_mid 15 = .ok (.getfield 130, 3) := by decide +kernel
theorem dX5_mid_18 : decode cX5_mid 18 = .ok (.ifCond .ne 8, 3) := by decide +kernel
theorem dX5_mid_21 : decode cX5_mid 21 = .ok (.bipush (-4), 2) := by decide +kernel
theorem dX5_mid_23 : decode cX5_mid 23 = .ok (.goto 18, 3) := by decide +kernel
theorem dX5_mid_26 : decode cX5_mid 26 = .ok (.aload_n 0, 1) := by decide +kernel
theorem dX5_mid_27 : decode cX5_mid 27 = .ok (.aload_n 0, 1) := by decide +kernel
theorem dX5_mid_28 : decode cX5_mid 28 = .ok (.bipush (-9), 2) := by decide +kernel
theorem dX5_mid_30 : decode cX5_mid 30 = .ok (.iload_n 1, 1) := by decide +kernel
theorem dX5_mid_31 : decode cX5_mid 31 = .ok (.invokevirtual 234, 3) := by decide +kernel
theorem dX5_mid_34 : decode cX5_mid 34 = .ok (.aload_n 0, 1) := by decide +kernel
theorem dX5_mid_35 : decode cX5_mid 35 = .ok (.invokevirtual 238, 3) := by decide +kernel
theorem dX5_mid_38 : decode cX5_mid 38 = .ok (.invokevirtual 242, 3) := by decide +kernel
theorem dX5_mid_41 : decode cX5_mid 41 = .ok (.ireturn, 1) := by decide +kernel
theorem dX5_lot_0 : decode cX5_lot 0 = .ok (.iload_n 1, 1) := by decide +kernel
theorem dX5_lot_1 : decode cX5_lot 1 = .ok (.bipush 8, 2) := by decide +kernel
theorem dX5_lot_3 : decode cX5_lot 3 = .ok (.idiv, 1) := by decide +kernel
theorem dX5_lot_4 : decode cX5_lot 4 = .ok (.aload_n 0, 1) := by decide +kernel
theorem dX5_lot_5 : decode cX5_lot 5 = .ok (.getfield 130, 3) := by decide +kernel
theorem dX5_lot_8 : decode cX5_lot 8 = .ok (.irem, 1) := by decide +kernel
theorem dX5_lot_9 : decode cX5_lot 9 = .ok (.istore_n 2, 1) := by decide +kernel
theorem dX5_lot_10 : decode cX5_lot 10 = .ok (.aload_n 0, 1) := by decide +kernel
theorem dX5_lot_11 : decode cX5_lot 11 = .ok (.invokevirtual 167, 3) := by decide +kernel
theorem dX5_lot_14 : decode cX5_lot 14 = .ok (.aload_n 0, 1) := by decide +kernel
theorem dX5_lot_15 : decode cX5_lot 15 = .ok (.getfield 41, 3) := by decide +kernel
theorem dX5_lot_18 : decode cX5_lot 18 = .ok (.iconst 1, 1) := by decide +kernel
theorem dX5_lot_19 : decode cX5_lot 19 = .ok (.iload_n 2, 1) := by decide +kernel
theorem dX5_lot_20 : decode cX5_lot 20 = .ok (.iadd, 1) := by decide +kernel
theorem dX5_lot_21 : decode cX5_lot 21 = .ok (.iaload, 1) := by decide +kernel
theorem dX5_lot_22 : decode cX5_lot 22 = .ok (.iconst (-1), 1) := by decide +kernel
theorem dX5_lot_23 : decode cX5_lot 23 = .ok (.if_icmp .ne 20, 3) := by decide +kernel
theorem dX5_lot_26 : decode cX5_lot 26 = .ok (.aload_n 0, 1) := by decide +kernel
theorem dX5_lot_27 : decode cX5_lot 27 = .ok (.getfield 41, 3) := by decide +kernel
theorem dX5_lot_30 : decode cX5_lot 30 = .ok (.iconst 1, 1) := by decide +kernel
theorem dX5_lot_31 : decode cX5_lot 31 = .ok (.iload_n 2, 1) := by decide +kernel
theorem dX5_lot_32 : decode cX5_lot 32 = .ok (.iadd, 1) := by decide +kernel
theorem dX5_lot_33 : decode cX5_lot 33 = .ok (.aload_n 0, 1) := by decide +kernel
theorem dX5_lot_34 : decode cX5_lot 34 = .ok (.getfield 41, 3) := by decide +kernel
theorem dX5_lot_37 : decode cX5_lot 37 = .ok (.iconst 0, 1) := by decide +kernel
theorem dX5_lot_38 : decode cX5_lot 38 = .ok (.iaload, 1) := by decide +kernel
theorem dX5_lot_39 : decode cX5_lot 39 = .ok (.iastore, 1) := by decide +kernel
theorem dX5_lot_40 : decode cX5_lot 40 = .ok (.goto 78, 3) := by decide +kernel
theorem dX5_lot_43 : decode cX5_lot 43 = .ok (.aload_n 0, 1) := by decide +kernel
theorem dX5_lot_44 : decode cX5_lot 44 = .ok (.getfield 41, 3) := by decide +kernel
theorem dX5_lot_47 : decode cX5_lot 47 = .ok (.iconst 1, 1) := by decide +kernel
theorem dX5_lot_48 : decode cX5_lot 48 = .ok (.iload_n 2, 1) := by decide +kernel
theorem dX5_lot_49 : decode cX5_lot 49 = .ok (.iadd, 1) := by decide +kernel
theorem dX5_lot_50 : decode cX5_lot 50 = .ok (.iaload, 1) := by decide +kernel
theorem dX5_lot_51 : decode cX5_lot 51 = .ok (.aload_n 0, 1) := by decide +kernel
theorem dX5_lot_52 : decode cX5_lot 52 = .ok (.getfield 41, 3) := by decide +kernel
theorem dX5_lot_55 : decode cX5_lot 55 = .ok (.iconst 0, 1) := by decide +kernel
theorem dX5_lot_56 : decode cX5_lot 56 = .ok (.iaload, 1) := by decide +kernel
theorem dX5_lot_57 : decode cX5_lot 57 = .ok (.if_icmp .ne 15, 3) := by decide +kernel
theorem dX5_lot_60 : decode cX5_lot 60 = .ok (.aload_n 0, 1) := by decide +kernel
theorem dX5_lot_61 : decode cX5_lot 61 = .ok (.getfield 41, 3) := by decide +kernel
theorem dX5_lot_64 : decode cX5_lot 64 = .ok (.iconst 1, 1) := by decide +kernel
theorem dX5_lot_65 : decode cX5_lot 65 = .ok (.iload_n 2, 1) := by decide +kernel
theorem dX5_lot_66 : decode cX5_lot 66 = .ok (.iadd, 1) := by decide +kernel
theorem dX5_lot_67 : decode cX5_lot 67 = .ok (.iconst (-1), 1) := by decide +kernel
theorem dX5_lot_68 : decode cX5_lot 68 = .ok (.iastore, 1) := by decide +kernel
theorem dX5_lot_69 : decode cX5_lot 69 = .ok (.goto 49, 3) := by decide +kernel
theorem dX5_lot_72 : decode cX5_lot 72 = .ok (.iload_n 1, 1) := by decide +kernel
theorem dX5_lot_73 : decode cX5_lot 73 = .ok (.iconst 2, 1) := by decide +kernel
theorem dX5_lot_74 : decode cX5_lot 74 = .ok (.irem, 1) := by decide +kernel
theorem dX5_lot_75 : decode cX5_lot 75 = .ok (.ifCond .ne 7, 3) := by decide +kernel
theorem dX5_lot_78 : decode cX5_lot 78 = .ok (.iconst 1, 1) := by decide +kernel
theorem dX5_lot_79 : decode cX5_lot 79 = .ok (.goto 4, 3) := by decide +kernel
theorem dX5_lot_82 : decode cX5_lot 82 = .ok (.iconst (-1), 1) := by decide +kernel
theorem dX5_lot_83 : decode cX5_lot 83 = .ok (.istore_n 3, 1) := by decide +kernel
theorem dX5_lot_84 : decode cX5_lot 84 = .ok (.aload_n 0, 1) := by decide +kernel
theorem dX5_lot_85 : decode cX5_lot 85 = .ok (.getfield 41, 3) := by decide +kernel
theorem dX5_lot_88 : decode cX5_lot 88 = .ok (.iconst 0, 1) := by decide +kernel
theorem dX5_lot_89 : decode cX5_lot 89 = .ok (.dup2, 1) := by decide +kernel
theorem dX5_lot_90 : decode cX5_lot 90 = .ok (.iaload, 1) := by decide +kernel
theorem dX5_lot_91 : decode cX5_lot 91 = .ok (.aload_n 0, 1) := by decide +kernel
theorem dX5_lot_92 : decode cX5_lot 92 = .ok (.getfield 41, 3) := by decide +kernel
theorem dX5_lot_95 : decode cX5_lot 95 = .ok (.iconst 0, 1) := by decide +kernel
theorem dX5_lot_96 : decode cX5_lot 96 = .ok (.iaload, 1) := by decide +kernel
theorem dX5_lot_97 : decode cX5_lot 97 = .ok (.iload_n 3, 1) := by decide +kernel
theorem dX5_lot_98 : decode cX5_lot 98 = .ok (.iadd, 1) := by decide +kernel
theorem dX5_lot_99 : decode cX5_lot 99 = .ok (.i2l, 1) := by decide +kernel
theorem dX5_lot_100 : decode cX5_lot 100 = .ok (.lconst 0, 1) := by decide +kernel
theorem dX5_lot_101 : decode cX5_lot 101 = .ok (.ldc2_w 161, 3) := by decide +kernel
theorem dX5_lot_104 : decode cX5_lot 104 = .ok (.invokestatic 71, 3) := by decide +kernel
theorem dX5_lot_107 : decode cX5_lot 107 = .ok (.ifCond .eq 7, 3) := by decide +kernel
theorem dX5_lot_110 : decode cX5_lot 110 = .ok (.iload_n 3, 1) := by decide +kernel
theorem dX5_lot_111 : decode cX5_lot 111 = .ok (.goto 5, 3) := by decide +kernel
theorem dX5_lot_114 : decode cX5_lot 114 = .ok (.iload_n 3, 1) := by decide +kernel
theorem dX5_lot_115 : decode cX5_lot 115 = .ok (.ineg, 1) := by decide +kernel
theorem dX5_lot_116 : decode cX5_lot 116 = .ok (.iadd, 1) := by decide +kernel
theorem dX5_lot_117 : decode cX5_lot 117 = .ok (.iastore, 1) := by decide +kernel
theorem dX5_lot_118 : decode cX5_lot 118 = .ok (.return_, 1) := by decide +kernel
theorem dX5_lots_0 : decode cX5_lots 0 = .ok (.iload_n 1, 1) := by decide +kernel
theorem dX5_lots_1 : decode cX5_lots 1 = .ok (.i2l, 1) := by decide +kernel
theorem dX5_lots_2 : decode cX5_lots 2 = .ok (.lconst 1, 1) := by decide +kernel
theorem dX5_lots_3 : decode cX5_lots 3 = .ok (.ldc2_w 206, 3) := by decide +kernel
theorem dX5_lots_6 : decode cX5_lots 6 = .ok (.invokestatic 71, 3) := by decide +kernel
theorem dX5_lots_9 : decode cX5_lots 9 = .ok (.ifCond .eq 15, 3) := by decide +kernel
theorem dX5_lots_12 : decode cX5_lots 12 = .ok (.iload_n 2, 1) := by decide +kernel
theorem dX5_lots_13 : decode cX5_lots 13 = .ok (.i2l, 1) := by decide +kernel
theorem dX5_lots_14 : decode cX5_lots 14 = .ok (.lconst 1, 1) := by decide +kernel
theorem dX5_lots_15 : decode cX5_lots 15 = .ok (.ldc2_w 246, 3) := by decide +kernel
theorem dX5_lots_18 : decode cX5_lots 18 = .ok (.invokestatic 71, 3) := by decide +kernel
theorem dX5_lots_21 : decode cX5_lots 21 = .ok (.ifCond .ne 5, 3) := by decide +kernel
theorem dX5_lots_24 : decode cX5_lots 24 = .ok (.iconst (-1), 1) := by decide +kernel
theorem dX5_lots_25 : decode cX5_lots 25 = .ok (.ireturn, 1) := by decide +kernel
theorem dX5_lots_26 : decode cX5_lots 26 = .ok (.aload_n 0, 1) := by decide +kernel
theorem dX5_lots_27 : decode cX5_lots 27 = .ok (.iload_n 1, 1) := by decide +kernel
theorem dX5_lots_28 : decode cX5_lots 28 = .ok (.invokevirtual 176, 3) := by decide +kernel
theorem dX5_lots_31 : decode cX5_lots 31 = .ok (.istore_n 3, 1) := by decide +kernel
theorem dX5_lots_32 : decode cX5_lots 32 = .ok (.iload_n 3, 1) := by decide +kernel
theorem dX5_lots_33 : decode cX5_lots 33 = .ok (.ifCond .eq 5, 3) := by decide +kernel
theorem dX5_lots_36 : decode cX5_lots 36 = .ok (.iload_n 3, 1) := by decide +kernel
theorem dX5_lots_37 : decode cX5_lots 37 = .ok (.ireturn, 1) := by decide +kernel
theorem dX5_lots_38 : decode cX5_lots 38 = .ok (.iload_n 2, 1) := by decide +kernel
theorem dX5_lots_39 : decode cX5_lots 39 = .ok (.i2l, 1) := by decide +kernel
theorem dX5_lots_40 : decode cX5_lots 40 = .ok (.lstore 4, 2) := by decide +kernel
theorem dX5_lots_42 : decode cX5_lots 42 = .ok (.iconst 0, 1) := by decide +kernel
theorem dX5_lots_43 : decode cX5_lots 43 = .ok (.istore 6, 2) := by decide +kernel
theorem dX5_lots_45 : decode cX5_lots 45 = .ok (.iload 6, 2) := by decide +kernel
theorem dX5_lots_47 : decode cX5_lots 47 = .ok (.iload_n 1, 1) := by decide +kernel
theorem dX5_lots_48 : decode cX5_lots 48 = .ok (.if_icmp .ge 28, 3) := by decide +kernel
theorem dX5_lots_51 : decode cX5_lots 51 = .ok (.lload 4, 2) := by decide +kernel
theorem dX5_lots_53 : decode cX5_lots 53 = .ok (.ldc2_w 248, 3) := by decide +kernel
theorem dX5_lots_56 : decode cX5_lots 56 = .ok (.lmul, 1) := by decide +kernel
theorem dX5_lots_57 : decode cX5_lots 57 = .ok (.ldc2_w 250, 3) := by decide +kernel
theorem dX5_lots_60 : decode cX5_lots 60 = .ok (.lrem, 1) := by decide +kernel
theorem dX5_lots_61 : decode cX5_lots 61 = .ok (.lstore 4, 2) := by decide +kernel
theorem dX5_lots_63 : decode cX5_lots 63 = .ok (.aload_n 0, 1) := by decide +kernel
theorem dX5_lots_64 : decode cX5_lots 64 = .ok (.lload 4, 2) := by decide +kernel
theorem dX5_lots_66 : decode cX5_lots 66 = .ok (.l2i, 1) := by decide +kernel
theorem dX5_lots_67 : decode cX5_lots 67 = .ok (.invokevirtual 252, 3) := by decide +kernel
theorem dX5_lots_70 : decode cX5_lots 70 = .ok (.iinc 6 1, 3) := by decide +kernel
theorem dX5_lots_73 : decode cX5_lots 73 = .ok (.goto (-28), 3) := by decide +kernel
theorem dX5_lots_76 : decode cX5_lots 76 = .ok (.aload_n 0, 1) := by decide +kernel
theorem dX5_lots_77 : decode cX5_lots 77 = .ok (.getfield 41, 3) := by decide +kernel
theorem dX5_lots_80 : decode cX5_lots 80 = .ok (.iconst 0, 1) := by decide +kernel
theorem dX5_lots_81 : decode cX5_lots 81 = .ok (.iaload, 1) := by decide +kernel
theorem dX5_lots_82 : decode cX5_lots 82 = .ok (.ireturn, 1) := by decide +kernel
theorem dX5_asked_0 : decode cX5_asked 0 = .ok (.aload_n 0, 1) := by decide +kernel
theorem dX5_asked_1 : decode cX5_asked 1 = .ok (.getfield 66, 3) := by decide +kernel
theorem dX5_asked_4 : decode cX5_asked 4 = .ok (.ireturn, 1) := by decide +kernel
theorem dX5_upper_0 : decode cX5_upper 0 = .ok (.aload_n 0, 1) := by decide +kernel
theorem dX5_upper_1 : decode cX5_upper 1 = .ok (.getfield 224, 3) := by decide +kernel
theorem dX5_upper_4 : decode cX5_upper 4 = .ok (.lreturn, 1) := by decide +kernel
theorem dX5_lower_0 : decode cX5_lower 0 = .ok (.aload_n 0, 1) := by decide +kernel
theorem dX5_lower_1 : decode cX5_lower 1 = .ok (.getfield 22, 3) := by decide +kernel
theorem dX5_lower_4 : decode cX5_lower 4 = .ok (.lreturn, 1) := by decide +kernel
theorem dX5_there_0 : decode cX5_there 0 = .ok (.iconst 0, 1) := by decide +kernel
theorem dX5_there_1 : decode cX5_there 1 = .ok (.istore_n 3, 1) := by decide +kernel
theorem dX5_there_2 : decode cX5_there 2 = .ok (.iconst 0, 1) := by decide +kernel
theorem dX5_there_3 : decode cX5_there 3 = .ok (.istore 4, 2) := by decide +kernel
theorem dX5_there_5 : decode cX5_there 5 = .ok (.iload 4, 2) := by decide +kernel
theorem dX5_there_7 : decode cX5_there 7 = .ok (.iload_n 1, 1) := by decide +kernel
theorem dX5_there_8 : decode cX5_there 8 = .ok (.if_icmp .ge 26, 3) := by decide +kernel
theorem dX5_there_11 : decode cX5_there 11 = .ok (.iload_n 3, 1) := by decide +kernel
theorem dX5_there_12 : decode cX5_there 12 = .ok (.aload_n 0, 1) := by decide +kernel
theorem dX5_there_13 : decode cX5_there 13 = .ok (.iload_n 2, 1) := by decide +kernel
theorem dX5_there_14 : decode cX5_there 14 = .ok (.iload 4, 2) := by decide +kernel
theorem dX5_there_16 : decode cX5_there 16 = .ok (.imul, 1) := by decide +kernel
theorem dX5_there_17 : decode cX5_there 17 = .ok (.iaload, 1) := by decide +kernel
theorem dX5_there_18 : decode cX5_there 18 = .ok (.ifCond .ge 7, 3) := by decide +kernel
theorem dX5_there_21 : decode cX5_there 21 = .ok (.iconst 0, 1) := by decide +kernel
theorem dX5_there_22 : decode cX5_there 22 = .ok (.goto 4, 3) := by decide +kernel
theorem dX5_there_25 : decode cX5_there 25 = .ok (.iconst 1, 1) := by decide +kernel
theorem dX5_there_26 : decode cX5_there 26 = .ok (.iadd, 1) := by decide +kernel
theorem dX5_there_27 : decode cX5_there 27 = .ok (.istore_n 3, 1) := by decide +kernel
theorem dX5_there_28 : decode cX5_there 28 = .ok (.iinc 4 1, 3) := by decide +kernel
theorem dX5_there_31 : decode cX5_there 31 = .ok (.goto (-26), 3) := by decide +kernel
theorem dX5_there_34 : decode cX5_there 34 = .ok (.iload_n 3, 1) := by decide +kernel
theorem dX5_there_35 : decode cX5_there 35 = .ok (.ireturn, 1) := by decide +kernel
theorem dX5_ofKind_0 : decode cX5_ofKind 0 = .ok (.iconst 0, 1) := by decide +kernel
theorem dX5_ofKind_1 : decode cX5_ofKind 1 = .ok (.istore_n 2, 1) := by decide +kernel
theorem dX5_ofKind_2 : decode cX5_ofKind 2 = .ok (.iconst 0, 1) := by decide +kernel
theorem dX5_ofKind_3 : decode cX5_ofKind 3 = .ok (.istore_n 3, 1) := by decide +kernel
theorem dX5_ofKind_4 : decode cX5_ofKind 4 = .ok (.iload_n 3, 1) := by decide +kernel
theorem dX5_ofKind_5 : decode cX5_ofKind 5 = .ok (.aload_n 0, 1) := by decide +kernel
theorem dX5_ofKind_6 : decode cX5_ofKind 6 = .ok (.getfield 130, 3) := by decide +kernel
theorem dX5_ofKind_9 : decode cX5_ofKind 9 = .ok (.if_icmp .ge 30, 3) := by decide +kernel
theorem dX5_ofKind_12 : decode cX5_ofKind 12 = .ok (.iload_n 2, 1) := by decide +kernel
theorem dX5_ofKind_13 : decode cX5_ofKind 13 = .ok (.aload_n 0, 1) := by decide +kernel
theorem dX5_ofKind_14 : decode cX5_ofKind 14 = .ok (.getfield 29, 3) := by decide +kernel
theorem dX5_ofKind_17 : decode cX5_ofKind 17 = .ok (.iload_n 3, 1) := by decide +kernel
theorem dX5_ofKind_18 : decode cX5_ofKind 18 = .ok (.iaload, 1) := by decide +kernel
theorem dX5_ofKind_19 : decode cX5_ofKind 19 = .ok (.iload_n 1, 1) := by decide +kernel
theorem dX5_ofKind_20 : decode cX5_ofKind 20 = .ok (.invokestatic 158, 3) := by decide +kernel
theorem dX5_ofKind_23 : decode cX5_ofKind 23 = .ok (.ifCond .eq 7, 3) := by decide +kernel
theorem dX5_ofKind_26 : decode cX5_ofKind 26 = .ok (.iconst 1, 1) := by decide +kernel
theorem dX5_ofKind_27 : decode cX5_ofKind 27 = .ok (.goto 4, 3) := by decide +kernel
theorem dX5_ofKind_30 : decode cX5_ofKind 30 = .ok (.iconst 0, 1) := by decide +kernel
theorem dX5_ofKind_31 : decode cX5_ofKind 31 = .ok (.iadd, 1) := by decide +kernel
theorem dX5_ofKind_32 : decode cX5_ofKind 32 = .ok (.istore_n 2, 1) := by decide +kernel
theorem dX5_ofKind_33 : decode cX5_ofKind 33 = .ok (.iinc 3 1, 3) := by decide +kernel
theorem dX5_ofKind_36 : decode cX5_ofKind 36 = .ok (.goto (-32), 3) := by decide +kernel
theorem dX5_ofKind_39 : decode cX5_ofKind 39 = .ok (.iload_n 2, 1) := by decide +kernel
theorem dX5_ofKind_40 : decode cX5_ofKind 40 = .ok (.ireturn, 1) := by decide +kernel
theorem dX5_count_0 : decode cX5_count 0 = .ok (.iload_n 1, 1) := by decide +kernel
theorem dX5_count_1 : decode cX5_count 1 = .ok (.tableswitch 141 0 10 #[59, 64, 71, 76, 82, 89, 96, 107, 117, 129, 135], 59) := by decide +kernel
theorem dX5_count_60 : decode cX5_count 60 = .ok (.aload_n 0, 1) := by decide +kernel
theorem dX5_count_61 : decode cX5_count 61 = .ok (.getfield 130, 3) := by decide +kernel
theorem dX5_count_64 : decode cX5_count 64 = .ok (.ireturn, 1) := by decide +kernel
theorem dX5_count_65 : decode cX5_count 65 = .ok (.aload_n 0, 1) := by decide +kernel
theorem dX5_count_66 : decode cX5_count 66 = .ok (.getfield 41, 3) := by decide +kernel
theorem dX5_count_69 : decode cX5_count 69 = .ok (.iconst 0, 1) := by decide +kernel
theorem dX5_count_70 : decode cX5_count 70 = .ok (.iaload, 1) := by decide +kernel
theorem dX5_count_71 : decode cX5_count 71 = .ok (.ireturn, 1) := by decide +kernel
theorem dX5_count_72 : decode cX5_count 72 = .ok (.aload_n 0, 1) := by decide +kernel
theorem dX5_count_73 : decode cX5_count 73 = .ok (.getfield 91, 3) := by decide +kernel
theorem dX5_count_76 : decode cX5_count 76 = .ok (.ireturn, 1) := by decide +kernel
theorem dX5_count_77 : decode cX5_count 77 = .ok (.aload_n 0, 1) := by decide +kernel
theorem dX5_count_78 : decode cX5_count 78 = .ok (.iconst (-1), 1) := by decide +kernel
theorem dX5_count_79 : decode cX5_count 79 = .ok (.invokevirtual 170, 3) := by decide +kernel
theorem dX5_count_82 : decode cX5_count 82 = .ok (.ireturn, 1) := by decide +kernel
theorem dX5_count_83 : decode cX5_count 83 = .ok (.aload_n 0, 1) := by decide +kernel
theorem dX5_count_84 : decode cX5_count 84 = .ok (.bipush (-9), 2) := by decide +kernel
theorem dX5_count_86 : decode cX5_count 86 = .ok (.invokevirtual 170, 3) := by decide +kernel
theorem dX5_count_89 : decode cX5_count 89 = .ok (.ireturn, 1) := by decide +kernel
theorem dX5_count_90 : decode cX5_count 90 = .ok (.aload_n 0, 1) := by decide +kernel
theorem dX5_count_91 : decode cX5_count 91 = .ok (.bipush (-2), 2) := by decide +kernel
theorem dX5_count_93 : decode cX5_count 93 = .ok (.invokevirtual 170, 3) := by decide +kernel
theorem dX5_count_96 : decode cX5_count 96 = .ok (.ireturn, 1) := by decide +kernel
theorem dX5_count_97 : decode cX5_count 97 = .ok (.aload_n 0, 1) := by decide +kernel
theorem dX5_count_98 : decode cX5_count 98 = .ok (.getfield 13, 3) := by decide +kernel
theorem dX5_count_101 : decode cX5_count 101 = .ok (.bipush 6, 2) := by decide +kernel
theorem dX5_count_103 : decode cX5_count 103 = .ok (.iconst 1, 1) := by decide +kernel
theorem dX5_count_104 : decode cX5_count 104 = .ok (.invokestatic 256, 3) := by decide +kernel
theorem dX5_count_107 : decode cX5_count 107 = .ok (.ireturn, 1) := by decide +kernel
theorem dX5_count_108 : decode cX5_count 108 = .ok (.aload_n 0, 1) := by decide +kernel
theorem dX5_count_109 : decode cX5_count 109 = .ok (.getfield 19, 3) := by decide +kernel
theorem dX5_count_112 : decode cX5_count 112 = .ok (.iconst 4, 1) := by decide +kernel
theorem dX5_count_113 : decode cX5_count 113 = .ok (.iconst 1, 1) := by decide +kernel
theorem dX5_count_114 : decode cX5_count 114 = .ok (.invokestatic 256, 3) := by decide +kernel
theorem dX5_count_117 : decode cX5_count 117 = .ok (.ireturn, 1) := by decide +kernel
theorem dX5_count_118 : decode cX5_count 118 = .ok (.aload_n 0, 1) := by decide +kernel
theorem dX5_count_119 : decode cX5_count 119 = .ok (.getfield 47, 3) := by decide +kernel
theorem dX5_count_122 : decode cX5_count 122 = .ok (.iconst 3, 1) := by decide +kernel
theorem dX5_count_123 : decode cX5_count 123 = .ok (.sipush 370, 3) := by decide +kernel
theorem dX5_count_126 : decode cX5_count 126 = .ok (.invokestatic 256, 3) := by decide +kernel
theorem dX5_count_129 : decode cX5_count 129 = .ok (.ireturn, 1) := by decide +kernel
theorem dX5_count_130 : decode cX5_count 130 = .ok (.aload_n 0, 1) := by decide +kernel
theorem dX5_count_131 : decode cX5_count 131 = .ok (.iconst 1, 1) := by decide +kernel
theorem dX5_count_132 : decode cX5_count 132 = .ok (.invokevirtual 260, 3) := by decide +kernel
theorem dX5_count_135 : decode cX5_count 135 = .ok (.ireturn, 1) := by decide +kernel
theorem dX5_count_136 : decode cX5_count 136 = .ok (.aload_n 0, 1) := by decide +kernel
theorem dX5_count_137 : decode cX5_count 137 = .ok (.iconst 2, 1) := by decide +kernel
theorem dX5_count_138 : decode cX5_count 138 = .ok (.invokevirtual 260, 3) := by decide +kernel
theorem dX5_count_141 : decode cX5_count 141 = .ok (.ireturn, 1) := by decide +kernel
theorem dX5_count_142 : decode cX5_count 142 = .ok (.iconst (-1), 1) := by decide +kernel
theorem dX5_count_143 : decode cX5_count 143 = .ok (.ireturn, 1) := by decide +kernel
theorem dX5_finding_0 : decode cX5_finding 0 = .ok (.aload_n 0, 1) := by decide +kernel
theorem dX5_finding_1 : decode cX5_finding 1 = .ok (.getfield 62, 3) := by decide +kernel
theorem dX5_finding_4 : decode cX5_finding 4 = .ok (.ireturn, 1) := by decide +kernel
theorem dX5_findings_0 : decode cX5_findings 0 = .ok (.iload_n 1, 1) := by decide +kernel
theorem dX5_findings_1 : decode cX5_findings 1 = .ok (.i2l, 1) := by decide +kernel
theorem dX5_findings_2 : decode cX5_findings 2 = .ok (.lconst 1, 1) := by decide +kernel
theorem dX5_findings_3 : decode cX5_findings 3 = .ok (.ldc2_w 69, 3) := by decide +kernel
theorem dX5_findings_6 : decode cX5_findings 6 = .ok (.invokestatic 71, 3) := by decide +kernel
theorem dX5_findings_9 : decode cX5_findings 9 = .ok (.ifCond .eq 12, 3) := by decide +kernel
theorem dX5_findings_12 : decode cX5_findings 12 = .ok (.aload_n 0, 1) := by decide +kernel
theorem dX5_findings_13 : decode cX5_findings 13 = .ok (.getfield 26, 3) := by decide +kernel
theorem dX5_findings_16 : decode cX5_findings 16 = .ok (.iload_n 1, 1) := by decide +kernel
theorem dX5_findings_17 : decode cX5_findings 17 = .ok (.iaload, 1) := by decide +kernel
theorem dX5_findings_18 : decode cX5_findings 18 = .ok (.goto 4, 3) := by decide +kernel
theorem dX5_findings_21 : decode cX5_findings 21 = .ok (.iconst (-1), 1) := by decide +kernel
theorem dX5_findings_22 : decode cX5_findings 22 = .ok (.ireturn, 1) := by decide +kernel
theorem dX5_digest_0 : decode cX5_digest 0 = .ok (.ldc2_w 263, 3) := by decide +kernel
theorem dX5_digest_3 : decode cX5_digest 3 = .ok (.lstore_n 1, 1) := by decide +kernel
theorem dX5_digest_4 : decode cX5_digest 4 = .ok (.iconst 0, 1) := by decide +kernel
theorem dX5_digest_5 : decode cX5_digest 5 = .ok (.istore_n 3, 1) := by decide +kernel
theorem dX5_digest_6 : decode cX5_digest 6 = .ok (.iload_n 3, 1) := by decide +kernel
theorem dX5_digest_7 : decode cX5_digest 7 = .ok (.bipush 11, 2) := by decide +kernel
theorem dX5_digest_9 : decode cX5_digest 9 = .ok (.if_icmp .ge 22, 3) := by decide +kernel
theorem dX5_digest_12 : decode cX5_digest 12 = .ok (.ldc2_w 265, 3) := by decide +kernel
theorem dX5_digest_15 : decode cX5_digest 15 = .ok (.lload_n 1, 1) := by decide +kernel
theorem dX5_digest_16 : decode cX5_digest 16 = .ok (.lmul, 1) := by decide +kernel
theorem dX5_digest_17 : decode cX5_digest 17 = .ok (.aload_n 0, 1) := by decide +kernel
theorem dX5_digest_18 : decode cX5_digest 18 = .ok (.iload_n 3, 1) := by decide +kernel
theorem dX5_digest_19 : decode cX5_digest 19 = .ok (.invokevirtual 267, 3) := by decide +kernel
theorem dX5_digest_22 : decode cX5_digest 22 = .ok (.i2l, 1) := by decide +kernel
theorem dX5_digest_23 : decode cX5_digest 23 = .ok (.ladd, 1) := by decide +kernel
theorem dX5_digest_24 : decode cX5_digest 24 = .ok (.lstore_n 1, 1) := by decide +kernel
theorem dX5_digest_25 : decode cX5_digest 25 = .ok (.iinc 3 1, 3) := by decide +kernel
theorem dX5_digest_28 : decode cX5_digest 28 = .ok (.goto (-22), 3) := by decide +kernel
theorem dX5_digest_31 : decode cX5_digest 31 = .ok (.iconst 0, 1) := by decide +kernel
theorem dX5_digest_32 : decode cX5_digest 32 = .ok (.istore_n 3, 1) := by decide +kernel
theorem dX5_digest_33 : decode cX5_digest 33 = .ok (.iload_n 3, 1) := by decide +kernel
theorem dX5_digest_34 : decode cX5_digest 34 = .ok (.aload_n 0, 1) := by decide +kernel
theorem dX5_digest_35 : decode cX5_digest 35 = .ok (.getfield 130, 3) := by decide +kernel
theorem dX5_digest_38 : decode cX5_digest 38 = .ok (.if_icmp .ge 145, 3) := by decide +kernel
theorem dX5_digest_41 : decode cX5_digest 41 = .ok (.ldc2_w 265, 3) := by decide +kernel
theorem dX5_digest_44 : decode cX5_digest 44 = .ok (.ldc2_w 265, 3) := by decide +kernel
theorem dX5_digest_47 : decode cX5_digest 47 = .ok (.ldc2_w 265, 3) := by decide +kernel
theorem dX5_digest_50 : decode cX5_digest 50 = .ok (.ldc2_w 265, 3) := by decide +kernel
theorem dX5_digest_53 : decode cX5_digest 53 = .ok (.lload_n 1, 1) := by decide +kernel
theorem dX5_digest_54 : decode cX5_digest 54 = .ok (.lmul, 1) := by decide +kernel
theorem dX5_digest_55 : decode cX5_digest 55 = .ok (.aload_n 0, 1) := by decide +kernel
theorem dX5_digest_56 : decode cX5_digest 56 = .ok (.getfield 29, 3) := by decide +kernel
theorem dX5_digest_59 : decode cX5_digest 59 = .ok (.iload_n 3, 1) := by decide +kernel
theorem dX5_digest_60 : decode cX5_digest 60 = .ok (.iaload, 1) := by decide +kernel
theorem dX5_digest_61 : decode cX5_digest 61 = .ok (.i2l, 1) := by decide +kernel
theorem dX5_digest_62 : decode cX5_digest 62 = .ok (.ladd, 1) := by decide +kernel
theorem dX5_digest_63 : decode cX5_digest 63 = .ok (.lmul, 1) := by decide +kernel
theorem dX5_digest_64 : decode cX5_digest 64 = .ok (.aload_n 0, 1) := by decide +kernel
theorem dX5_digest_65 : decode cX5_digest 65 = .ok (.iload_n 3, 1) := by decide +kernel
theorem dX5_digest_66 : decode cX5_digest 66 = .ok (.invokevirtual 133, 3) := by decide +kernel
theorem dX5_digest_69 : decode cX5_digest 69 = .ok (.ifCond .eq 14, 3) := by decide +kernel
theorem dX5_digest_72 : decode cX5_digest 72 = .ok (.aload_n 0, 1) := by decide +kernel
theorem dX5_digest_73 : decode cX5_digest 73 = .ok (.getfield 41, 3) := by decide +kernel
theorem dX5_digest_76 : decode cX5_digest 76 = .ok (.iconst 1, 1) := by decide +kernel
theorem dX5_digest_77 : decode cX5_digest 77 = .ok (.iload_n 3, 1) := by decide +kernel
theorem dX5_digest_78 : decode cX5_digest 78 = .ok (.iadd, 1) := by decide +kernel
theorem dX5_digest_79 : decode cX5_digest 79 = .ok (.iaload, 1) := by decide +kernel
theorem dX5_digest_80 : decode cX5_digest 80 = .ok (.goto 5, 3) := by decide +kernel
theorem dX5_digest_83 : decode cX5_digest 83 = .ok (.bipush (-9), 2) := by decide +kernel
theorem dX5_digest_85 : decode cX5_digest 85 = .ok (.i2l, 1) := by decide +kernel
theorem dX5_digest_86 : decode cX5_digest 86 = .ok (.ladd, 1) := by decide +kernel
theorem dX5_digest_87 : decode cX5_digest 87 = .ok (.lmul, 1) := by decide +kernel
theorem dX5_digest_88 : decode cX5_digest 88 = .ok (.aload_n 0, 1) := by decide +kernel
theorem dX5_digest_89 : decode cX5_digest 89 = .ok (.iload_n 3, 1) := by decide +kernel
theorem dX5_digest_90 : decode cX5_digest 90 = .ok (.invokevirtual 136, 3) := by decide +kernel
theorem dX5_digest_93 : decode cX5_digest 93 = .ok (.i2l, 1) := by decide +kernel
theorem dX5_digest_94 : decode cX5_digest 94 = .ok (.ladd, 1) := by decide +kernel
theorem dX5_digest_95 : decode cX5_digest 95 = .ok (.lmul, 1) := by decide +kernel
theorem dX5_digest_96 : decode cX5_digest 96 = .ok (.aload_n 0, 1) := by decide +kernel
theorem dX5_digest_97 : decode cX5_digest 97 = .ok (.getfield 35, 3) := by decide +kernel
theorem dX5_digest_100 : decode cX5_digest 100 = .ok (.iload_n 3, 1) := by decide +kernel
theorem dX5_digest_101 : decode cX5_digest 101 = .ok (.iaload, 1) := by decide +kernel
theorem dX5_digest_102 : decode cX5_digest 102 = .ok (.i2l, 1) := by decide +kernel
theorem dX5_digest_103 : decode cX5_digest 103 = .ok (.ladd, 1) := by decide +kernel
theorem dX5_digest_104 : decode cX5_digest 104 = .ok (.lstore_n 1, 1) := by decide +kernel
theorem dX5_digest_105 : decode cX5_digest 105 = .ok (.ldc2_w 265, 3) := by decide +kernel
theorem dX5_digest_108 : decode cX5_digest 108 = .ok (.ldc2_w 265, 3) := by decide +kernel
theorem dX5_digest_111 : decode cX5_digest 111 = .ok (.ldc2_w 265, 3) := by decide +kernel
theorem dX5_digest_114 : decode cX5_digest 114 = .ok (.ldc2_w 265, 3) := by decide +kernel
theorem dX5_digest_117 : decode cX5_digest 117 = .ok (.lload_n 1, 1) := by decide +kernel
theorem dX5_digest_118 : decode cX5_digest 118 = .ok (.lmul, 1) := by decide +kernel
theorem dX5_digest_119 : decode cX5_digest 119 = .ok (.aload_n 0, 1) := by decide +kernel
theorem dX5_digest_120 : decode cX5_digest 120 = .ok (.getfield 38, 3) := by decide +kernel
theorem dX5_digest_123 : decode cX5_digest 123 = .ok (.iload_n 3, 1) := by decide +kernel
theorem dX5_digest_124 : decode cX5_digest 124 = .ok (.iaload, 1) := by decide +kernel
theorem dX5_digest_125 : decode cX5_digest 125 = .ok (.i2l, 1) := by decide +kernel
theorem dX5_digest_126 : decode cX5_digest 126 = .ok (.ladd, 1) := by decide +kernel
theorem dX5_digest_127 : decode cX5_digest 127 = .ok (.lmul, 1) := by decide +kernel
theorem dX5_digest_128 : decode cX5_digest 128 = .ok (.aload_n 0, 1) := by decide +kernel
theorem dX5_digest_129 : decode cX5_digest 129 = .ok (.iload_n 3, 1) := by decide +kernel
theorem dX5_digest_130 : decode cX5_digest 130 = .ok (.invokevirtual 146, 3) := by decide +kernel
theorem dX5_digest_133 : decode cX5_digest 133 = .ok (.i2l, 1) := by decide +kernel
theorem dX5_digest_134 : decode cX5_digest 134 = .ok (.ladd, 1) := by decide +kernel
theorem dX5_digest_135 : decode cX5_digest 135 = .ok (.lmul, 1) := by decide +kernel
theorem dX5_digest_136 : decode cX5_digest 136 = .ok (.aload_n 0, 1) := by decide +kernel
theorem dX5_digest_137 : decode cX5_digest 137 = .ok (.getfield 41, 3) := by decide +kernel
theorem dX5_digest_140 : decode cX5_digest 140 = .ok (.iconst 1, 1) := by decide +kernel
theorem dX5_digest_141 : decode cX5_digest 141 = .ok (.iload_n 3, 1) := by decide +kernel
theorem dX5_digest_142 : decode cX5_digest 142 = .ok (.iadd, 1) := by decide +kernel
theorem dX5_digest_143 : decode cX5_digest 143 = .ok (.iaload, 1) := by decide +kernel
theorem dX5_digest_144 : decode cX5_digest 144 = .ok (.iconst (-1), 1) := by decide +kernel
theorem dX5_digest_145 : decode cX5_digest 145 = .ok (.if_icmp .ne 7, 3) := by decide +kernel
theorem dX5_digest_148 : decode cX5_digest 148 = .ok (.iconst 1, 1) := by decide +kernel
theorem dX5_digest_149 : decode cX5_digest 149 = .ok (.goto 4, 3) := by decide +kernel
theorem dX5_digest_152 : decode cX5_digest 152 = .ok (.iconst 0, 1) := by decide +kernel
theorem dX5_digest_153 : decode cX5_digest 153 = .ok (.i2l, 1) := by decide +kernel
theorem dX5_digest_154 : decode cX5_digest 154 = .ok (.ladd, 1) := by decide +kernel
theorem dX5_digest_155 : decode cX5_digest 155 = .ok (.lmul, 1) := by decide +kernel
theorem dX5_digest_156 : decode cX5_digest 156 = .ok (.aload_n 0, 1) := by decide +kernel
theorem dX5_digest_157 : decode cX5_digest 157 = .ok (.getfield 41, 3) := by decide +kernel
theorem dX5_digest_160 : decode cX5_digest 160 = .ok (.iconst 1, 1) := by decide +kernel
theorem dX5_digest_161 : decode cX5_digest 161 = .ok (.iload_n 3, 1) := by decide +kernel
theorem dX5_digest_162 : decode cX5_digest 162 = .ok (.iadd, 1) := by decide +kernel
theorem dX5_digest_163 : decode cX5_digest 163 = .ok (.iaload, 1) := by decide +kernel
theorem dX5_digest_164 : decode cX5_digest 164 = .ok (.bipush (-2), 2) := by decide +kernel
theorem dX5_digest_166 : decode cX5_digest 166 = .ok (.if_icmp .ne 7, 3) := by decide +kernel
theorem dX5_digest_169 : decode cX5_digest 169 = .ok (.iconst 1, 1) := by decide +kernel
theorem dX5_digest_170 : decode cX5_digest 170 = .ok (.goto 4, 3) := by decide +kernel
theorem dX5_digest_173 : decode cX5_digest 173 = .ok (.iconst 0, 1) := by decide +kernel
theorem dX5_digest_174 : decode cX5_digest 174 = .ok (.i2l, 1) := by decide +kernel
theorem dX5_digest_175 : decode cX5_digest 175 = .ok (.ladd, 1) := by decide +kernel
theorem dX5_digest_176 : decode cX5_digest 176 = .ok (.lstore_n 1, 1) := by decide +kernel
theorem dX5_digest_177 : decode cX5_digest 177 = .ok (.iinc 3 1, 3) := by decide +kernel
theorem dX5_digest_180 : decode cX5_digest 180 = .ok (.goto (-147), 3) := by decide +kernel
theorem dX5_digest_183 : decode cX5_digest 183 = .ok (.iconst 0, 1) := by decide +kernel
theorem dX5_digest_184 : decode cX5_digest 184 = .ok (.istore_n 3, 1) := by decide +kernel
theorem dX5_digest_185 : decode cX5_digest 185 = .ok (.iload_n 3, 1) := by decide +kernel
theorem dX5_digest_186 : decode cX5_digest 186 = .ok (.iconst 3, 1) := by decide +kernel
theorem dX5_digest_187 : decode cX5_digest 187 = .ok (.if_icmp .ge 27, 3) := by decide +kernel
theorem dX5_digest_190 : decode cX5_digest 190 = .ok (.ldc2_w 265, 3) := by decide +kernel
theorem dX5_digest_193 : decode cX5_digest 193 = .ok (.lload_n 1, 1) := by decide +kernel
theorem dX5_digest_194 : decode cX5_digest 194 = .ok (.lmul, 1) := by decide +kernel
theorem dX5_digest_195 : decode cX5_digest 195 = .ok (.aload_n 0, 1) := by decide +kernel
theorem dX5_digest_196 : decode cX5_digest 196 = .ok (.getfield 47, 3) := by decide +kernel
theorem dX5_digest_199 : decode cX5_digest 199 = .ok (.sipush 370, 3) := by decide +kernel
theorem dX5_digest_202 : decode cX5_digest 202 = .ok (.iload_n 3, 1) := by decide +kernel
theorem dX5_digest_203 : decode cX5_digest 203 = .ok (.imul, 1) := by decide +kernel
theorem dX5_digest_204 : decode cX5_digest 204 = .ok (.iaload, 1) := by decide +kernel
theorem dX5_digest_205 : decode cX5_digest 205 = .ok (.i2l, 1) := by decide +kernel
theorem dX5_digest_206 : decode cX5_digest 206 = .ok (.ladd, 1) := by decide +kernel
theorem dX5_digest_207 : decode cX5_digest 207 = .ok (.lstore_n 1, 1) := by decide +kernel
theorem dX5_digest_208 : decode cX5_digest 208 = .ok (.iinc 3 1, 3) := by decide +kernel
theorem dX5_digest_211 : decode cX5_digest 211 = .ok (.goto (-26), 3) := by decide +kernel
theorem dX5_digest_214 : decode cX5_digest 214 = .ok (.iconst 0, 1) := by decide +kernel
theorem dX5_digest_215 : decode cX5_digest 215 = .ok (.istore_n 3, 1) := by decide +kernel
theorem dX5_digest_216 : decode cX5_digest 216 = .ok (.iload_n 3, 1) := by decide +kernel
theorem dX5_digest_217 : decode cX5_digest 217 = .ok (.bipush 6, 2) := by decide +kernel
theorem dX5_digest_219 : decode cX5_digest 219 = .ok (.if_icmp .ge 63, 3) := by decide +kernel
theorem dX5_digest_222 : decode cX5_digest 222 = .ok (.ldc2_w 265, 3) := by decide +kernel
theorem dX5_digest_225 : decode cX5_digest 225 = .ok (.lload_n 1, 1) := by decide +kernel
theorem dX5_digest_226 : decode cX5_digest 226 = .ok (.lmul, 1) := by decide +kernel
theorem dX5_digest_227 : decode cX5_digest 227 = .ok (.aload_n 0, 1) := by decide +kernel
theorem dX5_digest_228 : decode cX5_digest 228 = .ok (.getfield 13, 3) := by decide +kernel
theorem dX5_digest_231 : decode cX5_digest 231 = .ok (.iload_n 3, 1) := by decide +kernel
theorem dX5_digest_232 : decode cX5_digest 232 = .ok (.iaload, 1) := by decide +kernel
theorem dX5_digest_233 : decode cX5_digest 233 = .ok (.i2l, 1) := by decide +kernel
theorem dX5_digest_234 : decode cX5_digest 234 = .ok (.ladd, 1) := by decide +kernel
theorem dX5_digest_235 : decode cX5_digest 235 = .ok (.lstore_n 1, 1) := by decide +kernel
theorem dX5_digest_236 : decode cX5_digest 236 = .ok (.iconst 0, 1) := by decide +kernel
theorem dX5_digest_237 : decode cX5_digest 237 = .ok (.istore 4, 2) := by decide +kernel
theorem dX5_digest_239 : decode cX5_digest 239 = .ok (.iload 4, 2) := by decide +kernel
theorem dX5_digest_241 : decode cX5_digest 241 = .ok (.aload_n 0, 1) := by decide +kernel
theorem dX5_digest_242 : decode cX5_digest 242 = .ok (.getfield 13, 3) := by decide +kernel
theorem dX5_digest_245 : decode cX5_digest 245 = .ok (.iload_n 3, 1) := by decide +kernel
theorem dX5_digest_246 : decode cX5_digest 246 = .ok (.iaload, 1) := by decide +kernel
theorem dX5_digest_247 : decode cX5_digest 247 = .ok (.if_icmp .ge 29, 3) := by decide +kernel
theorem dX5_digest_250 : decode cX5_digest 250 = .ok (.ldc2_w 265, 3) := by decide +kernel
theorem dX5_digest_253 : decode cX5_digest 253 = .ok (.lload_n 1, 1) := by decide +kernel
theorem dX5_digest_254 : decode cX5_digest 254 = .ok (.lmul, 1) := by decide +kernel
theorem dX5_digest_255 : decode cX5_digest 255 = .ok (.aload_n 0, 1) := by decide +kernel
theorem dX5_digest_256 : decode cX5_digest 256 = .ok (.getfield 7, 3) := by decide +kernel
theorem dX5_digest_259 : decode cX5_digest 259 = .ok (.bipush 40, 2) := by decide +kernel
theorem dX5_digest_261 : decode cX5_digest 261 = .ok (.iload_n 3, 1) := by decide +kernel
theorem dX5_digest_262 : decode cX5_digest 262 = .ok (.imul, 1) := by decide +kernel
theorem dX5_digest_263 : decode cX5_digest 263 = .ok (.iload 4, 2) := by decide +kernel
theorem dX5_digest_265 : decode cX5_digest 265 = .ok (.iadd, 1) := by decide +kernel
theorem dX5_digest_266 : decode cX5_digest 266 = .ok (.iaload, 1) := by decide +kernel
theorem dX5_digest_267 : decode cX5_digest 267 = .ok (.i2l, 1) := by decide +kernel
theorem dX5_digest_268 : decode cX5_digest 268 = .ok (.ladd, 1) := by decide +kernel
theorem dX5_digest_269 : decode cX5_digest 269 = .ok (.lstore_n 1, 1) := by decide +kernel
theorem dX5_digest_270 : decode cX5_digest 270 = .ok (.iinc 4 1, 3) := by decide +kernel
theorem dX5_digest_273 : decode cX5_digest 273 = .ok (.goto (-34), 3) := by decide +kernel
theorem dX5_digest_276 : decode cX5_digest 276 = .ok (.iinc 3 1, 3) := by decide +kernel
theorem dX5_digest_279 : decode cX5_digest 279 = .ok (.goto (-63), 3) := by decide +kernel
theorem dX5_digest_282 : decode cX5_digest 282 = .ok (.iconst 0, 1) := by decide +kernel
theorem dX5_digest_283 : decode cX5_digest 283 = .ok (.istore_n 3, 1) := by decide +kernel
theorem dX5_digest_284 : decode cX5_digest 284 = .ok (.iload_n 3, 1) := by decide +kernel
theorem dX5_digest_285 : decode cX5_digest 285 = .ok (.iconst 4, 1) := by decide +kernel
theorem dX5_digest_286 : decode cX5_digest 286 = .ok (.if_icmp .ge 63, 3) := by decide +kernel
theorem dX5_digest_289 : decode cX5_digest 289 = .ok (.ldc2_w 265, 3) := by decide +kernel
theorem dX5_digest_292 : decode cX5_digest 292 = .ok (.lload_n 1, 1) := by decide +kernel
theorem dX5_digest_293 : decode cX5_digest 293 = .ok (.lmul, 1) := by decide +kernel
theorem dX5_digest_294 : decode cX5_digest 294 = .ok (.aload_n 0, 1) := by decide +kernel
theorem dX5_digest_295 : decode cX5_digest 295 = .ok (.getfield 19, 3) := by decide +kernel
theorem dX5_digest_298 : decode cX5_digest 298 = .ok (.iload_n 3, 1) := by decide +kernel
theorem dX5_digest_299 : decode cX5_digest 299 = .ok (.iaload, 1) := by decide +kernel
theorem dX5_digest_300 : decode cX5_digest 300 = .ok (.i2l, 1) := by decide +kernel
theorem dX5_digest_301 : decode cX5_digest 301 = .ok (.ladd, 1) := by decide +kernel
theorem dX5_digest_302 : decode cX5_digest 302 = .ok (.lstore_n 1, 1) := by decide +kernel
theorem dX5_digest_303 : decode cX5_digest 303 = .ok (.iconst 0, 1) := by decide +kernel
theorem dX5_digest_304 : decode cX5_digest 304 = .ok (.istore 4, 2) := by decide +kernel
theorem dX5_digest_306 : decode cX5_digest 306 = .ok (.iload 4, 2) := by decide +kernel
theorem dX5_digest_308 : decode cX5_digest 308 = .ok (.aload_n 0, 1) := by decide +kernel
theorem dX5_digest_309 : decode cX5_digest 309 = .ok (.getfield 19, 3) := by decide +kernel
theorem dX5_digest_312 : decode cX5_digest 312 = .ok (.iload_n 3, 1) := by decide +kernel
theorem dX5_digest_313 : decode cX5_digest 313 = .ok (.iaload, 1) := by decide +kernel
theorem dX5_digest_314 : decode cX5_digest 314 = .ok (.if_icmp .ge 29, 3) := by decide +kernel
theorem dX5_digest_317 : decode cX5_digest 317 = .ok (.ldc2_w 265, 3) := by decide +kernel
theorem dX5_digest_320 : decode cX5_digest 320 = .ok (.lload_n 1, 1) := by decide +kernel
theorem dX5_digest_321 : decode cX5_digest 321 = .ok (.lmul, 1) := by decide +kernel
theorem dX5_digest_322 : decode cX5_digest 322 = .ok (.aload_n 0, 1) := by decide +kernel
theorem dX5_digest_323 : decode cX5_digest 323 = .ok (.getfield 16, 3) := by decide +kernel
theorem dX5_digest_326 : decode cX5_digest 326 = .ok (.bipush 60, 2) := by decide +kernel
theorem dX5_digest_328 : decode cX5_digest 328 = .ok (.iload_n 3, 1) := by decide +kernel
theorem dX5_digest_329 : decode cX5_digest 329 = .ok (.imul, 1) := by decide +kernel
theorem dX5_digest_330 : decode cX5_digest 330 = .ok (.iload 4, 2) := by decide +kernel
theorem dX5_digest_332 : decode cX5_digest 332 = .ok (.iadd, 1) := by decide +kernel
theorem dX5_digest_333 : decode cX5_digest 333 = .ok (.iaload, 1) := by decide +kernel
theorem dX5_digest_334 : decode cX5_digest 334 = .ok (.i2l, 1) := by decide +kernel
theorem dX5_digest_335 : decode cX5_digest 335 = .ok (.ladd, 1) := by decide +kernel
theorem dX5_digest_336 : decode cX5_digest 336 = .ok (.lstore_n 1, 1) := by decide +kernel
theorem dX5_digest_337 : decode cX5_digest 337 = .ok (.iinc 4 1, 3) := by decide +kernel
theorem dX5_digest_340 : decode cX5_digest 340 = .ok (.goto (-34), 3) := by decide +kernel
theorem dX5_digest_343 : decode cX5_digest 343 = .ok (.iinc 3 1, 3) := by decide +kernel
theorem dX5_digest_346 : decode cX5_digest 346 = .ok (.goto (-62), 3) := by decide +kernel
theorem dX5_digest_349 : decode cX5_digest 349 = .ok (.lload_n 1, 1) := by decide +kernel
theorem dX5_digest_350 : decode cX5_digest 350 = .ok (.lreturn, 1) := by decide +kernel
def f5_duel_164 (fu : Nat) (k73 : Int32 → Int32 → Mem → Option (Mem × Int32)) (k85 : Int32 → Int32 → Int32 → Mem → Option (Mem × Int32)) (k109 : Int32 → Int32 → Int32 → Int32 → Int32 → Mem → Option (Mem × Int32)) (x2 : Int32) (x3 : Int32) (x4 : Int32) (x5 : Int32) (x6 : Int32) (x7 : Int32) (s0 : Int32) (M : Mem) : Option (Mem × Int32) :=
    if x7 ≤ (-1000000 : Int32) then (nm (x6 + (1 : Int32)) fun v2 =>
    (k109 x2 x3 x4 x5 v2 M))
    else (if s0 = 0 then (nm (x6 + (1 : Int32)) fun v4 =>
    (k109 x2 x3 x4 x5 v4 M))
    else (nm (x6 + (1 : Int32)) fun v5 =>
    (k109 x2 x3 x4 x7 v5 M)))
set_option maxHeartbeats 4000000 in
set_option maxRecDepth 10000 in
theorem w5_duel_164 {ad : Nat → Nat} {X : XX} {R : Mem × Int32} {fu : Nat} {k73 : Int32 → Int32 → Mem → Option (Mem × Int32)} {k85 : Int32 → Int32 → Int32 → Mem → Option (Mem × Int32)} {k109 : Int32 → Int32 → Int32 → Int32 → Int32 → Mem → Option (Mem × Int32)} (h : Cx layM ad X cX5_duel RX5 9 5 (some .int) (R.1) (some (.int R.2))) (hk73 : ∀ (x2 : Int32) (x3 : Int32) (M : Mem), k73 x2 x3 M = some R → Wp layM ad X M 73 [(0, .ref (ad 0)), (2, .int x2), (3, .int x3)] []) (hk85 : ∀ (x2 : Int32) (x3 : Int32) (x4 : Int32) (M : Mem), k85 x2 x3 x4 M = some R → Wp layM ad X M 85 [(0, .ref (ad 0)), (2, .int x2), (3, .int x3), (4, .int x4)] []) (hk109 : ∀ (x2 : Int32) (x3 : Int32) (x4 : Int32) (x5 : Int32) (x6 : Int32) (M : Mem), k109 x2 x3 x4 x5 x6 M = some R → Wp layM ad X M 109 [(0, .ref (ad 0)), (2, .int x2), (3, .int x3), (4, .int x4), (5, .int x5), (6, .int x6)] []) {x2 : Int32} {x3 : Int32} {x4 : Int32} {x5 : Int32} {x6 : Int32} {x7 : Int32} {s0 : Int32} {M : Mem} (hF : f5_duel_164 fu k73 k85 k109 x2 x3 x4 x5 x6 x7 s0 M = some R) : Wp layM ad X M 164 [(0, .ref (ad 0)), (2, .int x2), (3, .int x3), (4, .int x4), (5, .int x5), (6, .int x6), (7, .int x7)] [.int s0] := by
  unfold f5_duel_164 at hF
  refine R_istore (pc := 164) (lv' := [(8, .int s0), (0, .ref (ad 0)), (2, .int x2), (3, .int x3), (4, .int x4), (5, .int x5), (6, .int x6), (7, .int x7)]) h rfl (by decide) rfl dX5_duel_164 ?_
  refine R_iload (pc := 166) h 7 rfl dX5_duel_166 ?_
  refine R_ldc (pc := 168) h kiX5_218 dX5_duel_168 ?_
  refine R_icmp_le (pc := 170) (tgt := 183) h dX5_duel_170 (by decide) (fun c1 => ?_) (fun c1 => ?_)
  · have hF := itp c1 hF
    refine R_iload (pc := 183) h 5 rfl dX5_duel_183 ?_
    refine R_istore (pc := 185) (lv' := [(5, .int x5), (8, .int s0), (0, .ref (ad 0)), (2, .int x2), (3, .int x3), (4, .int x4), (6, .int x6), (7, .int x7)]) h rfl (by decide) rfl dX5_duel_185 ?_
    obtain ⟨v2, hv2, hF⟩ := nm_e2 hF
    refine R_iinc (pc := 187) (lv' := [(6, .int v2), (5, .int x5), (8, .int s0), (0, .ref (ad 0)), (2, .int x2), (3, .int x3), (4, .int x4), (7, .int x7)]) h 6 rfl (by decide) hv2 (by decide) rfl dX5_duel_187 ?_
    refine R_goto (pc := 190) (tgt := 109) h dX5_duel_190 (by decide) ?_
    exact Wp_sub (nX := 0) (lv' := [(0, .ref (ad 0)), (2, .int x2), (3, .int x3), (4, .int x4), (5, .int x5), (6, .int v2)]) [3, 4, 5, 6, 1, 0] rfl (hk109 _ _ _ _ _ _ hF)
  · have hF := ifn c1 hF
    refine R_iload (pc := 173) h 0 rfl dX5_duel_173 ?_
    refine R_if_eq (pc := 175) (tgt := 183) h dX5_duel_175 (by decide) (fun c3 => ?_) (fun c3 => ?_)
    · have hF := itp c3 hF
      refine R_iload (pc := 183) h 5 rfl dX5_duel_183 ?_
      refine R_istore (pc := 185) (lv' := [(5, .int x5), (8, .int s0), (0, .ref (ad 0)), (2, .int x2), (3, .int x3), (4, .int x4), (6, .int x6), (7, .int x7)]) h rfl (by decide) rfl dX5_duel_185 ?_
      obtain ⟨v4, hv4, hF⟩ := nm_e2 hF
      refine R_iinc (pc := 187) (lv' := [(6, .int v4), (5, .int x5), (8, .int s0), (0, .ref (ad 0)), (2, .int x2), (3, .int x3), (4, .int x4), (7, .int x7)]) h 6 rfl (by decide) hv4 (by decide) rfl dX5_duel_187 ?_
      refine R_goto (pc := 190) (tgt := 109) h dX5_duel_190 (by decide) ?_
      exact Wp_sub (nX := 0) (lv' := [(0, .ref (ad 0)), (2, .int x2), (3, .int x3), (4, .int x4), (5, .int x5), (6, .int v4)]) [3, 4, 5, 6, 1, 0] rfl (hk109 _ _ _ _ _ _ hF)
    · have hF := ifn c3 hF
      refine R_iload (pc := 178) h 7 rfl dX5_duel_178 ?_
      refine R_goto (pc := 180) (tgt := 185) h dX5_duel_180 (by decide) ?_
      refine R_istore (pc := 185) (lv' := [(5, .int x7), (8, .int s0), (0, .ref (ad 0)), (2, .int x2), (3, .int x3), (4, .int x4), (6, .int x6), (7, .int x7)]) h rfl (by decide) rfl dX5_duel_185 ?_
      obtain ⟨v5, hv5, hF⟩ := nm_e2 hF
      refine R_iinc (pc := 187) (lv' := [(6, .int v5), (5, .int x7), (8, .int s0), (0, .ref (ad 0)), (2, .int x2), (3, .int x3), (4, .int x4), (7, .int x7)]) h 6 rfl (by decide) hv5 (by decide) rfl dX5_duel_187 ?_
      refine R_goto (pc := 190) (tgt := 109) h dX5_duel_190 (by decide) ?_
      exact Wp_sub (nX := 0) (lv' := [(0, .ref (ad 0)), (2, .int x2), (3, .int x3), (4, .int x4), (5, .int x7), (6, .int v5)]) [3, 4, 5, 6, 1, 0] rfl (hk109 _ _ _ _ _ _ hF)
def f5_duel_109 (fu : Nat) (k73 : Int32 → Int32 → Mem → Option (Mem × Int32)) (k85 : Int32 → Int32 → Int32 → Mem → Option (Mem × Int32)) : Nat → Int32 → Int32 → Int32 → Int32 → Int32 → Mem → Option (Mem × Int32)
  | 0 => fun _ _ _ _ _ _ => none
  | f + 1 => fun x2 x3 x4 x5 x6 M =>
    if (8 : Int32) ≤ x6 then ((wr M 14 6561 x4 x5).bind fun M2 =>
    nm (x4 + (1 : Int32)) fun v3 =>
    (k85 x2 x3 v3 M2))
    else ((rd M 14 6561 (((9 : Int32) * x4) + x6)).bind fun v4 =>
    (rmI x3 (2 : Int32)).bind fun v5 =>
    if v5 = 0 then (if v4 ≤ x5 then ((f5_duel_164 fu k73 k85 (f5_duel_109 fu k73 k85 f) x2 x3 x4 x5 x6 v4 (0 : Int32) M))
    else ((f5_duel_164 fu k73 k85 (f5_duel_109 fu k73 k85 f) x2 x3 x4 x5 x6 v4 (1 : Int32) M)))
    else (if x5 ≤ v4 then ((f5_duel_164 fu k73 k85 (f5_duel_109 fu k73 k85 f) x2 x3 x4 x5 x6 v4 (0 : Int32) M))
    else ((f5_duel_164 fu k73 k85 (f5_duel_109 fu k73 k85 f) x2 x3 x4 x5 x6 v4 (1 : Int32) M))))
set_option maxHeartbeats 4000000 in
set_option maxRecDepth 10000 in
theorem w5_dueli_109 {ad : Nat → Nat} {X : XX} {R : Mem × Int32} {fu : Nat} {k73 : Int32 → Int32 → Mem → Option (Mem × Int32)} {k85 : Int32 → Int32 → Int32 → Mem → Option (Mem × Int32)} (h : Cx layM ad X cX5_duel RX5 9 5 (some .int) (R.1) (some (.int R.2))) (hk73 : ∀ (x2 : Int32) (x3 : Int32) (M : Mem), k73 x2 x3 M = some R → Wp layM ad X M 73 [(0, .ref (ad 0)), (2, .int x2), (3, .int x3)] []) (hk85 : ∀ (x2 : Int32) (x3 : Int32) (x4 : Int32) (M : Mem), k85 x2 x3 x4 M = some R → Wp layM ad X M 85 [(0, .ref (ad 0)), (2, .int x2), (3, .int x3), (4, .int x4)] []) : ∀ (f : Nat) (x2 : Int32) (x3 : Int32) (x4 : Int32) (x5 : Int32) (x6 : Int32) (M : Mem), f5_duel_109 fu k73 k85 f x2 x3 x4 x5 x6 M = some R → Wp layM ad X M 109 [(0, .ref (ad 0)), (2, .int x2), (3, .int x3), (4, .int x4), (5, .int x5), (6, .int x6)] [] := by
  intro f
  induction f with
  | zero => intro x2 x3 x4 x5 x6 M hF; exact absurd hF (by simp [f5_duel_109])
  | succ f ih =>
    intro x2 x3 x4 x5 x6 M hF
    rw [f5_duel_109] at hF
    refine R_iload (pc := 109) h 5 rfl dX5_duel_109 ?_
    refine R_bipush (pc := 111) (v := 8) h (by decide) dX5_duel_111 ?_
    refine R_icmp_ge (pc := 113) (tgt := 193) h dX5_duel_113 (by decide) (fun c1 => ?_) (fun c1 => ?_)
    · have hF := itp c1 hF
      refine R_aload_n (pc := 193) h 0 rfl rfl dX5_duel_193 ?_
      refine R_getR (pc := 194) (q1 := 14) h flX5_53 lm_0 rfl dX5_duel_194 ?_
      refine R_iload (pc := 197) h 3 rfl dX5_duel_197 ?_
      refine R_iload (pc := 199) h 4 rfl dX5_duel_199 ?_
      obtain ⟨M2, hM2, hF⟩ := bd hF
      refine R_iast (pc := 201) h hM2 lm_14 dX5_duel_201 ?_
      obtain ⟨v3, hv3, hF⟩ := nm_e2 hF
      refine R_iinc (pc := 202) (lv' := [(4, .int v3), (0, .ref (ad 0)), (2, .int x2), (3, .int x3), (5, .int x5), (6, .int x6)]) h 3 rfl (by decide) hv3 (by decide) rfl dX5_duel_202 ?_
      refine R_goto (pc := 205) (tgt := 85) h dX5_duel_205 (by decide) ?_
      exact Wp_sub (nX := 0) (lv' := [(0, .ref (ad 0)), (2, .int x2), (3, .int x3), (4, .int v3)]) [1, 2, 3, 0] rfl (hk85 _ _ _ _ hF)
    · have hF := ifn c1 hF
      refine R_aload_n (pc := 116) h 0 rfl rfl dX5_duel_116 ?_
      refine R_getR (pc := 117) (q1 := 14) h flX5_53 lm_0 rfl dX5_duel_117 ?_
      refine R_bipush (pc := 120) (v := 9) h (by decide) dX5_duel_120 ?_
      refine R_iload (pc := 122) h 3 rfl dX5_duel_122 ?_
      refine R_imul (pc := 124) h dX5_duel_124 ?_
      refine R_iload (pc := 125) h 5 rfl dX5_duel_125 ?_
      refine R_iadd (pc := 127) h dX5_duel_127 ?_
      obtain ⟨v4, hv4, hF⟩ := bd hF
      refine R_iald (pc := 128) h hv4 lm_14 dX5_duel_128 ?_
      refine R_istore (pc := 129) (lv' := [(7, .int v4), (0, .ref (ad 0)), (2, .int x2), (3, .int x3), (4, .int x4), (5, .int x5), (6, .int x6)]) h rfl (by decide) rfl dX5_duel_129 ?_
      refine R_iload_n (pc := 131) h 3 rfl rfl dX5_duel_131 ?_
      refine R_iconst (pc := 132) (v := 2) h (by decide) dX5_duel_132 ?_
      obtain ⟨v5, hv5, hF⟩ := bd hF
      refine R_irem (pc := 133) h hv5 dX5_duel_133 ?_
      refine R_if_ne (pc := 134) (tgt := 152) h dX5_duel_134 (by decide) (fun c6 => ?_) (fun c6 => ?_)
      · have hF := ifn c6 hF
        refine R_iload (pc := 152) h 0 rfl dX5_duel_152 ?_
        refine R_iload (pc := 154) h 5 rfl dX5_duel_154 ?_
        refine R_icmp_ge (pc := 156) (tgt := 163) h dX5_duel_156 (by decide) (fun c8 => ?_) (fun c8 => ?_)
        · have hF := itp c8 hF
          refine R_iconst (pc := 163) (v := 0) h (by decide) dX5_duel_163 ?_
          exact Wp_sub (nX := 0) (lv' := [(0, .ref (ad 0)), (2, .int x2), (3, .int x3), (4, .int x4), (5, .int x5), (6, .int x6), (7, .int v4)]) [1, 2, 3, 4, 5, 6, 0] rfl (w5_duel_164 h (hk73 := hk73) (hk85 := hk85) (hk109 := fun a0 a1 a2 a3 a4 a5 hF => ih a0 a1 a2 a3 a4 a5 hF) (hF := hF))
        · have hF := ifn c8 hF
          refine R_iconst (pc := 159) (v := 1) h (by decide) dX5_duel_159 ?_
          refine R_goto (pc := 160) (tgt := 164) h dX5_duel_160 (by decide) ?_
          exact Wp_sub (nX := 0) (lv' := [(0, .ref (ad 0)), (2, .int x2), (3, .int x3), (4, .int x4), (5, .int x5), (6, .int x6), (7, .int v4)]) [1, 2, 3, 4, 5, 6, 0] rfl (w5_duel_164 h (hk73 := hk73) (hk85 := hk85) (hk109 := fun a0 a1 a2 a3 a4 a5 hF => ih a0 a1 a2 a3 a4 a5 hF) (hF := hF))
      · have hF := itp c6 hF
        refine R_iload (pc := 137) h 0 rfl dX5_duel_137 ?_
        refine R_iload (pc := 139) h 5 rfl dX5_duel_139 ?_
        refine R_icmp_le (pc := 141) (tgt := 148) h dX5_duel_141 (by decide) (fun c7 => ?_) (fun c7 => ?_)
        · have hF := itp c7 hF
          refine R_iconst (pc := 148) (v := 0) h (by decide) dX5_duel_148 ?_
          refine R_goto (pc := 149) (tgt := 164) h dX5_duel_149 (by decide) ?_
          exact Wp_sub (nX := 0) (lv' := [(0, .ref (ad 0)), (2, .int x2), (3, .int x3), (4, .int x4), (5, .int x5), (6, .int x6), (7, .int v4)]) [1, 2, 3, 4, 5, 6, 0] rfl (w5_duel_164 h (hk73 := hk73) (hk85 := hk85) (hk109 := fun a0 a1 a2 a3 a4 a5 hF => ih a0 a1 a2 a3 a4 a5 hF) (hF := hF))
        · have hF := ifn c7 hF
          refine R_iconst (pc := 144) (v := 1) h (by decide) dX5_duel_144 ?_
          refine R_goto (pc := 145) (tgt := 164) h dX5_duel_145 (by decide) ?_
          exact Wp_sub (nX := 0) (lv' := [(0, .ref (ad 0)), (2, .int x2), (3, .int x3), (4, .int x4), (5, .int x5), (6, .int x6), (7, .int v4)]) [1, 2, 3, 4, 5, 6, 0] rfl (w5_duel_164 h (hk73 := hk73) (hk85 := hk85) (hk109 := fun a0 a1 a2 a3 a4 a5 hF => ih a0 a1 a2 a3 a4 a5 hF) (hF := hF))
theorem w5_duel_109 {ad : Nat → Nat} {X : XX} {R : Mem × Int32} {fu : Nat} {k73 : Int32 → Int32 → Mem → Option (Mem × Int32)} {k85 : Int32 → Int32 → Int32 → Mem → Option (Mem × Int32)} (h : Cx layM ad X cX5_duel RX5 9 5 (some .int) (R.1) (some (.int R.2))) (hk73 : ∀ (x2 : Int32) (x3 : Int32) (M : Mem), k73 x2 x3 M = some R → Wp layM ad X M 73 [(0, .ref (ad 0)), (2, .int x2), (3, .int x3)] []) (hk85 : ∀ (x2 : Int32) (x3 : Int32) (x4 : Int32) (M : Mem), k85 x2 x3 x4 M = some R → Wp layM ad X M 85 [(0, .ref (ad 0)), (2, .int x2), (3, .int x3), (4, .int x4)] []) {f : Nat} {x2 : Int32} {x3 : Int32} {x4 : Int32} {x5 : Int32} {x6 : Int32} {M : Mem} (hF : f5_duel_109 fu k73 k85 f x2 x3 x4 x5 x6 M = some R) : Wp layM ad X M 109 [(0, .ref (ad 0)), (2, .int x2), (3, .int x3), (4, .int x4), (5, .int x5), (6, .int x6)] [] := w5_dueli_109 h hk73 hk85 f _ _ _ _ _ _ hF
def f5_duel_85 (fu : Nat) (k73 : Int32 → Int32 → Mem → Option (Mem × Int32)) : Nat → Int32 → Int32 → Int32 → Mem → Option (Mem × Int32)
  | 0 => fun _ _ _ _ => none
  | f + 1 => fun x2 x3 x4 M =>
    if x2 ≤ x4 then (nm (x3 + (-1 : Int32)) fun v2 =>
    (k73 x2 v2 M))
    else ((rd M 14 6561 (((9 : Int32) * x4) + (8 : Int32))).bind fun v3 =>
    (f5_duel_109 fu k73 (f5_duel_85 fu k73 f) fu x2 x3 x4 v3 (0 : Int32) M))
set_option maxHeartbeats 4000000 in
set_option maxRecDepth 10000 in
theorem w5_dueli_85 {ad : Nat → Nat} {X : XX} {R : Mem × Int32} {fu : Nat} {k73 : Int32 → Int32 → Mem → Option (Mem × Int32)} (h : Cx layM ad X cX5_duel RX5 9 5 (some .int) (R.1) (some (.int R.2))) (hk73 : ∀ (x2 : Int32) (x3 : Int32) (M : Mem), k73 x2 x3 M = some R → Wp layM ad X M 73 [(0, .ref (ad 0)), (2, .int x2), (3, .int x3)] []) : ∀ (f : Nat) (x2 : Int32) (x3 : Int32) (x4 : Int32) (M : Mem), f5_duel_85 fu k73 f x2 x3 x4 M = some R → Wp layM ad X M 85 [(0, .ref (ad 0)), (2, .int x2), (3, .int x3), (4, .int x4)] [] := by
  intro f
  induction f with
  | zero => intro x2 x3 x4 M hF; exact absurd hF (by simp [f5_duel_85])
  | succ f ih =>
    intro x2 x3 x4 M hF
    rw [f5_duel_85] at hF
    refine R_iload (pc := 85) h 3 rfl dX5_duel_85 ?_
    refine R_iload_n (pc := 87) h 1 rfl rfl dX5_duel_87 ?_
    refine R_icmp_ge (pc := 88) (tgt := 208) h dX5_duel_88 (by decide) (fun c1 => ?_) (fun c1 => ?_)
    · have hF := itp c1 hF
      obtain ⟨v2, hv2, hF⟩ := nm_e2 hF
      refine R_iinc (pc := 208) (lv' := [(3, .int v2), (0, .ref (ad 0)), (2, .int x2), (4, .int x4)]) h 2 rfl (by decide) hv2 (by decide) rfl dX5_duel_208 ?_
      refine R_goto (pc := 211) (tgt := 73) h dX5_duel_211 (by decide) ?_
      exact Wp_sub (nX := 0) (lv' := [(0, .ref (ad 0)), (2, .int x2), (3, .int v2)]) [1, 2, 0] rfl (hk73 _ _ _ hF)
    · have hF := ifn c1 hF
      refine R_aload_n (pc := 91) h 0 rfl rfl dX5_duel_91 ?_
      refine R_getR (pc := 92) (q1 := 14) h flX5_53 lm_0 rfl dX5_duel_92 ?_
      refine R_bipush (pc := 95) (v := 9) h (by decide) dX5_duel_95 ?_
      refine R_iload (pc := 97) h 3 rfl dX5_duel_97 ?_
      refine R_imul (pc := 99) h dX5_duel_99 ?_
      refine R_bipush (pc := 100) (v := 8) h (by decide) dX5_duel_100 ?_
      refine R_iadd (pc := 102) h dX5_duel_102 ?_
      obtain ⟨v3, hv3, hF⟩ := bd hF
      refine R_iald (pc := 103) h hv3 lm_14 dX5_duel_103 ?_
      refine R_istore (pc := 104) (lv' := [(5, .int v3), (0, .ref (ad 0)), (2, .int x2), (3, .int x3), (4, .int x4)]) h rfl (by decide) rfl dX5_duel_104 ?_
      refine R_iconst (pc := 106) (v := 0) h (by decide) dX5_duel_106 ?_
      refine R_istore (pc := 107) (lv' := [(6, .int (0 : Int32)), (5, .int v3), (0, .ref (ad 0)), (2, .int x2), (3, .int x3), (4, .int x4)]) h rfl (by decide) rfl dX5_duel_107 ?_
      exact Wp_sub (nX := 0) (lv' := [(0, .ref (ad 0)), (2, .int x2), (3, .int x3), (4, .int x4), (5, .int v3), (6, .int (0 : Int32))]) [2, 3, 4, 5, 1, 0] rfl (w5_duel_109 h (hk73 := hk73) (hk85 := fun a0 a1 a2 a3 hF => ih a0 a1 a2 a3 hF) (hF := hF))
theorem w5_duel_85 {ad : Nat → Nat} {X : XX} {R : Mem × Int32} {fu : Nat} {k73 : Int32 → Int32 → Mem → Option (Mem × Int32)} (h : Cx layM ad X cX5_duel RX5 9 5 (some .int) (R.1) (some (.int R.2))) (hk73 : ∀ (x2 : Int32) (x3 : Int32) (M : Mem), k73 x2 x3 M = some R → Wp layM ad X M 73 [(0, .ref (ad 0)), (2, .int x2), (3, .int x3)] []) {f : Nat} {x2 : Int32} {x3 : Int32} {x4 : Int32} {M : Mem} (hF : f5_duel_85 fu k73 f x2 x3 x4 M = some R) : Wp layM ad X M 85 [(0, .ref (ad 0)), (2, .int x2), (3, .int x3), (4, .int x4)] [] := w5_dueli_85 h hk73 f _ _ _ _ hF
def f5_duel_73 (fu : Nat) : Nat → Int32 → Int32 → Mem → Option (Mem × Int32)
  | 0 => fun _ _ _ => none
  | f + 1 => fun x2 x3 M =>
    if x3 < 0 then ((rd M 14 6561 (0 : Int32)).bind fun v2 =>
    (some (M, ((500 : Int32) + v2))))
    else ((dvI x2 (9 : Int32)).bind fun v3 =>
    (f5_duel_85 fu (f5_duel_73 fu f) fu v3 x3 (0 : Int32) M))
set_option maxHeartbeats 4000000 in
set_option maxRecDepth 10000 in
theorem w5_dueli_73 {ad : Nat → Nat} {X : XX} {R : Mem × Int32} {fu : Nat}  (h : Cx layM ad X cX5_duel RX5 9 5 (some .int) (R.1) (some (.int R.2)))  : ∀ (f : Nat) (x2 : Int32) (x3 : Int32) (M : Mem), f5_duel_73 fu f x2 x3 M = some R → Wp layM ad X M 73 [(0, .ref (ad 0)), (2, .int x2), (3, .int x3)] [] := by
  intro f
  induction f with
  | zero => intro x2 x3 M hF; exact absurd hF (by simp [f5_duel_73])
  | succ f ih =>
    intro x2 x3 M hF
    rw [f5_duel_73] at hF
    refine R_iload_n (pc := 73) h 2 rfl rfl dX5_duel_73 ?_
    refine R_if_lt (pc := 74) (tgt := 214) h dX5_duel_74 (by decide) (fun c1 => ?_) (fun c1 => ?_)
    · have hF := itp c1 hF
      refine R_sipush (pc := 214) (v := 500) h (by decide) dX5_duel_214 ?_
      refine R_aload_n (pc := 217) h 0 rfl rfl dX5_duel_217 ?_
      refine R_getR (pc := 218) (q1 := 14) h flX5_53 lm_0 rfl dX5_duel_218 ?_
      refine R_iconst (pc := 221) (v := 0) h (by decide) dX5_duel_221 ?_
      obtain ⟨v2, hv2, hF⟩ := bd hF
      refine R_iald (pc := 222) h hv2 lm_14 dX5_duel_222 ?_
      refine R_iadd (pc := 223) h dX5_duel_223 ?_
      cases hF
      exact R_ireturn (pc := 224) h rfl rfl rfl dX5_duel_224
    · have hF := ifn c1 hF
      refine R_iload_n (pc := 77) h 1 rfl rfl dX5_duel_77 ?_
      refine R_bipush (pc := 78) (v := 9) h (by decide) dX5_duel_78 ?_
      obtain ⟨v3, hv3, hF⟩ := bd hF
      refine R_idiv (pc := 80) h hv3 dX5_duel_80 ?_
      refine R_istore_n (pc := 81) (lv' := [(2, .int v3), (0, .ref (ad 0)), (3, .int x3)]) h rfl rfl (by decide) rfl dX5_duel_81 ?_
      refine R_iconst (pc := 82) (v := 0) h (by decide) dX5_duel_82 ?_
      refine R_istore (pc := 83) (lv' := [(4, .int (0 : Int32)), (2, .int v3), (0, .ref (ad 0)), (3, .int x3)]) h rfl (by decide) rfl dX5_duel_83 ?_
      exact Wp_sub (nX := 0) (lv' := [(0, .ref (ad 0)), (2, .int v3), (3, .int x3), (4, .int (0 : Int32))]) [2, 1, 3, 0] rfl (w5_duel_85 h (hk73 := fun a0 a1 a2 hF => ih a0 a1 a2 hF) (hF := hF))
theorem w5_duel_73 {ad : Nat → Nat} {X : XX} {R : Mem × Int32} {fu : Nat}  (h : Cx layM ad X cX5_duel RX5 9 5 (some .int) (R.1) (some (.int R.2)))  {f : Nat} {x2 : Int32} {x3 : Int32} {M : Mem} (hF : f5_duel_73 fu f x2 x3 M = some R) : Wp layM ad X M 73 [(0, .ref (ad 0)), (2, .int x2), (3, .int x3)] [] := w5_dueli_73 h  f _ _ _ hF
def f5_duel_46 (fu : Nat) : Nat → Int32 → Int32 → Int32 → Mem → Option (Mem × Int32)
  | 0 => fun _ _ _ _ => none
  | f + 1 => fun x1 x2 x3 M =>
    if x2 ≤ x3 then (nm (x1 - (1 : Int32)) fun v2 =>
    (f5_duel_73 fu fu x2 v2 M))
    else ((f5_played M fu x3 x1).bind fun r4 =>
    (wr M 14 6561 x3 r4).bind fun M5 =>
    nm (x3 + (1 : Int32)) fun v6 =>
    ((f5_duel_46 fu f) x1 x2 v6 M5))
set_option maxHeartbeats 4000000 in
set_option maxRecDepth 10000 in
theorem w5_dueli_46 {ad : Nat → Nat} {X : XX} {R : Mem × Int32} {fu : Nat}  (h : Cx layM ad X cX5_duel RX5 9 5 (some .int) (R.1) (some (.int R.2)))  : ∀ (f : Nat) (x1 : Int32) (x2 : Int32) (x3 : Int32) (M : Mem), f5_duel_46 fu f x1 x2 x3 M = some R → Wp layM ad X M 46 [(0, .ref (ad 0)), (1, .int x1), (2, .int x2), (3, .int x3)] [] := by
  intro f
  induction f with
  | zero => intro x1 x2 x3 M hF; exact absurd hF (by simp [f5_duel_46])
  | succ f ih =>
    intro x1 x2 x3 M hF
    rw [f5_duel_46] at hF
    refine R_iload_n (pc := 46) h 3 rfl rfl dX5_duel_46 ?_
    refine R_iload_n (pc := 47) h 2 rfl rfl dX5_duel_47 ?_
    refine R_icmp_ge (pc := 48) (tgt := 69) h dX5_duel_48 (by decide) (fun c1 => ?_) (fun c1 => ?_)
    · have hF := itp c1 hF
      refine R_iload_n (pc := 69) h 1 rfl rfl dX5_duel_69 ?_
      refine R_iconst (pc := 70) (v := 1) h (by decide) dX5_duel_70 ?_
      refine R_isub (pc := 71) h dX5_duel_71 ?_
      obtain ⟨v2, hv2, hF⟩ := nm_e2 hF
      refine R_istore_n (pc := 72) (lv' := [(3, .int v2), (0, .ref (ad 0)), (1, .int x1), (2, .int x2)]) h hv2 rfl (by decide) rfl dX5_duel_72 ?_
      exact Wp_sub (nX := 0) (lv' := [(0, .ref (ad 0)), (2, .int x2), (3, .int v2)]) [1, 3, 0] rfl (w5_duel_73 h  (hF := hF))
    · have hF := ifn c1 hF
      refine R_aload_n (pc := 51) h 0 rfl rfl dX5_duel_51 ?_
      refine R_getR (pc := 52) (q1 := 14) h flX5_53 lm_0 rfl dX5_duel_52 ?_
      refine R_iload_n (pc := 55) h 3 rfl rfl dX5_duel_55 ?_
      refine R_aload_n (pc := 56) h 0 rfl rfl dX5_duel_56 ?_
      refine R_iload_n (pc := 57) h 3 rfl rfl dX5_duel_57 ?_
      refine R_iload_n (pc := 58) h 1 rfl rfl dX5_duel_58 ?_
      obtain ⟨r4, hc3, hF⟩ := bd hF
      refine R_callV (pc := 59) (st := [.int x3, .ref (ad 14)]) h [.int x3, .int x1] cvX5_221 (c5_played (ad := ad) (z := X.1) hc3) rfl rfl lm_0 (by decide) (by decide) (Nat.le_of_ble_eq_true rfl) dX5_duel_59 (st1 := [.int r4, .int x3, .ref (ad 14)]) rfl ?_
      obtain ⟨M5, hM5, hF⟩ := bd hF
      refine R_iast (pc := 62) h hM5 lm_14 dX5_duel_62 ?_
      obtain ⟨v6, hv6, hF⟩ := nm_e2 hF
      refine R_iinc (pc := 63) (lv' := [(3, .int v6), (0, .ref (ad 0)), (1, .int x1), (2, .int x2)]) h 3 rfl (by decide) hv6 (by decide) rfl dX5_duel_63 ?_
      refine R_goto (pc := 66) (tgt := 46) h dX5_duel_66 (by decide) ?_
      exact Wp_sub (nX := 0) (lv' := [(0, .ref (ad 0)), (1, .int x1), (2, .int x2), (3, .int v6)]) [1, 2, 3, 0] rfl (ih _ _ _ _ hF)
theorem w5_duel_46 {ad : Nat → Nat} {X : XX} {R : Mem × Int32} {fu : Nat}  (h : Cx layM ad X cX5_duel RX5 9 5 (some .int) (R.1) (some (.int R.2)))  {f : Nat} {x1 : Int32} {x2 : Int32} {x3 : Int32} {M : Mem} (hF : f5_duel_46 fu f x1 x2 x3 M = some R) : Wp layM ad X M 46 [(0, .ref (ad 0)), (1, .int x1), (2, .int x2), (3, .int x3)] [] := w5_dueli_46 h  f _ _ _ _ hF
def f5_duel_28 (fu : Nat) : Nat → Int32 → Int32 → Int32 → Mem → Option (Mem × Int32)
  | 0 => fun _ _ _ _ => none
  | f + 1 => fun x1 x2 x3 M =>
    if x1 ≤ x3 then ((f5_duel_46 fu fu x1 x2 (0 : Int32) M))
    else (nm (x2 * (9 : Int32)) fun v2 =>
    nm (x3 + (1 : Int32)) fun v3 =>
    ((f5_duel_28 fu f) x1 v2 v3 M))
set_option maxHeartbeats 4000000 in
set_option maxRecDepth 10000 in
theorem w5_dueli_28 {ad : Nat → Nat} {X : XX} {R : Mem × Int32} {fu : Nat}  (h : Cx layM ad X cX5_duel RX5 9 5 (some .int) (R.1) (some (.int R.2)))  : ∀ (f : Nat) (x1 : Int32) (x2 : Int32) (x3 : Int32) (M : Mem), f5_duel_28 fu f x1 x2 x3 M = some R → Wp layM ad X M 28 [(0, .ref (ad 0)), (1, .int x1), (2, .int x2), (3, .int x3)] [] := by
  intro f
  induction f with
  | zero => intro x1 x2 x3 M hF; exact absurd hF (by simp [f5_duel_28])
  | succ f ih =>
    intro x1 x2 x3 M hF
    rw [f5_duel_28] at hF
    refine R_iload_n (pc := 28) h 3 rfl rfl dX5_duel_28 ?_
    refine R_iload_n (pc := 29) h 1 rfl rfl dX5_duel_29 ?_
    refine R_icmp_ge (pc := 30) (tgt := 44) h dX5_duel_30 (by decide) (fun c1 => ?_) (fun c1 => ?_)
    · have hF := itp c1 hF
      refine R_iconst (pc := 44) (v := 0) h (by decide) dX5_duel_44 ?_
      refine R_istore_n (pc := 45) (lv' := [(3, .int (0 : Int32)), (0, .ref (ad 0)), (1, .int x1), (2, .int x2)]) h rfl rfl (by decide) rfl dX5_duel_45 ?_
      exact Wp_sub (nX := 0) (lv' := [(0, .ref (ad 0)), (1, .int x1), (2, .int x2), (3, .int (0 : Int32))]) [1, 2, 3, 0] rfl (w5_duel_46 h  (hF := hF))
    · have hF := ifn c1 hF
      refine R_iload_n (pc := 33) h 2 rfl rfl dX5_duel_33 ?_
      refine R_bipush (pc := 34) (v := 9) h (by decide) dX5_duel_34 ?_
      refine R_imul (pc := 36) h dX5_duel_36 ?_
      obtain ⟨v2, hv2, hF⟩ := nm_e2 hF
      refine R_istore_n (pc := 37) (lv' := [(2, .int v2), (0, .ref (ad 0)), (1, .int x1), (3, .int x3)]) h hv2 rfl (by decide) rfl dX5_duel_37 ?_
      obtain ⟨v3, hv3, hF⟩ := nm_e2 hF
      refine R_iinc (pc := 38) (lv' := [(3, .int v3), (2, .int v2), (0, .ref (ad 0)), (1, .int x1)]) h 3 rfl (by decide) hv3 (by decide) rfl dX5_duel_38 ?_
      refine R_goto (pc := 41) (tgt := 28) h dX5_duel_41 (by decide) ?_
      exact Wp_sub (nX := 0) (lv' := [(0, .ref (ad 0)), (1, .int x1), (2, .int v2), (3, .int v3)]) [2, 3, 1, 0] rfl (ih _ _ _ _ hF)
theorem w5_duel_28 {ad : Nat → Nat} {X : XX} {R : Mem × Int32} {fu : Nat}  (h : Cx layM ad X cX5_duel RX5 9 5 (some .int) (R.1) (some (.int R.2)))  {f : Nat} {x1 : Int32} {x2 : Int32} {x3 : Int32} {M : Mem} (hF : f5_duel_28 fu f x1 x2 x3 M = some R) : Wp layM ad X M 28 [(0, .ref (ad 0)), (1, .int x1), (2, .int x2), (3, .int x3)] [] := w5_dueli_28 h  f _ _ _ _ hF
def f5_duel (fu : Nat) (x1 : Int32) (M : Mem) : Option (Mem × Int32) :=
    (f5_in x1.toInt64 (0 : Int64) (4 : Int64)).bind fun r2 =>
    if r2 = 0 then ((some (M, (-1 : Int32))))
    else (if (M.1 0 9) = 0 then ((some (M, (-4 : Int32))))
    else ((f5_duel_28 fu fu x1 (1 : Int32) (0 : Int32) M)))
set_option maxHeartbeats 4000000 in
set_option maxRecDepth 10000 in
theorem w5_duel {ad : Nat → Nat} {X : XX} {R : Mem × Int32} {fu : Nat} (h : Cx layM ad X cX5_duel RX5 9 5 (some .int) (R.1) (some (.int R.2))) {x1 : Int32} {M : Mem} (hF : f5_duel fu x1 M = some R) : Wp layM ad X M 0 [(0, .ref (ad 0)), (1, .int x1)] [] := by
  unfold f5_duel at hF
  refine R_iload_n (pc := 0) h 1 rfl rfl dX5_duel_0 ?_
  refine R_i2l (pc := 1) h dX5_duel_1 ?_
  refine R_lconst (pc := 2) (v := 0) h (by decide) dX5_duel_2 ?_
  refine R_ldc2 (pc := 3) h klX5_219 dX5_duel_3 ?_
  obtain ⟨r2, hc1, hF⟩ := bd hF
  refine R_callS (pc := 6) (st := []) h [.long x1.toInt64, .long (0 : Int64), .long (4 : Int64)] csX5_71 (c5_in (ad := ad) (z := X.1) (M := M) hc1) rfl rfl (by decide) (by decide) (Nat.le_of_ble_eq_true rfl) dX5_duel_6 (st1 := [.int r2]) rfl ?_
  refine R_if_ne (pc := 9) (tgt := 14) h dX5_duel_9 (by decide) (fun c3 => ?_) (fun c3 => ?_)
  · have hF := ifn c3 hF
    refine R_aload_n (pc := 14) h 0 rfl rfl dX5_duel_14 ?_
    refine R_getI (pc := 15) h flX5_130 lm_0 rfl dX5_duel_15 ?_
    refine R_if_ne (pc := 18) (tgt := 24) h dX5_duel_18 (by decide) (fun c4 => ?_) (fun c4 => ?_)
    · have hF := ifn c4 hF
      refine R_iconst (pc := 24) (v := 1) h (by decide) dX5_duel_24 ?_
      refine R_istore_n (pc := 25) (lv' := [(2, .int (1 : Int32)), (0, .ref (ad 0)), (1, .int x1)]) h rfl rfl (by decide) rfl dX5_duel_25 ?_
      refine R_iconst (pc := 26) (v := 0) h (by decide) dX5_duel_26 ?_
      refine R_istore_n (pc := 27) (lv' := [(3, .int (0 : Int32)), (2, .int (1 : Int32)), (0, .ref (ad 0)), (1, .int x1)]) h rfl rfl (by decide) rfl dX5_duel_27 ?_
      exact Wp_sub (nX := 0) (lv' := [(0, .ref (ad 0)), (1, .int x1), (2, .int (1 : Int32)), (3, .int (0 : Int32))]) [2, 3, 1, 0] rfl (w5_duel_28 h  (hF := hF))
    · have hF := itp c4 hF
      refine R_bipush (pc := 21) (v := (-4)) h (by decide) dX5_duel_21 ?_
      cases hF
      exact R_ireturn (pc := 23) h rfl rfl rfl dX5_duel_23
  · have hF := itp c3 hF
    refine R_iconst (pc := 12) (v := (-1)) h (by decide) dX5_duel_12 ?_
    cases hF
    exact R_ireturn (pc := 13) h rfl rfl rfl dX5_duel_13
theorem c5_duel {ad : Nat → Nat} {z : ZZ} {R : Mem × Int32} {fu : Nat} {x1 : Int32} {M : Mem} (hF : f5_duel fu x1 M = some R) : Con layM ad z yX5_duel cX5_duel 9 (some .int) 5 M [.ref (ad 0), .int x1] (R.1) (some (.int R.2)) := con_of (own := RX5) (lv := [(0, .ref (ad 0)), (1, .int x1)]) (by decide +kernel) rfl (Nat.le_of_ble_eq_true rfl) rfl (fun X hz h => w5_duel h hF)
def f5_laysBests_42 (fu : Nat) (k2 : Int32 → Mem → Option (Mem)) : Nat → Int32 → Int32 → Int32 → Mem → Option (Mem)
  | 0 => fun _ _ _ _ => none
  | f + 1 => fun x1 x2 x3 M =>
    if (M.1 0 9) ≤ x3 then ((wr M 15 256 x1 x2).bind fun M2 =>
    nm (x1 + (1 : Int32)) fun v3 =>
    (k2 v3 M2))
    else ((f5_has x1 x3).bind fun r5 =>
    if r5 = 0 then (nm (x3 + (1 : Int32)) fun v7 =>
    ((f5_laysBests_42 fu k2 f) x1 x2 v7 M))
    else ((rd M 15 256 (x1 ^^^ ((1 : Int32) <<< (x3 &&& 31)))).bind fun v8 =>
    if v8 ≤ x2 then (nm (x3 + (1 : Int32)) fun v10 =>
    ((f5_laysBests_42 fu k2 f) x1 x2 v10 M))
    else (nm (x3 + (1 : Int32)) fun v11 =>
    ((f5_laysBests_42 fu k2 f) x1 v8 v11 M))))
set_option maxHeartbeats 4000000 in
set_option maxRecDepth 10000 in
theorem w5_laysBestsi_42 {ad : Nat → Nat} {X : XX} {R : Mem} {fu : Nat} {k2 : Int32 → Mem → Option (Mem)} (h : Cx layM ad X cX5_laysBests RX5 5 5 none (R) none) (hk2 : ∀ (x1 : Int32) (M : Mem), k2 x1 M = some R → Wp layM ad X M 2 [(0, .ref (ad 0)), (1, .int x1)] []) : ∀ (f : Nat) (x1 : Int32) (x2 : Int32) (x3 : Int32) (M : Mem), f5_laysBests_42 fu k2 f x1 x2 x3 M = some R → Wp layM ad X M 42 [(0, .ref (ad 0)), (1, .int x1), (2, .int x2), (3, .int x3)] [] := by
  intro f
  induction f with
  | zero => intro x1 x2 x3 M hF; exact absurd hF (by simp [f5_laysBests_42])
  | succ f ih =>
    intro x1 x2 x3 M hF
    rw [f5_laysBests_42] at hF
    refine R_iload_n (pc := 42) h 3 rfl rfl dX5_laysBests_42 ?_
    refine R_aload_n (pc := 43) h 0 rfl rfl dX5_laysBests_43 ?_
    refine R_getI (pc := 44) h flX5_130 lm_0 rfl dX5_laysBests_44 ?_
    refine R_icmp_ge (pc := 47) (tgt := 89) h dX5_laysBests_47 (by decide) (fun c1 => ?_) (fun c1 => ?_)
    · have hF := itp c1 hF
      refine R_aload_n (pc := 89) h 0 rfl rfl dX5_laysBests_89 ?_
      refine R_getR (pc := 90) (q1 := 15) h flX5_56 lm_0 rfl dX5_laysBests_90 ?_
      refine R_iload_n (pc := 93) h 1 rfl rfl dX5_laysBests_93 ?_
      refine R_iload_n (pc := 94) h 2 rfl rfl dX5_laysBests_94 ?_
      obtain ⟨M2, hM2, hF⟩ := bd hF
      refine R_iast (pc := 95) h hM2 lm_15 dX5_laysBests_95 ?_
      obtain ⟨v3, hv3, hF⟩ := nm_e2 hF
      refine R_iinc (pc := 96) (lv' := [(1, .int v3), (0, .ref (ad 0)), (2, .int x2), (3, .int x3)]) h 1 rfl (by decide) hv3 (by decide) rfl dX5_laysBests_96 ?_
      refine R_goto (pc := 99) (tgt := 2) h dX5_laysBests_99 (by decide) ?_
      exact Wp_sub (nX := 0) (lv' := [(0, .ref (ad 0)), (1, .int v3)]) [1, 0] rfl (hk2 _ _ hF)
    · have hF := ifn c1 hF
      refine R_iload_n (pc := 50) h 1 rfl rfl dX5_laysBests_50 ?_
      refine R_iload_n (pc := 51) h 3 rfl rfl dX5_laysBests_51 ?_
      obtain ⟨r5, hc4, hF⟩ := bd hF
      refine R_callS (pc := 52) (st := []) h [.int x1, .int x3] csX5_139 (c5_has (ad := ad) (z := X.1) (M := M) hc4) rfl rfl (by decide) (by decide) (Nat.le_of_ble_eq_true rfl) dX5_laysBests_52 (st1 := [.int r5]) rfl ?_
      refine R_if_eq (pc := 55) (tgt := 83) h dX5_laysBests_55 (by decide) (fun c6 => ?_) (fun c6 => ?_)
      · have hF := itp c6 hF
        obtain ⟨v7, hv7, hF⟩ := nm_e2 hF
        refine R_iinc (pc := 83) (lv' := [(3, .int v7), (0, .ref (ad 0)), (1, .int x1), (2, .int x2)]) h 3 rfl (by decide) hv7 (by decide) rfl dX5_laysBests_83 ?_
        refine R_goto (pc := 86) (tgt := 42) h dX5_laysBests_86 (by decide) ?_
        exact Wp_sub (nX := 0) (lv' := [(0, .ref (ad 0)), (1, .int x1), (2, .int x2), (3, .int v7)]) [1, 2, 3, 0] rfl (ih _ _ _ _ hF)
      · have hF := ifn c6 hF
        refine R_aload_n (pc := 58) h 0 rfl rfl dX5_laysBests_58 ?_
        refine R_getR (pc := 59) (q1 := 15) h flX5_56 lm_0 rfl dX5_laysBests_59 ?_
        refine R_iload_n (pc := 62) h 1 rfl rfl dX5_laysBests_62 ?_
        refine R_iconst (pc := 63) (v := 1) h (by decide) dX5_laysBests_63 ?_
        refine R_iload_n (pc := 64) h 3 rfl rfl dX5_laysBests_64 ?_
        refine R_ishl (pc := 65) h dX5_laysBests_65 ?_
        refine R_ixor (pc := 66) h dX5_laysBests_66 ?_
        obtain ⟨v8, hv8, hF⟩ := bd hF
        refine R_iald (pc := 67) h hv8 lm_15 dX5_laysBests_67 ?_
        refine R_istore (pc := 68) (lv' := [(4, .int v8), (0, .ref (ad 0)), (1, .int x1), (2, .int x2), (3, .int x3)]) h rfl (by decide) rfl dX5_laysBests_68 ?_
        refine R_iload (pc := 70) h 0 rfl dX5_laysBests_70 ?_
        refine R_iload_n (pc := 72) h 3 rfl rfl dX5_laysBests_72 ?_
        refine R_icmp_le (pc := 73) (tgt := 81) h dX5_laysBests_73 (by decide) (fun c9 => ?_) (fun c9 => ?_)
        · have hF := itp c9 hF
          refine R_iload_n (pc := 81) h 3 rfl rfl dX5_laysBests_81 ?_
          refine R_istore_n (pc := 82) (lv' := [(2, .int x2), (4, .int v8), (0, .ref (ad 0)), (1, .int x1), (3, .int x3)]) h rfl rfl (by decide) rfl dX5_laysBests_82 ?_
          obtain ⟨v10, hv10, hF⟩ := nm_e2 hF
          refine R_iinc (pc := 83) (lv' := [(3, .int v10), (2, .int x2), (4, .int v8), (0, .ref (ad 0)), (1, .int x1)]) h 4 rfl (by decide) hv10 (by decide) rfl dX5_laysBests_83 ?_
          refine R_goto (pc := 86) (tgt := 42) h dX5_laysBests_86 (by decide) ?_
          exact Wp_sub (nX := 0) (lv' := [(0, .ref (ad 0)), (1, .int x1), (2, .int x2), (3, .int v10)]) [3, 4, 1, 0] rfl (ih _ _ _ _ hF)
        · have hF := ifn c9 hF
          refine R_iload (pc := 76) h 0 rfl dX5_laysBests_76 ?_
          refine R_goto (pc := 78) (tgt := 82) h dX5_laysBests_78 (by decide) ?_
          refine R_istore_n (pc := 82) (lv' := [(2, .int v8), (4, .int v8), (0, .ref (ad 0)), (1, .int x1), (3, .int x3)]) h rfl rfl (by decide) rfl dX5_laysBests_82 ?_
          obtain ⟨v11, hv11, hF⟩ := nm_e2 hF
          refine R_iinc (pc := 83) (lv' := [(3, .int v11), (2, .int v8), (4, .int v8), (0, .ref (ad 0)), (1, .int x1)]) h 4 rfl (by decide) hv11 (by decide) rfl dX5_laysBests_83 ?_
          refine R_goto (pc := 86) (tgt := 42) h dX5_laysBests_86 (by decide) ?_
          exact Wp_sub (nX := 0) (lv' := [(0, .ref (ad 0)), (1, .int x1), (2, .int v8), (3, .int v11)]) [3, 4, 1, 0] rfl (ih _ _ _ _ hF)
theorem w5_laysBests_42 {ad : Nat → Nat} {X : XX} {R : Mem} {fu : Nat} {k2 : Int32 → Mem → Option (Mem)} (h : Cx layM ad X cX5_laysBests RX5 5 5 none (R) none) (hk2 : ∀ (x1 : Int32) (M : Mem), k2 x1 M = some R → Wp layM ad X M 2 [(0, .ref (ad 0)), (1, .int x1)] []) {f : Nat} {x1 : Int32} {x2 : Int32} {x3 : Int32} {M : Mem} (hF : f5_laysBests_42 fu k2 f x1 x2 x3 M = some R) : Wp layM ad X M 42 [(0, .ref (ad 0)), (1, .int x1), (2, .int x2), (3, .int x3)] [] := w5_laysBestsi_42 h hk2 f _ _ _ _ hF
def f5_laysBests_29 (fu : Nat) (k2 : Int32 → Mem → Option (Mem)) (x1 : Int32) (s0 : Int32) (M : Mem) : Option (Mem) :=
    if s0 ≤ 0 then ((f5_laysBests_42 fu k2 fu x1 (0 : Int32) (0 : Int32) M))
    else ((f5_laysBests_42 fu k2 fu x1 s0 (0 : Int32) M))
set_option maxHeartbeats 4000000 in
set_option maxRecDepth 10000 in
theorem w5_laysBests_29 {ad : Nat → Nat} {X : XX} {R : Mem} {fu : Nat} {k2 : Int32 → Mem → Option (Mem)} (h : Cx layM ad X cX5_laysBests RX5 5 5 none (R) none) (hk2 : ∀ (x1 : Int32) (M : Mem), k2 x1 M = some R → Wp layM ad X M 2 [(0, .ref (ad 0)), (1, .int x1)] []) {x1 : Int32} {s0 : Int32} {M : Mem} (hF : f5_laysBests_29 fu k2 x1 s0 M = some R) : Wp layM ad X M 29 [(0, .ref (ad 0)), (1, .int x1)] [.int s0] := by
  unfold f5_laysBests_29 at hF
  refine R_istore_n (pc := 29) (lv' := [(2, .int s0), (0, .ref (ad 0)), (1, .int x1)]) h rfl rfl (by decide) rfl dX5_laysBests_29 ?_
  refine R_iload_n (pc := 30) h 0 rfl rfl dX5_laysBests_30 ?_
  refine R_if_le (pc := 31) (tgt := 38) h dX5_laysBests_31 (by decide) (fun c1 => ?_) (fun c1 => ?_)
  · have hF := itp c1 hF
    refine R_iconst (pc := 38) (v := 0) h (by decide) dX5_laysBests_38 ?_
    refine R_istore_n (pc := 39) (lv' := [(2, .int (0 : Int32)), (0, .ref (ad 0)), (1, .int x1)]) h rfl rfl (by decide) rfl dX5_laysBests_39 ?_
    refine R_iconst (pc := 40) (v := 0) h (by decide) dX5_laysBests_40 ?_
    refine R_istore_n (pc := 41) (lv' := [(3, .int (0 : Int32)), (2, .int (0 : Int32)), (0, .ref (ad 0)), (1, .int x1)]) h rfl rfl (by decide) rfl dX5_laysBests_41 ?_
    exact Wp_sub (nX := 0) (lv' := [(0, .ref (ad 0)), (1, .int x1), (2, .int (0 : Int32)), (3, .int (0 : Int32))]) [2, 3, 1, 0] rfl (w5_laysBests_42 h (hk2 := hk2) (hF := hF))
  · have hF := ifn c1 hF
    refine R_iload_n (pc := 34) h 0 rfl rfl dX5_laysBests_34 ?_
    refine R_goto (pc := 35) (tgt := 39) h dX5_laysBests_35 (by decide) ?_
    refine R_istore_n (pc := 39) (lv' := [(2, .int s0), (0, .ref (ad 0)), (1, .int x1)]) h rfl rfl (by decide) rfl dX5_laysBests_39 ?_
    refine R_iconst (pc := 40) (v := 0) h (by decide) dX5_laysBests_40 ?_
    refine R_istore_n (pc := 41) (lv' := [(3, .int (0 : Int32)), (2, .int s0), (0, .ref (ad 0)), (1, .int x1)]) h rfl rfl (by decide) rfl dX5_laysBests_41 ?_
    exact Wp_sub (nX := 0) (lv' := [(0, .ref (ad 0)), (1, .int x1), (2, .int s0), (3, .int (0 : Int32))]) [2, 3, 1, 0] rfl (w5_laysBests_42 h (hk2 := hk2) (hF := hF))
def f5_laysBests_2 (fu : Nat) : Nat → Int32 → Mem → Option (Mem)
  | 0 => fun _ _ => none
  | f + 1 => fun x1 M =>
    if ((1 : Int32) <<< ((M.1 0 9) &&& 31)) ≤ x1 then ((some M))
    else ((f5_clash M fu x1).bind fun r3 =>
    if r3 = 0 then ((f5_worthAll M fu x1).bind fun r6 =>
    (f5_laysBests_29 fu (f5_laysBests_2 fu f) x1 r6 M))
    else ((f5_laysBests_29 fu (f5_laysBests_2 fu f) x1 (0 : Int32) M)))
set_option maxHeartbeats 4000000 in
set_option maxRecDepth 10000 in
theorem w5_laysBestsi_2 {ad : Nat → Nat} {X : XX} {R : Mem} {fu : Nat}  (h : Cx layM ad X cX5_laysBests RX5 5 5 none (R) none)  : ∀ (f : Nat) (x1 : Int32) (M : Mem), f5_laysBests_2 fu f x1 M = some R → Wp layM ad X M 2 [(0, .ref (ad 0)), (1, .int x1)] [] := by
  intro f
  induction f with
  | zero => intro x1 M hF; exact absurd hF (by simp [f5_laysBests_2])
  | succ f ih =>
    intro x1 M hF
    rw [f5_laysBests_2] at hF
    refine R_iload_n (pc := 2) h 1 rfl rfl dX5_laysBests_2 ?_
    refine R_iconst (pc := 3) (v := 1) h (by decide) dX5_laysBests_3 ?_
    refine R_aload_n (pc := 4) h 0 rfl rfl dX5_laysBests_4 ?_
    refine R_getI (pc := 5) h flX5_130 lm_0 rfl dX5_laysBests_5 ?_
    refine R_ishl (pc := 8) h dX5_laysBests_8 ?_
    refine R_icmp_ge (pc := 9) (tgt := 102) h dX5_laysBests_9 (by decide) (fun c1 => ?_) (fun c1 => ?_)
    · have hF := itp c1 hF
      cases hF
      exact R_return (pc := 102) h rfl rfl rfl dX5_laysBests_102
    · have hF := ifn c1 hF
      refine R_aload_n (pc := 12) h 0 rfl rfl dX5_laysBests_12 ?_
      refine R_iload_n (pc := 13) h 1 rfl rfl dX5_laysBests_13 ?_
      obtain ⟨r3, hc2, hF⟩ := bd hF
      refine R_callV (pc := 14) (st := []) h [.int x1] cvX5_188 (c5_clash (ad := ad) (z := X.1) hc2) rfl rfl lm_0 (by decide) (by decide) (Nat.le_of_ble_eq_true rfl) dX5_laysBests_14 (st1 := [.int r3]) rfl ?_
      refine R_if_eq (pc := 17) (tgt := 24) h dX5_laysBests_17 (by decide) (fun c4 => ?_) (fun c4 => ?_)
      · have hF := itp c4 hF
        refine R_aload_n (pc := 24) h 0 rfl rfl dX5_laysBests_24 ?_
        refine R_iload_n (pc := 25) h 1 rfl rfl dX5_laysBests_25 ?_
        obtain ⟨r6, hc5, hF⟩ := bd hF
        refine R_callV (pc := 26) (st := []) h [.int x1] cvX5_185 (c5_worthAll (ad := ad) (z := X.1) hc5) rfl rfl lm_0 (by decide) (by decide) (Nat.le_of_ble_eq_true rfl) dX5_laysBests_26 (st1 := [.int r6]) rfl ?_
        exact Wp_sub (nX := 0) (lv' := [(0, .ref (ad 0)), (1, .int x1)]) [0, 1] rfl (w5_laysBests_29 h (hk2 := fun a0 a1 hF => ih a0 a1 hF) (hF := hF))
      · have hF := ifn c4 hF
        refine R_iconst (pc := 20) (v := 0) h (by decide) dX5_laysBests_20 ?_
        refine R_goto (pc := 21) (tgt := 29) h dX5_laysBests_21 (by decide) ?_
        exact Wp_sub (nX := 0) (lv' := [(0, .ref (ad 0)), (1, .int x1)]) [0, 1] rfl (w5_laysBests_29 h (hk2 := fun a0 a1 hF => ih a0 a1 hF) (hF := hF))
theorem w5_laysBests_2 {ad : Nat → Nat} {X : XX} {R : Mem} {fu : Nat}  (h : Cx layM ad X cX5_laysBests RX5 5 5 none (R) none)  {f : Nat} {x1 : Int32} {M : Mem} (hF : f5_laysBests_2 fu f x1 M = some R) : Wp layM ad X M 2 [(0, .ref (ad 0)), (1, .int x1)] [] := w5_laysBestsi_2 h  f _ _ hF
def f5_laysBests (fu : Nat) (M : Mem) : Option (Mem) :=
    (f5_laysBests_2 fu fu (0 : Int32) M)
set_option maxHeartbeats 4000000 in
set_option maxRecDepth 10000 in
theorem w5_laysBests {ad : Nat → Nat} {X : XX} {R : Mem} {fu : Nat} (h : Cx layM ad X cX5_laysBests RX5 5 5 none (R) none) {M : Mem} (hF : f5_laysBests fu M = some R) : Wp layM ad X M 0 [(0, .ref (ad 0))] [] := by
  unfold f5_laysBests at hF
  refine R_iconst (pc := 0) (v := 0) h (by decide) dX5_laysBests_0 ?_
  refine R_istore_n (pc := 1) (lv' := [(1, .int (0 : Int32)), (0, .ref (ad 0))]) h rfl rfl (by decide) rfl dX5_laysBests_1 ?_
  exact Wp_sub (nX := 0) (lv' := [(0, .ref (ad 0)), (1, .int (0 : Int32))]) [1, 0] rfl (w5_laysBests_2 h  (hF := hF))
theorem c5_laysBests {ad : Nat → Nat} {z : ZZ} {R : Mem} {fu : Nat} {M : Mem} (hF : f5_laysBests fu M = some R) : Con layM ad z yX5_laysBests cX5_laysBests 5 none 5 M [.ref (ad 0)] (R) none := con_of (own := RX5) (lv := [(0, .ref (ad 0))]) (by decide +kernel) rfl (Nat.le_of_ble_eq_true rfl) rfl (fun X hz h => w5_laysBests h hF)
def f5_ways_50 (fu : Nat) (k24 : Int32 → Int32 → Int32 → Int32 → Int64 → Int32 → Mem → Option (Mem × Int64)) : Nat → Int32 → Int32 → Int32 → Int32 → Int64 → Int32 → Int64 → Int32 → Mem → Option (Mem × Int64)
  | 0 => fun _ _ _ _ _ _ _ _ _ => none
  | f + 1 => fun x1 x2 x3 x4 x5 x7 x8 x10 M =>
    if (M.1 0 9) ≤ x10 then ((rd M 15 256 (x4 ||| (x3 &&& (x7 ^^^ (-1 : Int32))))).bind fun v2 =>
    if x1 = (-9 : Int32) then (nm (x5 + (x8 * v2.toInt64)) fun v4 =>
    nm (x7 + (1 : Int32)) fun v5 =>
    (k24 x1 x2 x3 x4 v4 v5 M))
    else (if v2 < x1 then (nm (x5 + (x8 * (0 : Int32).toInt64)) fun v7 =>
    nm (x7 + (1 : Int32)) fun v8 =>
    (k24 x1 x2 x3 x4 v7 v8 M))
    else (nm (x5 + (x8 * (1 : Int32).toInt64)) fun v9 =>
    nm (x7 + (1 : Int32)) fun v10 =>
    (k24 x1 x2 x3 x4 v9 v10 M))))
    else ((f5_has x3 x10).bind fun r12 =>
    if r12 = 0 then (nm (x8 * (1 : Int64)) fun v14 =>
    nm (x10 + (1 : Int32)) fun v15 =>
    ((f5_ways_50 fu k24 f) x1 x2 x3 x4 x5 x7 v14 v15 M))
    else ((f5_has x7 x10).bind fun r17 =>
    if r17 = 0 then (nm (x8 * ((12 : Int64) - x2.toInt64)) fun v19 =>
    nm (x10 + (1 : Int32)) fun v20 =>
    ((f5_ways_50 fu k24 f) x1 x2 x3 x4 x5 x7 v19 v20 M))
    else (nm (x8 * x2.toInt64) fun v21 =>
    nm (x10 + (1 : Int32)) fun v22 =>
    ((f5_ways_50 fu k24 f) x1 x2 x3 x4 x5 x7 v21 v22 M))))
set_option maxHeartbeats 4000000 in
set_option maxRecDepth 10000 in
theorem w5_waysi_50 {ad : Nat → Nat} {X : XX} {R : Mem × Int64} {fu : Nat} {k24 : Int32 → Int32 → Int32 → Int32 → Int64 → Int32 → Mem → Option (Mem × Int64)} (h : Cx layM ad X cX5_ways RX5 11 6 (some .long) (R.1) (some (.long R.2))) (hk24 : ∀ (x1 : Int32) (x2 : Int32) (x3 : Int32) (x4 : Int32) (x5 : Int64) (x7 : Int32) (M : Mem), k24 x1 x2 x3 x4 x5 x7 M = some R → Wp layM ad X M 24 [(0, .ref (ad 0)), (1, .int x1), (2, .int x2), (3, .int x3), (4, .int x4), (5, .long x5), (7, .int x7)] []) : ∀ (f : Nat) (x1 : Int32) (x2 : Int32) (x3 : Int32) (x4 : Int32) (x5 : Int64) (x7 : Int32) (x8 : Int64) (x10 : Int32) (M : Mem), f5_ways_50 fu k24 f x1 x2 x3 x4 x5 x7 x8 x10 M = some R → Wp layM ad X M 50 [(0, .ref (ad 0)), (1, .int x1), (2, .int x2), (3, .int x3), (4, .int x4), (5, .long x5), (7, .int x7), (8, .long x8), (10, .int x10)] [] := by
  intro f
  induction f with
  | zero => intro x1 x2 x3 x4 x5 x7 x8 x10 M hF; exact absurd hF (by simp [f5_ways_50])
  | succ f ih =>
    intro x1 x2 x3 x4 x5 x7 x8 x10 M hF
    rw [f5_ways_50] at hF
    refine R_iload (pc := 50) h 8 rfl dX5_ways_50 ?_
    refine R_aload_n (pc := 52) h 0 rfl rfl dX5_ways_52 ?_
    refine R_getI (pc := 53) h flX5_130 lm_0 rfl dX5_ways_53 ?_
    refine R_icmp_ge (pc := 56) (tgt := 104) h dX5_ways_56 (by decide) (fun c1 => ?_) (fun c1 => ?_)
    · have hF := itp c1 hF
      refine R_aload_n (pc := 104) h 0 rfl rfl dX5_ways_104 ?_
      refine R_getR (pc := 105) (q1 := 15) h flX5_56 lm_0 rfl dX5_ways_105 ?_
      refine R_iload (pc := 108) h 4 rfl dX5_ways_108 ?_
      refine R_iload_n (pc := 110) h 3 rfl rfl dX5_ways_110 ?_
      refine R_iload (pc := 111) h 6 rfl dX5_ways_111 ?_
      refine R_iconst (pc := 113) (v := (-1)) h (by decide) dX5_ways_113 ?_
      refine R_ixor (pc := 114) h dX5_ways_114 ?_
      refine R_iand (pc := 115) h dX5_ways_115 ?_
      refine R_ior (pc := 116) h dX5_ways_116 ?_
      obtain ⟨v2, hv2, hF⟩ := bd hF
      refine R_iald (pc := 117) h hv2 lm_15 dX5_ways_117 ?_
      refine R_istore (pc := 118) (lv' := [(10, .int v2), (0, .ref (ad 0)), (1, .int x1), (2, .int x2), (3, .int x3), (4, .int x4), (5, .long x5), (7, .int x7), (8, .long x8)]) h rfl (by decide) rfl dX5_ways_118 ?_
      refine R_lload (pc := 120) h 6 rfl dX5_ways_120 ?_
      refine R_lload (pc := 122) h 8 rfl dX5_ways_122 ?_
      refine R_iload_n (pc := 124) h 2 rfl rfl dX5_ways_124 ?_
      refine R_bipush (pc := 125) (v := (-9)) h (by decide) dX5_ways_125 ?_
      refine R_icmp_ne (pc := 127) (tgt := 135) h dX5_ways_127 (by decide) (fun c3 => ?_) (fun c3 => ?_)
      · have hF := ifn c3 hF
        refine R_iload (pc := 135) h 0 rfl dX5_ways_135 ?_
        refine R_iload_n (pc := 137) h 2 rfl rfl dX5_ways_137 ?_
        refine R_icmp_lt (pc := 138) (tgt := 145) h dX5_ways_138 (by decide) (fun c6 => ?_) (fun c6 => ?_)
        · have hF := itp c6 hF
          refine R_iconst (pc := 145) (v := 0) h (by decide) dX5_ways_145 ?_
          refine R_i2l (pc := 146) h dX5_ways_146 ?_
          refine R_lmul (pc := 147) h dX5_ways_147 ?_
          refine R_ladd (pc := 148) h dX5_ways_148 ?_
          obtain ⟨v7, hv7, hF⟩ := nm_e2 hF
          refine R_lstore (pc := 149) (lv' := [(5, .long v7), (10, .int v2), (0, .ref (ad 0)), (1, .int x1), (2, .int x2), (3, .int x3), (4, .int x4), (7, .int x7), (8, .long x8)]) h hv7 (by decide) rfl dX5_ways_149 ?_
          obtain ⟨v8, hv8, hF⟩ := nm_e2 hF
          refine R_iinc (pc := 151) (lv' := [(7, .int v8), (5, .long v7), (10, .int v2), (0, .ref (ad 0)), (1, .int x1), (2, .int x2), (3, .int x3), (4, .int x4), (8, .long x8)]) h 7 rfl (by decide) hv8 (by decide) rfl dX5_ways_151 ?_
          refine R_goto (pc := 154) (tgt := 24) h dX5_ways_154 (by decide) ?_
          exact Wp_sub (nX := 0) (lv' := [(0, .ref (ad 0)), (1, .int x1), (2, .int x2), (3, .int x3), (4, .int x4), (5, .long v7), (7, .int v8)]) [3, 4, 5, 6, 7, 1, 0] rfl (hk24 _ _ _ _ _ _ _ hF)
        · have hF := ifn c6 hF
          refine R_iconst (pc := 141) (v := 1) h (by decide) dX5_ways_141 ?_
          refine R_goto (pc := 142) (tgt := 146) h dX5_ways_142 (by decide) ?_
          refine R_i2l (pc := 146) h dX5_ways_146 ?_
          refine R_lmul (pc := 147) h dX5_ways_147 ?_
          refine R_ladd (pc := 148) h dX5_ways_148 ?_
          obtain ⟨v9, hv9, hF⟩ := nm_e2 hF
          refine R_lstore (pc := 149) (lv' := [(5, .long v9), (10, .int v2), (0, .ref (ad 0)), (1, .int x1), (2, .int x2), (3, .int x3), (4, .int x4), (7, .int x7), (8, .long x8)]) h hv9 (by decide) rfl dX5_ways_149 ?_
          obtain ⟨v10, hv10, hF⟩ := nm_e2 hF
          refine R_iinc (pc := 151) (lv' := [(7, .int v10), (5, .long v9), (10, .int v2), (0, .ref (ad 0)), (1, .int x1), (2, .int x2), (3, .int x3), (4, .int x4), (8, .long x8)]) h 7 rfl (by decide) hv10 (by decide) rfl dX5_ways_151 ?_
          refine R_goto (pc := 154) (tgt := 24) h dX5_ways_154 (by decide) ?_
          exact Wp_sub (nX := 0) (lv' := [(0, .ref (ad 0)), (1, .int x1), (2, .int x2), (3, .int x3), (4, .int x4), (5, .long v9), (7, .int v10)]) [3, 4, 5, 6, 7, 1, 0] rfl (hk24 _ _ _ _ _ _ _ hF)
      · have hF := itp c3 hF
        refine R_iload (pc := 130) h 0 rfl dX5_ways_130 ?_
        refine R_goto (pc := 132) (tgt := 146) h dX5_ways_132 (by decide) ?_
        refine R_i2l (pc := 146) h dX5_ways_146 ?_
        refine R_lmul (pc := 147) h dX5_ways_147 ?_
        refine R_ladd (pc := 148) h dX5_ways_148 ?_
        obtain ⟨v4, hv4, hF⟩ := nm_e2 hF
        refine R_lstore (pc := 149) (lv' := [(5, .long v4), (10, .int v2), (0, .ref (ad 0)), (1, .int x1), (2, .int x2), (3, .int x3), (4, .int x4), (7, .int x7), (8, .long x8)]) h hv4 (by decide) rfl dX5_ways_149 ?_
        obtain ⟨v5, hv5, hF⟩ := nm_e2 hF
        refine R_iinc (pc := 151) (lv' := [(7, .int v5), (5, .long v4), (10, .int v2), (0, .ref (ad 0)), (1, .int x1), (2, .int x2), (3, .int x3), (4, .int x4), (8, .long x8)]) h 7 rfl (by decide) hv5 (by decide) rfl dX5_ways_151 ?_
        refine R_goto (pc := 154) (tgt := 24) h dX5_ways_154 (by decide) ?_
        exact Wp_sub (nX := 0) (lv' := [(0, .ref (ad 0)), (1, .int x1), (2, .int x2), (3, .int x3), (4, .int x4), (5, .long v4), (7, .int v5)]) [3, 4, 5, 6, 7, 1, 0] rfl (hk24 _ _ _ _ _ _ _ hF)
    · have hF := ifn c1 hF
      refine R_lload (pc := 59) h 7 rfl dX5_ways_59 ?_
      refine R_iload_n (pc := 61) h 3 rfl rfl dX5_ways_61 ?_
      refine R_iload (pc := 62) h 8 rfl dX5_ways_62 ?_
      obtain ⟨r12, hc11, hF⟩ := bd hF
      refine R_callS (pc := 64) (st := [.long x8]) h [.int x3, .int x10] csX5_139 (c5_has (ad := ad) (z := X.1) (M := M) hc11) rfl rfl (by decide) (by decide) (Nat.le_of_ble_eq_true rfl) dX5_ways_64 (st1 := [.int r12, .long x8]) rfl ?_
      refine R_if_ne (pc := 67) (tgt := 74) h dX5_ways_67 (by decide) (fun c13 => ?_) (fun c13 => ?_)
      · have hF := ifn c13 hF
        refine R_iload (pc := 74) h 6 rfl dX5_ways_74 ?_
        refine R_iload (pc := 76) h 8 rfl dX5_ways_76 ?_
        obtain ⟨r17, hc16, hF⟩ := bd hF
        refine R_callS (pc := 78) (st := [.long x8]) h [.int x7, .int x10] csX5_139 (c5_has (ad := ad) (z := X.1) (M := M) hc16) rfl rfl (by decide) (by decide) (Nat.le_of_ble_eq_true rfl) dX5_ways_78 (st1 := [.int r17, .long x8]) rfl ?_
        refine R_if_eq (pc := 81) (tgt := 89) h dX5_ways_81 (by decide) (fun c18 => ?_) (fun c18 => ?_)
        · have hF := itp c18 hF
          refine R_ldc2 (pc := 89) h klX5_230 dX5_ways_89 ?_
          refine R_iload_n (pc := 92) h 2 rfl rfl dX5_ways_92 ?_
          refine R_i2l (pc := 93) h dX5_ways_93 ?_
          refine R_lsub (pc := 94) h dX5_ways_94 ?_
          refine R_lmul (pc := 95) h dX5_ways_95 ?_
          obtain ⟨v19, hv19, hF⟩ := nm_e2 hF
          refine R_lstore (pc := 96) (lv' := [(8, .long v19), (0, .ref (ad 0)), (1, .int x1), (2, .int x2), (3, .int x3), (4, .int x4), (5, .long x5), (7, .int x7), (10, .int x10)]) h hv19 (by decide) rfl dX5_ways_96 ?_
          obtain ⟨v20, hv20, hF⟩ := nm_e2 hF
          refine R_iinc (pc := 98) (lv' := [(10, .int v20), (8, .long v19), (0, .ref (ad 0)), (1, .int x1), (2, .int x2), (3, .int x3), (4, .int x4), (5, .long x5), (7, .int x7)]) h 8 rfl (by decide) hv20 (by decide) rfl dX5_ways_98 ?_
          refine R_goto (pc := 101) (tgt := 50) h dX5_ways_101 (by decide) ?_
          exact Wp_sub (nX := 0) (lv' := [(0, .ref (ad 0)), (1, .int x1), (2, .int x2), (3, .int x3), (4, .int x4), (5, .long x5), (7, .int x7), (8, .long v19), (10, .int v20)]) [2, 3, 4, 5, 6, 7, 8, 1, 0] rfl (ih _ _ _ _ _ _ _ _ _ hF)
        · have hF := ifn c18 hF
          refine R_iload_n (pc := 84) h 2 rfl rfl dX5_ways_84 ?_
          refine R_i2l (pc := 85) h dX5_ways_85 ?_
          refine R_goto (pc := 86) (tgt := 95) h dX5_ways_86 (by decide) ?_
          refine R_lmul (pc := 95) h dX5_ways_95 ?_
          obtain ⟨v21, hv21, hF⟩ := nm_e2 hF
          refine R_lstore (pc := 96) (lv' := [(8, .long v21), (0, .ref (ad 0)), (1, .int x1), (2, .int x2), (3, .int x3), (4, .int x4), (5, .long x5), (7, .int x7), (10, .int x10)]) h hv21 (by decide) rfl dX5_ways_96 ?_
          obtain ⟨v22, hv22, hF⟩ := nm_e2 hF
          refine R_iinc (pc := 98) (lv' := [(10, .int v22), (8, .long v21), (0, .ref (ad 0)), (1, .int x1), (2, .int x2), (3, .int x3), (4, .int x4), (5, .long x5), (7, .int x7)]) h 8 rfl (by decide) hv22 (by decide) rfl dX5_ways_98 ?_
          refine R_goto (pc := 101) (tgt := 50) h dX5_ways_101 (by decide) ?_
          exact Wp_sub (nX := 0) (lv' := [(0, .ref (ad 0)), (1, .int x1), (2, .int x2), (3, .int x3), (4, .int x4), (5, .long x5), (7, .int x7), (8, .long v21), (10, .int v22)]) [2, 3, 4, 5, 6, 7, 8, 1, 0] rfl (ih _ _ _ _ _ _ _ _ _ hF)
      · have hF := itp c13 hF
        refine R_lconst (pc := 70) (v := 1) h (by decide) dX5_ways_70 ?_
        refine R_goto (pc := 71) (tgt := 95) h dX5_ways_71 (by decide) ?_
        refine R_lmul (pc := 95) h dX5_ways_95 ?_
        obtain ⟨v14, hv14, hF⟩ := nm_e2 hF
        refine R_lstore (pc := 96) (lv' := [(8, .long v14), (0, .ref (ad 0)), (1, .int x1), (2, .int x2), (3, .int x3), (4, .int x4), (5, .long x5), (7, .int x7), (10, .int x10)]) h hv14 (by decide) rfl dX5_ways_96 ?_
        obtain ⟨v15, hv15, hF⟩ := nm_e2 hF
        refine R_iinc (pc := 98) (lv' := [(10, .int v15), (8, .long v14), (0, .ref (ad 0)), (1, .int x1), (2, .int x2), (3, .int x3), (4, .int x4), (5, .long x5), (7, .int x7)]) h 8 rfl (by decide) hv15 (by decide) rfl dX5_ways_98 ?_
        refine R_goto (pc := 101) (tgt := 50) h dX5_ways_101 (by decide) ?_
        exact Wp_sub (nX := 0) (lv' := [(0, .ref (ad 0)), (1, .int x1), (2, .int x2), (3, .int x3), (4, .int x4), (5, .long x5), (7, .int x7), (8, .long v14), (10, .int v15)]) [2, 3, 4, 5, 6, 7, 8, 1, 0] rfl (ih _ _ _ _ _ _ _ _ _ hF)
theorem w5_ways_50 {ad : Nat → Nat} {X : XX} {R : Mem × Int64} {fu : Nat} {k24 : Int32 → Int32 → Int32 → Int32 → Int64 → Int32 → Mem → Option (Mem × Int64)} (h : Cx layM ad X cX5_ways RX5 11 6 (some .long) (R.1) (some (.long R.2))) (hk24 : ∀ (x1 : Int32) (x2 : Int32) (x3 : Int32) (x4 : Int32) (x5 : Int64) (x7 : Int32) (M : Mem), k24 x1 x2 x3 x4 x5 x7 M = some R → Wp layM ad X M 24 [(0, .ref (ad 0)), (1, .int x1), (2, .int x2), (3, .int x3), (4, .int x4), (5, .long x5), (7, .int x7)] []) {f : Nat} {x1 : Int32} {x2 : Int32} {x3 : Int32} {x4 : Int32} {x5 : Int64} {x7 : Int32} {x8 : Int64} {x10 : Int32} {M : Mem} (hF : f5_ways_50 fu k24 f x1 x2 x3 x4 x5 x7 x8 x10 M = some R) : Wp layM ad X M 50 [(0, .ref (ad 0)), (1, .int x1), (2, .int x2), (3, .int x3), (4, .int x4), (5, .long x5), (7, .int x7), (8, .long x8), (10, .int x10)] [] := w5_waysi_50 h hk24 f _ _ _ _ _ _ _ _ _ hF
def f5_ways_24 (fu : Nat) : Nat → Int32 → Int32 → Int32 → Int32 → Int64 → Int32 → Mem → Option (Mem × Int64)
  | 0 => fun _ _ _ _ _ _ _ => none
  | f + 1 => fun x1 x2 x3 x4 x5 x7 M =>
    if ((1 : Int32) <<< ((M.1 0 9) &&& 31)) ≤ x7 then ((some (M, x5)))
    else (if (x7 &&& (x3 ^^^ (-1 : Int32))) = 0 then ((f5_ways_50 fu (f5_ways_24 fu f) fu x1 x2 x3 x4 x5 x7 (1 : Int64) (0 : Int32) M))
    else (nm (x7 + (1 : Int32)) fun v3 =>
    ((f5_ways_24 fu f) x1 x2 x3 x4 x5 v3 M)))
set_option maxHeartbeats 4000000 in
set_option maxRecDepth 10000 in
theorem w5_waysi_24 {ad : Nat → Nat} {X : XX} {R : Mem × Int64} {fu : Nat}  (h : Cx layM ad X cX5_ways RX5 11 6 (some .long) (R.1) (some (.long R.2)))  : ∀ (f : Nat) (x1 : Int32) (x2 : Int32) (x3 : Int32) (x4 : Int32) (x5 : Int64) (x7 : Int32) (M : Mem), f5_ways_24 fu f x1 x2 x3 x4 x5 x7 M = some R → Wp layM ad X M 24 [(0, .ref (ad 0)), (1, .int x1), (2, .int x2), (3, .int x3), (4, .int x4), (5, .long x5), (7, .int x7)] [] := by
  intro f
  induction f with
  | zero => intro x1 x2 x3 x4 x5 x7 M hF; exact absurd hF (by simp [f5_ways_24])
  | succ f ih =>
    intro x1 x2 x3 x4 x5 x7 M hF
    rw [f5_ways_24] at hF
    refine R_iload (pc := 24) h 6 rfl dX5_ways_24 ?_
    refine R_iconst (pc := 26) (v := 1) h (by decide) dX5_ways_26 ?_
    refine R_aload_n (pc := 27) h 0 rfl rfl dX5_ways_27 ?_
    refine R_getI (pc := 28) h flX5_130 lm_0 rfl dX5_ways_28 ?_
    refine R_ishl (pc := 31) h dX5_ways_31 ?_
    refine R_icmp_ge (pc := 32) (tgt := 157) h dX5_ways_32 (by decide) (fun c1 => ?_) (fun c1 => ?_)
    · have hF := itp c1 hF
      refine R_lload (pc := 157) h 5 rfl dX5_ways_157 ?_
      cases hF
      exact R_lreturn (pc := 159) h rfl rfl rfl dX5_ways_159
    · have hF := ifn c1 hF
      refine R_iload (pc := 35) h 6 rfl dX5_ways_35 ?_
      refine R_iload_n (pc := 37) h 3 rfl rfl dX5_ways_37 ?_
      refine R_iconst (pc := 38) (v := (-1)) h (by decide) dX5_ways_38 ?_
      refine R_ixor (pc := 39) h dX5_ways_39 ?_
      refine R_iand (pc := 40) h dX5_ways_40 ?_
      refine R_if_ne (pc := 41) (tgt := 151) h dX5_ways_41 (by decide) (fun c2 => ?_) (fun c2 => ?_)
      · have hF := ifn c2 hF
        obtain ⟨v3, hv3, hF⟩ := nm_e2 hF
        refine R_iinc (pc := 151) (lv' := [(7, .int v3), (0, .ref (ad 0)), (1, .int x1), (2, .int x2), (3, .int x3), (4, .int x4), (5, .long x5)]) h 6 rfl (by decide) hv3 (by decide) rfl dX5_ways_151 ?_
        refine R_goto (pc := 154) (tgt := 24) h dX5_ways_154 (by decide) ?_
        exact Wp_sub (nX := 0) (lv' := [(0, .ref (ad 0)), (1, .int x1), (2, .int x2), (3, .int x3), (4, .int x4), (5, .long x5), (7, .int v3)]) [1, 2, 3, 4, 5, 6, 0] rfl (ih _ _ _ _ _ _ _ hF)
      · have hF := itp c2 hF
        refine R_lconst (pc := 44) (v := 1) h (by decide) dX5_ways_44 ?_
        refine R_lstore (pc := 45) (lv' := [(8, .long (1 : Int64)), (0, .ref (ad 0)), (1, .int x1), (2, .int x2), (3, .int x3), (4, .int x4), (5, .long x5), (7, .int x7)]) h rfl (by decide) rfl dX5_ways_45 ?_
        refine R_iconst (pc := 47) (v := 0) h (by decide) dX5_ways_47 ?_
        refine R_istore (pc := 48) (lv' := [(10, .int (0 : Int32)), (8, .long (1 : Int64)), (0, .ref (ad 0)), (1, .int x1), (2, .int x2), (3, .int x3), (4, .int x4), (5, .long x5), (7, .int x7)]) h rfl (by decide) rfl dX5_ways_48 ?_
        exact Wp_sub (nX := 0) (lv' := [(0, .ref (ad 0)), (1, .int x1), (2, .int x2), (3, .int x3), (4, .int x4), (5, .long x5), (7, .int x7), (8, .long (1 : Int64)), (10, .int (0 : Int32))]) [2, 3, 4, 5, 6, 7, 8, 1, 0] rfl (w5_ways_50 h (hk24 := fun a0 a1 a2 a3 a4 a5 a6 hF => ih a0 a1 a2 a3 a4 a5 a6 hF) (hF := hF))
theorem w5_ways_24 {ad : Nat → Nat} {X : XX} {R : Mem × Int64} {fu : Nat}  (h : Cx layM ad X cX5_ways RX5 11 6 (some .long) (R.1) (some (.long R.2)))  {f : Nat} {x1 : Int32} {x2 : Int32} {x3 : Int32} {x4 : Int32} {x5 : Int64} {x7 : Int32} {M : Mem} (hF : f5_ways_24 fu f x1 x2 x3 x4 x5 x7 M = some R) : Wp layM ad X M 24 [(0, .ref (ad 0)), (1, .int x1), (2, .int x2), (3, .int x3), (4, .int x4), (5, .long x5), (7, .int x7)] [] := w5_waysi_24 h  f _ _ _ _ _ _ _ hF
def f5_ways (fu : Nat) (x1 : Int32) (x2 : Int32) (M : Mem) : Option (Mem × Int64) :=
    (f5_laysBests fu M).bind fun M2 =>
    (f5_those M2 fu (-9 : Int32)).bind fun r4 =>
    (f5_those M2 fu (-1 : Int32)).bind fun r6 =>
    (f5_ways_24 fu fu x1 x2 r4 r6 (0 : Int64) (0 : Int32) M2)
set_option maxHeartbeats 4000000 in
set_option maxRecDepth 10000 in
theorem w5_ways {ad : Nat → Nat} {X : XX} {R : Mem × Int64} {fu : Nat} (h : Cx layM ad X cX5_ways RX5 11 6 (some .long) (R.1) (some (.long R.2))) {x1 : Int32} {x2 : Int32} {M : Mem} (hF : f5_ways fu x1 x2 M = some R) : Wp layM ad X M 0 [(0, .ref (ad 0)), (1, .int x1), (2, .int x2)] [] := by
  unfold f5_ways at hF
  refine R_aload_n (pc := 0) h 0 rfl rfl dX5_ways_0 ?_
  obtain ⟨M2, hc1, hF⟩ := bd hF
  refine R_callV (pc := 1) (st := []) h [] cvX5_227 (c5_laysBests (ad := ad) (z := X.1) hc1) rfl rfl lm_0 (by decide) (by decide) (Nat.le_of_ble_eq_true rfl) dX5_ways_1 (st1 := []) rfl ?_
  refine R_aload_n (pc := 4) h 0 rfl rfl dX5_ways_4 ?_
  refine R_bipush (pc := 5) (v := (-9)) h (by decide) dX5_ways_5 ?_
  obtain ⟨r4, hc3, hF⟩ := bd hF
  refine R_callV (pc := 7) (st := []) h [.int (-9 : Int32)] cvX5_170 (c5_those (ad := ad) (z := X.1) hc3) rfl rfl lm_0 (by decide) (by decide) (Nat.le_of_ble_eq_true rfl) dX5_ways_7 (st1 := [.int r4]) rfl ?_
  refine R_istore_n (pc := 10) (lv' := [(3, .int r4), (0, .ref (ad 0)), (1, .int x1), (2, .int x2)]) h rfl rfl (by decide) rfl dX5_ways_10 ?_
  refine R_aload_n (pc := 11) h 1 rfl rfl dX5_ways_11 ?_
  refine R_iconst (pc := 12) (v := (-1)) h (by decide) dX5_ways_12 ?_
  obtain ⟨r6, hc5, hF⟩ := bd hF
  refine R_callV (pc := 13) (st := []) h [.int (-1 : Int32)] cvX5_170 (c5_those (ad := ad) (z := X.1) hc5) rfl rfl lm_0 (by decide) (by decide) (Nat.le_of_ble_eq_true rfl) dX5_ways_13 (st1 := [.int r6]) rfl ?_
  refine R_istore (pc := 16) (lv' := [(4, .int r6), (3, .int r4), (0, .ref (ad 0)), (1, .int x1), (2, .int x2)]) h rfl (by decide) rfl dX5_ways_16 ?_
  refine R_lconst (pc := 18) (v := 0) h (by decide) dX5_ways_18 ?_
  refine R_lstore (pc := 19) (lv' := [(5, .long (0 : Int64)), (4, .int r6), (3, .int r4), (0, .ref (ad 0)), (1, .int x1), (2, .int x2)]) h rfl (by decide) rfl dX5_ways_19 ?_
  refine R_iconst (pc := 21) (v := 0) h (by decide) dX5_ways_21 ?_
  refine R_istore (pc := 22) (lv' := [(7, .int (0 : Int32)), (5, .long (0 : Int64)), (4, .int r6), (3, .int r4), (0, .ref (ad 0)), (1, .int x1), (2, .int x2)]) h rfl (by decide) rfl dX5_ways_22 ?_
  exact Wp_sub (nX := 0) (lv' := [(0, .ref (ad 0)), (1, .int x1), (2, .int x2), (3, .int r4), (4, .int r6), (5, .long (0 : Int64)), (7, .int (0 : Int32))]) [4, 5, 6, 3, 2, 1, 0] rfl (w5_ways_24 h  (hF := hF))
theorem c5_ways {ad : Nat → Nat} {z : ZZ} {R : Mem × Int64} {fu : Nat} {x1 : Int32} {x2 : Int32} {M : Mem} (hF : f5_ways fu x1 x2 M = some R) : Con layM ad z yX5_ways cX5_ways 11 (some .long) 6 M [.ref (ad 0), .int x1, .int x2] (R.1) (some (.long R.2)) := con_of (own := RX5) (lv := [(0, .ref (ad 0)), (1, .int x1), (2, .int x2)]) (by decide +kernel) rfl (Nat.le_of_ble_eq_true rfl) rfl (fun X hz h => w5_ways h hF)
def f5_allWays_12 (M : Mem) (fu : Nat) : Nat → Int64 → Int32 → Option (Int64)
  | 0 => fun _ _ => none
  | f + 1 => fun x1 x3 =>
    if x3 ≤ 0 then ((some x1))
    else (nm (x1 * (12 : Int64)) fun v2 =>
    nm (x3 + (-1 : Int32)) fun v3 =>
    ((f5_allWays_12 M fu f) v2 v3))
set_option maxHeartbeats 4000000 in
set_option maxRecDepth 10000 in
theorem w5_allWaysi_12 {ad : Nat → Nat} {X : XX} {R : Int64} {M : Mem} {fu : Nat}  (h : Cx layM ad X cX5_allWays RX5 4 3 (some .long) M (some (.long R)))  : ∀ (f : Nat) (x1 : Int64) (x3 : Int32), f5_allWays_12 M fu f x1 x3 = some R → Wp layM ad X M 12 [(1, .long x1), (3, .int x3)] [] := by
  intro f
  induction f with
  | zero => intro x1 x3 hF; exact absurd hF (by simp [f5_allWays_12])
  | succ f ih =>
    intro x1 x3 hF
    rw [f5_allWays_12] at hF
    refine R_iload_n (pc := 12) h 1 rfl rfl dX5_allWays_12 ?_
    refine R_if_le (pc := 13) (tgt := 28) h dX5_allWays_13 (by decide) (fun c1 => ?_) (fun c1 => ?_)
    · have hF := itp c1 hF
      refine R_lload_n (pc := 28) h 0 rfl rfl dX5_allWays_28 ?_
      cases hF
      exact R_lreturn (pc := 29) h rfl rfl rfl dX5_allWays_29
    · have hF := ifn c1 hF
      refine R_lload_n (pc := 16) h 0 rfl rfl dX5_allWays_16 ?_
      refine R_ldc2 (pc := 17) h klX5_230 dX5_allWays_17 ?_
      refine R_lmul (pc := 20) h dX5_allWays_20 ?_
      obtain ⟨v2, hv2, hF⟩ := nm_e2 hF
      refine R_lstore_n (pc := 21) (lv' := [(1, .long v2), (3, .int x3)]) h hv2 rfl (by decide) rfl dX5_allWays_21 ?_
      obtain ⟨v3, hv3, hF⟩ := nm_e2 hF
      refine R_iinc (pc := 22) (lv' := [(3, .int v3), (1, .long v2)]) h 1 rfl (by decide) hv3 (by decide) rfl dX5_allWays_22 ?_
      refine R_goto (pc := 25) (tgt := 12) h dX5_allWays_25 (by decide) ?_
      exact Wp_sub (nX := 0) (lv' := [(1, .long v2), (3, .int v3)]) [1, 0] rfl (ih _ _ hF)
theorem w5_allWays_12 {ad : Nat → Nat} {X : XX} {R : Int64} {M : Mem} {fu : Nat}  (h : Cx layM ad X cX5_allWays RX5 4 3 (some .long) M (some (.long R)))  {f : Nat} {x1 : Int64} {x3 : Int32} (hF : f5_allWays_12 M fu f x1 x3 = some R) : Wp layM ad X M 12 [(1, .long x1), (3, .int x3)] [] := w5_allWaysi_12 h  f _ _ hF
def f5_allWays (M : Mem) (fu : Nat) : Option (Int64) :=
    (f5_those M fu (-9 : Int32)).bind fun r2 =>
    (f5_bits fu r2).bind fun r4 =>
    (f5_allWays_12 M fu fu (1 : Int64) r4)
set_option maxHeartbeats 4000000 in
set_option maxRecDepth 10000 in
theorem w5_allWays {ad : Nat → Nat} {X : XX} {R : Int64} {M : Mem} {fu : Nat} (h : Cx layM ad X cX5_allWays RX5 4 3 (some .long) M (some (.long R)))  (hF : f5_allWays M fu = some R) : Wp layM ad X M 0 [(0, .ref (ad 0))] [] := by
  unfold f5_allWays at hF
  refine R_lconst (pc := 0) (v := 1) h (by decide) dX5_allWays_0 ?_
  refine R_lstore_n (pc := 1) (lv' := [(1, .long (1 : Int64)), (0, .ref (ad 0))]) h rfl rfl (by decide) rfl dX5_allWays_1 ?_
  refine R_aload_n (pc := 2) h 1 rfl rfl dX5_allWays_2 ?_
  refine R_bipush (pc := 3) (v := (-9)) h (by decide) dX5_allWays_3 ?_
  obtain ⟨r2, hc1, hF⟩ := bd hF
  refine R_callV (pc := 5) (st := []) h [.int (-9 : Int32)] cvX5_170 (c5_those (ad := ad) (z := X.1) hc1) rfl rfl lm_0 (by decide) (by decide) (Nat.le_of_ble_eq_true rfl) dX5_allWays_5 (st1 := [.int r2]) rfl ?_
  obtain ⟨r4, hc3, hF⟩ := bd hF
  refine R_callS (pc := 8) (st := []) h [.int r2] csX5_173 (c5_bits (ad := ad) (z := X.1) (M := M) hc3) rfl rfl (by decide) (by decide) (Nat.le_of_ble_eq_true rfl) dX5_allWays_8 (st1 := [.int r4]) rfl ?_
  refine R_istore_n (pc := 11) (lv' := [(3, .int r4), (1, .long (1 : Int64)), (0, .ref (ad 0))]) h rfl rfl (by decide) rfl dX5_allWays_11 ?_
  exact Wp_sub (nX := 0) (lv' := [(1, .long (1 : Int64)), (3, .int r4)]) [1, 0] rfl (w5_allWays_12 h  (hF := hF))
theorem c5_allWays {ad : Nat → Nat} {z : ZZ} {R : Int64} {M : Mem} {fu : Nat}  (hF : f5_allWays M fu = some R) : Con layM ad z yX5_allWays cX5_allWays 4 (some .long) 3 M [.ref (ad 0)] (M) (some (.long R)) := con_of (own := RX5) (lv := [(0, .ref (ad 0))]) (by decide +kernel) rfl (Nat.le_of_ble_eq_true rfl) rfl (fun X hz h => w5_allWays h hF)
def f5_fraction_6 (fu : Nat) : Nat → Int64 → Int64 → Int64 → Int64 → Mem → Option (Mem × Int32)
  | 0 => fun _ _ _ _ _ => none
  | f + 1 => fun x1 x3 x5 x7 M =>
    if (lg_cmp x7 (0 : Int64)) = 0 then ((dvL x1 x5).bind fun v2 =>
    nm (sL M 0 5 v2) fun M3 =>
    (dvL x3 x5).bind fun v4 =>
    nm (sL M3 0 6 v4) fun M5 =>
    (some (M5, (1 : Int32))))
    else ((rmLo x5 x7).bind fun v6 =>
    ((f5_fraction_6 fu f) x1 x3 x7 v6 M))
set_option maxHeartbeats 4000000 in
set_option maxRecDepth 10000 in
theorem w5_fractioni_6 {ad : Nat → Nat} {X : XX} {R : Mem × Int32} {fu : Nat}  (h : Cx layM ad X cX5_fraction RX5 11 1 (some .int) (R.1) (some (.int R.2)))  : ∀ (f : Nat) (x1 : Int64) (x3 : Int64) (x5 : Int64) (x7 : Int64) (M : Mem), f5_fraction_6 fu f x1 x3 x5 x7 M = some R → Wp layM ad X M 6 [(0, .ref (ad 0)), (1, .long x1), (3, .long x3), (5, .long x5), (7, .long x7)] [] := by
  intro f
  induction f with
  | zero => intro x1 x3 x5 x7 M hF; exact absurd hF (by simp [f5_fraction_6])
  | succ f ih =>
    intro x1 x3 x5 x7 M hF
    rw [f5_fraction_6] at hF
    refine R_lload (pc := 6) h 4 rfl dX5_fraction_6 ?_
    refine R_lconst (pc := 8) (v := 0) h (by decide) dX5_fraction_8 ?_
    refine R_lcmp (pc := 9) h dX5_fraction_9 ?_
    refine R_if_eq (pc := 10) (tgt := 31) h dX5_fraction_10 (by decide) (fun c1 => ?_) (fun c1 => ?_)
    · have hF := itp c1 hF
      refine R_aload_n (pc := 31) h 0 rfl rfl dX5_fraction_31 ?_
      refine R_lload_n (pc := 32) h 1 rfl rfl dX5_fraction_32 ?_
      refine R_lload (pc := 33) h 3 rfl dX5_fraction_33 ?_
      obtain ⟨v2, hv2, hF⟩ := bd hF
      refine R_ldiv (pc := 35) h hv2 dX5_fraction_35 ?_
      obtain ⟨M3, hM3, hF⟩ := nm_e2 hF
      refine R_putL (pc := 36) h hM3 fpX5_224 lm_0 rfl dX5_fraction_36 ?_
      refine R_aload_n (pc := 39) h 0 rfl rfl dX5_fraction_39 ?_
      refine R_lload_n (pc := 40) h 2 rfl rfl dX5_fraction_40 ?_
      refine R_lload (pc := 41) h 3 rfl dX5_fraction_41 ?_
      obtain ⟨v4, hv4, hF⟩ := bd hF
      refine R_ldiv (pc := 43) h hv4 dX5_fraction_43 ?_
      obtain ⟨M5, hM5, hF⟩ := nm_e2 hF
      refine R_putL (pc := 44) h hM5 fpX5_22 lm_0 rfl dX5_fraction_44 ?_
      refine R_iconst (pc := 47) (v := 1) h (by decide) dX5_fraction_47 ?_
      cases hF
      exact R_ireturn (pc := 48) h rfl rfl rfl dX5_fraction_48
    · have hF := ifn c1 hF
      refine R_lload (pc := 13) h 3 rfl dX5_fraction_13 ?_
      refine R_lload (pc := 15) h 4 rfl dX5_fraction_15 ?_
      obtain ⟨v6, hv6, hF⟩ := bd hF
      refine R_lrem (pc := 17) h hv6 dX5_fraction_17 ?_
      refine R_lstore (pc := 18) (lv' := [(9, .long v6), (0, .ref (ad 0)), (1, .long x1), (3, .long x3), (5, .long x5), (7, .long x7)]) h rfl (by decide) rfl dX5_fraction_18 ?_
      refine R_lload (pc := 20) h 5 rfl dX5_fraction_20 ?_
      refine R_lstore (pc := 22) (lv' := [(5, .long x7), (9, .long v6), (0, .ref (ad 0)), (1, .long x1), (3, .long x3), (7, .long x7)]) h rfl (by decide) rfl dX5_fraction_22 ?_
      refine R_lload (pc := 24) h 1 rfl dX5_fraction_24 ?_
      refine R_lstore (pc := 26) (lv' := [(7, .long v6), (5, .long x7), (9, .long v6), (0, .ref (ad 0)), (1, .long x1), (3, .long x3)]) h rfl (by decide) rfl dX5_fraction_26 ?_
      refine R_goto (pc := 28) (tgt := 6) h dX5_fraction_28 (by decide) ?_
      exact Wp_sub (nX := 0) (lv' := [(0, .ref (ad 0)), (1, .long x1), (3, .long x3), (5, .long x7), (7, .long v6)]) [3, 4, 5, 1, 0] rfl (ih _ _ _ _ _ hF)
theorem w5_fraction_6 {ad : Nat → Nat} {X : XX} {R : Mem × Int32} {fu : Nat}  (h : Cx layM ad X cX5_fraction RX5 11 1 (some .int) (R.1) (some (.int R.2)))  {f : Nat} {x1 : Int64} {x3 : Int64} {x5 : Int64} {x7 : Int64} {M : Mem} (hF : f5_fraction_6 fu f x1 x3 x5 x7 M = some R) : Wp layM ad X M 6 [(0, .ref (ad 0)), (1, .long x1), (3, .long x3), (5, .long x5), (7, .long x7)] [] := w5_fractioni_6 h  f _ _ _ _ _ hF
def f5_fraction (fu : Nat) (x1 : Int64) (x3 : Int64) (M : Mem) : Option (Mem × Int32) :=
    (f5_fraction_6 fu fu x1 x3 x1 x3 M)
set_option maxHeartbeats 4000000 in
set_option maxRecDepth 10000 in
theorem w5_fraction {ad : Nat → Nat} {X : XX} {R : Mem × Int32} {fu : Nat} (h : Cx layM ad X cX5_fraction RX5 11 1 (some .int) (R.1) (some (.int R.2))) {x1 : Int64} {x3 : Int64} {M : Mem} (hF : f5_fraction fu x1 x3 M = some R) : Wp layM ad X M 0 [(0, .ref (ad 0)), (1, .long x1), (3, .long x3)] [] := by
  unfold f5_fraction at hF
  refine R_lload_n (pc := 0) h 1 rfl rfl dX5_fraction_0 ?_
  refine R_lstore (pc := 1) (lv' := [(5, .long x1), (0, .ref (ad 0)), (1, .long x1), (3, .long x3)]) h rfl (by decide) rfl dX5_fraction_1 ?_
  refine R_lload_n (pc := 3) h 3 rfl rfl dX5_fraction_3 ?_
  refine R_lstore (pc := 4) (lv' := [(7, .long x3), (5, .long x1), (0, .ref (ad 0)), (1, .long x1), (3, .long x3)]) h rfl (by decide) rfl dX5_fraction_4 ?_
  exact Wp_sub (nX := 0) (lv' := [(0, .ref (ad 0)), (1, .long x1), (3, .long x3), (5, .long x1), (7, .long x3)]) [2, 3, 4, 1, 0] rfl (w5_fraction_6 h  (hF := hF))
theorem c5_fraction {ad : Nat → Nat} {z : ZZ} {R : Mem × Int32} {fu : Nat} {x1 : Int64} {x3 : Int64} {M : Mem} (hF : f5_fraction fu x1 x3 M = some R) : Con layM ad z yX5_fraction cX5_fraction 11 (some .int) 1 M [.ref (ad 0), .long x1, .long x3] (R.1) (some (.int R.2)) := con_of (own := RX5) (lv := [(0, .ref (ad 0)), (1, .long x1), (3, .long x3)]) (by decide +kernel) rfl (Nat.le_of_ble_eq_true rfl) rfl (fun X hz h => w5_fraction h hF)
def f5_odds (fu : Nat) (x1 : Int32) (x2 : Int32) (M : Mem) : Option (Mem × Int32) :=
    (f5_in x1.toInt64 (0 : Int64) (200 : Int64)).bind fun r2 =>
    if r2 = 0 then ((some (M, (-1 : Int32))))
    else ((f5_in x2.toInt64 (0 : Int64) (12 : Int64)).bind fun r5 =>
    if r5 = 0 then ((some (M, (-1 : Int32))))
    else (if (M.1 0 9) = 0 then ((some (M, (-4 : Int32))))
    else ((f5_ways fu x1 x2 M).bind fun ⟨M9, r10⟩ =>
    (f5_allWays M9 fu).bind fun r12 =>
    (f5_fraction fu r10 r12 M9).bind fun ⟨M14, r15⟩ =>
    (some (M14, r15)))))
set_option maxHeartbeats 4000000 in
set_option maxRecDepth 10000 in
theorem w5_odds {ad : Nat → Nat} {X : XX} {R : Mem × Int32} {fu : Nat} (h : Cx layM ad X cX5_odds RX5 3 7 (some .int) (R.1) (some (.int R.2))) {x1 : Int32} {x2 : Int32} {M : Mem} (hF : f5_odds fu x1 x2 M = some R) : Wp layM ad X M 0 [(0, .ref (ad 0)), (1, .int x1), (2, .int x2)] [] := by
  unfold f5_odds at hF
  refine R_iload_n (pc := 0) h 1 rfl rfl dX5_odds_0 ?_
  refine R_i2l (pc := 1) h dX5_odds_1 ?_
  refine R_lconst (pc := 2) (v := 0) h (by decide) dX5_odds_2 ?_
  refine R_ldc2 (pc := 3) h klX5_232 dX5_odds_3 ?_
  obtain ⟨r2, hc1, hF⟩ := bd hF
  refine R_callS (pc := 6) (st := []) h [.long x1.toInt64, .long (0 : Int64), .long (200 : Int64)] csX5_71 (c5_in (ad := ad) (z := X.1) (M := M) hc1) rfl rfl (by decide) (by decide) (Nat.le_of_ble_eq_true rfl) dX5_odds_6 (st1 := [.int r2]) rfl ?_
  refine R_if_eq (pc := 9) (tgt := 24) h dX5_odds_9 (by decide) (fun c3 => ?_) (fun c3 => ?_)
  · have hF := itp c3 hF
    refine R_iconst (pc := 24) (v := (-1)) h (by decide) dX5_odds_24 ?_
    cases hF
    exact R_ireturn (pc := 25) h rfl rfl rfl dX5_odds_25
  · have hF := ifn c3 hF
    refine R_iload_n (pc := 12) h 2 rfl rfl dX5_odds_12 ?_
    refine R_i2l (pc := 13) h dX5_odds_13 ?_
    refine R_lconst (pc := 14) (v := 0) h (by decide) dX5_odds_14 ?_
    refine R_ldc2 (pc := 15) h klX5_230 dX5_odds_15 ?_
    obtain ⟨r5, hc4, hF⟩ := bd hF
    refine R_callS (pc := 18) (st := []) h [.long x2.toInt64, .long (0 : Int64), .long (12 : Int64)] csX5_71 (c5_in (ad := ad) (z := X.1) (M := M) hc4) rfl rfl (by decide) (by decide) (Nat.le_of_ble_eq_true rfl) dX5_odds_18 (st1 := [.int r5]) rfl ?_
    refine R_if_ne (pc := 21) (tgt := 26) h dX5_odds_21 (by decide) (fun c6 => ?_) (fun c6 => ?_)
    · have hF := ifn c6 hF
      refine R_aload_n (pc := 26) h 0 rfl rfl dX5_odds_26 ?_
      refine R_getI (pc := 27) h flX5_130 lm_0 rfl dX5_odds_27 ?_
      refine R_if_ne (pc := 30) (tgt := 38) h dX5_odds_30 (by decide) (fun c7 => ?_) (fun c7 => ?_)
      · have hF := ifn c7 hF
        refine R_aload_n (pc := 38) h 0 rfl rfl dX5_odds_38 ?_
        refine R_aload_n (pc := 39) h 0 rfl rfl dX5_odds_39 ?_
        refine R_iload_n (pc := 40) h 1 rfl rfl dX5_odds_40 ?_
        refine R_iload_n (pc := 41) h 2 rfl rfl dX5_odds_41 ?_
        obtain ⟨⟨M9, r10⟩, hc8, hF⟩ := bd hF
        refine R_callV (pc := 42) (st := [.ref (ad 0)]) h [.int x1, .int x2] cvX5_234 (c5_ways (ad := ad) (z := X.1) hc8) rfl rfl lm_0 (by decide) (by decide) (Nat.le_of_ble_eq_true rfl) dX5_odds_42 (st1 := [.long r10, .ref (ad 0)]) rfl ?_
        refine R_aload_n (pc := 45) h 0 rfl rfl dX5_odds_45 ?_
        obtain ⟨r12, hc11, hF⟩ := bd hF
        refine R_callV (pc := 46) (st := [.long r10, .ref (ad 0)]) h [] cvX5_238 (c5_allWays (ad := ad) (z := X.1) hc11) rfl rfl lm_0 (by decide) (by decide) (Nat.le_of_ble_eq_true rfl) dX5_odds_46 (st1 := [.long r12, .long r10, .ref (ad 0)]) rfl ?_
        obtain ⟨⟨M14, r15⟩, hc13, hF⟩ := bd hF
        refine R_callV (pc := 49) (st := []) h [.long r10, .long r12] cvX5_242 (c5_fraction (ad := ad) (z := X.1) hc13) rfl rfl lm_0 (by decide) (by decide) (Nat.le_of_ble_eq_true rfl) dX5_odds_49 (st1 := [.int r15]) rfl ?_
        cases hF
        exact R_ireturn (pc := 52) h rfl rfl rfl dX5_odds_52
      · have hF := itp c7 hF
        refine R_bipush (pc := 33) (v := (-4)) h (by decide) dX5_odds_33 ?_
        refine R_goto (pc := 35) (tgt := 52) h dX5_odds_35 (by decide) ?_
        cases hF
        exact R_ireturn (pc := 52) h rfl rfl rfl dX5_odds_52
    · have hF := itp c6 hF
      refine R_iconst (pc := 24) (v := (-1)) h (by decide) dX5_odds_24 ?_
      cases hF
      exact R_ireturn (pc := 25) h rfl rfl rfl dX5_odds_25
theorem c5_odds {ad : Nat → Nat} {z : ZZ} {R : Mem × Int32} {fu : Nat} {x1 : Int32} {x2 : Int32} {M : Mem} (hF : f5_odds fu x1 x2 M = some R) : Con layM ad z yX5_odds cX5_odds 3 (some .int) 7 M [.ref (ad 0), .int x1, .int x2] (R.1) (some (.int R.2)) := con_of (own := RX5) (lv := [(0, .ref (ad 0)), (1, .int x1), (2, .int x2)]) (by decide +kernel) rfl (Nat.le_of_ble_eq_true rfl) rfl (fun X hz h => w5_odds h hF)
def f5_mid (fu : Nat) (x1 : Int32) (M : Mem) : Option (Mem × Int32) :=
    (f5_in x1.toInt64 (0 : Int64) (12 : Int64)).bind fun r2 =>
    if r2 = 0 then ((some (M, (-1 : Int32))))
    else (if (M.1 0 9) = 0 then ((some (M, (-4 : Int32))))
    else ((f5_ways fu (-9 : Int32) x1 M).bind fun ⟨M6, r7⟩ =>
    (f5_allWays M6 fu).bind fun r9 =>
    (f5_fraction fu r7 r9 M6).bind fun ⟨M11, r12⟩ =>
    (some (M11, r12))))
set_option maxHeartbeats 4000000 in
set_option maxRecDepth 10000 in
theorem w5_mid {ad : Nat → Nat} {X : XX} {R : Mem × Int32} {fu : Nat} (h : Cx layM ad X cX5_mid RX5 2 7 (some .int) (R.1) (some (.int R.2))) {x1 : Int32} {M : Mem} (hF : f5_mid fu x1 M = some R) : Wp layM ad X M 0 [(0, .ref (ad 0)), (1, .int x1)] [] := by
  unfold f5_mid at hF
  refine R_iload_n (pc := 0) h 1 rfl rfl dX5_mid_0 ?_
  refine R_i2l (pc := 1) h dX5_mid_1 ?_
  refine R_lconst (pc := 2) (v := 0) h (by decide) dX5_mid_2 ?_
  refine R_ldc2 (pc := 3) h klX5_230 dX5_mid_3 ?_
  obtain ⟨r2, hc1, hF⟩ := bd hF
  refine R_callS (pc := 6) (st := []) h [.long x1.toInt64, .long (0 : Int64), .long (12 : Int64)] csX5_71 (c5_in (ad := ad) (z := X.1) (M := M) hc1) rfl rfl (by decide) (by decide) (Nat.le_of_ble_eq_true rfl) dX5_mid_6 (st1 := [.int r2]) rfl ?_
  refine R_if_ne (pc := 9) (tgt := 14) h dX5_mid_9 (by decide) (fun c3 => ?_) (fun c3 => ?_)
  · have hF := ifn c3 hF
    refine R_aload_n (pc := 14) h 0 rfl rfl dX5_mid_14 ?_
    refine R_getI (pc := 15) h flX5_130 lm_0 rfl dX5_mid_15 ?_
    refine R_if_ne (pc := 18) (tgt := 26) h dX5_mid_18 (by decide) (fun c4 => ?_) (fun c4 => ?_)
    · have hF := ifn c4 hF
      refine R_aload_n (pc := 26) h 0 rfl rfl dX5_mid_26 ?_
      refine R_aload_n (pc := 27) h 0 rfl rfl dX5_mid_27 ?_
      refine R_bipush (pc := 28) (v := (-9)) h (by decide) dX5_mid_28 ?_
      refine R_iload_n (pc := 30) h 1 rfl rfl dX5_mid_30 ?_
      obtain ⟨⟨M6, r7⟩, hc5, hF⟩ := bd hF
      refine R_callV (pc := 31) (st := [.ref (ad 0)]) h [.int (-9 : Int32), .int x1] cvX5_234 (c5_ways (ad := ad) (z := X.1) hc5) rfl rfl lm_0 (by decide) (by decide) (Nat.le_of_ble_eq_true rfl) dX5_mid_31 (st1 := [.long r7, .ref (ad 0)]) rfl ?_
      refine R_aload_n (pc := 34) h 0 rfl rfl dX5_mid_34 ?_
      obtain ⟨r9, hc8, hF⟩ := bd hF
      refine R_callV (pc := 35) (st := [.long r7, .ref (ad 0)]) h [] cvX5_238 (c5_allWays (ad := ad) (z := X.1) hc8) rfl rfl lm_0 (by decide) (by decide) (Nat.le_of_ble_eq_true rfl) dX5_mid_35 (st1 := [.long r9, .long r7, .ref (ad 0)]) rfl ?_
      obtain ⟨⟨M11, r12⟩, hc10, hF⟩ := bd hF
      refine R_callV (pc := 38) (st := []) h [.long r7, .long r9] cvX5_242 (c5_fraction (ad := ad) (z := X.1) hc10) rfl rfl lm_0 (by decide) (by decide) (Nat.le_of_ble_eq_true rfl) dX5_mid_38 (st1 := [.int r12]) rfl ?_
      cases hF
      exact R_ireturn (pc := 41) h rfl rfl rfl dX5_mid_41
    · have hF := itp c4 hF
      refine R_bipush (pc := 21) (v := (-4)) h (by decide) dX5_mid_21 ?_
      refine R_goto (pc := 23) (tgt := 41) h dX5_mid_23 (by decide) ?_
      cases hF
      exact R_ireturn (pc := 41) h rfl rfl rfl dX5_mid_41
  · have hF := itp c3 hF
    refine R_iconst (pc := 12) (v := (-1)) h (by decide) dX5_mid_12 ?_
    cases hF
    exact R_ireturn (pc := 13) h rfl rfl rfl dX5_mid_13
theorem c5_mid {ad : Nat → Nat} {z : ZZ} {R : Mem × Int32} {fu : Nat} {x1 : Int32} {M : Mem} (hF : f5_mid fu x1 M = some R) : Con layM ad z yX5_mid cX5_mid 2 (some .int) 7 M [.ref (ad 0), .int x1] (R.1) (some (.int R.2)) := con_of (own := RX5) (lv := [(0, .ref (ad 0)), (1, .int x1)]) (by decide +kernel) rfl (Nat.le_of_ble_eq_true rfl) rfl (fun X hz h => w5_mid h hF)
def f5_lot_83 (fu : Nat) (s0 : Int32) (M : Mem) : Option (Mem) :=
    (rd M 10 9 (0 : Int32)).bind fun v1 =>
    (rd M 10 9 (0 : Int32)).bind fun v2 =>
    (f5_in (v2 + s0).toInt64 (0 : Int64) (9 : Int64)).bind fun r4 =>
    if r4 = 0 then ((wr M 10 9 (0 : Int32) (v1 + (-s0))).bind fun M6 =>
    (some M6))
    else ((wr M 10 9 (0 : Int32) (v1 + s0)).bind fun M7 =>
    (some M7))
set_option maxHeartbeats 4000000 in
set_option maxRecDepth 10000 in
theorem w5_lot_83 {ad : Nat → Nat} {X : XX} {R : Mem} {fu : Nat}  (h : Cx layM ad X cX5_lot RX5 4 3 none (R) none)  {s0 : Int32} {M : Mem} (hF : f5_lot_83 fu s0 M = some R) : Wp layM ad X M 83 [(0, .ref (ad 0))] [.int s0] := by
  unfold f5_lot_83 at hF
  refine R_istore_n (pc := 83) (lv' := [(3, .int s0), (0, .ref (ad 0))]) h rfl rfl (by decide) rfl dX5_lot_83 ?_
  refine R_aload_n (pc := 84) h 1 rfl rfl dX5_lot_84 ?_
  refine R_getR (pc := 85) (q1 := 10) h flX5_41 lm_0 rfl dX5_lot_85 ?_
  refine R_iconst (pc := 88) (v := 0) h (by decide) dX5_lot_88 ?_
  refine R_dup2 (pc := 89) h rfl rfl dX5_lot_89 ?_
  obtain ⟨v1, hv1, hF⟩ := bd hF
  refine R_iald (pc := 90) h hv1 lm_10 dX5_lot_90 ?_
  refine R_aload_n (pc := 91) h 1 rfl rfl dX5_lot_91 ?_
  refine R_getR (pc := 92) (q1 := 10) h flX5_41 lm_0 rfl dX5_lot_92 ?_
  refine R_iconst (pc := 95) (v := 0) h (by decide) dX5_lot_95 ?_
  obtain ⟨v2, hv2, hF⟩ := bd hF
  refine R_iald (pc := 96) h hv2 lm_10 dX5_lot_96 ?_
  refine R_iload_n (pc := 97) h 0 rfl rfl dX5_lot_97 ?_
  refine R_iadd (pc := 98) h dX5_lot_98 ?_
  refine R_i2l (pc := 99) h dX5_lot_99 ?_
  refine R_lconst (pc := 100) (v := 0) h (by decide) dX5_lot_100 ?_
  refine R_ldc2 (pc := 101) h klX5_161 dX5_lot_101 ?_
  obtain ⟨r4, hc3, hF⟩ := bd hF
  refine R_callS (pc := 104) (st := [.int v1, .int (0 : Int32), .ref (ad 10)]) h [.long (v2 + s0).toInt64, .long (0 : Int64), .long (9 : Int64)] csX5_71 (c5_in (ad := ad) (z := X.1) (M := M) hc3) rfl rfl (by decide) (by decide) (Nat.le_of_ble_eq_true rfl) dX5_lot_104 (st1 := [.int r4, .int v1, .int (0 : Int32), .ref (ad 10)]) rfl ?_
  refine R_if_eq (pc := 107) (tgt := 114) h dX5_lot_107 (by decide) (fun c5 => ?_) (fun c5 => ?_)
  · have hF := itp c5 hF
    refine R_iload_n (pc := 114) h 0 rfl rfl dX5_lot_114 ?_
    refine R_ineg (pc := 115) h dX5_lot_115 ?_
    refine R_iadd (pc := 116) h dX5_lot_116 ?_
    obtain ⟨M6, hM6, hF⟩ := bd hF
    refine R_iast (pc := 117) h hM6 lm_10 dX5_lot_117 ?_
    cases hF
    exact R_return (pc := 118) h rfl rfl rfl dX5_lot_118
  · have hF := ifn c5 hF
    refine R_iload_n (pc := 110) h 0 rfl rfl dX5_lot_110 ?_
    refine R_goto (pc := 111) (tgt := 116) h dX5_lot_111 (by decide) ?_
    refine R_iadd (pc := 116) h dX5_lot_116 ?_
    obtain ⟨M7, hM7, hF⟩ := bd hF
    refine R_iast (pc := 117) h hM7 lm_10 dX5_lot_117 ?_
    cases hF
    exact R_return (pc := 118) h rfl rfl rfl dX5_lot_118
def f5_lot (fu : Nat) (x1 : Int32) (M : Mem) : Option (Mem) :=
    (dvI x1 (8 : Int32)).bind fun v1 =>
    (rmI v1 (M.1 0 9)).bind fun v2 =>
    (f5_remember fu M).bind fun M4 =>
    (rd M4 10 9 ((1 : Int32) + v2)).bind fun v5 =>
    if v5 = (-1 : Int32) then ((rd M4 10 9 (0 : Int32)).bind fun v7 =>
    (wr M4 10 9 ((1 : Int32) + v2) v7).bind fun M8 =>
    (some M8))
    else ((rd M4 10 9 ((1 : Int32) + v2)).bind fun v9 =>
    (rd M4 10 9 (0 : Int32)).bind fun v10 =>
    if v9 = v10 then ((wr M4 10 9 ((1 : Int32) + v2) (-1 : Int32)).bind fun M12 =>
    (some M12))
    else ((rmI x1 (2 : Int32)).bind fun v13 =>
    if v13 = 0 then ((f5_lot_83 fu (1 : Int32) M4))
    else ((f5_lot_83 fu (-1 : Int32) M4))))
set_option maxHeartbeats 4000000 in
set_option maxRecDepth 10000 in
theorem w5_lot {ad : Nat → Nat} {X : XX} {R : Mem} {fu : Nat} (h : Cx layM ad X cX5_lot RX5 4 3 none (R) none) {x1 : Int32} {M : Mem} (hF : f5_lot fu x1 M = some R) : Wp layM ad X M 0 [(0, .ref (ad 0)), (1, .int x1)] [] := by
  unfold f5_lot at hF
  refine R_iload_n (pc := 0) h 1 rfl rfl dX5_lot_0 ?_
  refine R_bipush (pc := 1) (v := 8) h (by decide) dX5_lot_1 ?_
  obtain ⟨v1, hv1, hF⟩ := bd hF
  refine R_idiv (pc := 3) h hv1 dX5_lot_3 ?_
  refine R_aload_n (pc := 4) h 0 rfl rfl dX5_lot_4 ?_
  refine R_getI (pc := 5) h flX5_130 lm_0 rfl dX5_lot_5 ?_
  obtain ⟨v2, hv2, hF⟩ := bd hF
  refine R_irem (pc := 8) h hv2 dX5_lot_8 ?_
  refine R_istore_n (pc := 9) (lv' := [(2, .int v2), (0, .ref (ad 0)), (1, .int x1)]) h rfl rfl (by decide) rfl dX5_lot_9 ?_
  refine R_aload_n (pc := 10) h 1 rfl rfl dX5_lot_10 ?_
  obtain ⟨M4, hc3, hF⟩ := bd hF
  refine R_callV (pc := 11) (st := []) h [] cvX5_167 (c5_remember (ad := ad) (z := X.1) hc3) rfl rfl lm_0 (by decide) (by decide) (Nat.le_of_ble_eq_true rfl) dX5_lot_11 (st1 := []) rfl ?_
  refine R_aload_n (pc := 14) h 1 rfl rfl dX5_lot_14 ?_
  refine R_getR (pc := 15) (q1 := 10) h flX5_41 lm_0 rfl dX5_lot_15 ?_
  refine R_iconst (pc := 18) (v := 1) h (by decide) dX5_lot_18 ?_
  refine R_iload_n (pc := 19) h 0 rfl rfl dX5_lot_19 ?_
  refine R_iadd (pc := 20) h dX5_lot_20 ?_
  obtain ⟨v5, hv5, hF⟩ := bd hF
  refine R_iald (pc := 21) h hv5 lm_10 dX5_lot_21 ?_
  refine R_iconst (pc := 22) (v := (-1)) h (by decide) dX5_lot_22 ?_
  refine R_icmp_ne (pc := 23) (tgt := 43) h dX5_lot_23 (by decide) (fun c6 => ?_) (fun c6 => ?_)
  · have hF := ifn c6 hF
    refine R_aload_n (pc := 43) h 1 rfl rfl dX5_lot_43 ?_
    refine R_getR (pc := 44) (q1 := 10) h flX5_41 lm_0 rfl dX5_lot_44 ?_
    refine R_iconst (pc := 47) (v := 1) h (by decide) dX5_lot_47 ?_
    refine R_iload_n (pc := 48) h 0 rfl rfl dX5_lot_48 ?_
    refine R_iadd (pc := 49) h dX5_lot_49 ?_
    obtain ⟨v9, hv9, hF⟩ := bd hF
    refine R_iald (pc := 50) h hv9 lm_10 dX5_lot_50 ?_
    refine R_aload_n (pc := 51) h 1 rfl rfl dX5_lot_51 ?_
    refine R_getR (pc := 52) (q1 := 10) h flX5_41 lm_0 rfl dX5_lot_52 ?_
    refine R_iconst (pc := 55) (v := 0) h (by decide) dX5_lot_55 ?_
    obtain ⟨v10, hv10, hF⟩ := bd hF
    refine R_iald (pc := 56) h hv10 lm_10 dX5_lot_56 ?_
    refine R_icmp_ne (pc := 57) (tgt := 72) h dX5_lot_57 (by decide) (fun c11 => ?_) (fun c11 => ?_)
    · have hF := ifn c11 hF
      refine R_iload_n (pc := 72) h 2 rfl rfl dX5_lot_72 ?_
      refine R_iconst (pc := 73) (v := 2) h (by decide) dX5_lot_73 ?_
      obtain ⟨v13, hv13, hF⟩ := bd hF
      refine R_irem (pc := 74) h hv13 dX5_lot_74 ?_
      refine R_if_ne (pc := 75) (tgt := 82) h dX5_lot_75 (by decide) (fun c14 => ?_) (fun c14 => ?_)
      · have hF := ifn c14 hF
        refine R_iconst (pc := 82) (v := (-1)) h (by decide) dX5_lot_82 ?_
        exact Wp_sub (nX := 0) (lv' := [(0, .ref (ad 0))]) [1] rfl (w5_lot_83 h  (hF := hF))
      · have hF := itp c14 hF
        refine R_iconst (pc := 78) (v := 1) h (by decide) dX5_lot_78 ?_
        refine R_goto (pc := 79) (tgt := 83) h dX5_lot_79 (by decide) ?_
        exact Wp_sub (nX := 0) (lv' := [(0, .ref (ad 0))]) [1] rfl (w5_lot_83 h  (hF := hF))
    · have hF := itp c11 hF
      refine R_aload_n (pc := 60) h 1 rfl rfl dX5_lot_60 ?_
      refine R_getR (pc := 61) (q1 := 10) h flX5_41 lm_0 rfl dX5_lot_61 ?_
      refine R_iconst (pc := 64) (v := 1) h (by decide) dX5_lot_64 ?_
      refine R_iload_n (pc := 65) h 0 rfl rfl dX5_lot_65 ?_
      refine R_iadd (pc := 66) h dX5_lot_66 ?_
      refine R_iconst (pc := 67) (v := (-1)) h (by decide) dX5_lot_67 ?_
      obtain ⟨M12, hM12, hF⟩ := bd hF
      refine R_iast (pc := 68) h hM12 lm_10 dX5_lot_68 ?_
      refine R_goto (pc := 69) (tgt := 118) h dX5_lot_69 (by decide) ?_
      cases hF
      exact R_return (pc := 118) h rfl rfl rfl dX5_lot_118
  · have hF := itp c6 hF
    refine R_aload_n (pc := 26) h 1 rfl rfl dX5_lot_26 ?_
    refine R_getR (pc := 27) (q1 := 10) h flX5_41 lm_0 rfl dX5_lot_27 ?_
    refine R_iconst (pc := 30) (v := 1) h (by decide) dX5_lot_30 ?_
    refine R_iload_n (pc := 31) h 0 rfl rfl dX5_lot_31 ?_
    refine R_iadd (pc := 32) h dX5_lot_32 ?_
    refine R_aload_n (pc := 33) h 1 rfl rfl dX5_lot_33 ?_
    refine R_getR (pc := 34) (q1 := 10) h flX5_41 lm_0 rfl dX5_lot_34 ?_
    refine R_iconst (pc := 37) (v := 0) h (by decide) dX5_lot_37 ?_
    obtain ⟨v7, hv7, hF⟩ := bd hF
    refine R_iald (pc := 38) h hv7 lm_10 dX5_lot_38 ?_
    obtain ⟨M8, hM8, hF⟩ := bd hF
    refine R_iast (pc := 39) h hM8 lm_10 dX5_lot_39 ?_
    refine R_goto (pc := 40) (tgt := 118) h dX5_lot_40 (by decide) ?_
    cases hF
    exact R_return (pc := 118) h rfl rfl rfl dX5_lot_118
theorem c5_lot {ad : Nat → Nat} {z : ZZ} {R : Mem} {fu : Nat} {x1 : Int32} {M : Mem} (hF : f5_lot fu x1 M = some R) : Con layM ad z yX5_lot cX5_lot 4 none 3 M [.ref (ad 0), .int x1] (R) none := con_of (own := RX5) (lv := [(0, .ref (ad 0)), (1, .int x1)]) (by decide +kernel) rfl (Nat.le_of_ble_eq_true rfl) rfl (fun X hz h => w5_lot h hF)
def f5_lots_45 (fu : Nat) : Nat → Int32 → Int64 → Int32 → Mem → Option (Mem × Int32)
  | 0 => fun _ _ _ _ => none
  | f + 1 => fun x1 x4 x6 M =>
    if x1 ≤ x6 then ((rd M 10 9 (0 : Int32)).bind fun v2 =>
    (some (M, v2)))
    else ((rmLo (x4 * (48271 : Int64)) (2147483647 : Int64)).bind fun v3 =>
    (f5_lot fu v3.toInt32 M).bind fun M5 =>
    nm (x6 + (1 : Int32)) fun v6 =>
    ((f5_lots_45 fu f) x1 v3 v6 M5))
set_option maxHeartbeats 4000000 in
set_option maxRecDepth 10000 in
theorem w5_lotsi_45 {ad : Nat → Nat} {X : XX} {R : Mem × Int32} {fu : Nat}  (h : Cx layM ad X cX5_lots RX5 7 4 (some .int) (R.1) (some (.int R.2)))  : ∀ (f : Nat) (x1 : Int32) (x4 : Int64) (x6 : Int32) (M : Mem), f5_lots_45 fu f x1 x4 x6 M = some R → Wp layM ad X M 45 [(0, .ref (ad 0)), (1, .int x1), (4, .long x4), (6, .int x6)] [] := by
  intro f
  induction f with
  | zero => intro x1 x4 x6 M hF; exact absurd hF (by simp [f5_lots_45])
  | succ f ih =>
    intro x1 x4 x6 M hF
    rw [f5_lots_45] at hF
    refine R_iload (pc := 45) h 3 rfl dX5_lots_45 ?_
    refine R_iload_n (pc := 47) h 1 rfl rfl dX5_lots_47 ?_
    refine R_icmp_ge (pc := 48) (tgt := 76) h dX5_lots_48 (by decide) (fun c1 => ?_) (fun c1 => ?_)
    · have hF := itp c1 hF
      refine R_aload_n (pc := 76) h 0 rfl rfl dX5_lots_76 ?_
      refine R_getR (pc := 77) (q1 := 10) h flX5_41 lm_0 rfl dX5_lots_77 ?_
      refine R_iconst (pc := 80) (v := 0) h (by decide) dX5_lots_80 ?_
      obtain ⟨v2, hv2, hF⟩ := bd hF
      refine R_iald (pc := 81) h hv2 lm_10 dX5_lots_81 ?_
      cases hF
      exact R_ireturn (pc := 82) h rfl rfl rfl dX5_lots_82
    · have hF := ifn c1 hF
      refine R_lload (pc := 51) h 2 rfl dX5_lots_51 ?_
      refine R_ldc2 (pc := 53) h klX5_248 dX5_lots_53 ?_
      refine R_lmul (pc := 56) h dX5_lots_56 ?_
      refine R_ldc2 (pc := 57) h klX5_250 dX5_lots_57 ?_
      obtain ⟨v3, hv3, hF⟩ := bd hF
      refine R_lrem (pc := 60) h hv3 dX5_lots_60 ?_
      refine R_lstore (pc := 61) (lv' := [(4, .long v3), (0, .ref (ad 0)), (1, .int x1), (6, .int x6)]) h rfl (by decide) rfl dX5_lots_61 ?_
      refine R_aload_n (pc := 63) h 1 rfl rfl dX5_lots_63 ?_
      refine R_lload (pc := 64) h 0 rfl dX5_lots_64 ?_
      refine R_l2i (pc := 66) h dX5_lots_66 ?_
      obtain ⟨M5, hc4, hF⟩ := bd hF
      refine R_callV (pc := 67) (st := []) h [.int v3.toInt32] cvX5_252 (c5_lot (ad := ad) (z := X.1) hc4) rfl rfl lm_0 (by decide) (by decide) (Nat.le_of_ble_eq_true rfl) dX5_lots_67 (st1 := []) rfl ?_
      obtain ⟨v6, hv6, hF⟩ := nm_e2 hF
      refine R_iinc (pc := 70) (lv' := [(6, .int v6), (4, .long v3), (0, .ref (ad 0)), (1, .int x1)]) h 3 rfl (by decide) hv6 (by decide) rfl dX5_lots_70 ?_
      refine R_goto (pc := 73) (tgt := 45) h dX5_lots_73 (by decide) ?_
      exact Wp_sub (nX := 0) (lv' := [(0, .ref (ad 0)), (1, .int x1), (4, .long v3), (6, .int v6)]) [2, 3, 1, 0] rfl (ih _ _ _ _ hF)
theorem w5_lots_45 {ad : Nat → Nat} {X : XX} {R : Mem × Int32} {fu : Nat}  (h : Cx layM ad X cX5_lots RX5 7 4 (some .int) (R.1) (some (.int R.2)))  {f : Nat} {x1 : Int32} {x4 : Int64} {x6 : Int32} {M : Mem} (hF : f5_lots_45 fu f x1 x4 x6 M = some R) : Wp layM ad X M 45 [(0, .ref (ad 0)), (1, .int x1), (4, .long x4), (6, .int x6)] [] := w5_lotsi_45 h  f _ _ _ _ hF
def f5_lots (fu : Nat) (x1 : Int32) (x2 : Int32) (M : Mem) : Option (Mem × Int32) :=
    (f5_in x1.toInt64 (1 : Int64) (20 : Int64)).bind fun r2 =>
    if r2 = 0 then ((some (M, (-1 : Int32))))
    else ((f5_in x2.toInt64 (1 : Int64) (2147483646 : Int64)).bind fun r5 =>
    if r5 = 0 then ((some (M, (-1 : Int32))))
    else ((f5_refuses M x1).bind fun r8 =>
    if r8 = 0 then (nm x2.toInt64 fun v10 =>
    (f5_lots_45 fu fu x1 v10 (0 : Int32) M))
    else ((some (M, r8)))))
set_option maxHeartbeats 4000000 in
set_option maxRecDepth 10000 in
theorem w5_lots {ad : Nat → Nat} {X : XX} {R : Mem × Int32} {fu : Nat} (h : Cx layM ad X cX5_lots RX5 7 4 (some .int) (R.1) (some (.int R.2))) {x1 : Int32} {x2 : Int32} {M : Mem} (hF : f5_lots fu x1 x2 M = some R) : Wp layM ad X M 0 [(0, .ref (ad 0)), (1, .int x1), (2, .int x2)] [] := by
  unfold f5_lots at hF
  refine R_iload_n (pc := 0) h 1 rfl rfl dX5_lots_0 ?_
  refine R_i2l (pc := 1) h dX5_lots_1 ?_
  refine R_lconst (pc := 2) (v := 1) h (by decide) dX5_lots_2 ?_
  refine R_ldc2 (pc := 3) h klX5_206 dX5_lots_3 ?_
  obtain ⟨r2, hc1, hF⟩ := bd hF
  refine R_callS (pc := 6) (st := []) h [.long x1.toInt64, .long (1 : Int64), .long (20 : Int64)] csX5_71 (c5_in (ad := ad) (z := X.1) (M := M) hc1) rfl rfl (by decide) (by decide) (Nat.le_of_ble_eq_true rfl) dX5_lots_6 (st1 := [.int r2]) rfl ?_
  refine R_if_eq (pc := 9) (tgt := 24) h dX5_lots_9 (by decide) (fun c3 => ?_) (fun c3 => ?_)
  · have hF := itp c3 hF
    refine R_iconst (pc := 24) (v := (-1)) h (by decide) dX5_lots_24 ?_
    cases hF
    exact R_ireturn (pc := 25) h rfl rfl rfl dX5_lots_25
  · have hF := ifn c3 hF
    refine R_iload_n (pc := 12) h 2 rfl rfl dX5_lots_12 ?_
    refine R_i2l (pc := 13) h dX5_lots_13 ?_
    refine R_lconst (pc := 14) (v := 1) h (by decide) dX5_lots_14 ?_
    refine R_ldc2 (pc := 15) h klX5_246 dX5_lots_15 ?_
    obtain ⟨r5, hc4, hF⟩ := bd hF
    refine R_callS (pc := 18) (st := []) h [.long x2.toInt64, .long (1 : Int64), .long (2147483646 : Int64)] csX5_71 (c5_in (ad := ad) (z := X.1) (M := M) hc4) rfl rfl (by decide) (by decide) (Nat.le_of_ble_eq_true rfl) dX5_lots_18 (st1 := [.int r5]) rfl ?_
    refine R_if_ne (pc := 21) (tgt := 26) h dX5_lots_21 (by decide) (fun c6 => ?_) (fun c6 => ?_)
    · have hF := ifn c6 hF
      refine R_aload_n (pc := 26) h 0 rfl rfl dX5_lots_26 ?_
      refine R_iload_n (pc := 27) h 1 rfl rfl dX5_lots_27 ?_
      obtain ⟨r8, hc7, hF⟩ := bd hF
      refine R_callV (pc := 28) (st := []) h [.int x1] cvX5_176 (c5_refuses (ad := ad) (z := X.1) hc7) rfl rfl lm_0 (by decide) (by decide) (Nat.le_of_ble_eq_true rfl) dX5_lots_28 (st1 := [.int r8]) rfl ?_
      refine R_istore_n (pc := 31) (lv' := [(3, .int r8), (0, .ref (ad 0)), (1, .int x1), (2, .int x2)]) h rfl rfl (by decide) rfl dX5_lots_31 ?_
      refine R_iload_n (pc := 32) h 0 rfl rfl dX5_lots_32 ?_
      refine R_if_eq (pc := 33) (tgt := 38) h dX5_lots_33 (by decide) (fun c9 => ?_) (fun c9 => ?_)
      · have hF := itp c9 hF
        refine R_iload_n (pc := 38) h 3 rfl rfl dX5_lots_38 ?_
        refine R_i2l (pc := 39) h dX5_lots_39 ?_
        obtain ⟨v10, hv10, hF⟩ := nm_e2 hF
        refine R_lstore (pc := 40) (lv' := [(4, .long v10), (3, .int r8), (0, .ref (ad 0)), (1, .int x1), (2, .int x2)]) h hv10 (by decide) rfl dX5_lots_40 ?_
        refine R_iconst (pc := 42) (v := 0) h (by decide) dX5_lots_42 ?_
        refine R_istore (pc := 43) (lv' := [(6, .int (0 : Int32)), (4, .long v10), (3, .int r8), (0, .ref (ad 0)), (1, .int x1), (2, .int x2)]) h rfl (by decide) rfl dX5_lots_43 ?_
        exact Wp_sub (nX := 0) (lv' := [(0, .ref (ad 0)), (1, .int x1), (4, .long v10), (6, .int (0 : Int32))]) [3, 4, 1, 0] rfl (w5_lots_45 h  (hF := hF))
      · have hF := ifn c9 hF
        refine R_iload_n (pc := 36) h 0 rfl rfl dX5_lots_36 ?_
        cases hF
        exact R_ireturn (pc := 37) h rfl rfl rfl dX5_lots_37
    · have hF := itp c6 hF
      refine R_iconst (pc := 24) (v := (-1)) h (by decide) dX5_lots_24 ?_
      cases hF
      exact R_ireturn (pc := 25) h rfl rfl rfl dX5_lots_25
theorem c5_lots {ad : Nat → Nat} {z : ZZ} {R : Mem × Int32} {fu : Nat} {x1 : Int32} {x2 : Int32} {M : Mem} (hF : f5_lots fu x1 x2 M = some R) : Con layM ad z yX5_lots cX5_lots 7 (some .int) 4 M [.ref (ad 0), .int x1, .int x2] (R.1) (some (.int R.2)) := con_of (own := RX5) (lv := [(0, .ref (ad 0)), (1, .int x1), (2, .int x2)]) (by decide +kernel) rfl (Nat.le_of_ble_eq_true rfl) rfl (fun X hz h => w5_lots h hF)
def f5_asked (M : Mem) : Option (Int32) :=
    (some (M.1 0 4))
set_option maxHeartbeats 4000000 in
set_option maxRecDepth 10000 in
theorem w5_asked {ad : Nat → Nat} {X : XX} {R : Int32} {M : Mem} (h : Cx layM ad X cX5_asked RX5 1 1 (some .int) M (some (.int R)))  (hF : f5_asked M = some R) : Wp layM ad X M 0 [(0, .ref (ad 0))] [] := by
  unfold f5_asked at hF
  refine R_aload_n (pc := 0) h 0 rfl rfl dX5_asked_0 ?_
  refine R_getI (pc := 1) h flX5_66 lm_0 rfl dX5_asked_1 ?_
  cases hF
  exact R_ireturn (pc := 4) h rfl rfl rfl dX5_asked_4
theorem c5_asked {ad : Nat → Nat} {z : ZZ} {R : Int32} {M : Mem}  (hF : f5_asked M = some R) : Con layM ad z yX5_asked cX5_asked 1 (some .int) 1 M [.ref (ad 0)] (M) (some (.int R)) := con_of (own := RX5) (lv := [(0, .ref (ad 0))]) (by decide +kernel) rfl (Nat.le_of_ble_eq_true rfl) rfl (fun X hz h => w5_asked h hF)
def f5_upper (M : Mem) : Option (Int64) :=
    (some (M.2 0 5))
set_option maxHeartbeats 4000000 in
set_option maxRecDepth 10000 in
theorem w5_upper {ad : Nat → Nat} {X : XX} {R : Int64} {M : Mem} (h : Cx layM ad X cX5_upper RX5 1 1 (some .long) M (some (.long R)))  (hF : f5_upper M = some R) : Wp layM ad X M 0 [(0, .ref (ad 0))] [] := by
  unfold f5_upper at hF
  refine R_aload_n (pc := 0) h 0 rfl rfl dX5_upper_0 ?_
  refine R_getL (pc := 1) h flX5_224 lm_0 rfl dX5_upper_1 ?_
  cases hF
  exact R_lreturn (pc := 4) h rfl rfl rfl dX5_upper_4
theorem c5_upper {ad : Nat → Nat} {z : ZZ} {R : Int64} {M : Mem}  (hF : f5_upper M = some R) : Con layM ad z yX5_upper cX5_upper 1 (some .long) 1 M [.ref (ad 0)] (M) (some (.long R)) := con_of (own := RX5) (lv := [(0, .ref (ad 0))]) (by decide +kernel) rfl (Nat.le_of_ble_eq_true rfl) rfl (fun X hz h => w5_upper h hF)
def f5_lower (M : Mem) : Option (Int64) :=
    (some (M.2 0 6))
set_option maxHeartbeats 4000000 in
set_option maxRecDepth 10000 in
theorem w5_lower {ad : Nat → Nat} {X : XX} {R : Int64} {M : Mem} (h : Cx layM ad X cX5_lower RX5 1 1 (some .long) M (some (.long R)))  (hF : f5_lower M = some R) : Wp layM ad X M 0 [(0, .ref (ad 0))] [] := by
  unfold f5_lower at hF
  refine R_aload_n (pc := 0) h 0 rfl rfl dX5_lower_0 ?_
  refine R_getL (pc := 1) h flX5_22 lm_0 rfl dX5_lower_1 ?_
  cases hF
  exact R_lreturn (pc := 4) h rfl rfl rfl dX5_lower_4
theorem c5_lower {ad : Nat → Nat} {z : ZZ} {R : Int64} {M : Mem}  (hF : f5_lower M = some R) : Con layM ad z yX5_lower cX5_lower 1 (some .long) 1 M [.ref (ad 0)] (M) (some (.long R)) := con_of (own := RX5) (lv := [(0, .ref (ad 0))]) (by decide +kernel) rfl (Nat.le_of_ble_eq_true rfl) rfl (fun X hz h => w5_lower h hF)
def f5_there_2_5 (M : Mem) (fu : Nat) : Nat → Int32 → Int32 → Int32 → Int32 → Option (Int32)
  | 0 => fun _ _ _ _ => none
  | f + 1 => fun x1 x2 x3 x4 =>
    if x1 ≤ x4 then ((some x3))
    else ((rd M 2 6 (x2 * x4)).bind fun v2 =>
    if 0 ≤ v2 then (nm (x3 + (1 : Int32)) fun v4 =>
    nm (x4 + (1 : Int32)) fun v5 =>
    ((f5_there_2_5 M fu f) x1 x2 v4 v5))
    else (nm (x3 + (0 : Int32)) fun v6 =>
    nm (x4 + (1 : Int32)) fun v7 =>
    ((f5_there_2_5 M fu f) x1 x2 v6 v7)))
set_option maxHeartbeats 4000000 in
set_option maxRecDepth 10000 in
theorem w5_there_2i_5 {ad : Nat → Nat} {X : XX} {R : Int32} {M : Mem} {fu : Nat}  (h : Cx layM ad X cX5_there RX5 5 1 (some .int) M (some (.int R)))  : ∀ (f : Nat) (x1 : Int32) (x2 : Int32) (x3 : Int32) (x4 : Int32), f5_there_2_5 M fu f x1 x2 x3 x4 = some R → Wp layM ad X M 5 [(0, .ref (ad 2)), (1, .int x1), (2, .int x2), (3, .int x3), (4, .int x4)] [] := by
  intro f
  induction f with
  | zero => intro x1 x2 x3 x4 hF; exact absurd hF (by simp [f5_there_2_5])
  | succ f ih =>
    intro x1 x2 x3 x4 hF
    rw [f5_there_2_5] at hF
    refine R_iload (pc := 5) h 4 rfl dX5_there_5 ?_
    refine R_iload_n (pc := 7) h 1 rfl rfl dX5_there_7 ?_
    refine R_icmp_ge (pc := 8) (tgt := 34) h dX5_there_8 (by decide) (fun c1 => ?_) (fun c1 => ?_)
    · have hF := itp c1 hF
      refine R_iload_n (pc := 34) h 3 rfl rfl dX5_there_34 ?_
      cases hF
      exact R_ireturn (pc := 35) h rfl rfl rfl dX5_there_35
    · have hF := ifn c1 hF
      refine R_iload_n (pc := 11) h 3 rfl rfl dX5_there_11 ?_
      refine R_aload_n (pc := 12) h 0 rfl rfl dX5_there_12 ?_
      refine R_iload_n (pc := 13) h 2 rfl rfl dX5_there_13 ?_
      refine R_iload (pc := 14) h 4 rfl dX5_there_14 ?_
      refine R_imul (pc := 16) h dX5_there_16 ?_
      obtain ⟨v2, hv2, hF⟩ := bd hF
      refine R_iald (pc := 17) h hv2 lm_2 dX5_there_17 ?_
      refine R_if_ge (pc := 18) (tgt := 25) h dX5_there_18 (by decide) (fun c3 => ?_) (fun c3 => ?_)
      · have hF := itp c3 hF
        refine R_iconst (pc := 25) (v := 1) h (by decide) dX5_there_25 ?_
        refine R_iadd (pc := 26) h dX5_there_26 ?_
        obtain ⟨v4, hv4, hF⟩ := nm_e2 hF
        refine R_istore_n (pc := 27) (lv' := [(3, .int v4), (0, .ref (ad 2)), (1, .int x1), (2, .int x2), (4, .int x4)]) h hv4 rfl (by decide) rfl dX5_there_27 ?_
        obtain ⟨v5, hv5, hF⟩ := nm_e2 hF
        refine R_iinc (pc := 28) (lv' := [(4, .int v5), (3, .int v4), (0, .ref (ad 2)), (1, .int x1), (2, .int x2)]) h 4 rfl (by decide) hv5 (by decide) rfl dX5_there_28 ?_
        refine R_goto (pc := 31) (tgt := 5) h dX5_there_31 (by decide) ?_
        exact Wp_sub (nX := 0) (lv' := [(0, .ref (ad 2)), (1, .int x1), (2, .int x2), (3, .int v4), (4, .int v5)]) [2, 3, 4, 1, 0] rfl (ih _ _ _ _ hF)
      · have hF := ifn c3 hF
        refine R_iconst (pc := 21) (v := 0) h (by decide) dX5_there_21 ?_
        refine R_goto (pc := 22) (tgt := 26) h dX5_there_22 (by decide) ?_
        refine R_iadd (pc := 26) h dX5_there_26 ?_
        obtain ⟨v6, hv6, hF⟩ := nm_e2 hF
        refine R_istore_n (pc := 27) (lv' := [(3, .int v6), (0, .ref (ad 2)), (1, .int x1), (2, .int x2), (4, .int x4)]) h hv6 rfl (by decide) rfl dX5_there_27 ?_
        obtain ⟨v7, hv7, hF⟩ := nm_e2 hF
        refine R_iinc (pc := 28) (lv' := [(4, .int v7), (3, .int v6), (0, .ref (ad 2)), (1, .int x1), (2, .int x2)]) h 4 rfl (by decide) hv7 (by decide) rfl dX5_there_28 ?_
        refine R_goto (pc := 31) (tgt := 5) h dX5_there_31 (by decide) ?_
        exact Wp_sub (nX := 0) (lv' := [(0, .ref (ad 2)), (1, .int x1), (2, .int x2), (3, .int v6), (4, .int v7)]) [2, 3, 4, 1, 0] rfl (ih _ _ _ _ hF)
theorem w5_there_2_5 {ad : Nat → Nat} {X : XX} {R : Int32} {M : Mem} {fu : Nat}  (h : Cx layM ad X cX5_there RX5 5 1 (some .int) M (some (.int R)))  {f : Nat} {x1 : Int32} {x2 : Int32} {x3 : Int32} {x4 : Int32} (hF : f5_there_2_5 M fu f x1 x2 x3 x4 = some R) : Wp layM ad X M 5 [(0, .ref (ad 2)), (1, .int x1), (2, .int x2), (3, .int x3), (4, .int x4)] [] := w5_there_2i_5 h  f _ _ _ _ hF
def f5_there_2 (M : Mem) (fu : Nat) (x1 : Int32) (x2 : Int32) : Option (Int32) :=
    (f5_there_2_5 M fu fu x1 x2 (0 : Int32) (0 : Int32))
set_option maxHeartbeats 4000000 in
set_option maxRecDepth 10000 in
theorem w5_there_2 {ad : Nat → Nat} {X : XX} {R : Int32} {M : Mem} {fu : Nat} (h : Cx layM ad X cX5_there RX5 5 1 (some .int) M (some (.int R))) {x1 : Int32} {x2 : Int32} (hF : f5_there_2 M fu x1 x2 = some R) : Wp layM ad X M 0 [(0, .ref (ad 2)), (1, .int x1), (2, .int x2)] [] := by
  unfold f5_there_2 at hF
  refine R_iconst (pc := 0) (v := 0) h (by decide) dX5_there_0 ?_
  refine R_istore_n (pc := 1) (lv' := [(3, .int (0 : Int32)), (0, .ref (ad 2)), (1, .int x1), (2, .int x2)]) h rfl rfl (by decide) rfl dX5_there_1 ?_
  refine R_iconst (pc := 2) (v := 0) h (by decide) dX5_there_2 ?_
  refine R_istore (pc := 3) (lv' := [(4, .int (0 : Int32)), (3, .int (0 : Int32)), (0, .ref (ad 2)), (1, .int x1), (2, .int x2)]) h rfl (by decide) rfl dX5_there_3 ?_
  exact Wp_sub (nX := 0) (lv' := [(0, .ref (ad 2)), (1, .int x1), (2, .int x2), (3, .int (0 : Int32)), (4, .int (0 : Int32))]) [2, 3, 4, 1, 0] rfl (w5_there_2_5 h  (hF := hF))
theorem c5_there_2 {ad : Nat → Nat} {z : ZZ} {R : Int32} {M : Mem} {fu : Nat} {x1 : Int32} {x2 : Int32} (hF : f5_there_2 M fu x1 x2 = some R) : Con layM ad z yX5_there cX5_there 5 (some .int) 1 M [.ref (ad 2), .int x1, .int x2] (M) (some (.int R)) := con_of (own := RX5) (lv := [(0, .ref (ad 2)), (1, .int x1), (2, .int x2)]) (by decide +kernel) rfl (Nat.le_of_ble_eq_true rfl) rfl (fun X hz h => w5_there_2 h hF)
def f5_there_4_5 (M : Mem) (fu : Nat) : Nat → Int32 → Int32 → Int32 → Int32 → Option (Int32)
  | 0 => fun _ _ _ _ => none
  | f + 1 => fun x1 x2 x3 x4 =>
    if x1 ≤ x4 then ((some x3))
    else ((rd M 4 4 (x2 * x4)).bind fun v2 =>
    if 0 ≤ v2 then (nm (x3 + (1 : Int32)) fun v4 =>
    nm (x4 + (1 : Int32)) fun v5 =>
    ((f5_there_4_5 M fu f) x1 x2 v4 v5))
    else (nm (x3 + (0 : Int32)) fun v6 =>
    nm (x4 + (1 : Int32)) fun v7 =>
    ((f5_there_4_5 M fu f) x1 x2 v6 v7)))
set_option maxHeartbeats 4000000 in
set_option maxRecDepth 10000 in
theorem w5_there_4i_5 {ad : Nat → Nat} {X : XX} {R : Int32} {M : Mem} {fu : Nat}  (h : Cx layM ad X cX5_there RX5 5 1 (some .int) M (some (.int R)))  : ∀ (f : Nat) (x1 : Int32) (x2 : Int32) (x3 : Int32) (x4 : Int32), f5_there_4_5 M fu f x1 x2 x3 x4 = some R → Wp layM ad X M 5 [(0, .ref (ad 4)), (1, .int x1), (2, .int x2), (3, .int x3), (4, .int x4)] [] := by
  intro f
  induction f with
  | zero => intro x1 x2 x3 x4 hF; exact absurd hF (by simp [f5_there_4_5])
  | succ f ih =>
    intro x1 x2 x3 x4 hF
    rw [f5_there_4_5] at hF
    refine R_iload (pc := 5) h 4 rfl dX5_there_5 ?_
    refine R_iload_n (pc := 7) h 1 rfl rfl dX5_there_7 ?_
    refine R_icmp_ge (pc := 8) (tgt := 34) h dX5_there_8 (by decide) (fun c1 => ?_) (fun c1 => ?_)
    · have hF := itp c1 hF
      refine R_iload_n (pc := 34) h 3 rfl rfl dX5_there_34 ?_
      cases hF
      exact R_ireturn (pc := 35) h rfl rfl rfl dX5_there_35
    · have hF := ifn c1 hF
      refine R_iload_n (pc := 11) h 3 rfl rfl dX5_there_11 ?_
      refine R_aload_n (pc := 12) h 0 rfl rfl dX5_there_12 ?_
      refine R_iload_n (pc := 13) h 2 rfl rfl dX5_there_13 ?_
      refine R_iload (pc := 14) h 4 rfl dX5_there_14 ?_
      refine R_imul (pc := 16) h dX5_there_16 ?_
      obtain ⟨v2, hv2, hF⟩ := bd hF
      refine R_iald (pc := 17) h hv2 lm_4 dX5_there_17 ?_
      refine R_if_ge (pc := 18) (tgt := 25) h dX5_there_18 (by decide) (fun c3 => ?_) (fun c3 => ?_)
      · have hF := itp c3 hF
        refine R_iconst (pc := 25) (v := 1) h (by decide) dX5_there_25 ?_
        refine R_iadd (pc := 26) h dX5_there_26 ?_
        obtain ⟨v4, hv4, hF⟩ := nm_e2 hF
        refine R_istore_n (pc := 27) (lv' := [(3, .int v4), (0, .ref (ad 4)), (1, .int x1), (2, .int x2), (4, .int x4)]) h hv4 rfl (by decide) rfl dX5_there_27 ?_
        obtain ⟨v5, hv5, hF⟩ := nm_e2 hF
        refine R_iinc (pc := 28) (lv' := [(4, .int v5), (3, .int v4), (0, .ref (ad 4)), (1, .int x1), (2, .int x2)]) h 4 rfl (by decide) hv5 (by decide) rfl dX5_there_28 ?_
        refine R_goto (pc := 31) (tgt := 5) h dX5_there_31 (by decide) ?_
        exact Wp_sub (nX := 0) (lv' := [(0, .ref (ad 4)), (1, .int x1), (2, .int x2), (3, .int v4), (4, .int v5)]) [2, 3, 4, 1, 0] rfl (ih _ _ _ _ hF)
      · have hF := ifn c3 hF
        refine R_iconst (pc := 21) (v := 0) h (by decide) dX5_there_21 ?_
        refine R_goto (pc := 22) (tgt := 26) h dX5_there_22 (by decide) ?_
        refine R_iadd (pc := 26) h dX5_there_26 ?_
        obtain ⟨v6, hv6, hF⟩ := nm_e2 hF
        refine R_istore_n (pc := 27) (lv' := [(3, .int v6), (0, .ref (ad 4)), (1, .int x1), (2, .int x2), (4, .int x4)]) h hv6 rfl (by decide) rfl dX5_there_27 ?_
        obtain ⟨v7, hv7, hF⟩ := nm_e2 hF
        refine R_iinc (pc := 28) (lv' := [(4, .int v7), (3, .int v6), (0, .ref (ad 4)), (1, .int x1), (2, .int x2)]) h 4 rfl (by decide) hv7 (by decide) rfl dX5_there_28 ?_
        refine R_goto (pc := 31) (tgt := 5) h dX5_there_31 (by decide) ?_
        exact Wp_sub (nX := 0) (lv' := [(0, .ref (ad 4)), (1, .int x1), (2, .int x2), (3, .int v6), (4, .int v7)]) [2, 3, 4, 1, 0] rfl (ih _ _ _ _ hF)
theorem w5_there_4_5 {ad : Nat → Nat} {X : XX} {R : Int32} {M : Mem} {fu : Nat}  (h : Cx layM ad X cX5_there RX5 5 1 (some .int) M (some (.int R)))  {f : Nat} {x1 : Int32} {x2 : Int32} {x3 : Int32} {x4 : Int32} (hF : f5_there_4_5 M fu f x1 x2 x3 x4 = some R) : Wp layM ad X M 5 [(0, .ref (ad 4)), (1, .int x1), (2, .int x2), (3, .int x3), (4, .int x4)] [] := w5_there_4i_5 h  f _ _ _ _ hF
def f5_there_4 (M : Mem) (fu : Nat) (x1 : Int32) (x2 : Int32) : Option (Int32) :=
    (f5_there_4_5 M fu fu x1 x2 (0 : Int32) (0 : Int32))
set_option maxHeartbeats 4000000 in
set_option maxRecDepth 10000 in
theorem w5_there_4 {ad : Nat → Nat} {X : XX} {R : Int32} {M : Mem} {fu : Nat} (h : Cx layM ad X cX5_there RX5 5 1 (some .int) M (some (.int R))) {x1 : Int32} {x2 : Int32} (hF : f5_there_4 M fu x1 x2 = some R) : Wp layM ad X M 0 [(0, .ref (ad 4)), (1, .int x1), (2, .int x2)] [] := by
  unfold f5_there_4 at hF
  refine R_iconst (pc := 0) (v := 0) h (by decide) dX5_there_0 ?_
  refine R_istore_n (pc := 1) (lv' := [(3, .int (0 : Int32)), (0, .ref (ad 4)), (1, .int x1), (2, .int x2)]) h rfl rfl (by decide) rfl dX5_there_1 ?_
  refine R_iconst (pc := 2) (v := 0) h (by decide) dX5_there_2 ?_
  refine R_istore (pc := 3) (lv' := [(4, .int (0 : Int32)), (3, .int (0 : Int32)), (0, .ref (ad 4)), (1, .int x1), (2, .int x2)]) h rfl (by decide) rfl dX5_there_3 ?_
  exact Wp_sub (nX := 0) (lv' := [(0, .ref (ad 4)), (1, .int x1), (2, .int x2), (3, .int (0 : Int32)), (4, .int (0 : Int32))]) [2, 3, 4, 1, 0] rfl (w5_there_4_5 h  (hF := hF))
theorem c5_there_4 {ad : Nat → Nat} {z : ZZ} {R : Int32} {M : Mem} {fu : Nat} {x1 : Int32} {x2 : Int32} (hF : f5_there_4 M fu x1 x2 = some R) : Con layM ad z yX5_there cX5_there 5 (some .int) 1 M [.ref (ad 4), .int x1, .int x2] (M) (some (.int R)) := con_of (own := RX5) (lv := [(0, .ref (ad 4)), (1, .int x1), (2, .int x2)]) (by decide +kernel) rfl (Nat.le_of_ble_eq_true rfl) rfl (fun X hz h => w5_there_4 h hF)
def f5_there_12_5 (M : Mem) (fu : Nat) : Nat → Int32 → Int32 → Int32 → Int32 → Option (Int32)
  | 0 => fun _ _ _ _ => none
  | f + 1 => fun x1 x2 x3 x4 =>
    if x1 ≤ x4 then ((some x3))
    else ((rd M 12 1110 (x2 * x4)).bind fun v2 =>
    if 0 ≤ v2 then (nm (x3 + (1 : Int32)) fun v4 =>
    nm (x4 + (1 : Int32)) fun v5 =>
    ((f5_there_12_5 M fu f) x1 x2 v4 v5))
    else (nm (x3 + (0 : Int32)) fun v6 =>
    nm (x4 + (1 : Int32)) fun v7 =>
    ((f5_there_12_5 M fu f) x1 x2 v6 v7)))
set_option maxHeartbeats 4000000 in
set_option maxRecDepth 10000 in
theorem w5_there_12i_5 {ad : Nat → Nat} {X : XX} {R : Int32} {M : Mem} {fu : Nat}  (h : Cx layM ad X cX5_there RX5 5 1 (some .int) M (some (.int R)))  : ∀ (f : Nat) (x1 : Int32) (x2 : Int32) (x3 : Int32) (x4 : Int32), f5_there_12_5 M fu f x1 x2 x3 x4 = some R → Wp layM ad X M 5 [(0, .ref (ad 12)), (1, .int x1), (2, .int x2), (3, .int x3), (4, .int x4)] [] := by
  intro f
  induction f with
  | zero => intro x1 x2 x3 x4 hF; exact absurd hF (by simp [f5_there_12_5])
  | succ f ih =>
    intro x1 x2 x3 x4 hF
    rw [f5_there_12_5] at hF
    refine R_iload (pc := 5) h 4 rfl dX5_there_5 ?_
    refine R_iload_n (pc := 7) h 1 rfl rfl dX5_there_7 ?_
    refine R_icmp_ge (pc := 8) (tgt := 34) h dX5_there_8 (by decide) (fun c1 => ?_) (fun c1 => ?_)
    · have hF := itp c1 hF
      refine R_iload_n (pc := 34) h 3 rfl rfl dX5_there_34 ?_
      cases hF
      exact R_ireturn (pc := 35) h rfl rfl rfl dX5_there_35
    · have hF := ifn c1 hF
      refine R_iload_n (pc := 11) h 3 rfl rfl dX5_there_11 ?_
      refine R_aload_n (pc := 12) h 0 rfl rfl dX5_there_12 ?_
      refine R_iload_n (pc := 13) h 2 rfl rfl dX5_there_13 ?_
      refine R_iload (pc := 14) h 4 rfl dX5_there_14 ?_
      refine R_imul (pc := 16) h dX5_there_16 ?_
      obtain ⟨v2, hv2, hF⟩ := bd hF
      refine R_iald (pc := 17) h hv2 lm_12 dX5_there_17 ?_
      refine R_if_ge (pc := 18) (tgt := 25) h dX5_there_18 (by decide) (fun c3 => ?_) (fun c3 => ?_)
      · have hF := itp c3 hF
        refine R_iconst (pc := 25) (v := 1) h (by decide) dX5_there_25 ?_
        refine R_iadd (pc := 26) h dX5_there_26 ?_
        obtain ⟨v4, hv4, hF⟩ := nm_e2 hF
        refine R_istore_n (pc := 27) (lv' := [(3, .int v4), (0, .ref (ad 12)), (1, .int x1), (2, .int x2), (4, .int x4)]) h hv4 rfl (by decide) rfl dX5_there_27 ?_
        obtain ⟨v5, hv5, hF⟩ := nm_e2 hF
        refine R_iinc (pc := 28) (lv' := [(4, .int v5), (3, .int v4), (0, .ref (ad 12)), (1, .int x1), (2, .int x2)]) h 4 rfl (by decide) hv5 (by decide) rfl dX5_there_28 ?_
        refine R_goto (pc := 31) (tgt := 5) h dX5_there_31 (by decide) ?_
        exact Wp_sub (nX := 0) (lv' := [(0, .ref (ad 12)), (1, .int x1), (2, .int x2), (3, .int v4), (4, .int v5)]) [2, 3, 4, 1, 0] rfl (ih _ _ _ _ hF)
      · have hF := ifn c3 hF
        refine R_iconst (pc := 21) (v := 0) h (by decide) dX5_there_21 ?_
        refine R_goto (pc := 22) (tgt := 26) h dX5_there_22 (by decide) ?_
        refine R_iadd (pc := 26) h dX5_there_26 ?_
        obtain ⟨v6, hv6, hF⟩ := nm_e2 hF
        refine R_istore_n (pc := 27) (lv' := [(3, .int v6), (0, .ref (ad 12)), (1, .int x1), (2, .int x2), (4, .int x4)]) h hv6 rfl (by decide) rfl dX5_there_27 ?_
        obtain ⟨v7, hv7, hF⟩ := nm_e2 hF
        refine R_iinc (pc := 28) (lv' := [(4, .int v7), (3, .int v6), (0, .ref (ad 12)), (1, .int x1), (2, .int x2)]) h 4 rfl (by decide) hv7 (by decide) rfl dX5_there_28 ?_
        refine R_goto (pc := 31) (tgt := 5) h dX5_there_31 (by decide) ?_
        exact Wp_sub (nX := 0) (lv' := [(0, .ref (ad 12)), (1, .int x1), (2, .int x2), (3, .int v6), (4, .int v7)]) [2, 3, 4, 1, 0] rfl (ih _ _ _ _ hF)
theorem w5_there_12_5 {ad : Nat → Nat} {X : XX} {R : Int32} {M : Mem} {fu : Nat}  (h : Cx layM ad X cX5_there RX5 5 1 (some .int) M (some (.int R)))  {f : Nat} {x1 : Int32} {x2 : Int32} {x3 : Int32} {x4 : Int32} (hF : f5_there_12_5 M fu f x1 x2 x3 x4 = some R) : Wp layM ad X M 5 [(0, .ref (ad 12)), (1, .int x1), (2, .int x2), (3, .int x3), (4, .int x4)] [] := w5_there_12i_5 h  f _ _ _ _ hF
def f5_there_12 (M : Mem) (fu : Nat) (x1 : Int32) (x2 : Int32) : Option (Int32) :=
    (f5_there_12_5 M fu fu x1 x2 (0 : Int32) (0 : Int32))
set_option maxHeartbeats 4000000 in
set_option maxRecDepth 10000 in
theorem w5_there_12 {ad : Nat → Nat} {X : XX} {R : Int32} {M : Mem} {fu : Nat} (h : Cx layM ad X cX5_there RX5 5 1 (some .int) M (some (.int R))) {x1 : Int32} {x2 : Int32} (hF : f5_there_12 M fu x1 x2 = some R) : Wp layM ad X M 0 [(0, .ref (ad 12)), (1, .int x1), (2, .int x2)] [] := by
  unfold f5_there_12 at hF
  refine R_iconst (pc := 0) (v := 0) h (by decide) dX5_there_0 ?_
  refine R_istore_n (pc := 1) (lv' := [(3, .int (0 : Int32)), (0, .ref (ad 12)), (1, .int x1), (2, .int x2)]) h rfl rfl (by decide) rfl dX5_there_1 ?_
  refine R_iconst (pc := 2) (v := 0) h (by decide) dX5_there_2 ?_
  refine R_istore (pc := 3) (lv' := [(4, .int (0 : Int32)), (3, .int (0 : Int32)), (0, .ref (ad 12)), (1, .int x1), (2, .int x2)]) h rfl (by decide) rfl dX5_there_3 ?_
  exact Wp_sub (nX := 0) (lv' := [(0, .ref (ad 12)), (1, .int x1), (2, .int x2), (3, .int (0 : Int32)), (4, .int (0 : Int32))]) [2, 3, 4, 1, 0] rfl (w5_there_12_5 h  (hF := hF))
theorem c5_there_12 {ad : Nat → Nat} {z : ZZ} {R : Int32} {M : Mem} {fu : Nat} {x1 : Int32} {x2 : Int32} (hF : f5_there_12 M fu x1 x2 = some R) : Con layM ad z yX5_there cX5_there 5 (some .int) 1 M [.ref (ad 12), .int x1, .int x2] (M) (some (.int R)) := con_of (own := RX5) (lv := [(0, .ref (ad 12)), (1, .int x1), (2, .int x2)]) (by decide +kernel) rfl (Nat.le_of_ble_eq_true rfl) rfl (fun X hz h => w5_there_12 h hF)
def f5_ofKind_4 (M : Mem) (fu : Nat) : Nat → Int32 → Int32 → Int32 → Option (Int32)
  | 0 => fun _ _ _ => none
  | f + 1 => fun x1 x2 x3 =>
    if (M.1 0 9) ≤ x3 then ((some x2))
    else ((rd M 6 8 x3).bind fun v2 =>
    (f5_isOf v2 x1).bind fun r4 =>
    if r4 = 0 then (nm (x2 + (0 : Int32)) fun v6 =>
    nm (x3 + (1 : Int32)) fun v7 =>
    ((f5_ofKind_4 M fu f) x1 v6 v7))
    else (nm (x2 + (1 : Int32)) fun v8 =>
    nm (x3 + (1 : Int32)) fun v9 =>
    ((f5_ofKind_4 M fu f) x1 v8 v9)))
set_option maxHeartbeats 4000000 in
set_option maxRecDepth 10000 in
theorem w5_ofKindi_4 {ad : Nat → Nat} {X : XX} {R : Int32} {M : Mem} {fu : Nat}  (h : Cx layM ad X cX5_ofKind RX5 4 2 (some .int) M (some (.int R)))  : ∀ (f : Nat) (x1 : Int32) (x2 : Int32) (x3 : Int32), f5_ofKind_4 M fu f x1 x2 x3 = some R → Wp layM ad X M 4 [(0, .ref (ad 0)), (1, .int x1), (2, .int x2), (3, .int x3)] [] := by
  intro f
  induction f with
  | zero => intro x1 x2 x3 hF; exact absurd hF (by simp [f5_ofKind_4])
  | succ f ih =>
    intro x1 x2 x3 hF
    rw [f5_ofKind_4] at hF
    refine R_iload_n (pc := 4) h 3 rfl rfl dX5_ofKind_4 ?_
    refine R_aload_n (pc := 5) h 0 rfl rfl dX5_ofKind_5 ?_
    refine R_getI (pc := 6) h flX5_130 lm_0 rfl dX5_ofKind_6 ?_
    refine R_icmp_ge (pc := 9) (tgt := 39) h dX5_ofKind_9 (by decide) (fun c1 => ?_) (fun c1 => ?_)
    · have hF := itp c1 hF
      refine R_iload_n (pc := 39) h 2 rfl rfl dX5_ofKind_39 ?_
      cases hF
      exact R_ireturn (pc := 40) h rfl rfl rfl dX5_ofKind_40
    · have hF := ifn c1 hF
      refine R_iload_n (pc := 12) h 2 rfl rfl dX5_ofKind_12 ?_
      refine R_aload_n (pc := 13) h 0 rfl rfl dX5_ofKind_13 ?_
      refine R_getR (pc := 14) (q1 := 6) h flX5_29 lm_0 rfl dX5_ofKind_14 ?_
      refine R_iload_n (pc := 17) h 3 rfl rfl dX5_ofKind_17 ?_
      obtain ⟨v2, hv2, hF⟩ := bd hF
      refine R_iald (pc := 18) h hv2 lm_6 dX5_ofKind_18 ?_
      refine R_iload_n (pc := 19) h 1 rfl rfl dX5_ofKind_19 ?_
      obtain ⟨r4, hc3, hF⟩ := bd hF
      refine R_callS (pc := 20) (st := [.int x2]) h [.int v2, .int x1] csX5_158 (c5_isOf (ad := ad) (z := X.1) (M := M) hc3) rfl rfl (by decide) (by decide) (Nat.le_of_ble_eq_true rfl) dX5_ofKind_20 (st1 := [.int r4, .int x2]) rfl ?_
      refine R_if_eq (pc := 23) (tgt := 30) h dX5_ofKind_23 (by decide) (fun c5 => ?_) (fun c5 => ?_)
      · have hF := itp c5 hF
        refine R_iconst (pc := 30) (v := 0) h (by decide) dX5_ofKind_30 ?_
        refine R_iadd (pc := 31) h dX5_ofKind_31 ?_
        obtain ⟨v6, hv6, hF⟩ := nm_e2 hF
        refine R_istore_n (pc := 32) (lv' := [(2, .int v6), (0, .ref (ad 0)), (1, .int x1), (3, .int x3)]) h hv6 rfl (by decide) rfl dX5_ofKind_32 ?_
        obtain ⟨v7, hv7, hF⟩ := nm_e2 hF
        refine R_iinc (pc := 33) (lv' := [(3, .int v7), (2, .int v6), (0, .ref (ad 0)), (1, .int x1)]) h 3 rfl (by decide) hv7 (by decide) rfl dX5_ofKind_33 ?_
        refine R_goto (pc := 36) (tgt := 4) h dX5_ofKind_36 (by decide) ?_
        exact Wp_sub (nX := 0) (lv' := [(0, .ref (ad 0)), (1, .int x1), (2, .int v6), (3, .int v7)]) [2, 3, 1, 0] rfl (ih _ _ _ hF)
      · have hF := ifn c5 hF
        refine R_iconst (pc := 26) (v := 1) h (by decide) dX5_ofKind_26 ?_
        refine R_goto (pc := 27) (tgt := 31) h dX5_ofKind_27 (by decide) ?_
        refine R_iadd (pc := 31) h dX5_ofKind_31 ?_
        obtain ⟨v8, hv8, hF⟩ := nm_e2 hF
        refine R_istore_n (pc := 32) (lv' := [(2, .int v8), (0, .ref (ad 0)), (1, .int x1), (3, .int x3)]) h hv8 rfl (by decide) rfl dX5_ofKind_32 ?_
        obtain ⟨v9, hv9, hF⟩ := nm_e2 hF
        refine R_iinc (pc := 33) (lv' := [(3, .int v9), (2, .int v8), (0, .ref (ad 0)), (1, .int x1)]) h 3 rfl (by decide) hv9 (by decide) rfl dX5_ofKind_33 ?_
        refine R_goto (pc := 36) (tgt := 4) h dX5_ofKind_36 (by decide) ?_
        exact Wp_sub (nX := 0) (lv' := [(0, .ref (ad 0)), (1, .int x1), (2, .int v8), (3, .int v9)]) [2, 3, 1, 0] rfl (ih _ _ _ hF)
theorem w5_ofKind_4 {ad : Nat → Nat} {X : XX} {R : Int32} {M : Mem} {fu : Nat}  (h : Cx layM ad X cX5_ofKind RX5 4 2 (some .int) M (some (.int R)))  {f : Nat} {x1 : Int32} {x2 : Int32} {x3 : Int32} (hF : f5_ofKind_4 M fu f x1 x2 x3 = some R) : Wp layM ad X M 4 [(0, .ref (ad 0)), (1, .int x1), (2, .int x2), (3, .int x3)] [] := w5_ofKindi_4 h  f _ _ _ hF
def f5_ofKind (M : Mem) (fu : Nat) (x1 : Int32) : Option (Int32) :=
    (f5_ofKind_4 M fu fu x1 (0 : Int32) (0 : Int32))
set_option maxHeartbeats 4000000 in
set_option maxRecDepth 10000 in
theorem w5_ofKind {ad : Nat → Nat} {X : XX} {R : Int32} {M : Mem} {fu : Nat} (h : Cx layM ad X cX5_ofKind RX5 4 2 (some .int) M (some (.int R))) {x1 : Int32} (hF : f5_ofKind M fu x1 = some R) : Wp layM ad X M 0 [(0, .ref (ad 0)), (1, .int x1)] [] := by
  unfold f5_ofKind at hF
  refine R_iconst (pc := 0) (v := 0) h (by decide) dX5_ofKind_0 ?_
  refine R_istore_n (pc := 1) (lv' := [(2, .int (0 : Int32)), (0, .ref (ad 0)), (1, .int x1)]) h rfl rfl (by decide) rfl dX5_ofKind_1 ?_
  refine R_iconst (pc := 2) (v := 0) h (by decide) dX5_ofKind_2 ?_
  refine R_istore_n (pc := 3) (lv' := [(3, .int (0 : Int32)), (2, .int (0 : Int32)), (0, .ref (ad 0)), (1, .int x1)]) h rfl rfl (by decide) rfl dX5_ofKind_3 ?_
  exact Wp_sub (nX := 0) (lv' := [(0, .ref (ad 0)), (1, .int x1), (2, .int (0 : Int32)), (3, .int (0 : Int32))]) [2, 3, 1, 0] rfl (w5_ofKind_4 h  (hF := hF))
theorem c5_ofKind {ad : Nat → Nat} {z : ZZ} {R : Int32} {M : Mem} {fu : Nat} {x1 : Int32} (hF : f5_ofKind M fu x1 = some R) : Con layM ad z yX5_ofKind cX5_ofKind 4 (some .int) 2 M [.ref (ad 0), .int x1] (M) (some (.int R)) := con_of (own := RX5) (lv := [(0, .ref (ad 0)), (1, .int x1)]) (by decide +kernel) rfl (Nat.le_of_ble_eq_true rfl) rfl (fun X hz h => w5_ofKind h hF)
def f5_count (M : Mem) (fu : Nat) (x1 : Int32) : Option (Int32) :=
    if x1 = 0 then ((some (M.1 0 9)))
    else if x1 = 1 then ((rd M 10 9 (0 : Int32)).bind fun v3 =>
    (some v3))
    else if x1 = 2 then ((some (M.1 0 16)))
    else if x1 = 3 then ((f5_those M fu (-1 : Int32)).bind fun r7 =>
    (some r7))
    else if x1 = 4 then ((f5_those M fu (-9 : Int32)).bind fun r10 =>
    (some r10))
    else if x1 = 5 then ((f5_those M fu (-2 : Int32)).bind fun r13 =>
    (some r13))
    else if x1 = 6 then ((f5_there_2 M fu (6 : Int32) (1 : Int32)).bind fun r16 =>
    (some r16))
    else if x1 = 7 then ((f5_there_4 M fu (4 : Int32) (1 : Int32)).bind fun r19 =>
    (some r19))
    else if x1 = 8 then ((f5_there_12 M fu (3 : Int32) (370 : Int32)).bind fun r22 =>
    (some r22))
    else if x1 = 9 then ((f5_ofKind M fu (1 : Int32)).bind fun r25 =>
    (some r25))
    else if x1 = 10 then ((f5_ofKind M fu (2 : Int32)).bind fun r28 =>
    (some r28))
    else ((some (-1 : Int32)))
set_option maxHeartbeats 4000000 in
set_option maxRecDepth 10000 in
theorem w5_count {ad : Nat → Nat} {X : XX} {R : Int32} {M : Mem} {fu : Nat} (h : Cx layM ad X cX5_count RX5 2 3 (some .int) M (some (.int R))) {x1 : Int32} (hF : f5_count M fu x1 = some R) : Wp layM ad X M 0 [(0, .ref (ad 0)), (1, .int x1)] [] := by
  unfold f5_count at hF
  refine R_iload_n (pc := 0) h 1 rfl rfl dX5_count_0 ?_
  by_cases c1 : x1 = 0
  · have hF := itp c1 hF
    refine R_tableIn (pc := 1) (off := 59) (tgt := 60) h dX5_count_1 (by rw [c1]; decide +kernel) (by rw [c1]; decide +kernel) (by rw [c1]; decide +kernel) (by decide) ?_
    refine R_aload_n (pc := 60) h 0 rfl rfl dX5_count_60 ?_
    refine R_getI (pc := 61) h flX5_130 lm_0 rfl dX5_count_61 ?_
    cases hF
    exact R_ireturn (pc := 64) h rfl rfl rfl dX5_count_64
  have hF := ifn c1 hF
  by_cases c2 : x1 = 1
  · have hF := itp c2 hF
    refine R_tableIn (pc := 1) (off := 64) (tgt := 65) h dX5_count_1 (by rw [c2]; decide +kernel) (by rw [c2]; decide +kernel) (by rw [c2]; decide +kernel) (by decide) ?_
    refine R_aload_n (pc := 65) h 0 rfl rfl dX5_count_65 ?_
    refine R_getR (pc := 66) (q1 := 10) h flX5_41 lm_0 rfl dX5_count_66 ?_
    refine R_iconst (pc := 69) (v := 0) h (by decide) dX5_count_69 ?_
    obtain ⟨v3, hv3, hF⟩ := bd hF
    refine R_iald (pc := 70) h hv3 lm_10 dX5_count_70 ?_
    cases hF
    exact R_ireturn (pc := 71) h rfl rfl rfl dX5_count_71
  have hF := ifn c2 hF
  by_cases c4 : x1 = 2
  · have hF := itp c4 hF
    refine R_tableIn (pc := 1) (off := 71) (tgt := 72) h dX5_count_1 (by rw [c4]; decide +kernel) (by rw [c4]; decide +kernel) (by rw [c4]; decide +kernel) (by decide) ?_
    refine R_aload_n (pc := 72) h 0 rfl rfl dX5_count_72 ?_
    refine R_getI (pc := 73) h flX5_91 lm_0 rfl dX5_count_73 ?_
    cases hF
    exact R_ireturn (pc := 76) h rfl rfl rfl dX5_count_76
  have hF := ifn c4 hF
  by_cases c5 : x1 = 3
  · have hF := itp c5 hF
    refine R_tableIn (pc := 1) (off := 76) (tgt := 77) h dX5_count_1 (by rw [c5]; decide +kernel) (by rw [c5]; decide +kernel) (by rw [c5]; decide +kernel) (by decide) ?_
    refine R_aload_n (pc := 77) h 0 rfl rfl dX5_count_77 ?_
    refine R_iconst (pc := 78) (v := (-1)) h (by decide) dX5_count_78 ?_
    obtain ⟨r7, hc6, hF⟩ := bd hF
    refine R_callV (pc := 79) (st := []) h [.int (-1 : Int32)] cvX5_170 (c5_those (ad := ad) (z := X.1) hc6) rfl rfl lm_0 (by decide) (by decide) (Nat.le_of_ble_eq_true rfl) dX5_count_79 (st1 := [.int r7]) rfl ?_
    cases hF
    exact R_ireturn (pc := 82) h rfl rfl rfl dX5_count_82
  have hF := ifn c5 hF
  by_cases c8 : x1 = 4
  · have hF := itp c8 hF
    refine R_tableIn (pc := 1) (off := 82) (tgt := 83) h dX5_count_1 (by rw [c8]; decide +kernel) (by rw [c8]; decide +kernel) (by rw [c8]; decide +kernel) (by decide) ?_
    refine R_aload_n (pc := 83) h 0 rfl rfl dX5_count_83 ?_
    refine R_bipush (pc := 84) (v := (-9)) h (by decide) dX5_count_84 ?_
    obtain ⟨r10, hc9, hF⟩ := bd hF
    refine R_callV (pc := 86) (st := []) h [.int (-9 : Int32)] cvX5_170 (c5_those (ad := ad) (z := X.1) hc9) rfl rfl lm_0 (by decide) (by decide) (Nat.le_of_ble_eq_true rfl) dX5_count_86 (st1 := [.int r10]) rfl ?_
    cases hF
    exact R_ireturn (pc := 89) h rfl rfl rfl dX5_count_89
  have hF := ifn c8 hF
  by_cases c11 : x1 = 5
  · have hF := itp c11 hF
    refine R_tableIn (pc := 1) (off := 89) (tgt := 90) h dX5_count_1 (by rw [c11]; decide +kernel) (by rw [c11]; decide +kernel) (by rw [c11]; decide +kernel) (by decide) ?_
    refine R_aload_n (pc := 90) h 0 rfl rfl dX5_count_90 ?_
    refine R_bipush (pc := 91) (v := (-2)) h (by decide) dX5_count_91 ?_
    obtain ⟨r13, hc12, hF⟩ := bd hF
    refine R_callV (pc := 93) (st := []) h [.int (-2 : Int32)] cvX5_170 (c5_those (ad := ad) (z := X.1) hc12) rfl rfl lm_0 (by decide) (by decide) (Nat.le_of_ble_eq_true rfl) dX5_count_93 (st1 := [.int r13]) rfl ?_
    cases hF
    exact R_ireturn (pc := 96) h rfl rfl rfl dX5_count_96
  have hF := ifn c11 hF
  by_cases c14 : x1 = 6
  · have hF := itp c14 hF
    refine R_tableIn (pc := 1) (off := 96) (tgt := 97) h dX5_count_1 (by rw [c14]; decide +kernel) (by rw [c14]; decide +kernel) (by rw [c14]; decide +kernel) (by decide) ?_
    refine R_aload_n (pc := 97) h 0 rfl rfl dX5_count_97 ?_
    refine R_getR (pc := 98) (q1 := 2) h flX5_13 lm_0 rfl dX5_count_98 ?_
    refine R_bipush (pc := 101) (v := 6) h (by decide) dX5_count_101 ?_
    refine R_iconst (pc := 103) (v := 1) h (by decide) dX5_count_103 ?_
    obtain ⟨r16, hc15, hF⟩ := bd hF
    refine R_callS (pc := 104) (st := []) h [.ref (ad 2), .int (6 : Int32), .int (1 : Int32)] csX5_256 (c5_there_2 (ad := ad) (z := X.1) hc15) rfl rfl (by decide) (by decide) (Nat.le_of_ble_eq_true rfl) dX5_count_104 (st1 := [.int r16]) rfl ?_
    cases hF
    exact R_ireturn (pc := 107) h rfl rfl rfl dX5_count_107
  have hF := ifn c14 hF
  by_cases c17 : x1 = 7
  · have hF := itp c17 hF
    refine R_tableIn (pc := 1) (off := 107) (tgt := 108) h dX5_count_1 (by rw [c17]; decide +kernel) (by rw [c17]; decide +kernel) (by rw [c17]; decide +kernel) (by decide) ?_
    refine R_aload_n (pc := 108) h 0 rfl rfl dX5_count_108 ?_
    refine R_getR (pc := 109) (q1 := 4) h flX5_19 lm_0 rfl dX5_count_109 ?_
    refine R_iconst (pc := 112) (v := 4) h (by decide) dX5_count_112 ?_
    refine R_iconst (pc := 113) (v := 1) h (by decide) dX5_count_113 ?_
    obtain ⟨r19, hc18, hF⟩ := bd hF
    refine R_callS (pc := 114) (st := []) h [.ref (ad 4), .int (4 : Int32), .int (1 : Int32)] csX5_256 (c5_there_4 (ad := ad) (z := X.1) hc18) rfl rfl (by decide) (by decide) (Nat.le_of_ble_eq_true rfl) dX5_count_114 (st1 := [.int r19]) rfl ?_
    cases hF
    exact R_ireturn (pc := 117) h rfl rfl rfl dX5_count_117
  have hF := ifn c17 hF
  by_cases c20 : x1 = 8
  · have hF := itp c20 hF
    refine R_tableIn (pc := 1) (off := 117) (tgt := 118) h dX5_count_1 (by rw [c20]; decide +kernel) (by rw [c20]; decide +kernel) (by rw [c20]; decide +kernel) (by decide) ?_
    refine R_aload_n (pc := 118) h 0 rfl rfl dX5_count_118 ?_
    refine R_getR (pc := 119) (q1 := 12) h flX5_47 lm_0 rfl dX5_count_119 ?_
    refine R_iconst (pc := 122) (v := 3) h (by decide) dX5_count_122 ?_
    refine R_sipush (pc := 123) (v := 370) h (by decide) dX5_count_123 ?_
    obtain ⟨r22, hc21, hF⟩ := bd hF
    refine R_callS (pc := 126) (st := []) h [.ref (ad 12), .int (3 : Int32), .int (370 : Int32)] csX5_256 (c5_there_12 (ad := ad) (z := X.1) hc21) rfl rfl (by decide) (by decide) (Nat.le_of_ble_eq_true rfl) dX5_count_126 (st1 := [.int r22]) rfl ?_
    cases hF
    exact R_ireturn (pc := 129) h rfl rfl rfl dX5_count_129
  have hF := ifn c20 hF
  by_cases c23 : x1 = 9
  · have hF := itp c23 hF
    refine R_tableIn (pc := 1) (off := 129) (tgt := 130) h dX5_count_1 (by rw [c23]; decide +kernel) (by rw [c23]; decide +kernel) (by rw [c23]; decide +kernel) (by decide) ?_
    refine R_aload_n (pc := 130) h 0 rfl rfl dX5_count_130 ?_
    refine R_iconst (pc := 131) (v := 1) h (by decide) dX5_count_131 ?_
    obtain ⟨r25, hc24, hF⟩ := bd hF
    refine R_callV (pc := 132) (st := []) h [.int (1 : Int32)] cvX5_260 (c5_ofKind (ad := ad) (z := X.1) hc24) rfl rfl lm_0 (by decide) (by decide) (Nat.le_of_ble_eq_true rfl) dX5_count_132 (st1 := [.int r25]) rfl ?_
    cases hF
    exact R_ireturn (pc := 135) h rfl rfl rfl dX5_count_135
  have hF := ifn c23 hF
  by_cases c26 : x1 = 10
  · have hF := itp c26 hF
    refine R_tableIn (pc := 1) (off := 135) (tgt := 136) h dX5_count_1 (by rw [c26]; decide +kernel) (by rw [c26]; decide +kernel) (by rw [c26]; decide +kernel) (by decide) ?_
    refine R_aload_n (pc := 136) h 0 rfl rfl dX5_count_136 ?_
    refine R_iconst (pc := 137) (v := 2) h (by decide) dX5_count_137 ?_
    obtain ⟨r28, hc27, hF⟩ := bd hF
    refine R_callV (pc := 138) (st := []) h [.int (2 : Int32)] cvX5_260 (c5_ofKind (ad := ad) (z := X.1) hc27) rfl rfl lm_0 (by decide) (by decide) (Nat.le_of_ble_eq_true rfl) dX5_count_138 (st1 := [.int r28]) rfl ?_
    cases hF
    exact R_ireturn (pc := 141) h rfl rfl rfl dX5_count_141
  have hF := ifn c26 hF
  refine R_tableOut (pc := 1) (tgt := 142) h dX5_count_1 (by have e0 := lv_neT c1 (a := 0) (by decide); have e1 := lv_neT c2 (a := 1) (by decide); have e2 := lv_neT c4 (a := 2) (by decide); have e3 := lv_neT c5 (a := 3) (by decide); have e4 := lv_neT c8 (a := 4) (by decide); have e5 := lv_neT c11 (a := 5) (by decide); have e6 := lv_neT c14 (a := 6) (by decide); have e7 := lv_neT c17 (a := 7) (by decide); have e8 := lv_neT c20 (a := 8) (by decide); have e9 := lv_neT c23 (a := 9) (by decide); have e10 := lv_neT c26 (a := 10) (by decide); omega) (by decide) ?_
  refine R_iconst (pc := 142) (v := (-1)) h (by decide) dX5_count_142 ?_
  cases hF
  exact R_ireturn (pc := 143) h rfl rfl rfl dX5_count_143
theorem c5_count {ad : Nat → Nat} {z : ZZ} {R : Int32} {M : Mem} {fu : Nat} {x1 : Int32} (hF : f5_count M fu x1 = some R) : Con layM ad z yX5_count cX5_count 2 (some .int) 3 M [.ref (ad 0), .int x1] (M) (some (.int R)) := con_of (own := RX5) (lv := [(0, .ref (ad 0)), (1, .int x1)]) (by decide +kernel) rfl (Nat.le_of_ble_eq_true rfl) rfl (fun X hz h => w5_count h hF)
def f5_finding (M : Mem) : Option (Int32) :=
    (some (M.1 0 7))
set_option maxHeartbeats 4000000 in
set_option maxRecDepth 10000 in
theorem w5_finding {ad : Nat → Nat} {X : XX} {R : Int32} {M : Mem} (h : Cx layM ad X cX5_finding RX5 1 1 (some .int) M (some (.int R)))  (hF : f5_finding M = some R) : Wp layM ad X M 0 [(0, .ref (ad 0))] [] := by
  unfold f5_finding at hF
  refine R_aload_n (pc := 0) h 0 rfl rfl dX5_finding_0 ?_
  refine R_getI (pc := 1) h flX5_62 lm_0 rfl dX5_finding_1 ?_
  cases hF
  exact R_ireturn (pc := 4) h rfl rfl rfl dX5_finding_4
theorem c5_finding {ad : Nat → Nat} {z : ZZ} {R : Int32} {M : Mem}  (hF : f5_finding M = some R) : Con layM ad z yX5_finding cX5_finding 1 (some .int) 1 M [.ref (ad 0)] (M) (some (.int R)) := con_of (own := RX5) (lv := [(0, .ref (ad 0))]) (by decide +kernel) rfl (Nat.le_of_ble_eq_true rfl) rfl (fun X hz h => w5_finding h hF)
def f5_findings (M : Mem) (x1 : Int32) : Option (Int32) :=
    (f5_in x1.toInt64 (1 : Int64) (5 : Int64)).bind fun r2 =>
    if r2 = 0 then ((some (-1 : Int32)))
    else ((rd M 5 6 x1).bind fun v4 =>
    (some v4))
set_option maxHeartbeats 4000000 in
set_option maxRecDepth 10000 in
theorem w5_findings {ad : Nat → Nat} {X : XX} {R : Int32} {M : Mem} (h : Cx layM ad X cX5_findings RX5 2 2 (some .int) M (some (.int R))) {x1 : Int32} (hF : f5_findings M x1 = some R) : Wp layM ad X M 0 [(0, .ref (ad 0)), (1, .int x1)] [] := by
  unfold f5_findings at hF
  refine R_iload_n (pc := 0) h 1 rfl rfl dX5_findings_0 ?_
  refine R_i2l (pc := 1) h dX5_findings_1 ?_
  refine R_lconst (pc := 2) (v := 1) h (by decide) dX5_findings_2 ?_
  refine R_ldc2 (pc := 3) h klX5_69 dX5_findings_3 ?_
  obtain ⟨r2, hc1, hF⟩ := bd hF
  refine R_callS (pc := 6) (st := []) h [.long x1.toInt64, .long (1 : Int64), .long (5 : Int64)] csX5_71 (c5_in (ad := ad) (z := X.1) (M := M) hc1) rfl rfl (by decide) (by decide) (Nat.le_of_ble_eq_true rfl) dX5_findings_6 (st1 := [.int r2]) rfl ?_
  refine R_if_eq (pc := 9) (tgt := 21) h dX5_findings_9 (by decide) (fun c3 => ?_) (fun c3 => ?_)
  · have hF := itp c3 hF
    refine R_iconst (pc := 21) (v := (-1)) h (by decide) dX5_findings_21 ?_
    cases hF
    exact R_ireturn (pc := 22) h rfl rfl rfl dX5_findings_22
  · have hF := ifn c3 hF
    refine R_aload_n (pc := 12) h 0 rfl rfl dX5_findings_12 ?_
    refine R_getR (pc := 13) (q1 := 5) h flX5_26 lm_0 rfl dX5_findings_13 ?_
    refine R_iload_n (pc := 16) h 1 rfl rfl dX5_findings_16 ?_
    obtain ⟨v4, hv4, hF⟩ := bd hF
    refine R_iald (pc := 17) h hv4 lm_5 dX5_findings_17 ?_
    refine R_goto (pc := 18) (tgt := 22) h dX5_findings_18 (by decide) ?_
    cases hF
    exact R_ireturn (pc := 22) h rfl rfl rfl dX5_findings_22
theorem c5_findings {ad : Nat → Nat} {z : ZZ} {R : Int32} {M : Mem} {x1 : Int32} (hF : f5_findings M x1 = some R) : Con layM ad z yX5_findings cX5_findings 2 (some .int) 2 M [.ref (ad 0), .int x1] (M) (some (.int R)) := con_of (own := RX5) (lv := [(0, .ref (ad 0)), (1, .int x1)]) (by decide +kernel) rfl (Nat.le_of_ble_eq_true rfl) rfl (fun X hz h => w5_findings h hF)
def f5_digest_153 (M : Mem) (fu : Nat) (k33 : Int64 → Int32 → Option (Int64)) (x3 : Int32) (s0 : Int32) (s1 : Int64) (s2 : Int64) : Option (Int64) :=
    (rd M 10 9 ((1 : Int32) + x3)).bind fun v1 =>
    if v1 = (-2 : Int32) then (nm ((s2 * (s1 + s0.toInt64)) + (1 : Int32).toInt64) fun v3 =>
    nm (x3 + (1 : Int32)) fun v4 =>
    (k33 v3 v4))
    else (nm ((s2 * (s1 + s0.toInt64)) + (0 : Int32).toInt64) fun v5 =>
    nm (x3 + (1 : Int32)) fun v6 =>
    (k33 v5 v6))
set_option maxHeartbeats 4000000 in
set_option maxRecDepth 10000 in
theorem w5_digest_153 {ad : Nat → Nat} {X : XX} {R : Int64} {M : Mem} {fu : Nat} {k33 : Int64 → Int32 → Option (Int64)} (h : Cx layM ad X cX5_digest RX5 5 4 (some .long) M (some (.long R))) (hk33 : ∀ (x1 : Int64) (x3 : Int32), k33 x1 x3 = some R → Wp layM ad X M 33 [(0, .ref (ad 0)), (1, .long x1), (3, .int x3)] []) {x3 : Int32} {s0 : Int32} {s1 : Int64} {s2 : Int64} (hF : f5_digest_153 M fu k33 x3 s0 s1 s2 = some R) : Wp layM ad X M 153 [(0, .ref (ad 0)), (3, .int x3)] [.int s0, .long s1, .long s2] := by
  unfold f5_digest_153 at hF
  refine R_i2l (pc := 153) h dX5_digest_153 ?_
  refine R_ladd (pc := 154) h dX5_digest_154 ?_
  refine R_lmul (pc := 155) h dX5_digest_155 ?_
  refine R_aload_n (pc := 156) h 0 rfl rfl dX5_digest_156 ?_
  refine R_getR (pc := 157) (q1 := 10) h flX5_41 lm_0 rfl dX5_digest_157 ?_
  refine R_iconst (pc := 160) (v := 1) h (by decide) dX5_digest_160 ?_
  refine R_iload_n (pc := 161) h 1 rfl rfl dX5_digest_161 ?_
  refine R_iadd (pc := 162) h dX5_digest_162 ?_
  obtain ⟨v1, hv1, hF⟩ := bd hF
  refine R_iald (pc := 163) h hv1 lm_10 dX5_digest_163 ?_
  refine R_bipush (pc := 164) (v := (-2)) h (by decide) dX5_digest_164 ?_
  refine R_icmp_ne (pc := 166) (tgt := 173) h dX5_digest_166 (by decide) (fun c2 => ?_) (fun c2 => ?_)
  · have hF := ifn c2 hF
    refine R_iconst (pc := 173) (v := 0) h (by decide) dX5_digest_173 ?_
    refine R_i2l (pc := 174) h dX5_digest_174 ?_
    refine R_ladd (pc := 175) h dX5_digest_175 ?_
    obtain ⟨v5, hv5, hF⟩ := nm_e2 hF
    refine R_lstore_n (pc := 176) (lv' := [(1, .long v5), (0, .ref (ad 0)), (3, .int x3)]) h hv5 rfl (by decide) rfl dX5_digest_176 ?_
    obtain ⟨v6, hv6, hF⟩ := nm_e2 hF
    refine R_iinc (pc := 177) (lv' := [(3, .int v6), (1, .long v5), (0, .ref (ad 0))]) h 2 rfl (by decide) hv6 (by decide) rfl dX5_digest_177 ?_
    refine R_goto (pc := 180) (tgt := 33) h dX5_digest_180 (by decide) ?_
    exact Wp_sub (nX := 0) (lv' := [(0, .ref (ad 0)), (1, .long v5), (3, .int v6)]) [2, 1, 0] rfl (hk33 _ _ hF)
  · have hF := itp c2 hF
    refine R_iconst (pc := 169) (v := 1) h (by decide) dX5_digest_169 ?_
    refine R_goto (pc := 170) (tgt := 174) h dX5_digest_170 (by decide) ?_
    refine R_i2l (pc := 174) h dX5_digest_174 ?_
    refine R_ladd (pc := 175) h dX5_digest_175 ?_
    obtain ⟨v3, hv3, hF⟩ := nm_e2 hF
    refine R_lstore_n (pc := 176) (lv' := [(1, .long v3), (0, .ref (ad 0)), (3, .int x3)]) h hv3 rfl (by decide) rfl dX5_digest_176 ?_
    obtain ⟨v4, hv4, hF⟩ := nm_e2 hF
    refine R_iinc (pc := 177) (lv' := [(3, .int v4), (1, .long v3), (0, .ref (ad 0))]) h 2 rfl (by decide) hv4 (by decide) rfl dX5_digest_177 ?_
    refine R_goto (pc := 180) (tgt := 33) h dX5_digest_180 (by decide) ?_
    exact Wp_sub (nX := 0) (lv' := [(0, .ref (ad 0)), (1, .long v3), (3, .int v4)]) [2, 1, 0] rfl (hk33 _ _ hF)
def f5_digest_85 (M : Mem) (fu : Nat) (k33 : Int64 → Int32 → Option (Int64)) (x3 : Int32) (s0 : Int32) (s1 : Int64) (s2 : Int64) (s3 : Int64) : Option (Int64) :=
    (f5_hoursOf M x3).bind fun r2 =>
    (rd M 8 8 x3).bind fun v3 =>
    nm ((s3 * ((s2 * (s1 + s0.toInt64)) + r2.toInt64)) + v3.toInt64) fun v4 =>
    (rd M 9 8 x3).bind fun v5 =>
    (f5_worthOf M x3).bind fun r7 =>
    (rd M 10 9 ((1 : Int32) + x3)).bind fun v8 =>
    if v8 = (-1 : Int32) then ((f5_digest_153 M fu k33 x3 (1 : Int32) ((31 : Int64) * (((31 : Int64) * (((31 : Int64) * v4) + v5.toInt64)) + r7.toInt64)) (31 : Int64)))
    else ((f5_digest_153 M fu k33 x3 (0 : Int32) ((31 : Int64) * (((31 : Int64) * (((31 : Int64) * v4) + v5.toInt64)) + r7.toInt64)) (31 : Int64)))
set_option maxHeartbeats 4000000 in
set_option maxRecDepth 10000 in
theorem w5_digest_85 {ad : Nat → Nat} {X : XX} {R : Int64} {M : Mem} {fu : Nat} {k33 : Int64 → Int32 → Option (Int64)} (h : Cx layM ad X cX5_digest RX5 5 4 (some .long) M (some (.long R))) (hk33 : ∀ (x1 : Int64) (x3 : Int32), k33 x1 x3 = some R → Wp layM ad X M 33 [(0, .ref (ad 0)), (1, .long x1), (3, .int x3)] []) {x3 : Int32} {s0 : Int32} {s1 : Int64} {s2 : Int64} {s3 : Int64} (hF : f5_digest_85 M fu k33 x3 s0 s1 s2 s3 = some R) : Wp layM ad X M 85 [(0, .ref (ad 0)), (3, .int x3)] [.int s0, .long s1, .long s2, .long s3] := by
  unfold f5_digest_85 at hF
  refine R_i2l (pc := 85) h dX5_digest_85 ?_
  refine R_ladd (pc := 86) h dX5_digest_86 ?_
  refine R_lmul (pc := 87) h dX5_digest_87 ?_
  refine R_aload_n (pc := 88) h 0 rfl rfl dX5_digest_88 ?_
  refine R_iload_n (pc := 89) h 1 rfl rfl dX5_digest_89 ?_
  obtain ⟨r2, hc1, hF⟩ := bd hF
  refine R_callV (pc := 90) (st := [.long (s2 * (s1 + s0.toInt64)), .long s3]) h [.int x3] cvX5_136 (c5_hoursOf (ad := ad) (z := X.1) hc1) rfl rfl lm_0 (by decide) (by decide) (Nat.le_of_ble_eq_true rfl) dX5_digest_90 (st1 := [.int r2, .long (s2 * (s1 + s0.toInt64)), .long s3]) rfl ?_
  refine R_i2l (pc := 93) h dX5_digest_93 ?_
  refine R_ladd (pc := 94) h dX5_digest_94 ?_
  refine R_lmul (pc := 95) h dX5_digest_95 ?_
  refine R_aload_n (pc := 96) h 0 rfl rfl dX5_digest_96 ?_
  refine R_getR (pc := 97) (q1 := 8) h flX5_35 lm_0 rfl dX5_digest_97 ?_
  refine R_iload_n (pc := 100) h 1 rfl rfl dX5_digest_100 ?_
  obtain ⟨v3, hv3, hF⟩ := bd hF
  refine R_iald (pc := 101) h hv3 lm_8 dX5_digest_101 ?_
  refine R_i2l (pc := 102) h dX5_digest_102 ?_
  refine R_ladd (pc := 103) h dX5_digest_103 ?_
  obtain ⟨v4, hv4, hF⟩ := nm_e2 hF
  refine R_lstore_n (pc := 104) (lv' := [(1, .long v4), (0, .ref (ad 0)), (3, .int x3)]) h hv4 rfl (by decide) rfl dX5_digest_104 ?_
  refine R_ldc2 (pc := 105) h klX5_265 dX5_digest_105 ?_
  refine R_ldc2 (pc := 108) h klX5_265 dX5_digest_108 ?_
  refine R_ldc2 (pc := 111) h klX5_265 dX5_digest_111 ?_
  refine R_ldc2 (pc := 114) h klX5_265 dX5_digest_114 ?_
  refine R_lload_n (pc := 117) h 0 rfl rfl dX5_digest_117 ?_
  refine R_lmul (pc := 118) h dX5_digest_118 ?_
  refine R_aload_n (pc := 119) h 1 rfl rfl dX5_digest_119 ?_
  refine R_getR (pc := 120) (q1 := 9) h flX5_38 lm_0 rfl dX5_digest_120 ?_
  refine R_iload_n (pc := 123) h 2 rfl rfl dX5_digest_123 ?_
  obtain ⟨v5, hv5, hF⟩ := bd hF
  refine R_iald (pc := 124) h hv5 lm_9 dX5_digest_124 ?_
  refine R_i2l (pc := 125) h dX5_digest_125 ?_
  refine R_ladd (pc := 126) h dX5_digest_126 ?_
  refine R_lmul (pc := 127) h dX5_digest_127 ?_
  refine R_aload_n (pc := 128) h 1 rfl rfl dX5_digest_128 ?_
  refine R_iload_n (pc := 129) h 2 rfl rfl dX5_digest_129 ?_
  obtain ⟨r7, hc6, hF⟩ := bd hF
  refine R_callV (pc := 130) (st := [.long ((31 : Int64) * (((31 : Int64) * v4) + v5.toInt64)), .long (31 : Int64), .long (31 : Int64)]) h [.int x3] cvX5_146 (c5_worthOf (ad := ad) (z := X.1) hc6) rfl rfl lm_0 (by decide) (by decide) (Nat.le_of_ble_eq_true rfl) dX5_digest_130 (st1 := [.int r7, .long ((31 : Int64) * (((31 : Int64) * v4) + v5.toInt64)), .long (31 : Int64), .long (31 : Int64)]) rfl ?_
  refine R_i2l (pc := 133) h dX5_digest_133 ?_
  refine R_ladd (pc := 134) h dX5_digest_134 ?_
  refine R_lmul (pc := 135) h dX5_digest_135 ?_
  refine R_aload_n (pc := 136) h 1 rfl rfl dX5_digest_136 ?_
  refine R_getR (pc := 137) (q1 := 10) h flX5_41 lm_0 rfl dX5_digest_137 ?_
  refine R_iconst (pc := 140) (v := 1) h (by decide) dX5_digest_140 ?_
  refine R_iload_n (pc := 141) h 2 rfl rfl dX5_digest_141 ?_
  refine R_iadd (pc := 142) h dX5_digest_142 ?_
  obtain ⟨v8, hv8, hF⟩ := bd hF
  refine R_iald (pc := 143) h hv8 lm_10 dX5_digest_143 ?_
  refine R_iconst (pc := 144) (v := (-1)) h (by decide) dX5_digest_144 ?_
  refine R_icmp_ne (pc := 145) (tgt := 152) h dX5_digest_145 (by decide) (fun c9 => ?_) (fun c9 => ?_)
  · have hF := ifn c9 hF
    refine R_iconst (pc := 152) (v := 0) h (by decide) dX5_digest_152 ?_
    exact Wp_sub (nX := 0) (lv' := [(0, .ref (ad 0)), (3, .int x3)]) [1, 2] rfl (w5_digest_153 h (hk33 := hk33) (hF := hF))
  · have hF := itp c9 hF
    refine R_iconst (pc := 148) (v := 1) h (by decide) dX5_digest_148 ?_
    refine R_goto (pc := 149) (tgt := 153) h dX5_digest_149 (by decide) ?_
    exact Wp_sub (nX := 0) (lv' := [(0, .ref (ad 0)), (3, .int x3)]) [1, 2] rfl (w5_digest_153 h (hk33 := hk33) (hF := hF))
def f5_digest_239 (M : Mem) (fu : Nat) (k216 : Int64 → Int32 → Option (Int64)) : Nat → Int64 → Int32 → Int32 → Option (Int64)
  | 0 => fun _ _ _ => none
  | f + 1 => fun x1 x3 x4 =>
    (rd M 2 6 x3).bind fun v1 =>
    if v1 ≤ x4 then (nm (x3 + (1 : Int32)) fun v3 =>
    (k216 x1 v3))
    else ((rd M 1 240 (((40 : Int32) * x3) + x4)).bind fun v4 =>
    nm (((31 : Int64) * x1) + v4.toInt64) fun v5 =>
    nm (x4 + (1 : Int32)) fun v6 =>
    ((f5_digest_239 M fu k216 f) v5 x3 v6))
set_option maxHeartbeats 4000000 in
set_option maxRecDepth 10000 in
theorem w5_digesti_239 {ad : Nat → Nat} {X : XX} {R : Int64} {M : Mem} {fu : Nat} {k216 : Int64 → Int32 → Option (Int64)} (h : Cx layM ad X cX5_digest RX5 5 4 (some .long) M (some (.long R))) (hk216 : ∀ (x1 : Int64) (x3 : Int32), k216 x1 x3 = some R → Wp layM ad X M 216 [(0, .ref (ad 0)), (1, .long x1), (3, .int x3)] []) : ∀ (f : Nat) (x1 : Int64) (x3 : Int32) (x4 : Int32), f5_digest_239 M fu k216 f x1 x3 x4 = some R → Wp layM ad X M 239 [(0, .ref (ad 0)), (1, .long x1), (3, .int x3), (4, .int x4)] [] := by
  intro f
  induction f with
  | zero => intro x1 x3 x4 hF; exact absurd hF (by simp [f5_digest_239])
  | succ f ih =>
    intro x1 x3 x4 hF
    rw [f5_digest_239] at hF
    refine R_iload (pc := 239) h 3 rfl dX5_digest_239 ?_
    refine R_aload_n (pc := 241) h 0 rfl rfl dX5_digest_241 ?_
    refine R_getR (pc := 242) (q1 := 2) h flX5_13 lm_0 rfl dX5_digest_242 ?_
    refine R_iload_n (pc := 245) h 2 rfl rfl dX5_digest_245 ?_
    obtain ⟨v1, hv1, hF⟩ := bd hF
    refine R_iald (pc := 246) h hv1 lm_2 dX5_digest_246 ?_
    refine R_icmp_ge (pc := 247) (tgt := 276) h dX5_digest_247 (by decide) (fun c2 => ?_) (fun c2 => ?_)
    · have hF := itp c2 hF
      obtain ⟨v3, hv3, hF⟩ := nm_e2 hF
      refine R_iinc (pc := 276) (lv' := [(3, .int v3), (0, .ref (ad 0)), (1, .long x1), (4, .int x4)]) h 2 rfl (by decide) hv3 (by decide) rfl dX5_digest_276 ?_
      refine R_goto (pc := 279) (tgt := 216) h dX5_digest_279 (by decide) ?_
      exact Wp_sub (nX := 0) (lv' := [(0, .ref (ad 0)), (1, .long x1), (3, .int v3)]) [1, 2, 0] rfl (hk216 _ _ hF)
    · have hF := ifn c2 hF
      refine R_ldc2 (pc := 250) h klX5_265 dX5_digest_250 ?_
      refine R_lload_n (pc := 253) h 1 rfl rfl dX5_digest_253 ?_
      refine R_lmul (pc := 254) h dX5_digest_254 ?_
      refine R_aload_n (pc := 255) h 0 rfl rfl dX5_digest_255 ?_
      refine R_getR (pc := 256) (q1 := 1) h flX5_7 lm_0 rfl dX5_digest_256 ?_
      refine R_bipush (pc := 259) (v := 40) h (by decide) dX5_digest_259 ?_
      refine R_iload_n (pc := 261) h 2 rfl rfl dX5_digest_261 ?_
      refine R_imul (pc := 262) h dX5_digest_262 ?_
      refine R_iload (pc := 263) h 3 rfl dX5_digest_263 ?_
      refine R_iadd (pc := 265) h dX5_digest_265 ?_
      obtain ⟨v4, hv4, hF⟩ := bd hF
      refine R_iald (pc := 266) h hv4 lm_1 dX5_digest_266 ?_
      refine R_i2l (pc := 267) h dX5_digest_267 ?_
      refine R_ladd (pc := 268) h dX5_digest_268 ?_
      obtain ⟨v5, hv5, hF⟩ := nm_e2 hF
      refine R_lstore_n (pc := 269) (lv' := [(1, .long v5), (0, .ref (ad 0)), (3, .int x3), (4, .int x4)]) h hv5 rfl (by decide) rfl dX5_digest_269 ?_
      obtain ⟨v6, hv6, hF⟩ := nm_e2 hF
      refine R_iinc (pc := 270) (lv' := [(4, .int v6), (1, .long v5), (0, .ref (ad 0)), (3, .int x3)]) h 3 rfl (by decide) hv6 (by decide) rfl dX5_digest_270 ?_
      refine R_goto (pc := 273) (tgt := 239) h dX5_digest_273 (by decide) ?_
      exact Wp_sub (nX := 0) (lv' := [(0, .ref (ad 0)), (1, .long v5), (3, .int x3), (4, .int v6)]) [2, 1, 3, 0] rfl (ih _ _ _ hF)
theorem w5_digest_239 {ad : Nat → Nat} {X : XX} {R : Int64} {M : Mem} {fu : Nat} {k216 : Int64 → Int32 → Option (Int64)} (h : Cx layM ad X cX5_digest RX5 5 4 (some .long) M (some (.long R))) (hk216 : ∀ (x1 : Int64) (x3 : Int32), k216 x1 x3 = some R → Wp layM ad X M 216 [(0, .ref (ad 0)), (1, .long x1), (3, .int x3)] []) {f : Nat} {x1 : Int64} {x3 : Int32} {x4 : Int32} (hF : f5_digest_239 M fu k216 f x1 x3 x4 = some R) : Wp layM ad X M 239 [(0, .ref (ad 0)), (1, .long x1), (3, .int x3), (4, .int x4)] [] := w5_digesti_239 h hk216 f _ _ _ hF
def f5_digest_306 (M : Mem) (fu : Nat) (k284 : Int64 → Int32 → Option (Int64)) : Nat → Int64 → Int32 → Int32 → Option (Int64)
  | 0 => fun _ _ _ => none
  | f + 1 => fun x1 x3 x4 =>
    (rd M 4 4 x3).bind fun v1 =>
    if v1 ≤ x4 then (nm (x3 + (1 : Int32)) fun v3 =>
    (k284 x1 v3))
    else ((rd M 3 240 (((60 : Int32) * x3) + x4)).bind fun v4 =>
    nm (((31 : Int64) * x1) + v4.toInt64) fun v5 =>
    nm (x4 + (1 : Int32)) fun v6 =>
    ((f5_digest_306 M fu k284 f) v5 x3 v6))
set_option maxHeartbeats 4000000 in
set_option maxRecDepth 10000 in
theorem w5_digesti_306 {ad : Nat → Nat} {X : XX} {R : Int64} {M : Mem} {fu : Nat} {k284 : Int64 → Int32 → Option (Int64)} (h : Cx layM ad X cX5_digest RX5 5 4 (some .long) M (some (.long R))) (hk284 : ∀ (x1 : Int64) (x3 : Int32), k284 x1 x3 = some R → Wp layM ad X M 284 [(0, .ref (ad 0)), (1, .long x1), (3, .int x3)] []) : ∀ (f : Nat) (x1 : Int64) (x3 : Int32) (x4 : Int32), f5_digest_306 M fu k284 f x1 x3 x4 = some R → Wp layM ad X M 306 [(0, .ref (ad 0)), (1, .long x1), (3, .int x3), (4, .int x4)] [] := by
  intro f
  induction f with
  | zero => intro x1 x3 x4 hF; exact absurd hF (by simp [f5_digest_306])
  | succ f ih =>
    intro x1 x3 x4 hF
    rw [f5_digest_306] at hF
    refine R_iload (pc := 306) h 3 rfl dX5_digest_306 ?_
    refine R_aload_n (pc := 308) h 0 rfl rfl dX5_digest_308 ?_
    refine R_getR (pc := 309) (q1 := 4) h flX5_19 lm_0 rfl dX5_digest_309 ?_
    refine R_iload_n (pc := 312) h 2 rfl rfl dX5_digest_312 ?_
    obtain ⟨v1, hv1, hF⟩ := bd hF
    refine R_iald (pc := 313) h hv1 lm_4 dX5_digest_313 ?_
    refine R_icmp_ge (pc := 314) (tgt := 343) h dX5_digest_314 (by decide) (fun c2 => ?_) (fun c2 => ?_)
    · have hF := itp c2 hF
      obtain ⟨v3, hv3, hF⟩ := nm_e2 hF
      refine R_iinc (pc := 343) (lv' := [(3, .int v3), (0, .ref (ad 0)), (1, .long x1), (4, .int x4)]) h 2 rfl (by decide) hv3 (by decide) rfl dX5_digest_343 ?_
      refine R_goto (pc := 346) (tgt := 284) h dX5_digest_346 (by decide) ?_
      exact Wp_sub (nX := 0) (lv' := [(0, .ref (ad 0)), (1, .long x1), (3, .int v3)]) [1, 2, 0] rfl (hk284 _ _ hF)
    · have hF := ifn c2 hF
      refine R_ldc2 (pc := 317) h klX5_265 dX5_digest_317 ?_
      refine R_lload_n (pc := 320) h 1 rfl rfl dX5_digest_320 ?_
      refine R_lmul (pc := 321) h dX5_digest_321 ?_
      refine R_aload_n (pc := 322) h 0 rfl rfl dX5_digest_322 ?_
      refine R_getR (pc := 323) (q1 := 3) h flX5_16 lm_0 rfl dX5_digest_323 ?_
      refine R_bipush (pc := 326) (v := 60) h (by decide) dX5_digest_326 ?_
      refine R_iload_n (pc := 328) h 2 rfl rfl dX5_digest_328 ?_
      refine R_imul (pc := 329) h dX5_digest_329 ?_
      refine R_iload (pc := 330) h 3 rfl dX5_digest_330 ?_
      refine R_iadd (pc := 332) h dX5_digest_332 ?_
      obtain ⟨v4, hv4, hF⟩ := bd hF
      refine R_iald (pc := 333) h hv4 lm_3 dX5_digest_333 ?_
      refine R_i2l (pc := 334) h dX5_digest_334 ?_
      refine R_ladd (pc := 335) h dX5_digest_335 ?_
      obtain ⟨v5, hv5, hF⟩ := nm_e2 hF
      refine R_lstore_n (pc := 336) (lv' := [(1, .long v5), (0, .ref (ad 0)), (3, .int x3), (4, .int x4)]) h hv5 rfl (by decide) rfl dX5_digest_336 ?_
      obtain ⟨v6, hv6, hF⟩ := nm_e2 hF
      refine R_iinc (pc := 337) (lv' := [(4, .int v6), (1, .long v5), (0, .ref (ad 0)), (3, .int x3)]) h 3 rfl (by decide) hv6 (by decide) rfl dX5_digest_337 ?_
      refine R_goto (pc := 340) (tgt := 306) h dX5_digest_340 (by decide) ?_
      exact Wp_sub (nX := 0) (lv' := [(0, .ref (ad 0)), (1, .long v5), (3, .int x3), (4, .int v6)]) [2, 1, 3, 0] rfl (ih _ _ _ hF)
theorem w5_digest_306 {ad : Nat → Nat} {X : XX} {R : Int64} {M : Mem} {fu : Nat} {k284 : Int64 → Int32 → Option (Int64)} (h : Cx layM ad X cX5_digest RX5 5 4 (some .long) M (some (.long R))) (hk284 : ∀ (x1 : Int64) (x3 : Int32), k284 x1 x3 = some R → Wp layM ad X M 284 [(0, .ref (ad 0)), (1, .long x1), (3, .int x3)] []) {f : Nat} {x1 : Int64} {x3 : Int32} {x4 : Int32} (hF : f5_digest_306 M fu k284 f x1 x3 x4 = some R) : Wp layM ad X M 306 [(0, .ref (ad 0)), (1, .long x1), (3, .int x3), (4, .int x4)] [] := w5_digesti_306 h hk284 f _ _ _ hF
def f5_digest_284 (M : Mem) (fu : Nat) : Nat → Int64 → Int32 → Option (Int64)
  | 0 => fun _ _ => none
  | f + 1 => fun x1 x3 =>
    if (4 : Int32) ≤ x3 then ((some x1))
    else ((rd M 4 4 x3).bind fun v2 =>
    nm (((31 : Int64) * x1) + v2.toInt64) fun v3 =>
    (f5_digest_306 M fu (f5_digest_284 M fu f) fu v3 x3 (0 : Int32)))
set_option maxHeartbeats 4000000 in
set_option maxRecDepth 10000 in
theorem w5_digesti_284 {ad : Nat → Nat} {X : XX} {R : Int64} {M : Mem} {fu : Nat}  (h : Cx layM ad X cX5_digest RX5 5 4 (some .long) M (some (.long R)))  : ∀ (f : Nat) (x1 : Int64) (x3 : Int32), f5_digest_284 M fu f x1 x3 = some R → Wp layM ad X M 284 [(0, .ref (ad 0)), (1, .long x1), (3, .int x3)] [] := by
  intro f
  induction f with
  | zero => intro x1 x3 hF; exact absurd hF (by simp [f5_digest_284])
  | succ f ih =>
    intro x1 x3 hF
    rw [f5_digest_284] at hF
    refine R_iload_n (pc := 284) h 2 rfl rfl dX5_digest_284 ?_
    refine R_iconst (pc := 285) (v := 4) h (by decide) dX5_digest_285 ?_
    refine R_icmp_ge (pc := 286) (tgt := 349) h dX5_digest_286 (by decide) (fun c1 => ?_) (fun c1 => ?_)
    · have hF := itp c1 hF
      refine R_lload_n (pc := 349) h 1 rfl rfl dX5_digest_349 ?_
      cases hF
      exact R_lreturn (pc := 350) h rfl rfl rfl dX5_digest_350
    · have hF := ifn c1 hF
      refine R_ldc2 (pc := 289) h klX5_265 dX5_digest_289 ?_
      refine R_lload_n (pc := 292) h 1 rfl rfl dX5_digest_292 ?_
      refine R_lmul (pc := 293) h dX5_digest_293 ?_
      refine R_aload_n (pc := 294) h 0 rfl rfl dX5_digest_294 ?_
      refine R_getR (pc := 295) (q1 := 4) h flX5_19 lm_0 rfl dX5_digest_295 ?_
      refine R_iload_n (pc := 298) h 2 rfl rfl dX5_digest_298 ?_
      obtain ⟨v2, hv2, hF⟩ := bd hF
      refine R_iald (pc := 299) h hv2 lm_4 dX5_digest_299 ?_
      refine R_i2l (pc := 300) h dX5_digest_300 ?_
      refine R_ladd (pc := 301) h dX5_digest_301 ?_
      obtain ⟨v3, hv3, hF⟩ := nm_e2 hF
      refine R_lstore_n (pc := 302) (lv' := [(1, .long v3), (0, .ref (ad 0)), (3, .int x3)]) h hv3 rfl (by decide) rfl dX5_digest_302 ?_
      refine R_iconst (pc := 303) (v := 0) h (by decide) dX5_digest_303 ?_
      refine R_istore (pc := 304) (lv' := [(4, .int (0 : Int32)), (1, .long v3), (0, .ref (ad 0)), (3, .int x3)]) h rfl (by decide) rfl dX5_digest_304 ?_
      exact Wp_sub (nX := 0) (lv' := [(0, .ref (ad 0)), (1, .long v3), (3, .int x3), (4, .int (0 : Int32))]) [2, 1, 3, 0] rfl (w5_digest_306 h (hk284 := fun a0 a1 hF => ih a0 a1 hF) (hF := hF))
theorem w5_digest_284 {ad : Nat → Nat} {X : XX} {R : Int64} {M : Mem} {fu : Nat}  (h : Cx layM ad X cX5_digest RX5 5 4 (some .long) M (some (.long R)))  {f : Nat} {x1 : Int64} {x3 : Int32} (hF : f5_digest_284 M fu f x1 x3 = some R) : Wp layM ad X M 284 [(0, .ref (ad 0)), (1, .long x1), (3, .int x3)] [] := w5_digesti_284 h  f _ _ hF
def f5_digest_216 (M : Mem) (fu : Nat) : Nat → Int64 → Int32 → Option (Int64)
  | 0 => fun _ _ => none
  | f + 1 => fun x1 x3 =>
    if (6 : Int32) ≤ x3 then ((f5_digest_284 M fu fu x1 (0 : Int32)))
    else ((rd M 2 6 x3).bind fun v2 =>
    nm (((31 : Int64) * x1) + v2.toInt64) fun v3 =>
    (f5_digest_239 M fu (f5_digest_216 M fu f) fu v3 x3 (0 : Int32)))
set_option maxHeartbeats 4000000 in
set_option maxRecDepth 10000 in
theorem w5_digesti_216 {ad : Nat → Nat} {X : XX} {R : Int64} {M : Mem} {fu : Nat}  (h : Cx layM ad X cX5_digest RX5 5 4 (some .long) M (some (.long R)))  : ∀ (f : Nat) (x1 : Int64) (x3 : Int32), f5_digest_216 M fu f x1 x3 = some R → Wp layM ad X M 216 [(0, .ref (ad 0)), (1, .long x1), (3, .int x3)] [] := by
  intro f
  induction f with
  | zero => intro x1 x3 hF; exact absurd hF (by simp [f5_digest_216])
  | succ f ih =>
    intro x1 x3 hF
    rw [f5_digest_216] at hF
    refine R_iload_n (pc := 216) h 2 rfl rfl dX5_digest_216 ?_
    refine R_bipush (pc := 217) (v := 6) h (by decide) dX5_digest_217 ?_
    refine R_icmp_ge (pc := 219) (tgt := 282) h dX5_digest_219 (by decide) (fun c1 => ?_) (fun c1 => ?_)
    · have hF := itp c1 hF
      refine R_iconst (pc := 282) (v := 0) h (by decide) dX5_digest_282 ?_
      refine R_istore_n (pc := 283) (lv' := [(3, .int (0 : Int32)), (0, .ref (ad 0)), (1, .long x1)]) h rfl rfl (by decide) rfl dX5_digest_283 ?_
      exact Wp_sub (nX := 0) (lv' := [(0, .ref (ad 0)), (1, .long x1), (3, .int (0 : Int32))]) [1, 2, 0] rfl (w5_digest_284 h  (hF := hF))
    · have hF := ifn c1 hF
      refine R_ldc2 (pc := 222) h klX5_265 dX5_digest_222 ?_
      refine R_lload_n (pc := 225) h 1 rfl rfl dX5_digest_225 ?_
      refine R_lmul (pc := 226) h dX5_digest_226 ?_
      refine R_aload_n (pc := 227) h 0 rfl rfl dX5_digest_227 ?_
      refine R_getR (pc := 228) (q1 := 2) h flX5_13 lm_0 rfl dX5_digest_228 ?_
      refine R_iload_n (pc := 231) h 2 rfl rfl dX5_digest_231 ?_
      obtain ⟨v2, hv2, hF⟩ := bd hF
      refine R_iald (pc := 232) h hv2 lm_2 dX5_digest_232 ?_
      refine R_i2l (pc := 233) h dX5_digest_233 ?_
      refine R_ladd (pc := 234) h dX5_digest_234 ?_
      obtain ⟨v3, hv3, hF⟩ := nm_e2 hF
      refine R_lstore_n (pc := 235) (lv' := [(1, .long v3), (0, .ref (ad 0)), (3, .int x3)]) h hv3 rfl (by decide) rfl dX5_digest_235 ?_
      refine R_iconst (pc := 236) (v := 0) h (by decide) dX5_digest_236 ?_
      refine R_istore (pc := 237) (lv' := [(4, .int (0 : Int32)), (1, .long v3), (0, .ref (ad 0)), (3, .int x3)]) h rfl (by decide) rfl dX5_digest_237 ?_
      exact Wp_sub (nX := 0) (lv' := [(0, .ref (ad 0)), (1, .long v3), (3, .int x3), (4, .int (0 : Int32))]) [2, 1, 3, 0] rfl (w5_digest_239 h (hk216 := fun a0 a1 hF => ih a0 a1 hF) (hF := hF))
theorem w5_digest_216 {ad : Nat → Nat} {X : XX} {R : Int64} {M : Mem} {fu : Nat}  (h : Cx layM ad X cX5_digest RX5 5 4 (some .long) M (some (.long R)))  {f : Nat} {x1 : Int64} {x3 : Int32} (hF : f5_digest_216 M fu f x1 x3 = some R) : Wp layM ad X M 216 [(0, .ref (ad 0)), (1, .long x1), (3, .int x3)] [] := w5_digesti_216 h  f _ _ hF
def f5_digest_185 (M : Mem) (fu : Nat) : Nat → Int64 → Int32 → Option (Int64)
  | 0 => fun _ _ => none
  | f + 1 => fun x1 x3 =>
    if (3 : Int32) ≤ x3 then ((f5_digest_216 M fu fu x1 (0 : Int32)))
    else ((rd M 12 1110 ((370 : Int32) * x3)).bind fun v2 =>
    nm (((31 : Int64) * x1) + v2.toInt64) fun v3 =>
    nm (x3 + (1 : Int32)) fun v4 =>
    ((f5_digest_185 M fu f) v3 v4))
set_option maxHeartbeats 4000000 in
set_option maxRecDepth 10000 in
theorem w5_digesti_185 {ad : Nat → Nat} {X : XX} {R : Int64} {M : Mem} {fu : Nat}  (h : Cx layM ad X cX5_digest RX5 5 4 (some .long) M (some (.long R)))  : ∀ (f : Nat) (x1 : Int64) (x3 : Int32), f5_digest_185 M fu f x1 x3 = some R → Wp layM ad X M 185 [(0, .ref (ad 0)), (1, .long x1), (3, .int x3)] [] := by
  intro f
  induction f with
  | zero => intro x1 x3 hF; exact absurd hF (by simp [f5_digest_185])
  | succ f ih =>
    intro x1 x3 hF
    rw [f5_digest_185] at hF
    refine R_iload_n (pc := 185) h 2 rfl rfl dX5_digest_185 ?_
    refine R_iconst (pc := 186) (v := 3) h (by decide) dX5_digest_186 ?_
    refine R_icmp_ge (pc := 187) (tgt := 214) h dX5_digest_187 (by decide) (fun c1 => ?_) (fun c1 => ?_)
    · have hF := itp c1 hF
      refine R_iconst (pc := 214) (v := 0) h (by decide) dX5_digest_214 ?_
      refine R_istore_n (pc := 215) (lv' := [(3, .int (0 : Int32)), (0, .ref (ad 0)), (1, .long x1)]) h rfl rfl (by decide) rfl dX5_digest_215 ?_
      exact Wp_sub (nX := 0) (lv' := [(0, .ref (ad 0)), (1, .long x1), (3, .int (0 : Int32))]) [1, 2, 0] rfl (w5_digest_216 h  (hF := hF))
    · have hF := ifn c1 hF
      refine R_ldc2 (pc := 190) h klX5_265 dX5_digest_190 ?_
      refine R_lload_n (pc := 193) h 1 rfl rfl dX5_digest_193 ?_
      refine R_lmul (pc := 194) h dX5_digest_194 ?_
      refine R_aload_n (pc := 195) h 0 rfl rfl dX5_digest_195 ?_
      refine R_getR (pc := 196) (q1 := 12) h flX5_47 lm_0 rfl dX5_digest_196 ?_
      refine R_sipush (pc := 199) (v := 370) h (by decide) dX5_digest_199 ?_
      refine R_iload_n (pc := 202) h 2 rfl rfl dX5_digest_202 ?_
      refine R_imul (pc := 203) h dX5_digest_203 ?_
      obtain ⟨v2, hv2, hF⟩ := bd hF
      refine R_iald (pc := 204) h hv2 lm_12 dX5_digest_204 ?_
      refine R_i2l (pc := 205) h dX5_digest_205 ?_
      refine R_ladd (pc := 206) h dX5_digest_206 ?_
      obtain ⟨v3, hv3, hF⟩ := nm_e2 hF
      refine R_lstore_n (pc := 207) (lv' := [(1, .long v3), (0, .ref (ad 0)), (3, .int x3)]) h hv3 rfl (by decide) rfl dX5_digest_207 ?_
      obtain ⟨v4, hv4, hF⟩ := nm_e2 hF
      refine R_iinc (pc := 208) (lv' := [(3, .int v4), (1, .long v3), (0, .ref (ad 0))]) h 2 rfl (by decide) hv4 (by decide) rfl dX5_digest_208 ?_
      refine R_goto (pc := 211) (tgt := 185) h dX5_digest_211 (by decide) ?_
      exact Wp_sub (nX := 0) (lv' := [(0, .ref (ad 0)), (1, .long v3), (3, .int v4)]) [2, 1, 0] rfl (ih _ _ hF)
theorem w5_digest_185 {ad : Nat → Nat} {X : XX} {R : Int64} {M : Mem} {fu : Nat}  (h : Cx layM ad X cX5_digest RX5 5 4 (some .long) M (some (.long R)))  {f : Nat} {x1 : Int64} {x3 : Int32} (hF : f5_digest_185 M fu f x1 x3 = some R) : Wp layM ad X M 185 [(0, .ref (ad 0)), (1, .long x1), (3, .int x3)] [] := w5_digesti_185 h  f _ _ hF
def f5_digest_33 (M : Mem) (fu : Nat) : Nat → Int64 → Int32 → Option (Int64)
  | 0 => fun _ _ => none
  | f + 1 => fun x1 x3 =>
    if (M.1 0 9) ≤ x3 then ((f5_digest_185 M fu fu x1 (0 : Int32)))
    else ((rd M 6 8 x3).bind fun v2 =>
    (f5_lies M x3).bind fun r4 =>
    if r4 = 0 then ((f5_digest_85 M fu (f5_digest_33 M fu f) x3 (-9 : Int32) ((31 : Int64) * (((31 : Int64) * x1) + v2.toInt64)) (31 : Int64) (31 : Int64)))
    else ((rd M 10 9 ((1 : Int32) + x3)).bind fun v6 =>
    (f5_digest_85 M fu (f5_digest_33 M fu f) x3 v6 ((31 : Int64) * (((31 : Int64) * x1) + v2.toInt64)) (31 : Int64) (31 : Int64))))
set_option maxHeartbeats 4000000 in
set_option maxRecDepth 10000 in
theorem w5_digesti_33 {ad : Nat → Nat} {X : XX} {R : Int64} {M : Mem} {fu : Nat}  (h : Cx layM ad X cX5_digest RX5 5 4 (some .long) M (some (.long R)))  : ∀ (f : Nat) (x1 : Int64) (x3 : Int32), f5_digest_33 M fu f x1 x3 = some R → Wp layM ad X M 33 [(0, .ref (ad 0)), (1, .long x1), (3, .int x3)] [] := by
  intro f
  induction f with
  | zero => intro x1 x3 hF; exact absurd hF (by simp [f5_digest_33])
  | succ f ih =>
    intro x1 x3 hF
    rw [f5_digest_33] at hF
    refine R_iload_n (pc := 33) h 2 rfl rfl dX5_digest_33 ?_
    refine R_aload_n (pc := 34) h 0 rfl rfl dX5_digest_34 ?_
    refine R_getI (pc := 35) h flX5_130 lm_0 rfl dX5_digest_35 ?_
    refine R_icmp_ge (pc := 38) (tgt := 183) h dX5_digest_38 (by decide) (fun c1 => ?_) (fun c1 => ?_)
    · have hF := itp c1 hF
      refine R_iconst (pc := 183) (v := 0) h (by decide) dX5_digest_183 ?_
      refine R_istore_n (pc := 184) (lv' := [(3, .int (0 : Int32)), (0, .ref (ad 0)), (1, .long x1)]) h rfl rfl (by decide) rfl dX5_digest_184 ?_
      exact Wp_sub (nX := 0) (lv' := [(0, .ref (ad 0)), (1, .long x1), (3, .int (0 : Int32))]) [1, 2, 0] rfl (w5_digest_185 h  (hF := hF))
    · have hF := ifn c1 hF
      refine R_ldc2 (pc := 41) h klX5_265 dX5_digest_41 ?_
      refine R_ldc2 (pc := 44) h klX5_265 dX5_digest_44 ?_
      refine R_ldc2 (pc := 47) h klX5_265 dX5_digest_47 ?_
      refine R_ldc2 (pc := 50) h klX5_265 dX5_digest_50 ?_
      refine R_lload_n (pc := 53) h 1 rfl rfl dX5_digest_53 ?_
      refine R_lmul (pc := 54) h dX5_digest_54 ?_
      refine R_aload_n (pc := 55) h 0 rfl rfl dX5_digest_55 ?_
      refine R_getR (pc := 56) (q1 := 6) h flX5_29 lm_0 rfl dX5_digest_56 ?_
      refine R_iload_n (pc := 59) h 2 rfl rfl dX5_digest_59 ?_
      obtain ⟨v2, hv2, hF⟩ := bd hF
      refine R_iald (pc := 60) h hv2 lm_6 dX5_digest_60 ?_
      refine R_i2l (pc := 61) h dX5_digest_61 ?_
      refine R_ladd (pc := 62) h dX5_digest_62 ?_
      refine R_lmul (pc := 63) h dX5_digest_63 ?_
      refine R_aload_n (pc := 64) h 0 rfl rfl dX5_digest_64 ?_
      refine R_iload_n (pc := 65) h 2 rfl rfl dX5_digest_65 ?_
      obtain ⟨r4, hc3, hF⟩ := bd hF
      refine R_callV (pc := 66) (st := [.long ((31 : Int64) * (((31 : Int64) * x1) + v2.toInt64)), .long (31 : Int64), .long (31 : Int64)]) h [.int x3] cvX5_133 (c5_lies (ad := ad) (z := X.1) hc3) rfl rfl lm_0 (by decide) (by decide) (Nat.le_of_ble_eq_true rfl) dX5_digest_66 (st1 := [.int r4, .long ((31 : Int64) * (((31 : Int64) * x1) + v2.toInt64)), .long (31 : Int64), .long (31 : Int64)]) rfl ?_
      refine R_if_eq (pc := 69) (tgt := 83) h dX5_digest_69 (by decide) (fun c5 => ?_) (fun c5 => ?_)
      · have hF := itp c5 hF
        refine R_bipush (pc := 83) (v := (-9)) h (by decide) dX5_digest_83 ?_
        exact Wp_sub (nX := 0) (lv' := [(0, .ref (ad 0)), (3, .int x3)]) [0, 2] rfl (w5_digest_85 h (hk33 := fun a0 a1 hF => ih a0 a1 hF) (hF := hF))
      · have hF := ifn c5 hF
        refine R_aload_n (pc := 72) h 0 rfl rfl dX5_digest_72 ?_
        refine R_getR (pc := 73) (q1 := 10) h flX5_41 lm_0 rfl dX5_digest_73 ?_
        refine R_iconst (pc := 76) (v := 1) h (by decide) dX5_digest_76 ?_
        refine R_iload_n (pc := 77) h 2 rfl rfl dX5_digest_77 ?_
        refine R_iadd (pc := 78) h dX5_digest_78 ?_
        obtain ⟨v6, hv6, hF⟩ := bd hF
        refine R_iald (pc := 79) h hv6 lm_10 dX5_digest_79 ?_
        refine R_goto (pc := 80) (tgt := 85) h dX5_digest_80 (by decide) ?_
        exact Wp_sub (nX := 0) (lv' := [(0, .ref (ad 0)), (3, .int x3)]) [0, 2] rfl (w5_digest_85 h (hk33 := fun a0 a1 hF => ih a0 a1 hF) (hF := hF))
theorem w5_digest_33 {ad : Nat → Nat} {X : XX} {R : Int64} {M : Mem} {fu : Nat}  (h : Cx layM ad X cX5_digest RX5 5 4 (some .long) M (some (.long R)))  {f : Nat} {x1 : Int64} {x3 : Int32} (hF : f5_digest_33 M fu f x1 x3 = some R) : Wp layM ad X M 33 [(0, .ref (ad 0)), (1, .long x1), (3, .int x3)] [] := w5_digesti_33 h  f _ _ hF
def f5_digest_6 (M : Mem) (fu : Nat) : Nat → Int64 → Int32 → Option (Int64)
  | 0 => fun _ _ => none
  | f + 1 => fun x1 x3 =>
    if (11 : Int32) ≤ x3 then ((f5_digest_33 M fu fu x1 (0 : Int32)))
    else ((f5_count M fu x3).bind fun r3 =>
    nm (((31 : Int64) * x1) + r3.toInt64) fun v4 =>
    nm (x3 + (1 : Int32)) fun v5 =>
    ((f5_digest_6 M fu f) v4 v5))
set_option maxHeartbeats 4000000 in
set_option maxRecDepth 10000 in
theorem w5_digesti_6 {ad : Nat → Nat} {X : XX} {R : Int64} {M : Mem} {fu : Nat}  (h : Cx layM ad X cX5_digest RX5 5 4 (some .long) M (some (.long R)))  : ∀ (f : Nat) (x1 : Int64) (x3 : Int32), f5_digest_6 M fu f x1 x3 = some R → Wp layM ad X M 6 [(0, .ref (ad 0)), (1, .long x1), (3, .int x3)] [] := by
  intro f
  induction f with
  | zero => intro x1 x3 hF; exact absurd hF (by simp [f5_digest_6])
  | succ f ih =>
    intro x1 x3 hF
    rw [f5_digest_6] at hF
    refine R_iload_n (pc := 6) h 2 rfl rfl dX5_digest_6 ?_
    refine R_bipush (pc := 7) (v := 11) h (by decide) dX5_digest_7 ?_
    refine R_icmp_ge (pc := 9) (tgt := 31) h dX5_digest_9 (by decide) (fun c1 => ?_) (fun c1 => ?_)
    · have hF := itp c1 hF
      refine R_iconst (pc := 31) (v := 0) h (by decide) dX5_digest_31 ?_
      refine R_istore_n (pc := 32) (lv' := [(3, .int (0 : Int32)), (0, .ref (ad 0)), (1, .long x1)]) h rfl rfl (by decide) rfl dX5_digest_32 ?_
      exact Wp_sub (nX := 0) (lv' := [(0, .ref (ad 0)), (1, .long x1), (3, .int (0 : Int32))]) [1, 2, 0] rfl (w5_digest_33 h  (hF := hF))
    · have hF := ifn c1 hF
      refine R_ldc2 (pc := 12) h klX5_265 dX5_digest_12 ?_
      refine R_lload_n (pc := 15) h 1 rfl rfl dX5_digest_15 ?_
      refine R_lmul (pc := 16) h dX5_digest_16 ?_
      refine R_aload_n (pc := 17) h 0 rfl rfl dX5_digest_17 ?_
      refine R_iload_n (pc := 18) h 2 rfl rfl dX5_digest_18 ?_
      obtain ⟨r3, hc2, hF⟩ := bd hF
      refine R_callV (pc := 19) (st := [.long ((31 : Int64) * x1)]) h [.int x3] cvX5_267 (c5_count (ad := ad) (z := X.1) hc2) rfl rfl lm_0 (by decide) (by decide) (Nat.le_of_ble_eq_true rfl) dX5_digest_19 (st1 := [.int r3, .long ((31 : Int64) * x1)]) rfl ?_
      refine R_i2l (pc := 22) h dX5_digest_22 ?_
      refine R_ladd (pc := 23) h dX5_digest_23 ?_
      obtain ⟨v4, hv4, hF⟩ := nm_e2 hF
      refine R_lstore_n (pc := 24) (lv' := [(1, .long v4), (0, .ref (ad 0)), (3, .int x3)]) h hv4 rfl (by decide) rfl dX5_digest_24 ?_
      obtain ⟨v5, hv5, hF⟩ := nm_e2 hF
      refine R_iinc (pc := 25) (lv' := [(3, .int v5), (1, .long v4), (0, .ref (ad 0))]) h 2 rfl (by decide) hv5 (by decide) rfl dX5_digest_25 ?_
      refine R_goto (pc := 28) (tgt := 6) h dX5_digest_28 (by decide) ?_
      exact Wp_sub (nX := 0) (lv' := [(0, .ref (ad 0)), (1, .long v4), (3, .int v5)]) [2, 1, 0] rfl (ih _ _ hF)
theorem w5_digest_6 {ad : Nat → Nat} {X : XX} {R : Int64} {M : Mem} {fu : Nat}  (h : Cx layM ad X cX5_digest RX5 5 4 (some .long) M (some (.long R)))  {f : Nat} {x1 : Int64} {x3 : Int32} (hF : f5_digest_6 M fu f x1 x3 = some R) : Wp layM ad X M 6 [(0, .ref (ad 0)), (1, .long x1), (3, .int x3)] [] := w5_digesti_6 h  f _ _ hF
def f5_digest (M : Mem) (fu : Nat) : Option (Int64) :=
    (f5_digest_6 M fu fu (17 : Int64) (0 : Int32))
set_option maxHeartbeats 4000000 in
set_option maxRecDepth 10000 in
theorem w5_digest {ad : Nat → Nat} {X : XX} {R : Int64} {M : Mem} {fu : Nat} (h : Cx layM ad X cX5_digest RX5 5 4 (some .long) M (some (.long R)))  (hF : f5_digest M fu = some R) : Wp layM ad X M 0 [(0, .ref (ad 0))] [] := by
  unfold f5_digest at hF
  refine R_ldc2 (pc := 0) h klX5_263 dX5_digest_0 ?_
  refine R_lstore_n (pc := 3) (lv' := [(1, .long (17 : Int64)), (0, .ref (ad 0))]) h rfl rfl (by decide) rfl dX5_digest_3 ?_
  refine R_iconst (pc := 4) (v := 0) h (by decide) dX5_digest_4 ?_
  refine R_istore_n (pc := 5) (lv' := [(3, .int (0 : Int32)), (1, .long (17 : Int64)), (0, .ref (ad 0))]) h rfl rfl (by decide) rfl dX5_digest_5 ?_
  exact Wp_sub (nX := 0) (lv' := [(0, .ref (ad 0)), (1, .long (17 : Int64)), (3, .int (0 : Int32))]) [2, 1, 0] rfl (w5_digest_6 h  (hF := hF))
theorem c5_digest {ad : Nat → Nat} {z : ZZ} {R : Int64} {M : Mem} {fu : Nat}  (hF : f5_digest M fu = some R) : Con layM ad z yX5_digest cX5_digest 5 (some .long) 4 M [.ref (ad 0)] (M) (some (.long R)) := con_of (own := RX5) (lv := [(0, .ref (ad 0))]) (by decide +kernel) rfl (Nat.le_of_ble_eq_true rfl) rfl (fun X hz h => w5_digest h hF)
