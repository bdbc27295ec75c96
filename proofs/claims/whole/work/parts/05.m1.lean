theorem dX5_pin_0 : decode cX5_pin 0 = .ok (.aload_n 0, 1) := by decide +kernel
theorem dX5_pin_1 : decode cX5_pin 1 = .ok (.iload_n 1, 1) := by decide +kernel
theorem dX5_pin_2 : decode cX5_pin 2 = .ok (.invokevirtual 153, 3) := by decide +kernel
theorem dX5_pin_5 : decode cX5_pin 5 = .ok (.ifCond .eq 15, 3) := by decide +kernel
theorem dX5_pin_8 : decode cX5_pin 8 = .ok (.iload_n 2, 1) := by decide +kernel
theorem dX5_pin_9 : decode cX5_pin 9 = .ok (.i2l, 1) := by decide +kernel
theorem dX5_pin_10 : decode cX5_pin 10 = .ok (.lconst 0, 1) := by decide +kernel
theorem dX5_pin_11 : decode cX5_pin 11 = .ok (.ldc2_w 156, 3) := by decide +kernel
theorem dX5_pin_14 : decode cX5_pin 14 = .ok (.invokestatic 71, 3) := by decide +kernel
theorem dX5_pin_17 : decode cX5_pin 17 = .ok (.ifCond .ne 5, 3) := by decide +kernel
theorem dX5_pin_20 : decode cX5_pin 20 = .ok (.iconst (-1), 1) := by decide +kernel
theorem dX5_pin_21 : decode cX5_pin 21 = .ok (.ireturn, 1) := by decide +kernel
theorem dX5_pin_22 : decode cX5_pin 22 = .ok (.iload_n 2, 1) := by decide +kernel
theorem dX5_pin_23 : decode cX5_pin 23 = .ok (.tableswitch 142 0 6 #[41, 52, 78, 88, 99, 110, 120], 41) := by decide +kernel
theorem dX5_pin_64 : decode cX5_pin 64 = .ok (.aload_n 0, 1) := by decide +kernel
theorem dX5_pin_65 : decode cX5_pin 65 = .ok (.aload_n 0, 1) := by decide +kernel
theorem dX5_pin_66 : decode cX5_pin 66 = .ok (.getfield 29, 3) := by decide +kernel
theorem dX5_pin_69 : decode cX5_pin 69 = .ok (.iload_n 1, 1) := by decide +kernel
theorem dX5_pin_70 : decode cX5_pin 70 = .ok (.iaload, 1) := by decide +kernel
theorem dX5_pin_71 : decode cX5_pin 71 = .ok (.invokevirtual 85, 3) := by decide +kernel
theorem dX5_pin_74 : decode cX5_pin 74 = .ok (.ireturn, 1) := by decide +kernel
theorem dX5_pin_75 : decode cX5_pin 75 = .ok (.aload_n 0, 1) := by decide +kernel
theorem dX5_pin_76 : decode cX5_pin 76 = .ok (.aload_n 0, 1) := by decide +kernel
theorem dX5_pin_77 : decode cX5_pin 77 = .ok (.iload_n 1, 1) := by decide +kernel
theorem dX5_pin_78 : decode cX5_pin 78 = .ok (.invokevirtual 133, 3) := by decide +kernel
theorem dX5_pin_81 : decode cX5_pin 81 = .ok (.ifCond .eq 14, 3) := by decide +kernel
theorem dX5_pin_84 : decode cX5_pin 84 = .ok (.aload_n 0, 1) := by decide +kernel
theorem dX5_pin_85 : decode cX5_pin 85 = .ok (.getfield 41, 3) := by decide +kernel
theorem dX5_pin_88 : decode cX5_pin 88 = .ok (.iconst 1, 1) := by decide +kernel
theorem dX5_pin_89 : decode cX5_pin 89 = .ok (.iload_n 1, 1) := by decide +kernel
theorem dX5_pin_90 : decode cX5_pin 90 = .ok (.iadd, 1) := by decide +kernel
theorem dX5_pin_91 : decode cX5_pin 91 = .ok (.iaload, 1) := by decide +kernel
theorem dX5_pin_92 : decode cX5_pin 92 = .ok (.goto 5, 3) := by decide +kernel
theorem dX5_pin_95 : decode cX5_pin 95 = .ok (.bipush (-9), 2) := by decide +kernel
theorem dX5_pin_97 : decode cX5_pin 97 = .ok (.invokevirtual 85, 3) := by decide +kernel
theorem dX5_pin_100 : decode cX5_pin 100 = .ok (.ireturn, 1) := by decide +kernel
theorem dX5_pin_101 : decode cX5_pin 101 = .ok (.aload_n 0, 1) := by decide +kernel
theorem dX5_pin_102 : decode cX5_pin 102 = .ok (.aload_n 0, 1) := by decide +kernel
theorem dX5_pin_103 : decode cX5_pin 103 = .ok (.iload_n 1, 1) := by decide +kernel
theorem dX5_pin_104 : decode cX5_pin 104 = .ok (.invokevirtual 136, 3) := by decide +kernel
theorem dX5_pin_107 : decode cX5_pin 107 = .ok (.invokevirtual 85, 3) := by decide +kernel
theorem dX5_pin_110 : decode cX5_pin 110 = .ok (.ireturn, 1) := by decide +kernel
theorem dX5_pin_111 : decode cX5_pin 111 = .ok (.aload_n 0, 1) := by decide +kernel
theorem dX5_pin_112 : decode cX5_pin 112 = .ok (.aload_n 0, 1) := by decide +kernel
theorem dX5_pin_113 : decode cX5_pin 113 = .ok (.getfield 35, 3) := by decide +kernel
theorem dX5_pin_116 : decode cX5_pin 116 = .ok (.iload_n 1, 1) := by decide +kernel
theorem dX5_pin_117 : decode cX5_pin 117 = .ok (.iaload, 1) := by decide +kernel
theorem dX5_pin_118 : decode cX5_pin 118 = .ok (.invokevirtual 85, 3) := by decide +kernel
theorem dX5_pin_121 : decode cX5_pin 121 = .ok (.ireturn, 1) := by decide +kernel
theorem dX5_pin_122 : decode cX5_pin 122 = .ok (.aload_n 0, 1) := by decide +kernel
theorem dX5_pin_123 : decode cX5_pin 123 = .ok (.aload_n 0, 1) := by decide +kernel
theorem dX5_pin_124 : decode cX5_pin 124 = .ok (.getfield 38, 3) := by decide +kernel
theorem dX5_pin_127 : decode cX5_pin 127 = .ok (.iload_n 1, 1) := by decide +kernel
theorem dX5_pin_128 : decode cX5_pin 128 = .ok (.iaload, 1) := by decide +kernel
theorem dX5_pin_129 : decode cX5_pin 129 = .ok (.invokevirtual 85, 3) := by decide +kernel
theorem dX5_pin_132 : decode cX5_pin 132 = .ok (.ireturn, 1) := by decide +kernel
theorem dX5_pin_133 : decode cX5_pin 133 = .ok (.aload_n 0, 1) := by decide +kernel
theorem dX5_pin_134 : decode cX5_pin 134 = .ok (.aload_n 0, 1) := by decide +kernel
theorem dX5_pin_135 : decode cX5_pin 135 = .ok (.iload_n 1, 1) := by decide +kernel
theorem dX5_pin_136 : decode cX5_pin 136 = .ok (.invokevirtual 146, 3) := by decide +kernel
theorem dX5_pin_139 : decode cX5_pin 139 = .ok (.invokevirtual 85, 3) := by decide +kernel
theorem dX5_pin_142 : decode cX5_pin 142 = .ok (.ireturn, 1) := by decide +kernel
theorem dX5_pin_143 : decode cX5_pin 143 = .ok (.aload_n 0, 1) := by decide +kernel
theorem dX5_pin_144 : decode cX5_pin 144 = .ok (.aload_n 0, 1) := by decide +kernel
theorem dX5_pin_145 : decode cX5_pin 145 = .ok (.getfield 41, 3) := by decide +kernel
theorem dX5_pin_148 : decode cX5_pin 148 = .ok (.iconst 1, 1) := by decide +kernel
theorem dX5_pin_149 : decode cX5_pin 149 = .ok (.iload_n 1, 1) := by decide +kernel
theorem dX5_pin_150 : decode cX5_pin 150 = .ok (.iadd, 1) := by decide +kernel
theorem dX5_pin_151 : decode cX5_pin 151 = .ok (.iaload, 1) := by decide +kernel
theorem dX5_pin_152 : decode cX5_pin 152 = .ok (.iconst (-1), 1) := by decide +kernel
theorem dX5_pin_153 : decode cX5_pin 153 = .ok (.if_icmp .ne 7, 3) := by decide +kernel
theorem dX5_pin_156 : decode cX5_pin 156 = .ok (.iconst 1, 1) := by decide +kernel
theorem dX5_pin_157 : decode cX5_pin 157 = .ok (.goto 4, 3) := by decide +kernel
theorem dX5_pin_160 : decode cX5_pin 160 = .ok (.iconst 0, 1) := by decide +kernel
theorem dX5_pin_161 : decode cX5_pin 161 = .ok (.invokevirtual 85, 3) := by decide +kernel
theorem dX5_pin_164 : decode cX5_pin 164 = .ok (.ireturn, 1) := by decide +kernel
theorem dX5_pin_165 : decode cX5_pin 165 = .ok (.aload_n 0, 1) := by decide +kernel
theorem dX5_pin_166 : decode cX5_pin 166 = .ok (.aload_n 0, 1) := by decide +kernel
theorem dX5_pin_167 : decode cX5_pin 167 = .ok (.getfield 41, 3) := by decide +kernel
theorem dX5_pin_170 : decode cX5_pin 170 = .ok (.iconst 1, 1) := by decide +kernel
theorem dX5_pin_171 : decode cX5_pin 171 = .ok (.iload_n 1, 1) := by decide +kernel
theorem dX5_pin_172 : decode cX5_pin 172 = .ok (.iadd, 1) := by decide +kernel
theorem dX5_pin_173 : decode cX5_pin 173 = .ok (.iaload, 1) := by decide +kernel
theorem dX5_pin_174 : decode cX5_pin 174 = .ok (.bipush (-2), 2) := by decide +kernel
theorem dX5_pin_176 : decode cX5_pin 176 = .ok (.if_icmp .ne 7, 3) := by decide +kernel
theorem dX5_pin_179 : decode cX5_pin 179 = .ok (.iconst 1, 1) := by decide +kernel
theorem dX5_pin_180 : decode cX5_pin 180 = .ok (.goto 4, 3) := by decide +kernel
theorem dX5_pin_183 : decode cX5_pin 183 = .ok (.iconst 0, 1) := by decide +kernel
theorem dX5_pin_184 : decode cX5_pin 184 = .ok (.invokevirtual 85, 3) := by decide +kernel
theorem dX5_pin_187 : decode cX5_pin 187 = .ok (.ireturn, 1) := by decide +kernel
theorem dX5_isOf_0 : decode cX5_isOf 0 = .ok (.iload_n 0, 1) := by decide +kernel
theorem dX5_isOf_1 : decode cX5_isOf 1 = .ok (.iload_n 1, 1) := by decide +kernel
theorem dX5_isOf_2 : decode cX5_isOf 2 = .ok (.if_icmp .eq 23, 3) := by decide +kernel
theorem dX5_isOf_5 : decode cX5_isOf 5 = .ok (.iload_n 0, 1) := by decide +kernel
theorem dX5_isOf_6 : decode cX5_isOf 6 = .ok (.iconst 5, 1) := by decide +kernel
theorem dX5_isOf_7 : decode cX5_isOf 7 = .ok (.if_icmp .ne 8, 3) := by decide +kernel
theorem dX5_isOf_10 : decode cX5_isOf 10 = .ok (.iload_n 1, 1) := by decide +kernel
theorem dX5_isOf_11 : decode cX5_isOf 11 = .ok (.iconst 1, 1) := by decide +kernel
theorem dX5_isOf_12 : decode cX5_isOf 12 = .ok (.if_icmp .eq 13, 3) := by decide +kernel
theorem dX5_isOf_15 : decode cX5_isOf 15 = .ok (.iload_n 0, 1) := by decide +kernel
theorem dX5_isOf_16 : decode cX5_isOf 16 = .ok (.iconst 4, 1) := by decide +kernel
theorem dX5_isOf_17 : decode cX5_isOf 17 = .ok (.if_icmp .ne 12, 3) := by decide +kernel
theorem dX5_isOf_20 : decode cX5_isOf 20 = .ok (.iload_n 1, 1) := by decide +kernel
theorem dX5_isOf_21 : decode cX5_isOf 21 = .ok (.iconst 2, 1) := by decide +kernel
theorem dX5_isOf_22 : decode cX5_isOf 22 = .ok (.if_icmp .ne 7, 3) := by decide +kernel
theorem dX5_isOf_25 : decode cX5_isOf 25 = .ok (.iconst 1, 1) := by decide +kernel
theorem dX5_isOf_26 : decode cX5_isOf 26 = .ok (.goto 4, 3) := by decide +kernel
theorem dX5_isOf_29 : decode cX5_isOf 29 = .ok (.iconst 0, 1) := by decide +kernel
theorem dX5_isOf_30 : decode cX5_isOf 30 = .ok (.ireturn, 1) := by decide +kernel
theorem dX5_mark_0 : decode cX5_mark 0 = .ok (.aload_n 0, 1) := by decide +kernel
theorem dX5_mark_1 : decode cX5_mark 1 = .ok (.iload_n 1, 1) := by decide +kernel
theorem dX5_mark_2 : decode cX5_mark 2 = .ok (.invokevirtual 153, 3) := by decide +kernel
theorem dX5_mark_5 : decode cX5_mark 5 = .ok (.ifCond .eq 15, 3) := by decide +kernel
theorem dX5_mark_8 : decode cX5_mark 8 = .ok (.iload_n 2, 1) := by decide +kernel
theorem dX5_mark_9 : decode cX5_mark 9 = .ok (.i2l, 1) := by decide +kernel
theorem dX5_mark_10 : decode cX5_mark 10 = .ok (.lconst 1, 1) := by decide +kernel
theorem dX5_mark_11 : decode cX5_mark 11 = .ok (.ldc2_w 69, 3) := by decide +kernel
theorem dX5_mark_14 : decode cX5_mark 14 = .ok (.invokestatic 71, 3) := by decide +kernel
theorem dX5_mark_17 : decode cX5_mark 17 = .ok (.ifCond .ne 5, 3) := by decide +kernel
theorem dX5_mark_20 : decode cX5_mark 20 = .ok (.iconst (-1), 1) := by decide +kernel
theorem dX5_mark_21 : decode cX5_mark 21 = .ok (.ireturn, 1) := by decide +kernel
theorem dX5_mark_22 : decode cX5_mark 22 = .ok (.aload_n 0, 1) := by decide +kernel
theorem dX5_mark_23 : decode cX5_mark 23 = .ok (.getfield 29, 3) := by decide +kernel
theorem dX5_mark_26 : decode cX5_mark 26 = .ok (.iload_n 1, 1) := by decide +kernel
theorem dX5_mark_27 : decode cX5_mark 27 = .ok (.iaload, 1) := by decide +kernel
theorem dX5_mark_28 : decode cX5_mark 28 = .ok (.iload_n 2, 1) := by decide +kernel
theorem dX5_mark_29 : decode cX5_mark 29 = .ok (.invokestatic 158, 3) := by decide +kernel
theorem dX5_mark_32 : decode cX5_mark 32 = .ok (.ifCond .ne 9, 3) := by decide +kernel
theorem dX5_mark_35 : decode cX5_mark 35 = .ok (.aload_n 0, 1) := by decide +kernel
theorem dX5_mark_36 : decode cX5_mark 36 = .ok (.iconst 3, 1) := by decide +kernel
theorem dX5_mark_37 : decode cX5_mark 37 = .ok (.invokevirtual 81, 3) := by decide +kernel
theorem dX5_mark_40 : decode cX5_mark 40 = .ok (.ireturn, 1) := by decide +kernel
theorem dX5_mark_41 : decode cX5_mark 41 = .ok (.iload_n 2, 1) := by decide +kernel
theorem dX5_mark_42 : decode cX5_mark 42 = .ok (.iconst 1, 1) := by decide +kernel
theorem dX5_mark_43 : decode cX5_mark 43 = .ok (.if_icmp .ne 7, 3) := by decide +kernel
theorem dX5_mark_46 : decode cX5_mark 46 = .ok (.iconst 0, 1) := by decide +kernel
theorem dX5_mark_47 : decode cX5_mark 47 = .ok (.goto 33, 3) := by decide +kernel
theorem dX5_mark_50 : decode cX5_mark 50 = .ok (.aload_n 0, 1) := by decide +kernel
theorem dX5_mark_51 : decode cX5_mark 51 = .ok (.iload_n 2, 1) := by decide +kernel
theorem dX5_mark_52 : decode cX5_mark 52 = .ok (.iconst 4, 1) := by decide +kernel
theorem dX5_mark_53 : decode cX5_mark 53 = .ok (.if_icmp .ne 7, 3) := by decide +kernel
theorem dX5_mark_56 : decode cX5_mark 56 = .ok (.iconst 2, 1) := by decide +kernel
theorem dX5_mark_57 : decode cX5_mark 57 = .ok (.goto 13, 3) := by decide +kernel
theorem dX5_mark_60 : decode cX5_mark 60 = .ok (.iload_n 2, 1) := by decide +kernel
theorem dX5_mark_61 : decode cX5_mark 61 = .ok (.iconst 5, 1) := by decide +kernel
theorem dX5_mark_62 : decode cX5_mark 62 = .ok (.if_icmp .ne 7, 3) := by decide +kernel
theorem dX5_mark_65 : decode cX5_mark 65 = .ok (.iconst 1, 1) := by decide +kernel
theorem dX5_mark_66 : decode cX5_mark 66 = .ok (.goto 4, 3) := by decide +kernel
theorem dX5_mark_69 : decode cX5_mark 69 = .ok (.iconst 0, 1) := by decide +kernel
theorem dX5_mark_70 : decode cX5_mark 70 = .ok (.iload_n 1, 1) := by decide +kernel
theorem dX5_mark_71 : decode cX5_mark 71 = .ok (.aload_n 0, 1) := by decide +kernel
theorem dX5_mark_72 : decode cX5_mark 72 = .ok (.getfield 38, 3) := by decide +kernel
theorem dX5_mark_75 : decode cX5_mark 75 = .ok (.iload_n 1, 1) := by decide +kernel
theorem dX5_mark_76 : decode cX5_mark 76 = .ok (.iaload, 1) := by decide +kernel
theorem dX5_mark_77 : decode cX5_mark 77 = .ok (.invokevirtual 142, 3) := by decide +kernel
theorem dX5_mark_80 : decode cX5_mark 80 = .ok (.istore_n 3, 1) := by decide +kernel
theorem dX5_mark_81 : decode cX5_mark 81 = .ok (.bipush 100, 2) := by decide +kernel
theorem dX5_mark_83 : decode cX5_mark 83 = .ok (.aload_n 0, 1) := by decide +kernel
theorem dX5_mark_84 : decode cX5_mark 84 = .ok (.iload_n 1, 1) := by decide +kernel
theorem dX5_mark_85 : decode cX5_mark 85 = .ok (.invokevirtual 146, 3) := by decide +kernel
theorem dX5_mark_88 : decode cX5_mark 88 = .ok (.iadd, 1) := by decide +kernel
theorem dX5_mark_89 : decode cX5_mark 89 = .ok (.iload_n 3, 1) := by decide +kernel
theorem dX5_mark_90 : decode cX5_mark 90 = .ok (.isub, 1) := by decide +kernel
theorem dX5_mark_91 : decode cX5_mark 91 = .ok (.ireturn, 1) := by decide +kernel
theorem dX5_worth_0 : decode cX5_worth 0 = .ok (.aload_n 0, 1) := by decide +kernel
theorem dX5_worth_1 : decode cX5_worth 1 = .ok (.iload_n 1, 1) := by decide +kernel
theorem dX5_worth_2 : decode cX5_worth 2 = .ok (.invokevirtual 153, 3) := by decide +kernel
theorem dX5_worth_5 : decode cX5_worth 5 = .ok (.ifCond .eq 34, 3) := by decide +kernel
theorem dX5_worth_8 : decode cX5_worth 8 = .ok (.iload_n 2, 1) := by decide +kernel
theorem dX5_worth_9 : decode cX5_worth 9 = .ok (.i2l, 1) := by decide +kernel
theorem dX5_worth_10 : decode cX5_worth 10 = .ok (.lconst 0, 1) := by decide +kernel
theorem dX5_worth_11 : decode cX5_worth 11 = .ok (.ldc2_w 161, 3) := by decide +kernel
theorem dX5_worth_14 : decode cX5_worth 14 = .ok (.invokestatic 71, 3) := by decide +kernel
theorem dX5_worth_17 : decode cX5_worth 17 = .ok (.ifCond .eq 22, 3) := by decide +kernel
theorem dX5_worth_20 : decode cX5_worth 20 = .ok (.aload_n 0, 1) := by decide +kernel
theorem dX5_worth_21 : decode cX5_worth 21 = .ok (.aload_n 0, 1) := by decide +kernel
theorem dX5_worth_22 : decode cX5_worth 22 = .ok (.aload_n 0, 1) := by decide +kernel
theorem dX5_worth_23 : decode cX5_worth 23 = .ok (.getfield 29, 3) := by decide +kernel
theorem dX5_worth_26 : decode cX5_worth 26 = .ok (.iload_n 1, 1) := by decide +kernel
theorem dX5_worth_27 : decode cX5_worth 27 = .ok (.iaload, 1) := by decide +kernel
theorem dX5_worth_28 : decode cX5_worth 28 = .ok (.iload_n 1, 1) := by decide +kernel
theorem dX5_worth_29 : decode cX5_worth 29 = .ok (.iload_n 2, 1) := by decide +kernel
theorem dX5_worth_30 : decode cX5_worth 30 = .ok (.invokevirtual 142, 3) := by decide +kernel
theorem dX5_worth_33 : decode cX5_worth 33 = .ok (.invokevirtual 85, 3) := by decide +kernel
theorem dX5_worth_36 : decode cX5_worth 36 = .ok (.goto 4, 3) := by decide +kernel
theorem dX5_worth_39 : decode cX5_worth 39 = .ok (.iconst (-1), 1) := by decide +kernel
theorem dX5_worth_40 : decode cX5_worth 40 = .ok (.ireturn, 1) := by decide +kernel
theorem dX5_copies_0 : decode cX5_copies 0 = .ok (.iconst 0, 1) := by decide +kernel
theorem dX5_copies_1 : decode cX5_copies 1 = .ok (.istore 5, 2) := by decide +kernel
theorem dX5_copies_3 : decode cX5_copies 3 = .ok (.iload 5, 2) := by decide +kernel
theorem dX5_copies_5 : decode cX5_copies 5 = .ok (.iload 4, 2) := by decide +kernel
theorem dX5_copies_7 : decode cX5_copies 7 = .ok (.if_icmp .ge 21, 3) := by decide +kernel
theorem dX5_copies_10 : decode cX5_copies 10 = .ok (.aload_n 2, 1) := by decide +kernel
theorem dX5_copies_11 : decode cX5_copies 11 = .ok (.iload_n 3, 1) := by decide +kernel
theorem dX5_copies_12 : decode cX5_copies 12 = .ok (.iload 5, 2) := by decide +kernel
theorem dX5_copies_14 : decode cX5_copies 14 = .ok (.iadd, 1) := by decide +kernel
theorem dX5_copies_15 : decode cX5_copies 15 = .ok (.aload_n 0, 1) := by decide +kernel
theorem dX5_copies_16 : decode cX5_copies 16 = .ok (.iload_n 1, 1) := by decide +kernel
theorem dX5_copies_17 : decode cX5_copies 17 = .ok (.iload 5, 2) := by decide +kernel
theorem dX5_copies_19 : decode cX5_copies 19 = .ok (.iadd, 1) := by decide +kernel
theorem dX5_copies_20 : decode cX5_copies 20 = .ok (.iaload, 1) := by decide +kernel
theorem dX5_copies_21 : decode cX5_copies 21 = .ok (.iastore, 1) := by decide +kernel
theorem dX5_copies_22 : decode cX5_copies 22 = .ok (.iinc 5 1, 3) := by decide +kernel
theorem dX5_copies_25 : decode cX5_copies 25 = .ok (.goto (-22), 3) := by decide +kernel
theorem dX5_copies_28 : decode cX5_copies 28 = .ok (.return_, 1) := by decide +kernel
theorem dX5_remember_0 : decode cX5_remember 0 = .ok (.aload_n 0, 1) := by decide +kernel
theorem dX5_remember_1 : decode cX5_remember 1 = .ok (.getfield 41, 3) := by decide +kernel
theorem dX5_remember_4 : decode cX5_remember 4 = .ok (.iconst 0, 1) := by decide +kernel
theorem dX5_remember_5 : decode cX5_remember 5 = .ok (.aload_n 0, 1) := by decide +kernel
theorem dX5_remember_6 : decode cX5_remember 6 = .ok (.getfield 44, 3) := by decide +kernel
theorem dX5_remember_9 : decode cX5_remember 9 = .ok (.bipush 9, 2) := by decide +kernel
theorem dX5_remember_11 : decode cX5_remember 11 = .ok (.aload_n 0, 1) := by decide +kernel
theorem dX5_remember_12 : decode cX5_remember 12 = .ok (.getfield 91, 3) := by decide +kernel
theorem dX5_remember_15 : decode cX5_remember 15 = .ok (.imul, 1) := by decide +kernel
theorem dX5_remember_16 : decode cX5_remember 16 = .ok (.bipush 9, 2) := by decide +kernel
theorem dX5_remember_18 : decode cX5_remember 18 = .ok (.invokestatic 163, 3) := by decide +kernel
theorem dX5_remember_21 : decode cX5_remember 21 = .ok (.aload_n 0, 1) := by decide +kernel
theorem dX5_remember_22 : decode cX5_remember 22 = .ok (.dup, 1) := by decide +kernel
theorem dX5_remember_23 : decode cX5_remember 23 = .ok (.getfield 91, 3) := by decide +kernel
theorem dX5_remember_26 : decode cX5_remember 26 = .ok (.iconst 1, 1) := by decide +kernel
theorem dX5_remember_27 : decode cX5_remember 27 = .ok (.iadd, 1) := by decide +kernel
theorem dX5_remember_28 : decode cX5_remember 28 = .ok (.putfield 91, 3) := by decide +kernel
theorem dX5_remember_31 : decode cX5_remember 31 = .ok (.return_, 1) := by decide +kernel
theorem dX5_step_0 : decode cX5_step 0 = .ok (.iload_n 1, 1) := by decide +kernel
theorem dX5_step_1 : decode cX5_step 1 = .ok (.iconst 1, 1) := by decide +kernel
theorem dX5_step_2 : decode cX5_step 2 = .ok (.if_icmp .eq 10, 3) := by decide +kernel
theorem dX5_step_5 : decode cX5_step 5 = .ok (.iload_n 1, 1) := by decide +kernel
theorem dX5_step_6 : decode cX5_step 6 = .ok (.iconst (-1), 1) := by decide +kernel
theorem dX5_step_7 : decode cX5_step 7 = .ok (.if_icmp .eq 5, 3) := by decide +kernel
theorem dX5_step_10 : decode cX5_step 10 = .ok (.iconst (-1), 1) := by decide +kernel
theorem dX5_step_11 : decode cX5_step 11 = .ok (.ireturn, 1) := by decide +kernel
theorem dX5_step_12 : decode cX5_step 12 = .ok (.aload_n 0, 1) := by decide +kernel
theorem dX5_step_13 : decode cX5_step 13 = .ok (.getfield 130, 3) := by decide +kernel
theorem dX5_step_16 : decode cX5_step 16 = .ok (.ifCond .eq 22, 3) := by decide +kernel
theorem dX5_step_19 : decode cX5_step 19 = .ok (.aload_n 0, 1) := by decide +kernel
theorem dX5_step_20 : decode cX5_step 20 = .ok (.getfield 41, 3) := by decide +kernel
theorem dX5_step_23 : decode cX5_step 23 = .ok (.iconst 0, 1) := by decide +kernel
theorem dX5_step_24 : decode cX5_step 24 = .ok (.iaload, 1) := by decide +kernel
theorem dX5_step_25 : decode cX5_step 25 = .ok (.iload_n 1, 1) := by decide +kernel
theorem dX5_step_26 : decode cX5_step 26 = .ok (.iadd, 1) := by decide +kernel
theorem dX5_step_27 : decode cX5_step 27 = .ok (.i2l, 1) := by decide +kernel
theorem dX5_step_28 : decode cX5_step 28 = .ok (.lconst 0, 1) := by decide +kernel
theorem dX5_step_29 : decode cX5_step 29 = .ok (.ldc2_w 161, 3) := by decide +kernel
theorem dX5_step_32 : decode cX5_step 32 = .ok (.invokestatic 71, 3) := by decide +kernel
theorem dX5_step_35 : decode cX5_step 35 = .ok (.ifCond .ne 6, 3) := by decide +kernel
theorem dX5_step_38 : decode cX5_step 38 = .ok (.bipush (-4), 2) := by decide +kernel
theorem dX5_step_40 : decode cX5_step 40 = .ok (.ireturn, 1) := by decide +kernel
theorem dX5_step_41 : decode cX5_step 41 = .ok (.aload_n 0, 1) := by decide +kernel
theorem dX5_step_42 : decode cX5_step 42 = .ok (.getfield 91, 3) := by decide +kernel
theorem dX5_step_45 : decode cX5_step 45 = .ok (.bipush 40, 2) := by decide +kernel
theorem dX5_step_47 : decode cX5_step 47 = .ok (.if_icmp .ne 6, 3) := by decide +kernel
theorem dX5_step_50 : decode cX5_step 50 = .ok (.bipush (-2), 2) := by decide +kernel
theorem dX5_step_52 : decode cX5_step 52 = .ok (.ireturn, 1) := by decide +kernel
theorem dX5_step_53 : decode cX5_step 53 = .ok (.aload_n 0, 1) := by decide +kernel
theorem dX5_step_54 : decode cX5_step 54 = .ok (.invokevirtual 167, 3) := by decide +kernel
theorem dX5_step_57 : decode cX5_step 57 = .ok (.aload_n 0, 1) := by decide +kernel
theorem dX5_step_58 : decode cX5_step 58 = .ok (.getfield 41, 3) := by decide +kernel
theorem dX5_step_61 : decode cX5_step 61 = .ok (.iconst 0, 1) := by decide +kernel
theorem dX5_step_62 : decode cX5_step 62 = .ok (.dup2, 1) := by decide +kernel
theorem dX5_step_63 : decode cX5_step 63 = .ok (.iaload, 1) := by decide +kernel
theorem dX5_step_64 : decode cX5_step 64 = .ok (.iload_n 1, 1) := by decide +kernel
theorem dX5_step_65 : decode cX5_step 65 = .ok (.iadd, 1) := by decide +kernel
theorem dX5_step_66 : decode cX5_step 66 = .ok (.iastore, 1) := by decide +kernel
theorem dX5_step_67 : decode cX5_step 67 = .ok (.aload_n 0, 1) := by decide +kernel
theorem dX5_step_68 : decode cX5_step 68 = .ok (.getfield 41, 3) := by decide +kernel
theorem dX5_step_71 : decode cX5_step 71 = .ok (.iconst 0, 1) := by decide +kernel
theorem dX5_step_72 : decode cX5_step 72 = .ok (.iaload, 1) := by decide +kernel
theorem dX5_step_73 : decode cX5_step 73 = .ok (.ireturn, 1) := by decide +kernel
theorem dX5_those_0 : decode cX5_those 0 = .ok (.iconst 0, 1) := by decide +kernel
theorem dX5_those_1 : decode cX5_those 1 = .ok (.istore_n 2, 1) := by decide +kernel
theorem dX5_those_2 : decode cX5_those 2 = .ok (.iconst 0, 1) := by decide +kernel
theorem dX5_those_3 : decode cX5_those 3 = .ok (.istore_n 3, 1) := by decide +kernel
theorem dX5_those_4 : decode cX5_those 4 = .ok (.iload_n 3, 1) := by decide +kernel
theorem dX5_those_5 : decode cX5_those 5 = .ok (.aload_n 0, 1) := by decide +kernel
theorem dX5_those_6 : decode cX5_those 6 = .ok (.getfield 130, 3) := by decide +kernel
theorem dX5_those_9 : decode cX5_those 9 = .ok (.if_icmp .ge 55, 3) := by decide +kernel
theorem dX5_those_12 : decode cX5_those 12 = .ok (.iload_n 2, 1) := by decide +kernel
theorem dX5_those_13 : decode cX5_those 13 = .ok (.iload_n 1, 1) := by decide +kernel
theorem dX5_those_14 : decode cX5_those 14 = .ok (.bipush (-9), 2) := by decide +kernel
theorem dX5_those_16 : decode cX5_those 16 = .ok (.if_icmp .ne 21, 3) := by decide +kernel
theorem dX5_those_19 : decode cX5_those 19 = .ok (.aload_n 0, 1) := by decide +kernel
theorem dX5_those_20 : decode cX5_those 20 = .ok (.iload_n 3, 1) := by decide +kernel
theorem dX5_those_21 : decode cX5_those 21 = .ok (.invokevirtual 133, 3) := by decide +kernel
theorem dX5_those_24 : decode cX5_those 24 = .ok (.ifCond .eq 9, 3) := by decide +kernel
theorem dX5_those_27 : decode cX5_those 27 = .ok (.iconst 1, 1) := by decide +kernel
theorem dX5_those_28 : decode cX5_those 28 = .ok (.iload_n 3, 1) := by decide +kernel
theorem dX5_those_29 : decode cX5_those 29 = .ok (.ishl, 1) := by decide +kernel
theorem dX5_those_30 : decode cX5_those 30 = .ok (.goto 26, 3) := by decide +kernel
theorem dX5_those_33 : decode cX5_those 33 = .ok (.iconst 0, 1) := by decide +kernel
theorem dX5_those_34 : decode cX5_those 34 = .ok (.goto 22, 3) := by decide +kernel
theorem dX5_those_37 : decode cX5_those 37 = .ok (.aload_n 0, 1) := by decide +kernel
theorem dX5_those_38 : decode cX5_those 38 = .ok (.getfield 41, 3) := by decide +kernel
theorem dX5_those_41 : decode cX5_those 41 = .ok (.iconst 1, 1) := by decide +kernel
theorem dX5_those_42 : decode cX5_those 42 = .ok (.iload_n 3, 1) := by decide +kernel
theorem dX5_those_43 : decode cX5_those 43 = .ok (.iadd, 1) := by decide +kernel
theorem dX5_those_44 : decode cX5_those 44 = .ok (.iaload, 1) := by decide +kernel
theorem dX5_those_45 : decode cX5_those 45 = .ok (.iload_n 1, 1) := by decide +kernel
theorem dX5_those_46 : decode cX5_those 46 = .ok (.if_icmp .ne 9, 3) := by decide +kernel
theorem dX5_those_49 : decode cX5_those 49 = .ok (.iconst 1, 1) := by decide +kernel
theorem dX5_those_50 : decode cX5_those 50 = .ok (.iload_n 3, 1) := by decide +kernel
theorem dX5_those_51 : decode cX5_those 51 = .ok (.ishl, 1) := by decide +kernel
theorem dX5_those_52 : decode cX5_those 52 = .ok (.goto 4, 3) := by decide +kernel
theorem dX5_those_55 : decode cX5_those 55 = .ok (.iconst 0, 1) := by decide +kernel
theorem dX5_those_56 : decode cX5_those 56 = .ok (.ior, 1) := by decide +kernel
theorem dX5_those_57 : decode cX5_those 57 = .ok (.istore_n 2, 1) := by decide +kernel
theorem dX5_those_58 : decode cX5_those 58 = .ok (.iinc 3 1, 3) := by decide +kernel
theorem dX5_those_61 : decode cX5_those 61 = .ok (.goto (-57), 3) := by decide +kernel
theorem dX5_those_64 : decode cX5_those 64 = .ok (.iload_n 2, 1) := by decide +kernel
theorem dX5_those_65 : decode cX5_those 65 = .ok (.ireturn, 1) := by decide +kernel
theorem dX5_bits_0 : decode cX5_bits 0 = .ok (.iconst 0, 1) := by decide +kernel
theorem dX5_bits_1 : decode cX5_bits 1 = .ok (.istore_n 1, 1) := by decide +kernel
theorem dX5_bits_2 : decode cX5_bits 2 = .ok (.iload_n 0, 1) := by decide +kernel
theorem dX5_bits_3 : decode cX5_bits 3 = .ok (.istore_n 2, 1) := by decide +kernel
theorem dX5_bits_4 : decode cX5_bits 4 = .ok (.iload_n 2, 1) := by decide +kernel
theorem dX5_bits_5 : decode cX5_bits 5 = .ok (.ifCond .eq 15, 3) := by decide +kernel
theorem dX5_bits_8 : decode cX5_bits 8 = .ok (.iinc 1 1, 3) := by decide +kernel
theorem dX5_bits_11 : decode cX5_bits 11 = .ok (.iload_n 2, 1) := by decide +kernel
theorem dX5_bits_12 : decode cX5_bits 12 = .ok (.iload_n 2, 1) := by decide +kernel
theorem dX5_bits_13 : decode cX5_bits 13 = .ok (.iconst 1, 1) := by decide +kernel
theorem dX5_bits_14 : decode cX5_bits 14 = .ok (.isub, 1) := by decide +kernel
theorem dX5_bits_15 : decode cX5_bits 15 = .ok (.iand, 1) := by decide +kernel
theorem dX5_bits_16 : decode cX5_bits 16 = .ok (.istore_n 2, 1) := by decide +kernel
theorem dX5_bits_17 : decode cX5_bits 17 = .ok (.goto (-13), 3) := by decide +kernel
theorem dX5_bits_20 : decode cX5_bits 20 = .ok (.iload_n 1, 1) := by decide +kernel
theorem dX5_bits_21 : decode cX5_bits 21 = .ok (.ireturn, 1) := by decide +kernel
theorem dX5_pick_0 : decode cX5_pick 0 = .ok (.aload_n 0, 1) := by decide +kernel
theorem dX5_pick_1 : decode cX5_pick 1 = .ok (.iload_n 1, 1) := by decide +kernel
theorem dX5_pick_2 : decode cX5_pick 2 = .ok (.invokevirtual 153, 3) := by decide +kernel
theorem dX5_pick_5 : decode cX5_pick 5 = .ok (.ifCond .ne 5, 3) := by decide +kernel
theorem dX5_pick_8 : decode cX5_pick 8 = .ok (.iconst (-1), 1) := by decide +kernel
theorem dX5_pick_9 : decode cX5_pick 9 = .ok (.ireturn, 1) := by decide +kernel
theorem dX5_pick_10 : decode cX5_pick 10 = .ok (.aload_n 0, 1) := by decide +kernel
theorem dX5_pick_11 : decode cX5_pick 11 = .ok (.getfield 41, 3) := by decide +kernel
theorem dX5_pick_14 : decode cX5_pick 14 = .ok (.iconst 1, 1) := by decide +kernel
theorem dX5_pick_15 : decode cX5_pick 15 = .ok (.iload_n 1, 1) := by decide +kernel
theorem dX5_pick_16 : decode cX5_pick 16 = .ok (.iadd, 1) := by decide +kernel
theorem dX5_pick_17 : decode cX5_pick 17 = .ok (.iaload, 1) := by decide +kernel
theorem dX5_pick_18 : decode cX5_pick 18 = .ok (.aload_n 0, 1) := by decide +kernel
theorem dX5_pick_19 : decode cX5_pick 19 = .ok (.getfield 41, 3) := by decide +kernel
theorem dX5_pick_22 : decode cX5_pick 22 = .ok (.iconst 0, 1) := by decide +kernel
theorem dX5_pick_23 : decode cX5_pick 23 = .ok (.iaload, 1) := by decide +kernel
theorem dX5_pick_24 : decode cX5_pick 24 = .ok (.if_icmp .eq 6, 3) := by decide +kernel
theorem dX5_pick_27 : decode cX5_pick 27 = .ok (.bipush (-4), 2) := by decide +kernel
theorem dX5_pick_29 : decode cX5_pick 29 = .ok (.ireturn, 1) := by decide +kernel
theorem dX5_pick_30 : decode cX5_pick 30 = .ok (.aload_n 0, 1) := by decide +kernel
theorem dX5_pick_31 : decode cX5_pick 31 = .ok (.getfield 91, 3) := by decide +kernel
theorem dX5_pick_34 : decode cX5_pick 34 = .ok (.bipush 40, 2) := by decide +kernel
theorem dX5_pick_36 : decode cX5_pick 36 = .ok (.if_icmp .ne 6, 3) := by decide +kernel
theorem dX5_pick_39 : decode cX5_pick 39 = .ok (.bipush (-2), 2) := by decide +kernel
theorem dX5_pick_41 : decode cX5_pick 41 = .ok (.ireturn, 1) := by decide +kernel
theorem dX5_pick_42 : decode cX5_pick 42 = .ok (.aload_n 0, 1) := by decide +kernel
theorem dX5_pick_43 : decode cX5_pick 43 = .ok (.invokevirtual 167, 3) := by decide +kernel
theorem dX5_pick_46 : decode cX5_pick 46 = .ok (.aload_n 0, 1) := by decide +kernel
theorem dX5_pick_47 : decode cX5_pick 47 = .ok (.getfield 41, 3) := by decide +kernel
theorem dX5_pick_50 : decode cX5_pick 50 = .ok (.iconst 1, 1) := by decide +kernel
theorem dX5_pick_51 : decode cX5_pick 51 = .ok (.iload_n 1, 1) := by decide +kernel
theorem dX5_pick_52 : decode cX5_pick 52 = .ok (.iadd, 1) := by decide +kernel
theorem dX5_pick_53 : decode cX5_pick 53 = .ok (.iconst (-1), 1) := by decide +kernel
theorem dX5_pick_54 : decode cX5_pick 54 = .ok (.iastore, 1) := by decide +kernel
theorem dX5_pick_55 : decode cX5_pick 55 = .ok (.aload_n 0, 1) := by decide +kernel
theorem dX5_pick_56 : decode cX5_pick 56 = .ok (.iconst (-1), 1) := by decide +kernel
theorem dX5_pick_57 : decode cX5_pick 57 = .ok (.invokevirtual 170, 3) := by decide +kernel
theorem dX5_pick_60 : decode cX5_pick 60 = .ok (.invokestatic 173, 3) := by decide +kernel
theorem dX5_pick_63 : decode cX5_pick 63 = .ok (.ireturn, 1) := by decide +kernel
theorem dX5_drop_0 : decode cX5_drop 0 = .ok (.aload_n 0, 1) := by decide +kernel
theorem dX5_drop_1 : decode cX5_drop 1 = .ok (.iload_n 1, 1) := by decide +kernel
theorem dX5_drop_2 : decode cX5_drop 2 = .ok (.invokevirtual 153, 3) := by decide +kernel
theorem dX5_drop_5 : decode cX5_drop 5 = .ok (.ifCond .ne 5, 3) := by decide +kernel
theorem dX5_drop_8 : decode cX5_drop 8 = .ok (.iconst (-1), 1) := by decide +kernel
theorem dX5_drop_9 : decode cX5_drop 9 = .ok (.ireturn, 1) := by decide +kernel
theorem dX5_drop_10 : decode cX5_drop 10 = .ok (.aload_n 0, 1) := by decide +kernel
theorem dX5_drop_11 : decode cX5_drop 11 = .ok (.getfield 41, 3) := by decide +kernel
theorem dX5_drop_14 : decode cX5_drop 14 = .ok (.iconst 1, 1) := by decide +kernel
theorem dX5_drop_15 : decode cX5_drop 15 = .ok (.iload_n 1, 1) := by decide +kernel
theorem dX5_drop_16 : decode cX5_drop 16 = .ok (.iadd, 1) := by decide +kernel
theorem dX5_drop_17 : decode cX5_drop 17 = .ok (.iaload, 1) := by decide +kernel
theorem dX5_drop_18 : decode cX5_drop 18 = .ok (.iconst (-1), 1) := by decide +kernel
theorem dX5_drop_19 : decode cX5_drop 19 = .ok (.if_icmp .eq 6, 3) := by decide +kernel
theorem dX5_drop_22 : decode cX5_drop 22 = .ok (.bipush (-4), 2) := by decide +kernel
theorem dX5_drop_24 : decode cX5_drop 24 = .ok (.ireturn, 1) := by decide +kernel
theorem dX5_drop_25 : decode cX5_drop 25 = .ok (.aload_n 0, 1) := by decide +kernel
theorem dX5_drop_26 : decode cX5_drop 26 = .ok (.getfield 91, 3) := by decide +kernel
theorem dX5_drop_29 : decode cX5_drop 29 = .ok (.bipush 40, 2) := by decide +kernel
theorem dX5_drop_31 : decode cX5_drop 31 = .ok (.if_icmp .ne 6, 3) := by decide +kernel
theorem dX5_drop_34 : decode cX5_drop 34 = .ok (.bipush (-2), 2) := by decide +kernel
theorem dX5_drop_36 : decode cX5_drop 36 = .ok (.ireturn, 1) := by decide +kernel
theorem dX5_drop_37 : decode cX5_drop 37 = .ok (.aload_n 0, 1) := by decide +kernel
theorem dX5_drop_38 : decode cX5_drop 38 = .ok (.invokevirtual 167, 3) := by decide +kernel
theorem dX5_drop_41 : decode cX5_drop 41 = .ok (.aload_n 0, 1) := by decide +kernel
theorem dX5_drop_42 : decode cX5_drop 42 = .ok (.getfield 41, 3) := by decide +kernel
theorem dX5_drop_45 : decode cX5_drop 45 = .ok (.iconst 1, 1) := by decide +kernel
theorem dX5_drop_46 : decode cX5_drop 46 = .ok (.iload_n 1, 1) := by decide +kernel
theorem dX5_drop_47 : decode cX5_drop 47 = .ok (.iadd, 1) := by decide +kernel
theorem dX5_drop_48 : decode cX5_drop 48 = .ok (.aload_n 0, 1) := by decide +kernel
theorem dX5_drop_49 : decode cX5_drop 49 = .ok (.getfield 41, 3) := by decide +kernel
theorem dX5_drop_52 : decode cX5_drop 52 = .ok (.iconst 0, 1) := by decide +kernel
theorem dX5_drop_53 : decode cX5_drop 53 = .ok (.iaload, 1) := by decide +kernel
theorem dX5_drop_54 : decode cX5_drop 54 = .ok (.iastore, 1) := by decide +kernel
theorem dX5_drop_55 : decode cX5_drop 55 = .ok (.aload_n 0, 1) := by decide +kernel
theorem dX5_drop_56 : decode cX5_drop 56 = .ok (.iconst (-1), 1) := by decide +kernel
theorem dX5_drop_57 : decode cX5_drop 57 = .ok (.invokevirtual 170, 3) := by decide +kernel
theorem dX5_drop_60 : decode cX5_drop 60 = .ok (.invokestatic 173, 3) := by decide +kernel
theorem dX5_drop_63 : decode cX5_drop 63 = .ok (.ireturn, 1) := by decide +kernel
theorem dX5_refuses_0 : decode cX5_refuses 0 = .ok (.aload_n 0, 1) := by decide +kernel
theorem dX5_refuses_1 : decode cX5_refuses 1 = .ok (.getfield 130, 3) := by decide +kernel
theorem dX5_refuses_4 : decode cX5_refuses 4 = .ok (.ifCond .ne 8, 3) := by decide +kernel
theorem dX5_refuses_7 : decode cX5_refuses 7 = .ok (.bipush (-4), 2) := by decide +kernel
theorem dX5_refuses_9 : decode cX5_refuses 9 = .ok (.goto 20, 3) := by decide +kernel
theorem dX5_refuses_12 : decode cX5_refuses 12 = .ok (.aload_n 0, 1) := by decide +kernel
theorem dX5_refuses_13 : decode cX5_refuses 13 = .ok (.getfield 91, 3) := by decide +kernel
theorem dX5_refuses_16 : decode cX5_refuses 16 = .ok (.iload_n 1, 1) := by decide +kernel
theorem dX5_refuses_17 : decode cX5_refuses 17 = .ok (.iadd, 1) := by decide +kernel
theorem dX5_refuses_18 : decode cX5_refuses 18 = .ok (.bipush 40, 2) := by decide +kernel
theorem dX5_refuses_20 : decode cX5_refuses 20 = .ok (.if_icmp .le 8, 3) := by decide +kernel
theorem dX5_refuses_23 : decode cX5_refuses 23 = .ok (.bipush (-2), 2) := by decide +kernel
theorem dX5_refuses_25 : decode cX5_refuses 25 = .ok (.goto 4, 3) := by decide +kernel
theorem dX5_refuses_28 : decode cX5_refuses 28 = .ok (.iconst 0, 1) := by decide +kernel
theorem dX5_refuses_29 : decode cX5_refuses 29 = .ok (.ireturn, 1) := by decide +kernel
theorem dX5_sweep_0 : decode cX5_sweep 0 = .ok (.aload_n 0, 1) := by decide +kernel
theorem dX5_sweep_1 : decode cX5_sweep 1 = .ok (.iconst 1, 1) := by decide +kernel
theorem dX5_sweep_2 : decode cX5_sweep 2 = .ok (.invokevirtual 176, 3) := by decide +kernel
theorem dX5_sweep_5 : decode cX5_sweep 5 = .ok (.istore_n 1, 1) := by decide +kernel
theorem dX5_sweep_6 : decode cX5_sweep 6 = .ok (.iload_n 1, 1) := by decide +kernel
theorem dX5_sweep_7 : decode cX5_sweep 7 = .ok (.ifCond .eq 5, 3) := by decide +kernel
theorem dX5_sweep_10 : decode cX5_sweep 10 = .ok (.iload_n 1, 1) := by decide +kernel
theorem dX5_sweep_11 : decode cX5_sweep 11 = .ok (.ireturn, 1) := by decide +kernel
theorem dX5_sweep_12 : decode cX5_sweep 12 = .ok (.aload_n 0, 1) := by decide +kernel
theorem dX5_sweep_13 : decode cX5_sweep 13 = .ok (.invokevirtual 167, 3) := by decide +kernel
theorem dX5_sweep_16 : decode cX5_sweep 16 = .ok (.iconst 0, 1) := by decide +kernel
theorem dX5_sweep_17 : decode cX5_sweep 17 = .ok (.istore_n 2, 1) := by decide +kernel
theorem dX5_sweep_18 : decode cX5_sweep 18 = .ok (.iconst 0, 1) := by decide +kernel
theorem dX5_sweep_19 : decode cX5_sweep 19 = .ok (.istore_n 3, 1) := by decide +kernel
theorem dX5_sweep_20 : decode cX5_sweep 20 = .ok (.iload_n 3, 1) := by decide +kernel
theorem dX5_sweep_21 : decode cX5_sweep 21 = .ok (.aload_n 0, 1) := by decide +kernel
theorem dX5_sweep_22 : decode cX5_sweep 22 = .ok (.getfield 130, 3) := by decide +kernel
theorem dX5_sweep_25 : decode cX5_sweep 25 = .ok (.if_icmp .ge 39, 3) := by decide +kernel
theorem dX5_sweep_28 : decode cX5_sweep 28 = .ok (.aload_n 0, 1) := by decide +kernel
theorem dX5_sweep_29 : decode cX5_sweep 29 = .ok (.getfield 41, 3) := by decide +kernel
theorem dX5_sweep_32 : decode cX5_sweep 32 = .ok (.iconst 1, 1) := by decide +kernel
theorem dX5_sweep_33 : decode cX5_sweep 33 = .ok (.iload_n 3, 1) := by decide +kernel
theorem dX5_sweep_34 : decode cX5_sweep 34 = .ok (.iadd, 1) := by decide +kernel
theorem dX5_sweep_35 : decode cX5_sweep 35 = .ok (.iaload, 1) := by decide +kernel
theorem dX5_sweep_36 : decode cX5_sweep 36 = .ok (.aload_n 0, 1) := by decide +kernel
theorem dX5_sweep_37 : decode cX5_sweep 37 = .ok (.getfield 41, 3) := by decide +kernel
theorem dX5_sweep_40 : decode cX5_sweep 40 = .ok (.iconst 0, 1) := by decide +kernel
theorem dX5_sweep_41 : decode cX5_sweep 41 = .ok (.iaload, 1) := by decide +kernel
theorem dX5_sweep_42 : decode cX5_sweep 42 = .ok (.if_icmp .ne 16, 3) := by decide +kernel
theorem dX5_sweep_45 : decode cX5_sweep 45 = .ok (.aload_n 0, 1) := by decide +kernel
theorem dX5_sweep_46 : decode cX5_sweep 46 = .ok (.getfield 41, 3) := by decide +kernel
theorem dX5_sweep_49 : decode cX5_sweep 49 = .ok (.iconst 1, 1) := by decide +kernel
theorem dX5_sweep_50 : decode cX5_sweep 50 = .ok (.iload_n 3, 1) := by decide +kernel
theorem dX5_sweep_51 : decode cX5_sweep 51 = .ok (.iadd, 1) := by decide +kernel
theorem dX5_sweep_52 : decode cX5_sweep 52 = .ok (.bipush (-2), 2) := by decide +kernel
theorem dX5_sweep_54 : decode cX5_sweep 54 = .ok (.iastore, 1) := by decide +kernel
theorem dX5_sweep_55 : decode cX5_sweep 55 = .ok (.iinc 2 1, 3) := by decide +kernel
theorem dX5_sweep_58 : decode cX5_sweep 58 = .ok (.iinc 3 1, 3) := by decide +kernel
theorem dX5_sweep_61 : decode cX5_sweep 61 = .ok (.goto (-41), 3) := by decide +kernel
theorem dX5_sweep_64 : decode cX5_sweep 64 = .ok (.iload_n 2, 1) := by decide +kernel
theorem dX5_sweep_65 : decode cX5_sweep 65 = .ok (.ireturn, 1) := by decide +kernel
theorem dX5_undo_0 : decode cX5_undo 0 = .ok (.iload_n 1, 1) := by decide +kernel
theorem dX5_undo_1 : decode cX5_undo 1 = .ok (.i2l, 1) := by decide +kernel
theorem dX5_undo_2 : decode cX5_undo 2 = .ok (.lconst 0, 1) := by decide +kernel
theorem dX5_undo_3 : decode cX5_undo 3 = .ok (.aload_n 0, 1) := by decide +kernel
theorem dX5_undo_4 : decode cX5_undo 4 = .ok (.getfield 91, 3) := by decide +kernel
theorem dX5_undo_7 : decode cX5_undo 7 = .ok (.i2l, 1) := by decide +kernel
theorem dX5_undo_8 : decode cX5_undo 8 = .ok (.invokestatic 71, 3) := by decide +kernel
theorem dX5_undo_11 : decode cX5_undo 11 = .ok (.ifCond .ne 5, 3) := by decide +kernel
theorem dX5_undo_14 : decode cX5_undo 14 = .ok (.iconst (-1), 1) := by decide +kernel
theorem dX5_undo_15 : decode cX5_undo 15 = .ok (.ireturn, 1) := by decide +kernel
theorem dX5_undo_16 : decode cX5_undo 16 = .ok (.aload_n 0, 1) := by decide +kernel
theorem dX5_undo_17 : decode cX5_undo 17 = .ok (.getfield 91, 3) := by decide +kernel
theorem dX5_undo_20 : decode cX5_undo 20 = .ok (.iload_n 1, 1) := by decide +kernel
theorem dX5_undo_21 : decode cX5_undo 21 = .ok (.isub, 1) := by decide +kernel
theorem dX5_undo_22 : decode cX5_undo 22 = .ok (.istore_n 2, 1) := by decide +kernel
theorem dX5_undo_23 : decode cX5_undo 23 = .ok (.iload_n 2, 1) := by decide +kernel
theorem dX5_undo_24 : decode cX5_undo 24 = .ok (.ifCond .le 21, 3) := by decide +kernel
theorem dX5_undo_27 : decode cX5_undo 27 = .ok (.aload_n 0, 1) := by decide +kernel
theorem dX5_undo_28 : decode cX5_undo 28 = .ok (.getfield 44, 3) := by decide +kernel
theorem dX5_undo_31 : decode cX5_undo 31 = .ok (.bipush 9, 2) := by decide +kernel
theorem dX5_undo_33 : decode cX5_undo 33 = .ok (.iload_n 1, 1) := by decide +kernel
theorem dX5_undo_34 : decode cX5_undo 34 = .ok (.imul, 1) := by decide +kernel
theorem dX5_undo_35 : decode cX5_undo 35 = .ok (.aload_n 0, 1) := by decide +kernel
theorem dX5_undo_36 : decode cX5_undo 36 = .ok (.getfield 41, 3) := by decide +kernel
theorem dX5_undo_39 : decode cX5_undo 39 = .ok (.iconst 0, 1) := by decide +kernel
theorem dX5_undo_40 : decode cX5_undo 40 = .ok (.bipush 9, 2) := by decide +kernel
theorem dX5_undo_42 : decode cX5_undo 42 = .ok (.invokestatic 163, 3) := by decide +kernel
theorem dX5_undo_45 : decode cX5_undo 45 = .ok (.aload_n 0, 1) := by decide +kernel
theorem dX5_undo_46 : decode cX5_undo 46 = .ok (.iload_n 1, 1) := by decide +kernel
theorem dX5_undo_47 : decode cX5_undo 47 = .ok (.putfield 91, 3) := by decide +kernel
theorem dX5_undo_50 : decode cX5_undo 50 = .ok (.iload_n 2, 1) := by decide +kernel
theorem dX5_undo_51 : decode cX5_undo 51 = .ok (.ireturn, 1) := by decide +kernel
theorem dX5_keep_0 : decode cX5_keep 0 = .ok (.iload_n 1, 1) := by decide +kernel
theorem dX5_keep_1 : decode cX5_keep 1 = .ok (.i2l, 1) := by decide +kernel
theorem dX5_keep_2 : decode cX5_keep 2 = .ok (.lconst 0, 1) := by decide +kernel
theorem dX5_keep_3 : decode cX5_keep 3 = .ok (.ldc2_w 179, 3) := by decide +kernel
theorem dX5_keep_6 : decode cX5_keep 6 = .ok (.invokestatic 71, 3) := by decide +kernel
theorem dX5_keep_9 : decode cX5_keep 9 = .ok (.ifCond .ne 5, 3) := by decide +kernel
theorem dX5_keep_12 : decode cX5_keep 12 = .ok (.iconst (-1), 1) := by decide +kernel
theorem dX5_keep_13 : decode cX5_keep 13 = .ok (.ireturn, 1) := by decide +kernel
theorem dX5_keep_14 : decode cX5_keep 14 = .ok (.aload_n 0, 1) := by decide +kernel
theorem dX5_keep_15 : decode cX5_keep 15 = .ok (.getfield 130, 3) := by decide +kernel
theorem dX5_keep_18 : decode cX5_keep 18 = .ok (.ifCond .ne 6, 3) := by decide +kernel
theorem dX5_keep_21 : decode cX5_keep 21 = .ok (.bipush (-4), 2) := by decide +kernel
theorem dX5_keep_23 : decode cX5_keep 23 = .ok (.ireturn, 1) := by decide +kernel
theorem dX5_keep_24 : decode cX5_keep 24 = .ok (.aload_n 0, 1) := by decide +kernel
theorem dX5_keep_25 : decode cX5_keep 25 = .ok (.getfield 47, 3) := by decide +kernel
theorem dX5_keep_28 : decode cX5_keep 28 = .ok (.sipush 370, 3) := by decide +kernel
theorem dX5_keep_31 : decode cX5_keep 31 = .ok (.iload_n 1, 1) := by decide +kernel
theorem dX5_keep_32 : decode cX5_keep 32 = .ok (.imul, 1) := by decide +kernel
theorem dX5_keep_33 : decode cX5_keep 33 = .ok (.aload_n 0, 1) := by decide +kernel
theorem dX5_keep_34 : decode cX5_keep 34 = .ok (.getfield 91, 3) := by decide +kernel
theorem dX5_keep_37 : decode cX5_keep 37 = .ok (.iastore, 1) := by decide +kernel
theorem dX5_keep_38 : decode cX5_keep 38 = .ok (.aload_n 0, 1) := by decide +kernel
theorem dX5_keep_39 : decode cX5_keep 39 = .ok (.getfield 41, 3) := by decide +kernel
theorem dX5_keep_42 : decode cX5_keep 42 = .ok (.iconst 0, 1) := by decide +kernel
theorem dX5_keep_43 : decode cX5_keep 43 = .ok (.aload_n 0, 1) := by decide +kernel
theorem dX5_keep_44 : decode cX5_keep 44 = .ok (.getfield 47, 3) := by decide +kernel
theorem dX5_keep_47 : decode cX5_keep 47 = .ok (.sipush 370, 3) := by decide +kernel
theorem dX5_keep_50 : decode cX5_keep 50 = .ok (.iload_n 1, 1) := by decide +kernel
theorem dX5_keep_51 : decode cX5_keep 51 = .ok (.imul, 1) := by decide +kernel
theorem dX5_keep_52 : decode cX5_keep 52 = .ok (.iconst 1, 1) := by decide +kernel
theorem dX5_keep_53 : decode cX5_keep 53 = .ok (.iadd, 1) := by decide +kernel
theorem dX5_keep_54 : decode cX5_keep 54 = .ok (.bipush 9, 2) := by decide +kernel
theorem dX5_keep_56 : decode cX5_keep 56 = .ok (.invokestatic 163, 3) := by decide +kernel
theorem dX5_keep_59 : decode cX5_keep 59 = .ok (.aload_n 0, 1) := by decide +kernel
theorem dX5_keep_60 : decode cX5_keep 60 = .ok (.getfield 44, 3) := by decide +kernel
theorem dX5_keep_63 : decode cX5_keep 63 = .ok (.iconst 0, 1) := by decide +kernel
theorem dX5_keep_64 : decode cX5_keep 64 = .ok (.aload_n 0, 1) := by decide +kernel
theorem dX5_keep_65 : decode cX5_keep 65 = .ok (.getfield 47, 3) := by decide +kernel
theorem dX5_keep_68 : decode cX5_keep 68 = .ok (.sipush 370, 3) := by decide +kernel
theorem dX5_keep_71 : decode cX5_keep 71 = .ok (.iload_n 1, 1) := by decide +kernel
theorem dX5_keep_72 : decode cX5_keep 72 = .ok (.imul, 1) := by decide +kernel
theorem dX5_keep_73 : decode cX5_keep 73 = .ok (.iconst 1, 1) := by decide +kernel
theorem dX5_keep_74 : decode cX5_keep 74 = .ok (.iadd, 1) := by decide +kernel
theorem dX5_keep_75 : decode cX5_keep 75 = .ok (.bipush 9, 2) := by decide +kernel
theorem dX5_keep_77 : decode cX5_keep 77 = .ok (.iadd, 1) := by decide +kernel
theorem dX5_keep_78 : decode cX5_keep 78 = .ok (.sipush 360, 3) := by decide +kernel
theorem dX5_keep_81 : decode cX5_keep 81 = .ok (.invokestatic 163, 3) := by decide +kernel
theorem dX5_keep_84 : decode cX5_keep 84 = .ok (.aload_n 0, 1) := by decide +kernel
theorem dX5_keep_85 : decode cX5_keep 85 = .ok (.getfield 91, 3) := by decide +kernel
theorem dX5_keep_88 : decode cX5_keep 88 = .ok (.ireturn, 1) := by decide +kernel
theorem dX5_on_0 : decode cX5_on 0 = .ok (.iload_n 1, 1) := by decide +kernel
theorem dX5_on_1 : decode cX5_on 1 = .ok (.i2l, 1) := by decide +kernel
theorem dX5_on_2 : decode cX5_on 2 = .ok (.lconst 0, 1) := by decide +kernel
theorem dX5_on_3 : decode cX5_on 3 = .ok (.ldc2_w 179, 3) := by decide +kernel
theorem dX5_on_6 : decode cX5_on 6 = .ok (.invokestatic 71, 3) := by decide +kernel
theorem dX5_on_9 : decode cX5_on 9 = .ok (.ifCond .ne 5, 3) := by decide +kernel
theorem dX5_on_12 : decode cX5_on 12 = .ok (.iconst (-1), 1) := by decide +kernel
theorem dX5_on_13 : decode cX5_on 13 = .ok (.ireturn, 1) := by decide +kernel
theorem dX5_on_14 : decode cX5_on 14 = .ok (.aload_n 0, 1) := by decide +kernel
theorem dX5_on_15 : decode cX5_on 15 = .ok (.getfield 47, 3) := by decide +kernel
theorem dX5_on_18 : decode cX5_on 18 = .ok (.sipush 370, 3) := by decide +kernel
theorem dX5_on_21 : decode cX5_on 21 = .ok (.iload_n 1, 1) := by decide +kernel
theorem dX5_on_22 : decode cX5_on 22 = .ok (.imul, 1) := by decide +kernel
theorem dX5_on_23 : decode cX5_on 23 = .ok (.iaload, 1) := by decide +kernel
theorem dX5_on_24 : decode cX5_on 24 = .ok (.ifCond .ge 9, 3) := by decide +kernel
theorem dX5_on_27 : decode cX5_on 27 = .ok (.aload_n 0, 1) := by decide +kernel
theorem dX5_on_28 : decode cX5_on 28 = .ok (.iconst 1, 1) := by decide +kernel
theorem dX5_on_29 : decode cX5_on 29 = .ok (.invokevirtual 81, 3) := by decide +kernel
theorem dX5_on_32 : decode cX5_on 32 = .ok (.ireturn, 1) := by decide +kernel
theorem dX5_on_33 : decode cX5_on 33 = .ok (.aload_n 0, 1) := by decide +kernel
theorem dX5_on_34 : decode cX5_on 34 = .ok (.aload_n 0, 1) := by decide +kernel
theorem dX5_on_35 : decode cX5_on 35 = .ok (.getfield 47, 3) := by decide +kernel
theorem dX5_on_38 : decode cX5_on 38 = .ok (.sipush 370, 3) := by decide +kernel
theorem dX5_on_41 : decode cX5_on 41 = .ok (.iload_n 1, 1) := by decide +kernel
theorem dX5_on_42 : decode cX5_on 42 = .ok (.imul, 1) := by decide +kernel
theorem dX5_on_43 : decode cX5_on 43 = .ok (.iaload, 1) := by decide +kernel
theorem dX5_on_44 : decode cX5_on 44 = .ok (.putfield 91, 3) := by decide +kernel
theorem dX5_on_47 : decode cX5_on 47 = .ok (.aload_n 0, 1) := by decide +kernel
theorem dX5_on_48 : decode cX5_on 48 = .ok (.getfield 47, 3) := by decide +kernel
theorem dX5_on_51 : decode cX5_on 51 = .ok (.sipush 370, 3) := by decide +kernel
theorem dX5_on_54 : decode cX5_on 54 = .ok (.iload_n 1, 1) := by decide +kernel
theorem dX5_on_55 : decode cX5_on 55 = .ok (.imul, 1) := by decide +kernel
theorem dX5_on_56 : decode cX5_on 56 = .ok (.iconst 1, 1) := by decide +kernel
theorem dX5_on_57 : decode cX5_on 57 = .ok (.iadd, 1) := by decide +kernel
theorem dX5_on_58 : decode cX5_on 58 = .ok (.aload_n 0, 1) := by decide +kernel
theorem dX5_on_59 : decode cX5_on 59 = .ok (.getfield 41, 3) := by decide +kernel
theorem dX5_on_62 : decode cX5_on 62 = .ok (.iconst 0, 1) := by decide +kernel
theorem dX5_on_63 : decode cX5_on 63 = .ok (.bipush 9, 2) := by decide +kernel
theorem dX5_on_65 : decode cX5_on 65 = .ok (.invokestatic 163, 3) := by decide +kernel
theorem dX5_on_68 : decode cX5_on 68 = .ok (.aload_n 0, 1) := by decide +kernel
theorem dX5_on_69 : decode cX5_on 69 = .ok (.getfield 47, 3) := by decide +kernel
theorem dX5_on_72 : decode cX5_on 72 = .ok (.sipush 370, 3) := by decide +kernel
theorem dX5_on_75 : decode cX5_on 75 = .ok (.iload_n 1, 1) := by decide +kernel
theorem dX5_on_76 : decode cX5_on 76 = .ok (.imul, 1) := by decide +kernel
theorem dX5_on_77 : decode cX5_on 77 = .ok (.iconst 1, 1) := by decide +kernel
theorem dX5_on_78 : decode cX5_on 78 = .ok (.iadd, 1) := by decide +kernel
theorem dX5_on_79 : decode cX5_on 79 = .ok (.bipush 9, 2) := by decide +kernel
theorem dX5_on_81 : decode cX5_on 81 = .ok (.iadd, 1) := by decide +kernel
theorem dX5_on_82 : decode cX5_on 82 = .ok (.aload_n 0, 1) := by decide +kernel
theorem dX5_on_83 : decode cX5_on 83 = .ok (.getfield 44, 3) := by decide +kernel
theorem dX5_on_86 : decode cX5_on 86 = .ok (.iconst 0, 1) := by decide +kernel
theorem dX5_on_87 : decode cX5_on 87 = .ok (.sipush 360, 3) := by decide +kernel
theorem dX5_on_90 : decode cX5_on 90 = .ok (.invokestatic 163, 3) := by decide +kernel
theorem dX5_on_93 : decode cX5_on 93 = .ok (.aload_n 0, 1) := by decide +kernel
theorem dX5_on_94 : decode cX5_on 94 = .ok (.getfield 91, 3) := by decide +kernel
theorem dX5_on_97 : decode cX5_on 97 = .ok (.ireturn, 1) := by decide +kernel
theorem dX5_hoursAll_0 : decode cX5_hoursAll 0 = .ok (.iconst 0, 1) := by decide +kernel
theorem dX5_hoursAll_1 : decode cX5_hoursAll 1 = .ok (.istore_n 3, 1) := by decide +kernel
theorem dX5_hoursAll_2 : decode cX5_hoursAll 2 = .ok (.iconst 0, 1) := by decide +kernel
theorem dX5_hoursAll_3 : decode cX5_hoursAll 3 = .ok (.istore 4, 2) := by decide +kernel
theorem dX5_hoursAll_5 : decode cX5_hoursAll 5 = .ok (.iconst 0, 1) := by decide +kernel
theorem dX5_hoursAll_6 : decode cX5_hoursAll 6 = .ok (.istore 5, 2) := by decide +kernel
theorem dX5_hoursAll_8 : decode cX5_hoursAll 8 = .ok (.iload 5, 2) := by decide +kernel
theorem dX5_hoursAll_10 : decode cX5_hoursAll 10 = .ok (.aload_n 0, 1) := by decide +kernel
theorem dX5_hoursAll_11 : decode cX5_hoursAll 11 = .ok (.getfield 130, 3) := by decide +kernel
theorem dX5_hoursAll_14 : decode cX5_hoursAll 14 = .ok (.if_icmp .ge 40, 3) := by decide +kernel
theorem dX5_hoursAll_17 : decode cX5_hoursAll 17 = .ok (.iload_n 1, 1) := by decide +kernel
theorem dX5_hoursAll_18 : decode cX5_hoursAll 18 = .ok (.iload 5, 2) := by decide +kernel
theorem dX5_hoursAll_20 : decode cX5_hoursAll 20 = .ok (.invokestatic 139, 3) := by decide +kernel
theorem dX5_hoursAll_23 : decode cX5_hoursAll 23 = .ok (.ifCond .eq 25, 3) := by decide +kernel
theorem dX5_hoursAll_26 : decode cX5_hoursAll 26 = .ok (.iload 4, 2) := by decide +kernel
theorem dX5_hoursAll_28 : decode cX5_hoursAll 28 = .ok (.iload_n 3, 1) := by decide +kernel
theorem dX5_hoursAll_29 : decode cX5_hoursAll 29 = .ok (.aload_n 0, 1) := by decide +kernel
theorem dX5_hoursAll_30 : decode cX5_hoursAll 30 = .ok (.iload 5, 2) := by decide +kernel
theorem dX5_hoursAll_32 : decode cX5_hoursAll 32 = .ok (.invokevirtual 136, 3) := by decide +kernel
theorem dX5_hoursAll_35 : decode cX5_hoursAll 35 = .ok (.iand, 1) := by decide +kernel
theorem dX5_hoursAll_36 : decode cX5_hoursAll 36 = .ok (.ior, 1) := by decide +kernel
theorem dX5_hoursAll_37 : decode cX5_hoursAll 37 = .ok (.istore 4, 2) := by decide +kernel
theorem dX5_hoursAll_39 : decode cX5_hoursAll 39 = .ok (.iload_n 3, 1) := by decide +kernel
theorem dX5_hoursAll_40 : decode cX5_hoursAll 40 = .ok (.aload_n 0, 1) := by decide +kernel
theorem dX5_hoursAll_41 : decode cX5_hoursAll 41 = .ok (.iload 5, 2) := by decide +kernel
theorem dX5_hoursAll_43 : decode cX5_hoursAll 43 = .ok (.invokevirtual 136, 3) := by decide +kernel
theorem dX5_hoursAll_46 : decode cX5_hoursAll 46 = .ok (.ior, 1) := by decide +kernel
theorem dX5_hoursAll_47 : decode cX5_hoursAll 47 = .ok (.istore_n 3, 1) := by decide +kernel
theorem dX5_hoursAll_48 : decode cX5_hoursAll 48 = .ok (.iinc 5 1, 3) := by decide +kernel
theorem dX5_hoursAll_51 : decode cX5_hoursAll 51 = .ok (.goto (-43), 3) := by decide +kernel
theorem dX5_hoursAll_54 : decode cX5_hoursAll 54 = .ok (.iload_n 2, 1) := by decide +kernel
theorem dX5_hoursAll_55 : decode cX5_hoursAll 55 = .ok (.ifCond .eq 8, 3) := by decide +kernel
theorem dX5_hoursAll_58 : decode cX5_hoursAll 58 = .ok (.iload 4, 2) := by decide +kernel
theorem dX5_hoursAll_60 : decode cX5_hoursAll 60 = .ok (.goto 4, 3) := by decide +kernel
theorem dX5_hoursAll_63 : decode cX5_hoursAll 63 = .ok (.iload_n 3, 1) := by decide +kernel
theorem dX5_hoursAll_64 : decode cX5_hoursAll 64 = .ok (.ireturn, 1) := by decide +kernel
theorem dX5_answer_0 : decode cX5_answer 0 = .ok (.aload_n 0, 1) := by decide +kernel
theorem dX5_answer_1 : decode cX5_answer 1 = .ok (.iload_n 2, 1) := by decide +kernel
theorem dX5_answer_2 : decode cX5_answer 2 = .ok (.putfield 66, 3) := by decide +kernel
theorem dX5_answer_5 : decode cX5_answer 5 = .ok (.iload_n 1, 1) := by decide +kernel
theorem dX5_answer_6 : decode cX5_answer 6 = .ok (.ireturn, 1) := by decide +kernel
theorem dX5_busy_0 : decode cX5_busy 0 = .ok (.aload_n 0, 1) := by decide +kernel
theorem dX5_busy_1 : decode cX5_busy 1 = .ok (.iconst (-1), 1) := by decide +kernel
theorem dX5_busy_2 : decode cX5_busy 2 = .ok (.invokevirtual 170, 3) := by decide +kernel
theorem dX5_busy_5 : decode cX5_busy 5 = .ok (.istore_n 1, 1) := by decide +kernel
theorem dX5_busy_6 : decode cX5_busy 6 = .ok (.aload_n 0, 1) := by decide +kernel
theorem dX5_busy_7 : decode cX5_busy 7 = .ok (.aload_n 0, 1) := by decide +kernel
theorem dX5_busy_8 : decode cX5_busy 8 = .ok (.iload_n 1, 1) := by decide +kernel
theorem dX5_busy_9 : decode cX5_busy 9 = .ok (.iconst 0, 1) := by decide +kernel
theorem dX5_busy_10 : decode cX5_busy 10 = .ok (.invokevirtual 149, 3) := by decide +kernel
theorem dX5_busy_13 : decode cX5_busy 13 = .ok (.aload_n 0, 1) := by decide +kernel
theorem dX5_busy_14 : decode cX5_busy 14 = .ok (.iload_n 1, 1) := by decide +kernel
theorem dX5_busy_15 : decode cX5_busy 15 = .ok (.iconst 1, 1) := by decide +kernel
theorem dX5_busy_16 : decode cX5_busy 16 = .ok (.invokevirtual 149, 3) := by decide +kernel
theorem dX5_busy_19 : decode cX5_busy 19 = .ok (.invokevirtual 181, 3) := by decide +kernel
theorem dX5_busy_22 : decode cX5_busy 22 = .ok (.ireturn, 1) := by decide +kernel
theorem dX5_worthAll_0 : decode cX5_worthAll 0 = .ok (.iconst 0, 1) := by decide +kernel
theorem dX5_worthAll_1 : decode cX5_worthAll 1 = .ok (.istore_n 2, 1) := by decide +kernel
theorem dX5_worthAll_2 : decode cX5_worthAll 2 = .ok (.iconst 0, 1) := by decide +kernel
theorem dX5_worthAll_3 : decode cX5_worthAll 3 = .ok (.istore_n 3, 1) := by decide +kernel
theorem dX5_worthAll_4 : decode cX5_worthAll 4 = .ok (.iload_n 3, 1) := by decide +kernel
theorem dX5_worthAll_5 : decode cX5_worthAll 5 = .ok (.aload_n 0, 1) := by decide +kernel
theorem dX5_worthAll_6 : decode cX5_worthAll 6 = .ok (.getfield 130, 3) := by decide +kernel
theorem dX5_worthAll_9 : decode cX5_worthAll 9 = .ok (.if_icmp .ge 29, 3) := by decide +kernel
theorem dX5_worthAll_12 : decode cX5_worthAll 12 = .ok (.iload_n 2, 1) := by decide +kernel
theorem dX5_worthAll_13 : decode cX5_worthAll 13 = .ok (.iload_n 1, 1) := by decide +kernel
theorem dX5_worthAll_14 : decode cX5_worthAll 14 = .ok (.iload_n 3, 1) := by decide +kernel
theorem dX5_worthAll_15 : decode cX5_worthAll 15 = .ok (.invokestatic 139, 3) := by decide +kernel
theorem dX5_worthAll_18 : decode cX5_worthAll 18 = .ok (.ifCond .eq 11, 3) := by decide +kernel
theorem dX5_worthAll_21 : decode cX5_worthAll 21 = .ok (.aload_n 0, 1) := by decide +kernel
theorem dX5_worthAll_22 : decode cX5_worthAll 22 = .ok (.iload_n 3, 1) := by decide +kernel
theorem dX5_worthAll_23 : decode cX5_worthAll 23 = .ok (.invokevirtual 146, 3) := by decide +kernel
theorem dX5_worthAll_26 : decode cX5_worthAll 26 = .ok (.goto 4, 3) := by decide +kernel
theorem dX5_worthAll_29 : decode cX5_worthAll 29 = .ok (.iconst 0, 1) := by decide +kernel
theorem dX5_worthAll_30 : decode cX5_worthAll 30 = .ok (.iadd, 1) := by decide +kernel
theorem dX5_worthAll_31 : decode cX5_worthAll 31 = .ok (.istore_n 2, 1) := by decide +kernel
theorem dX5_worthAll_32 : decode cX5_worthAll 32 = .ok (.iinc 3 1, 3) := by decide +kernel
theorem dX5_worthAll_35 : decode cX5_worthAll 35 = .ok (.goto (-31), 3) := by decide +kernel
theorem dX5_worthAll_38 : decode cX5_worthAll 38 = .ok (.iload_n 2, 1) := by decide +kernel
theorem dX5_worthAll_39 : decode cX5_worthAll 39 = .ok (.ireturn, 1) := by decide +kernel
theorem dX5_clashes_0 : decode cX5_clashes 0 = .ok (.aload_n 0, 1) := by decide +kernel
theorem dX5_clashes_1 : decode cX5_clashes 1 = .ok (.iconst (-1), 1) := by decide +kernel
theorem dX5_clashes_2 : decode cX5_clashes 2 = .ok (.invokevirtual 170, 3) := by decide +kernel
theorem dX5_clashes_5 : decode cX5_clashes 5 = .ok (.istore_n 1, 1) := by decide +kernel
theorem dX5_clashes_6 : decode cX5_clashes 6 = .ok (.iconst 0, 1) := by decide +kernel
theorem dX5_clashes_7 : decode cX5_clashes 7 = .ok (.istore_n 2, 1) := by decide +kernel
theorem dX5_clashes_8 : decode cX5_clashes 8 = .ok (.iconst 0, 1) := by decide +kernel
theorem dX5_clashes_9 : decode cX5_clashes 9 = .ok (.istore_n 3, 1) := by decide +kernel
theorem dX5_clashes_10 : decode cX5_clashes 10 = .ok (.iload_n 3, 1) := by decide +kernel
theorem dX5_clashes_11 : decode cX5_clashes 11 = .ok (.aload_n 0, 1) := by decide +kernel
theorem dX5_clashes_12 : decode cX5_clashes 12 = .ok (.getfield 130, 3) := by decide +kernel
theorem dX5_clashes_15 : decode cX5_clashes 15 = .ok (.if_icmp .ge 64, 3) := by decide +kernel
theorem dX5_clashes_18 : decode cX5_clashes 18 = .ok (.iconst 0, 1) := by decide +kernel
theorem dX5_clashes_19 : decode cX5_clashes 19 = .ok (.istore 4, 2) := by decide +kernel
theorem dX5_clashes_21 : decode cX5_clashes 21 = .ok (.iload 4, 2) := by decide +kernel
theorem dX5_clashes_23 : decode cX5_clashes 23 = .ok (.iload_n 3, 1) := by decide +kernel
theorem dX5_clashes_24 : decode cX5_clashes 24 = .ok (.if_icmp .ge 49, 3) := by decide +kernel
theorem dX5_clashes_27 : decode cX5_clashes 27 = .ok (.iload_n 2, 1) := by decide +kernel
theorem dX5_clashes_28 : decode cX5_clashes 28 = .ok (.iload_n 1, 1) := by decide +kernel
theorem dX5_clashes_29 : decode cX5_clashes 29 = .ok (.iload_n 3, 1) := by decide +kernel
theorem dX5_clashes_30 : decode cX5_clashes 30 = .ok (.invokestatic 139, 3) := by decide +kernel
theorem dX5_clashes_33 : decode cX5_clashes 33 = .ok (.ifCond .eq 31, 3) := by decide +kernel
theorem dX5_clashes_36 : decode cX5_clashes 36 = .ok (.iload_n 1, 1) := by decide +kernel
theorem dX5_clashes_37 : decode cX5_clashes 37 = .ok (.iload 4, 2) := by decide +kernel
theorem dX5_clashes_39 : decode cX5_clashes 39 = .ok (.invokestatic 139, 3) := by decide +kernel
theorem dX5_clashes_42 : decode cX5_clashes 42 = .ok (.ifCond .eq 22, 3) := by decide +kernel
theorem dX5_clashes_45 : decode cX5_clashes 45 = .ok (.aload_n 0, 1) := by decide +kernel
theorem dX5_clashes_46 : decode cX5_clashes 46 = .ok (.iload_n 3, 1) := by decide +kernel
theorem dX5_clashes_47 : decode cX5_clashes 47 = .ok (.invokevirtual 136, 3) := by decide +kernel
theorem dX5_clashes_50 : decode cX5_clashes 50 = .ok (.aload_n 0, 1) := by decide +kernel
theorem dX5_clashes_51 : decode cX5_clashes 51 = .ok (.iload 4, 2) := by decide +kernel
theorem dX5_clashes_53 : decode cX5_clashes 53 = .ok (.invokevirtual 136, 3) := by decide +kernel
theorem dX5_clashes_56 : decode cX5_clashes 56 = .ok (.iand, 1) := by decide +kernel
theorem dX5_clashes_57 : decode cX5_clashes 57 = .ok (.ifCond .eq 7, 3) := by decide +kernel
theorem dX5_clashes_60 : decode cX5_clashes 60 = .ok (.iconst 1, 1) := by decide +kernel
theorem dX5_clashes_61 : decode cX5_clashes 61 = .ok (.goto 4, 3) := by decide +kernel
theorem dX5_clashes_64 : decode cX5_clashes 64 = .ok (.iconst 0, 1) := by decide +kernel
theorem dX5_clashes_65 : decode cX5_clashes 65 = .ok (.iadd, 1) := by decide +kernel
theorem dX5_clashes_66 : decode cX5_clashes 66 = .ok (.istore_n 2, 1) := by decide +kernel
theorem dX5_clashes_67 : decode cX5_clashes 67 = .ok (.iinc 4 1, 3) := by decide +kernel
theorem dX5_clashes_70 : decode cX5_clashes 70 = .ok (.goto (-49), 3) := by decide +kernel
theorem dX5_clashes_73 : decode cX5_clashes 73 = .ok (.iinc 3 1, 3) := by decide +kernel
theorem dX5_clashes_76 : decode cX5_clashes 76 = .ok (.goto (-66), 3) := by decide +kernel
theorem dX5_clashes_79 : decode cX5_clashes 79 = .ok (.aload_n 0, 1) := by decide +kernel
theorem dX5_clashes_80 : decode cX5_clashes 80 = .ok (.iload_n 2, 1) := by decide +kernel
theorem dX5_clashes_81 : decode cX5_clashes 81 = .ok (.aload_n 0, 1) := by decide +kernel
theorem dX5_clashes_82 : decode cX5_clashes 82 = .ok (.iload_n 1, 1) := by decide +kernel
theorem dX5_clashes_83 : decode cX5_clashes 83 = .ok (.invokevirtual 185, 3) := by decide +kernel
theorem dX5_clashes_86 : decode cX5_clashes 86 = .ok (.invokevirtual 181, 3) := by decide +kernel
theorem dX5_clashes_89 : decode cX5_clashes 89 = .ok (.ireturn, 1) := by decide +kernel
theorem dX5_clash_0 : decode cX5_clash 0 = .ok (.aload_n 0, 1) := by decide +kernel
theorem dX5_clash_1 : decode cX5_clash 1 = .ok (.iload_n 1, 1) := by decide +kernel
theorem dX5_clash_2 : decode cX5_clash 2 = .ok (.iconst 1, 1) := by decide +kernel
theorem dX5_clash_3 : decode cX5_clash 3 = .ok (.invokevirtual 149, 3) := by decide +kernel
theorem dX5_clash_6 : decode cX5_clash 6 = .ok (.ifCond .eq 7, 3) := by decide +kernel
theorem dX5_clash_9 : decode cX5_clash 9 = .ok (.iconst 1, 1) := by decide +kernel
theorem dX5_clash_10 : decode cX5_clash 10 = .ok (.goto 4, 3) := by decide +kernel
theorem dX5_clash_13 : decode cX5_clash 13 = .ok (.iconst 0, 1) := by decide +kernel
theorem dX5_clash_14 : decode cX5_clash 14 = .ok (.ireturn, 1) := by decide +kernel
theorem dX5_least_0 : decode cX5_least 0 = .ok (.aload_n 0, 1) := by decide +kernel
theorem dX5_least_1 : decode cX5_least 1 = .ok (.iconst (-1), 1) := by decide +kernel
theorem dX5_least_2 : decode cX5_least 2 = .ok (.invokevirtual 170, 3) := by decide +kernel
theorem dX5_least_5 : decode cX5_least 5 = .ok (.istore_n 1, 1) := by decide +kernel
theorem dX5_least_6 : decode cX5_least 6 = .ok (.bipush (-9), 2) := by decide +kernel
theorem dX5_least_8 : decode cX5_least 8 = .ok (.istore_n 2, 1) := by decide +kernel
theorem dX5_least_9 : decode cX5_least 9 = .ok (.iconst 0, 1) := by decide +kernel
theorem dX5_least_10 : decode cX5_least 10 = .ok (.istore_n 3, 1) := by decide +kernel
theorem dX5_least_11 : decode cX5_least 11 = .ok (.iload_n 3, 1) := by decide +kernel
theorem dX5_least_12 : decode cX5_least 12 = .ok (.iconst 1, 1) := by decide +kernel
theorem dX5_least_13 : decode cX5_least 13 = .ok (.aload_n 0, 1) := by decide +kernel
theorem dX5_least_14 : decode cX5_least 14 = .ok (.getfield 130, 3) := by decide +kernel
theorem dX5_least_17 : decode cX5_least 17 = .ok (.ishl, 1) := by decide +kernel
theorem dX5_least_18 : decode cX5_least 18 = .ok (.if_icmp .ge 48, 3) := by decide +kernel
theorem dX5_least_21 : decode cX5_least 21 = .ok (.iload_n 3, 1) := by decide +kernel
theorem dX5_least_22 : decode cX5_least 22 = .ok (.iload_n 1, 1) := by decide +kernel
theorem dX5_least_23 : decode cX5_least 23 = .ok (.iconst (-1), 1) := by decide +kernel
theorem dX5_least_24 : decode cX5_least 24 = .ok (.ixor, 1) := by decide +kernel
theorem dX5_least_25 : decode cX5_least 25 = .ok (.iand, 1) := by decide +kernel
theorem dX5_least_26 : decode cX5_least 26 = .ok (.ifCond .ne 34, 3) := by decide +kernel
theorem dX5_least_29 : decode cX5_least 29 = .ok (.iload_n 2, 1) := by decide +kernel
theorem dX5_least_30 : decode cX5_least 30 = .ok (.bipush (-9), 2) := by decide +kernel
theorem dX5_least_32 : decode cX5_least 32 = .ok (.if_icmp .eq 14, 3) := by decide +kernel
theorem dX5_least_35 : decode cX5_least 35 = .ok (.iload_n 3, 1) := by decide +kernel
theorem dX5_least_36 : decode cX5_least 36 = .ok (.invokestatic 173, 3) := by decide +kernel
theorem dX5_least_39 : decode cX5_least 39 = .ok (.iload_n 2, 1) := by decide +kernel
theorem dX5_least_40 : decode cX5_least 40 = .ok (.invokestatic 173, 3) := by decide +kernel
theorem dX5_least_43 : decode cX5_least 43 = .ok (.if_icmp .ge 17, 3) := by decide +kernel
theorem dX5_least_46 : decode cX5_least 46 = .ok (.aload_n 0, 1) := by decide +kernel
theorem dX5_least_47 : decode cX5_least 47 = .ok (.iload_n 1, 1) := by decide +kernel
theorem dX5_least_48 : decode cX5_least 48 = .ok (.iload_n 3, 1) := by decide +kernel
theorem dX5_least_49 : decode cX5_least 49 = .ok (.iconst (-1), 1) := by decide +kernel
theorem dX5_least_50 : decode cX5_least 50 = .ok (.ixor, 1) := by decide +kernel
theorem dX5_least_51 : decode cX5_least 51 = .ok (.iand, 1) := by decide +kernel
theorem dX5_least_52 : decode cX5_least 52 = .ok (.invokevirtual 188, 3) := by decide +kernel
theorem dX5_least_55 : decode cX5_least 55 = .ok (.ifCond .ne 5, 3) := by decide +kernel
theorem dX5_least_58 : decode cX5_least 58 = .ok (.iload_n 3, 1) := by decide +kernel
theorem dX5_least_59 : decode cX5_least 59 = .ok (.istore_n 2, 1) := by decide +kernel
theorem dX5_least_60 : decode cX5_least 60 = .ok (.iinc 3 1, 3) := by decide +kernel
theorem dX5_least_63 : decode cX5_least 63 = .ok (.goto (-52), 3) := by decide +kernel
theorem dX5_least_66 : decode cX5_least 66 = .ok (.aload_n 0, 1) := by decide +kernel
theorem dX5_least_67 : decode cX5_least 67 = .ok (.iload_n 2, 1) := by decide +kernel
theorem dX5_least_68 : decode cX5_least 68 = .ok (.invokestatic 173, 3) := by decide +kernel
theorem dX5_least_71 : decode cX5_least 71 = .ok (.iload_n 2, 1) := by decide +kernel
theorem dX5_least_72 : decode cX5_least 72 = .ok (.invokevirtual 181, 3) := by decide +kernel
theorem dX5_least_75 : decode cX5_least 75 = .ok (.ireturn, 1) := by decide +kernel
def f5_pin (x1 : Int32) (x2 : Int32) (M : Mem) : Option (Mem × Int32) :=
    (f5_isPin M x1).bind fun r2 =>
    if r2 = 0 then ((some (M, (-1 : Int32))))
    else ((f5_in x2.toInt64 (0 : Int64) (7 : Int64)).bind fun r5 =>
    if r5 = 0 then ((some (M, (-1 : Int32))))
    else (if x2 = 0 then ((rd M 6 8 x1).bind fun v8 =>
    (f5_tell v8 M).bind fun ⟨M10, r11⟩ =>
    (some (M10, r11)))
    else if x2 = 1 then ((f5_lies M x1).bind fun r14 =>
    if r14 = 0 then ((f5_tell (-9 : Int32) M).bind fun ⟨M17, r18⟩ =>
    (some (M17, r18)))
    else ((rd M 10 9 ((1 : Int32) + x1)).bind fun v19 =>
    (f5_tell v19 M).bind fun ⟨M21, r22⟩ =>
    (some (M21, r22))))
    else if x2 = 2 then ((f5_hoursOf M x1).bind fun r25 =>
    (f5_tell r25 M).bind fun ⟨M27, r28⟩ =>
    (some (M27, r28)))
    else if x2 = 3 then ((rd M 8 8 x1).bind fun v30 =>
    (f5_tell v30 M).bind fun ⟨M32, r33⟩ =>
    (some (M32, r33)))
    else if x2 = 4 then ((rd M 9 8 x1).bind fun v35 =>
    (f5_tell v35 M).bind fun ⟨M37, r38⟩ =>
    (some (M37, r38)))
    else if x2 = 5 then ((f5_worthOf M x1).bind fun r41 =>
    (f5_tell r41 M).bind fun ⟨M43, r44⟩ =>
    (some (M43, r44)))
    else if x2 = 6 then ((rd M 10 9 ((1 : Int32) + x1)).bind fun v46 =>
    if v46 = (-1 : Int32) then ((f5_tell (1 : Int32) M).bind fun ⟨M49, r50⟩ =>
    (some (M49, r50)))
    else ((f5_tell (0 : Int32) M).bind fun ⟨M52, r53⟩ =>
    (some (M52, r53))))
    else ((rd M 10 9 ((1 : Int32) + x1)).bind fun v54 =>
    if v54 = (-2 : Int32) then ((f5_tell (1 : Int32) M).bind fun ⟨M57, r58⟩ =>
    (some (M57, r58)))
    else ((f5_tell (0 : Int32) M).bind fun ⟨M60, r61⟩ =>
    (some (M60, r61))))))
set_option maxHeartbeats 4000000 in
set_option maxRecDepth 10000 in
theorem w5_pin {ad : Nat → Nat} {X : XX} {R : Mem × Int32} (h : Cx layM ad X cX5_pin RX5 3 4 (some .int) (R.1) (some (.int R.2))) {x1 : Int32} {x2 : Int32} {M : Mem} (hF : f5_pin x1 x2 M = some R) : Wp layM ad X M 0 [(0, .ref (ad 0)), (1, .int x1), (2, .int x2)] [] := by
  unfold f5_pin at hF
  refine R_aload_n (pc := 0) h 0 rfl rfl dX5_pin_0 ?_
  refine R_iload_n (pc := 1) h 1 rfl rfl dX5_pin_1 ?_
  obtain ⟨r2, hc1, hF⟩ := bd hF
  refine R_callV (pc := 2) (st := []) h [.int x1] cvX5_153 (c5_isPin (ad := ad) (z := X.1) hc1) rfl rfl lm_0 (by decide) (by decide) (Nat.le_of_ble_eq_true rfl) dX5_pin_2 (st1 := [.int r2]) rfl ?_
  refine R_if_eq (pc := 5) (tgt := 20) h dX5_pin_5 (by decide) (fun c3 => ?_) (fun c3 => ?_)
  · have hF := itp c3 hF
    refine R_iconst (pc := 20) (v := (-1)) h (by decide) dX5_pin_20 ?_
    cases hF
    exact R_ireturn (pc := 21) h rfl rfl rfl dX5_pin_21
  · have hF := ifn c3 hF
    refine R_iload_n (pc := 8) h 2 rfl rfl dX5_pin_8 ?_
    refine R_i2l (pc := 9) h dX5_pin_9 ?_
    refine R_lconst (pc := 10) (v := 0) h (by decide) dX5_pin_10 ?_
    refine R_ldc2 (pc := 11) h klX5_156 dX5_pin_11 ?_
    obtain ⟨r5, hc4, hF⟩ := bd hF
    refine R_callS (pc := 14) (st := []) h [.long x2.toInt64, .long (0 : Int64), .long (7 : Int64)] csX5_71 (c5_in (ad := ad) (z := X.1) (M := M) hc4) rfl rfl (by decide) (by decide) (Nat.le_of_ble_eq_true rfl) dX5_pin_14 (st1 := [.int r5]) rfl ?_
    refine R_if_ne (pc := 17) (tgt := 22) h dX5_pin_17 (by decide) (fun c6 => ?_) (fun c6 => ?_)
    · have hF := ifn c6 hF
      refine R_iload_n (pc := 22) h 2 rfl rfl dX5_pin_22 ?_
      by_cases c7 : x2 = 0
      · have hF := itp c7 hF
        refine R_tableIn (pc := 23) (off := 41) (tgt := 64) h dX5_pin_23 (by rw [c7]; decide +kernel) (by rw [c7]; decide +kernel) (by rw [c7]; decide +kernel) (by decide) ?_
        refine R_aload_n (pc := 64) h 0 rfl rfl dX5_pin_64 ?_
        refine R_aload_n (pc := 65) h 0 rfl rfl dX5_pin_65 ?_
        refine R_getR (pc := 66) (q1 := 6) h flX5_29 lm_0 rfl dX5_pin_66 ?_
        refine R_iload_n (pc := 69) h 1 rfl rfl dX5_pin_69 ?_
        obtain ⟨v8, hv8, hF⟩ := bd hF
        refine R_iald (pc := 70) h hv8 lm_6 dX5_pin_70 ?_
        obtain ⟨⟨M10, r11⟩, hc9, hF⟩ := bd hF
        refine R_callV (pc := 71) (st := []) h [.int v8] cvX5_85 (c5_tell (ad := ad) (z := X.1) hc9) rfl rfl lm_0 (by decide) (by decide) (Nat.le_of_ble_eq_true rfl) dX5_pin_71 (st1 := [.int r11]) rfl ?_
        cases hF
        exact R_ireturn (pc := 74) h rfl rfl rfl dX5_pin_74
      have hF := ifn c7 hF
      by_cases c12 : x2 = 1
      · have hF := itp c12 hF
        refine R_tableIn (pc := 23) (off := 52) (tgt := 75) h dX5_pin_23 (by rw [c12]; decide +kernel) (by rw [c12]; decide +kernel) (by rw [c12]; decide +kernel) (by decide) ?_
        refine R_aload_n (pc := 75) h 0 rfl rfl dX5_pin_75 ?_
        refine R_aload_n (pc := 76) h 0 rfl rfl dX5_pin_76 ?_
        refine R_iload_n (pc := 77) h 1 rfl rfl dX5_pin_77 ?_
        obtain ⟨r14, hc13, hF⟩ := bd hF
        refine R_callV (pc := 78) (st := [.ref (ad 0)]) h [.int x1] cvX5_133 (c5_lies (ad := ad) (z := X.1) hc13) rfl rfl lm_0 (by decide) (by decide) (Nat.le_of_ble_eq_true rfl) dX5_pin_78 (st1 := [.int r14, .ref (ad 0)]) rfl ?_
        refine R_if_eq (pc := 81) (tgt := 95) h dX5_pin_81 (by decide) (fun c15 => ?_) (fun c15 => ?_)
        · have hF := itp c15 hF
          refine R_bipush (pc := 95) (v := (-9)) h (by decide) dX5_pin_95 ?_
          obtain ⟨⟨M17, r18⟩, hc16, hF⟩ := bd hF
          refine R_callV (pc := 97) (st := []) h [.int (-9 : Int32)] cvX5_85 (c5_tell (ad := ad) (z := X.1) hc16) rfl rfl lm_0 (by decide) (by decide) (Nat.le_of_ble_eq_true rfl) dX5_pin_97 (st1 := [.int r18]) rfl ?_
          cases hF
          exact R_ireturn (pc := 100) h rfl rfl rfl dX5_pin_100
        · have hF := ifn c15 hF
          refine R_aload_n (pc := 84) h 0 rfl rfl dX5_pin_84 ?_
          refine R_getR (pc := 85) (q1 := 10) h flX5_41 lm_0 rfl dX5_pin_85 ?_
          refine R_iconst (pc := 88) (v := 1) h (by decide) dX5_pin_88 ?_
          refine R_iload_n (pc := 89) h 1 rfl rfl dX5_pin_89 ?_
          refine R_iadd (pc := 90) h dX5_pin_90 ?_
          obtain ⟨v19, hv19, hF⟩ := bd hF
          refine R_iald (pc := 91) h hv19 lm_10 dX5_pin_91 ?_
          refine R_goto (pc := 92) (tgt := 97) h dX5_pin_92 (by decide) ?_
          obtain ⟨⟨M21, r22⟩, hc20, hF⟩ := bd hF
          refine R_callV (pc := 97) (st := []) h [.int v19] cvX5_85 (c5_tell (ad := ad) (z := X.1) hc20) rfl rfl lm_0 (by decide) (by decide) (Nat.le_of_ble_eq_true rfl) dX5_pin_97 (st1 := [.int r22]) rfl ?_
          cases hF
          exact R_ireturn (pc := 100) h rfl rfl rfl dX5_pin_100
      have hF := ifn c12 hF
      by_cases c23 : x2 = 2
      · have hF := itp c23 hF
        refine R_tableIn (pc := 23) (off := 78) (tgt := 101) h dX5_pin_23 (by rw [c23]; decide +kernel) (by rw [c23]; decide +kernel) (by rw [c23]; decide +kernel) (by decide) ?_
        refine R_aload_n (pc := 101) h 0 rfl rfl dX5_pin_101 ?_
        refine R_aload_n (pc := 102) h 0 rfl rfl dX5_pin_102 ?_
        refine R_iload_n (pc := 103) h 1 rfl rfl dX5_pin_103 ?_
        obtain ⟨r25, hc24, hF⟩ := bd hF
        refine R_callV (pc := 104) (st := [.ref (ad 0)]) h [.int x1] cvX5_136 (c5_hoursOf (ad := ad) (z := X.1) hc24) rfl rfl lm_0 (by decide) (by decide) (Nat.le_of_ble_eq_true rfl) dX5_pin_104 (st1 := [.int r25, .ref (ad 0)]) rfl ?_
        obtain ⟨⟨M27, r28⟩, hc26, hF⟩ := bd hF
        refine R_callV (pc := 107) (st := []) h [.int r25] cvX5_85 (c5_tell (ad := ad) (z := X.1) hc26) rfl rfl lm_0 (by decide) (by decide) (Nat.le_of_ble_eq_true rfl) dX5_pin_107 (st1 := [.int r28]) rfl ?_
        cases hF
        exact R_ireturn (pc := 110) h rfl rfl rfl dX5_pin_110
      have hF := ifn c23 hF
      by_cases c29 : x2 = 3
      · have hF := itp c29 hF
        refine R_tableIn (pc := 23) (off := 88) (tgt := 111) h dX5_pin_23 (by rw [c29]; decide +kernel) (by rw [c29]; decide +kernel) (by rw [c29]; decide +kernel) (by decide) ?_
        refine R_aload_n (pc := 111) h 0 rfl rfl dX5_pin_111 ?_
        refine R_aload_n (pc := 112) h 0 rfl rfl dX5_pin_112 ?_
        refine R_getR (pc := 113) (q1 := 8) h flX5_35 lm_0 rfl dX5_pin_113 ?_
        refine R_iload_n (pc := 116) h 1 rfl rfl dX5_pin_116 ?_
        obtain ⟨v30, hv30, hF⟩ := bd hF
        refine R_iald (pc := 117) h hv30 lm_8 dX5_pin_117 ?_
        obtain ⟨⟨M32, r33⟩, hc31, hF⟩ := bd hF
        refine R_callV (pc := 118) (st := []) h [.int v30] cvX5_85 (c5_tell (ad := ad) (z := X.1) hc31) rfl rfl lm_0 (by decide) (by decide) (Nat.le_of_ble_eq_true rfl) dX5_pin_118 (st1 := [.int r33]) rfl ?_
        cases hF
        exact R_ireturn (pc := 121) h rfl rfl rfl dX5_pin_121
      have hF := ifn c29 hF
      by_cases c34 : x2 = 4
      · have hF := itp c34 hF
        refine R_tableIn (pc := 23) (off := 99) (tgt := 122) h dX5_pin_23 (by rw [c34]; decide +kernel) (by rw [c34]; decide +kernel) (by rw [c34]; decide +kernel) (by decide) ?_
        refine R_aload_n (pc := 122) h 0 rfl rfl dX5_pin_122 ?_
        refine R_aload_n (pc := 123) h 0 rfl rfl dX5_pin_123 ?_
        refine R_getR (pc := 124) (q1 := 9) h flX5_38 lm_0 rfl dX5_pin_124 ?_
        refine R_iload_n (pc := 127) h 1 rfl rfl dX5_pin_127 ?_
        obtain ⟨v35, hv35, hF⟩ := bd hF
        refine R_iald (pc := 128) h hv35 lm_9 dX5_pin_128 ?_
        obtain ⟨⟨M37, r38⟩, hc36, hF⟩ := bd hF
        refine R_callV (pc := 129) (st := []) h [.int v35] cvX5_85 (c5_tell (ad := ad) (z := X.1) hc36) rfl rfl lm_0 (by decide) (by decide) (Nat.le_of_ble_eq_true rfl) dX5_pin_129 (st1 := [.int r38]) rfl ?_
        cases hF
        exact R_ireturn (pc := 132) h rfl rfl rfl dX5_pin_132
      have hF := ifn c34 hF
      by_cases c39 : x2 = 5
      · have hF := itp c39 hF
        refine R_tableIn (pc := 23) (off := 110) (tgt := 133) h dX5_pin_23 (by rw [c39]; decide +kernel) (by rw [c39]; decide +kernel) (by rw [c39]; decide +kernel) (by decide) ?_
        refine R_aload_n (pc := 133) h 0 rfl rfl dX5_pin_133 ?_
        refine R_aload_n (pc := 134) h 0 rfl rfl dX5_pin_134 ?_
        refine R_iload_n (pc := 135) h 1 rfl rfl dX5_pin_135 ?_
        obtain ⟨r41, hc40, hF⟩ := bd hF
        refine R_callV (pc := 136) (st := [.ref (ad 0)]) h [.int x1] cvX5_146 (c5_worthOf (ad := ad) (z := X.1) hc40) rfl rfl lm_0 (by decide) (by decide) (Nat.le_of_ble_eq_true rfl) dX5_pin_136 (st1 := [.int r41, .ref (ad 0)]) rfl ?_
        obtain ⟨⟨M43, r44⟩, hc42, hF⟩ := bd hF
        refine R_callV (pc := 139) (st := []) h [.int r41] cvX5_85 (c5_tell (ad := ad) (z := X.1) hc42) rfl rfl lm_0 (by decide) (by decide) (Nat.le_of_ble_eq_true rfl) dX5_pin_139 (st1 := [.int r44]) rfl ?_
        cases hF
        exact R_ireturn (pc := 142) h rfl rfl rfl dX5_pin_142
      have hF := ifn c39 hF
      by_cases c45 : x2 = 6
      · have hF := itp c45 hF
        refine R_tableIn (pc := 23) (off := 120) (tgt := 143) h dX5_pin_23 (by rw [c45]; decide +kernel) (by rw [c45]; decide +kernel) (by rw [c45]; decide +kernel) (by decide) ?_
        refine R_aload_n (pc := 143) h 0 rfl rfl dX5_pin_143 ?_
        refine R_aload_n (pc := 144) h 0 rfl rfl dX5_pin_144 ?_
        refine R_getR (pc := 145) (q1 := 10) h flX5_41 lm_0 rfl dX5_pin_145 ?_
        refine R_iconst (pc := 148) (v := 1) h (by decide) dX5_pin_148 ?_
        refine R_iload_n (pc := 149) h 1 rfl rfl dX5_pin_149 ?_
        refine R_iadd (pc := 150) h dX5_pin_150 ?_
        obtain ⟨v46, hv46, hF⟩ := bd hF
        refine R_iald (pc := 151) h hv46 lm_10 dX5_pin_151 ?_
        refine R_iconst (pc := 152) (v := (-1)) h (by decide) dX5_pin_152 ?_
        refine R_icmp_ne (pc := 153) (tgt := 160) h dX5_pin_153 (by decide) (fun c47 => ?_) (fun c47 => ?_)
        · have hF := ifn c47 hF
          refine R_iconst (pc := 160) (v := 0) h (by decide) dX5_pin_160 ?_
          obtain ⟨⟨M52, r53⟩, hc51, hF⟩ := bd hF
          refine R_callV (pc := 161) (st := []) h [.int (0 : Int32)] cvX5_85 (c5_tell (ad := ad) (z := X.1) hc51) rfl rfl lm_0 (by decide) (by decide) (Nat.le_of_ble_eq_true rfl) dX5_pin_161 (st1 := [.int r53]) rfl ?_
          cases hF
          exact R_ireturn (pc := 164) h rfl rfl rfl dX5_pin_164
        · have hF := itp c47 hF
          refine R_iconst (pc := 156) (v := 1) h (by decide) dX5_pin_156 ?_
          refine R_goto (pc := 157) (tgt := 161) h dX5_pin_157 (by decide) ?_
          obtain ⟨⟨M49, r50⟩, hc48, hF⟩ := bd hF
          refine R_callV (pc := 161) (st := []) h [.int (1 : Int32)] cvX5_85 (c5_tell (ad := ad) (z := X.1) hc48) rfl rfl lm_0 (by decide) (by decide) (Nat.le_of_ble_eq_true rfl) dX5_pin_161 (st1 := [.int r50]) rfl ?_
          cases hF
          exact R_ireturn (pc := 164) h rfl rfl rfl dX5_pin_164
      have hF := ifn c45 hF
      refine R_tableOut (pc := 23) (tgt := 165) h dX5_pin_23 (by have e0 := lv_neT c7 (a := 0) (by decide); have e1 := lv_neT c12 (a := 1) (by decide); have e2 := lv_neT c23 (a := 2) (by decide); have e3 := lv_neT c29 (a := 3) (by decide); have e4 := lv_neT c34 (a := 4) (by decide); have e5 := lv_neT c39 (a := 5) (by decide); have e6 := lv_neT c45 (a := 6) (by decide); omega) (by decide) ?_
      refine R_aload_n (pc := 165) h 0 rfl rfl dX5_pin_165 ?_
      refine R_aload_n (pc := 166) h 0 rfl rfl dX5_pin_166 ?_
      refine R_getR (pc := 167) (q1 := 10) h flX5_41 lm_0 rfl dX5_pin_167 ?_
      refine R_iconst (pc := 170) (v := 1) h (by decide) dX5_pin_170 ?_
      refine R_iload_n (pc := 171) h 1 rfl rfl dX5_pin_171 ?_
      refine R_iadd (pc := 172) h dX5_pin_172 ?_
      obtain ⟨v54, hv54, hF⟩ := bd hF
      refine R_iald (pc := 173) h hv54 lm_10 dX5_pin_173 ?_
      refine R_bipush (pc := 174) (v := (-2)) h (by decide) dX5_pin_174 ?_
      refine R_icmp_ne (pc := 176) (tgt := 183) h dX5_pin_176 (by decide) (fun c55 => ?_) (fun c55 => ?_)
      · have hF := ifn c55 hF
        refine R_iconst (pc := 183) (v := 0) h (by decide) dX5_pin_183 ?_
        obtain ⟨⟨M60, r61⟩, hc59, hF⟩ := bd hF
        refine R_callV (pc := 184) (st := []) h [.int (0 : Int32)] cvX5_85 (c5_tell (ad := ad) (z := X.1) hc59) rfl rfl lm_0 (by decide) (by decide) (Nat.le_of_ble_eq_true rfl) dX5_pin_184 (st1 := [.int r61]) rfl ?_
        cases hF
        exact R_ireturn (pc := 187) h rfl rfl rfl dX5_pin_187
      · have hF := itp c55 hF
        refine R_iconst (pc := 179) (v := 1) h (by decide) dX5_pin_179 ?_
        refine R_goto (pc := 180) (tgt := 184) h dX5_pin_180 (by decide) ?_
        obtain ⟨⟨M57, r58⟩, hc56, hF⟩ := bd hF
        refine R_callV (pc := 184) (st := []) h [.int (1 : Int32)] cvX5_85 (c5_tell (ad := ad) (z := X.1) hc56) rfl rfl lm_0 (by decide) (by decide) (Nat.le_of_ble_eq_true rfl) dX5_pin_184 (st1 := [.int r58]) rfl ?_
        cases hF
        exact R_ireturn (pc := 187) h rfl rfl rfl dX5_pin_187
    · have hF := itp c6 hF
      refine R_iconst (pc := 20) (v := (-1)) h (by decide) dX5_pin_20 ?_
      cases hF
      exact R_ireturn (pc := 21) h rfl rfl rfl dX5_pin_21
theorem c5_pin {ad : Nat → Nat} {z : ZZ} {R : Mem × Int32} {x1 : Int32} {x2 : Int32} {M : Mem} (hF : f5_pin x1 x2 M = some R) : Con layM ad z yX5_pin cX5_pin 3 (some .int) 4 M [.ref (ad 0), .int x1, .int x2] (R.1) (some (.int R.2)) := con_of (own := RX5) (lv := [(0, .ref (ad 0)), (1, .int x1), (2, .int x2)]) (by decide +kernel) rfl (Nat.le_of_ble_eq_true rfl) rfl (fun X hz h => w5_pin h hF)
def f5_isOf_15 (x0 : Int32) (x1 : Int32) : Option (Int32) :=
    if x0 = (4 : Int32) then (if x1 = (2 : Int32) then ((some (1 : Int32)))
    else ((some (0 : Int32))))
    else ((some (0 : Int32)))
set_option maxHeartbeats 4000000 in
set_option maxRecDepth 10000 in
theorem w5_isOf_15 {ad : Nat → Nat} {X : XX} {R : Int32} {M : Mem}  (h : Cx layM ad X cX5_isOf RX5 2 1 (some .boolean) M (some (.int R)))  {x0 : Int32} {x1 : Int32} (hF : f5_isOf_15 x0 x1 = some R) : Wp layM ad X M 15 [(0, .int x0), (1, .int x1)] [] := by
  unfold f5_isOf_15 at hF
  refine R_iload_n (pc := 15) h 0 rfl rfl dX5_isOf_15 ?_
  refine R_iconst (pc := 16) (v := 4) h (by decide) dX5_isOf_16 ?_
  refine R_icmp_ne (pc := 17) (tgt := 29) h dX5_isOf_17 (by decide) (fun c1 => ?_) (fun c1 => ?_)
  · have hF := ifn c1 hF
    refine R_iconst (pc := 29) (v := 0) h (by decide) dX5_isOf_29 ?_
    cases hF
    exact R_zreturn (pc := 30) h rfl zr0 rfl rfl dX5_isOf_30
  · have hF := itp c1 hF
    refine R_iload_n (pc := 20) h 1 rfl rfl dX5_isOf_20 ?_
    refine R_iconst (pc := 21) (v := 2) h (by decide) dX5_isOf_21 ?_
    refine R_icmp_ne (pc := 22) (tgt := 29) h dX5_isOf_22 (by decide) (fun c2 => ?_) (fun c2 => ?_)
    · have hF := ifn c2 hF
      refine R_iconst (pc := 29) (v := 0) h (by decide) dX5_isOf_29 ?_
      cases hF
      exact R_zreturn (pc := 30) h rfl zr0 rfl rfl dX5_isOf_30
    · have hF := itp c2 hF
      refine R_iconst (pc := 25) (v := 1) h (by decide) dX5_isOf_25 ?_
      refine R_goto (pc := 26) (tgt := 30) h dX5_isOf_26 (by decide) ?_
      cases hF
      exact R_zreturn (pc := 30) h rfl zr1 rfl rfl dX5_isOf_30
def f5_isOf (x0 : Int32) (x1 : Int32) : Option (Int32) :=
    if x0 = x1 then ((some (1 : Int32)))
    else (if x0 = (5 : Int32) then (if x1 = (1 : Int32) then ((some (1 : Int32)))
    else ((f5_isOf_15 x0 x1)))
    else ((f5_isOf_15 x0 x1)))
set_option maxHeartbeats 4000000 in
set_option maxRecDepth 10000 in
theorem w5_isOf {ad : Nat → Nat} {X : XX} {R : Int32} {M : Mem} (h : Cx layM ad X cX5_isOf RX5 2 1 (some .boolean) M (some (.int R))) {x0 : Int32} {x1 : Int32} (hF : f5_isOf x0 x1 = some R) : Wp layM ad X M 0 [(0, .int x0), (1, .int x1)] [] := by
  unfold f5_isOf at hF
  refine R_iload_n (pc := 0) h 0 rfl rfl dX5_isOf_0 ?_
  refine R_iload_n (pc := 1) h 1 rfl rfl dX5_isOf_1 ?_
  refine R_icmp_eq (pc := 2) (tgt := 25) h dX5_isOf_2 (by decide) (fun c1 => ?_) (fun c1 => ?_)
  · have hF := itp c1 hF
    refine R_iconst (pc := 25) (v := 1) h (by decide) dX5_isOf_25 ?_
    refine R_goto (pc := 26) (tgt := 30) h dX5_isOf_26 (by decide) ?_
    cases hF
    exact R_zreturn (pc := 30) h rfl zr1 rfl rfl dX5_isOf_30
  · have hF := ifn c1 hF
    refine R_iload_n (pc := 5) h 0 rfl rfl dX5_isOf_5 ?_
    refine R_iconst (pc := 6) (v := 5) h (by decide) dX5_isOf_6 ?_
    refine R_icmp_ne (pc := 7) (tgt := 15) h dX5_isOf_7 (by decide) (fun c2 => ?_) (fun c2 => ?_)
    · have hF := ifn c2 hF
      exact Wp_sub (nX := 0) (lv' := [(0, .int x0), (1, .int x1)]) [0, 1] rfl (w5_isOf_15 h  (hF := hF))
    · have hF := itp c2 hF
      refine R_iload_n (pc := 10) h 1 rfl rfl dX5_isOf_10 ?_
      refine R_iconst (pc := 11) (v := 1) h (by decide) dX5_isOf_11 ?_
      refine R_icmp_eq (pc := 12) (tgt := 25) h dX5_isOf_12 (by decide) (fun c3 => ?_) (fun c3 => ?_)
      · have hF := itp c3 hF
        refine R_iconst (pc := 25) (v := 1) h (by decide) dX5_isOf_25 ?_
        refine R_goto (pc := 26) (tgt := 30) h dX5_isOf_26 (by decide) ?_
        cases hF
        exact R_zreturn (pc := 30) h rfl zr1 rfl rfl dX5_isOf_30
      · have hF := ifn c3 hF
        exact Wp_sub (nX := 0) (lv' := [(0, .int x0), (1, .int x1)]) [0, 1] rfl (w5_isOf_15 h  (hF := hF))
theorem c5_isOf {ad : Nat → Nat} {z : ZZ} {R : Int32} {M : Mem} {x0 : Int32} {x1 : Int32} (hF : f5_isOf x0 x1 = some R) : Con layM ad z yX5_isOf cX5_isOf 2 (some .boolean) 1 M [.int x0, .int x1] (M) (some (.int R)) := con_of (own := RX5) (lv := [(0, .int x0), (1, .int x1)]) (by decide +kernel) rfl (Nat.le_of_ble_eq_true rfl) rfl (fun X hz h => w5_isOf h hF)
def f5_mark_80 (x1 : Int32) (s0 : Int32) (M : Mem) : Option (Mem × Int32) :=
    (f5_worthOf M x1).bind fun r2 =>
    (some (M, (((100 : Int32) + r2) - s0)))
set_option maxHeartbeats 4000000 in
set_option maxRecDepth 10000 in
theorem w5_mark_80 {ad : Nat → Nat} {X : XX} {R : Mem × Int32}  (h : Cx layM ad X cX5_mark RX5 4 4 (some .int) (R.1) (some (.int R.2)))  {x1 : Int32} {s0 : Int32} {M : Mem} (hF : f5_mark_80 x1 s0 M = some R) : Wp layM ad X M 80 [(0, .ref (ad 0)), (1, .int x1)] [.int s0] := by
  unfold f5_mark_80 at hF
  refine R_istore_n (pc := 80) (lv' := [(3, .int s0), (0, .ref (ad 0)), (1, .int x1)]) h rfl rfl (by decide) rfl dX5_mark_80 ?_
  refine R_bipush (pc := 81) (v := 100) h (by decide) dX5_mark_81 ?_
  refine R_aload_n (pc := 83) h 1 rfl rfl dX5_mark_83 ?_
  refine R_iload_n (pc := 84) h 2 rfl rfl dX5_mark_84 ?_
  obtain ⟨r2, hc1, hF⟩ := bd hF
  refine R_callV (pc := 85) (st := [.int (100 : Int32)]) h [.int x1] cvX5_146 (c5_worthOf (ad := ad) (z := X.1) hc1) rfl rfl lm_0 (by decide) (by decide) (Nat.le_of_ble_eq_true rfl) dX5_mark_85 (st1 := [.int r2, .int (100 : Int32)]) rfl ?_
  refine R_iadd (pc := 88) h dX5_mark_88 ?_
  refine R_iload_n (pc := 89) h 0 rfl rfl dX5_mark_89 ?_
  refine R_isub (pc := 90) h dX5_mark_90 ?_
  cases hF
  exact R_ireturn (pc := 91) h rfl rfl rfl dX5_mark_91
def f5_mark_70 (x1 : Int32) (s0 : Int32) (M : Mem) : Option (Mem × Int32) :=
    (rd M 9 8 x1).bind fun v1 =>
    (f5_worthBy M s0 x1 v1).bind fun r3 =>
    (f5_mark_80 x1 r3 M)
set_option maxHeartbeats 4000000 in
set_option maxRecDepth 10000 in
theorem w5_mark_70 {ad : Nat → Nat} {X : XX} {R : Mem × Int32}  (h : Cx layM ad X cX5_mark RX5 4 4 (some .int) (R.1) (some (.int R.2)))  {x1 : Int32} {s0 : Int32} {M : Mem} (hF : f5_mark_70 x1 s0 M = some R) : Wp layM ad X M 70 [(0, .ref (ad 0)), (1, .int x1)] [.int s0, .ref (ad 0)] := by
  unfold f5_mark_70 at hF
  refine R_iload_n (pc := 70) h 1 rfl rfl dX5_mark_70 ?_
  refine R_aload_n (pc := 71) h 0 rfl rfl dX5_mark_71 ?_
  refine R_getR (pc := 72) (q1 := 9) h flX5_38 lm_0 rfl dX5_mark_72 ?_
  refine R_iload_n (pc := 75) h 1 rfl rfl dX5_mark_75 ?_
  obtain ⟨v1, hv1, hF⟩ := bd hF
  refine R_iald (pc := 76) h hv1 lm_9 dX5_mark_76 ?_
  obtain ⟨r3, hc2, hF⟩ := bd hF
  refine R_callV (pc := 77) (st := []) h [.int s0, .int x1, .int v1] cvX5_142 (c5_worthBy (ad := ad) (z := X.1) hc2) rfl rfl lm_0 (by decide) (by decide) (Nat.le_of_ble_eq_true rfl) dX5_mark_77 (st1 := [.int r3]) rfl ?_
  exact Wp_sub (nX := 0) (lv' := [(0, .ref (ad 0)), (1, .int x1)]) [0, 1] rfl (w5_mark_80 h  (hF := hF))
def f5_mark (x1 : Int32) (x2 : Int32) (M : Mem) : Option (Mem × Int32) :=
    (f5_isPin M x1).bind fun r2 =>
    if r2 = 0 then ((some (M, (-1 : Int32))))
    else ((f5_in x2.toInt64 (1 : Int64) (5 : Int64)).bind fun r5 =>
    if r5 = 0 then ((some (M, (-1 : Int32))))
    else ((rd M 6 8 x1).bind fun v7 =>
    (f5_isOf v7 x2).bind fun r9 =>
    if r9 = 0 then ((f5_found (3 : Int32) M).bind fun ⟨M12, r13⟩ =>
    (some (M12, r13)))
    else (if x2 = (1 : Int32) then ((f5_mark_80 x1 (0 : Int32) M))
    else (if x2 = (4 : Int32) then ((f5_mark_70 x1 (2 : Int32) M))
    else (if x2 = (5 : Int32) then ((f5_mark_70 x1 (1 : Int32) M))
    else ((f5_mark_70 x1 (0 : Int32) M)))))))
set_option maxHeartbeats 4000000 in
set_option maxRecDepth 10000 in
theorem w5_mark {ad : Nat → Nat} {X : XX} {R : Mem × Int32} (h : Cx layM ad X cX5_mark RX5 4 4 (some .int) (R.1) (some (.int R.2))) {x1 : Int32} {x2 : Int32} {M : Mem} (hF : f5_mark x1 x2 M = some R) : Wp layM ad X M 0 [(0, .ref (ad 0)), (1, .int x1), (2, .int x2)] [] := by
  unfold f5_mark at hF
  refine R_aload_n (pc := 0) h 0 rfl rfl dX5_mark_0 ?_
  refine R_iload_n (pc := 1) h 1 rfl rfl dX5_mark_1 ?_
  obtain ⟨r2, hc1, hF⟩ := bd hF
  refine R_callV (pc := 2) (st := []) h [.int x1] cvX5_153 (c5_isPin (ad := ad) (z := X.1) hc1) rfl rfl lm_0 (by decide) (by decide) (Nat.le_of_ble_eq_true rfl) dX5_mark_2 (st1 := [.int r2]) rfl ?_
  refine R_if_eq (pc := 5) (tgt := 20) h dX5_mark_5 (by decide) (fun c3 => ?_) (fun c3 => ?_)
  · have hF := itp c3 hF
    refine R_iconst (pc := 20) (v := (-1)) h (by decide) dX5_mark_20 ?_
    cases hF
    exact R_ireturn (pc := 21) h rfl rfl rfl dX5_mark_21
  · have hF := ifn c3 hF
    refine R_iload_n (pc := 8) h 2 rfl rfl dX5_mark_8 ?_
    refine R_i2l (pc := 9) h dX5_mark_9 ?_
    refine R_lconst (pc := 10) (v := 1) h (by decide) dX5_mark_10 ?_
    refine R_ldc2 (pc := 11) h klX5_69 dX5_mark_11 ?_
    obtain ⟨r5, hc4, hF⟩ := bd hF
    refine R_callS (pc := 14) (st := []) h [.long x2.toInt64, .long (1 : Int64), .long (5 : Int64)] csX5_71 (c5_in (ad := ad) (z := X.1) (M := M) hc4) rfl rfl (by decide) (by decide) (Nat.le_of_ble_eq_true rfl) dX5_mark_14 (st1 := [.int r5]) rfl ?_
    refine R_if_ne (pc := 17) (tgt := 22) h dX5_mark_17 (by decide) (fun c6 => ?_) (fun c6 => ?_)
    · have hF := ifn c6 hF
      refine R_aload_n (pc := 22) h 0 rfl rfl dX5_mark_22 ?_
      refine R_getR (pc := 23) (q1 := 6) h flX5_29 lm_0 rfl dX5_mark_23 ?_
      refine R_iload_n (pc := 26) h 1 rfl rfl dX5_mark_26 ?_
      obtain ⟨v7, hv7, hF⟩ := bd hF
      refine R_iald (pc := 27) h hv7 lm_6 dX5_mark_27 ?_
      refine R_iload_n (pc := 28) h 2 rfl rfl dX5_mark_28 ?_
      obtain ⟨r9, hc8, hF⟩ := bd hF
      refine R_callS (pc := 29) (st := []) h [.int v7, .int x2] csX5_158 (c5_isOf (ad := ad) (z := X.1) (M := M) hc8) rfl rfl (by decide) (by decide) (Nat.le_of_ble_eq_true rfl) dX5_mark_29 (st1 := [.int r9]) rfl ?_
      refine R_if_ne (pc := 32) (tgt := 41) h dX5_mark_32 (by decide) (fun c10 => ?_) (fun c10 => ?_)
      · have hF := ifn c10 hF
        refine R_iload_n (pc := 41) h 2 rfl rfl dX5_mark_41 ?_
        refine R_iconst (pc := 42) (v := 1) h (by decide) dX5_mark_42 ?_
        refine R_icmp_ne (pc := 43) (tgt := 50) h dX5_mark_43 (by decide) (fun c14 => ?_) (fun c14 => ?_)
        · have hF := ifn c14 hF
          refine R_aload_n (pc := 50) h 0 rfl rfl dX5_mark_50 ?_
          refine R_iload_n (pc := 51) h 2 rfl rfl dX5_mark_51 ?_
          refine R_iconst (pc := 52) (v := 4) h (by decide) dX5_mark_52 ?_
          refine R_icmp_ne (pc := 53) (tgt := 60) h dX5_mark_53 (by decide) (fun c15 => ?_) (fun c15 => ?_)
          · have hF := ifn c15 hF
            refine R_iload_n (pc := 60) h 2 rfl rfl dX5_mark_60 ?_
            refine R_iconst (pc := 61) (v := 5) h (by decide) dX5_mark_61 ?_
            refine R_icmp_ne (pc := 62) (tgt := 69) h dX5_mark_62 (by decide) (fun c16 => ?_) (fun c16 => ?_)
            · have hF := ifn c16 hF
              refine R_iconst (pc := 69) (v := 0) h (by decide) dX5_mark_69 ?_
              exact Wp_sub (nX := 0) (lv' := [(0, .ref (ad 0)), (1, .int x1)]) [0, 1] rfl (w5_mark_70 h  (hF := hF))
            · have hF := itp c16 hF
              refine R_iconst (pc := 65) (v := 1) h (by decide) dX5_mark_65 ?_
              refine R_goto (pc := 66) (tgt := 70) h dX5_mark_66 (by decide) ?_
              exact Wp_sub (nX := 0) (lv' := [(0, .ref (ad 0)), (1, .int x1)]) [0, 1] rfl (w5_mark_70 h  (hF := hF))
          · have hF := itp c15 hF
            refine R_iconst (pc := 56) (v := 2) h (by decide) dX5_mark_56 ?_
            refine R_goto (pc := 57) (tgt := 70) h dX5_mark_57 (by decide) ?_
            exact Wp_sub (nX := 0) (lv' := [(0, .ref (ad 0)), (1, .int x1)]) [0, 1] rfl (w5_mark_70 h  (hF := hF))
        · have hF := itp c14 hF
          refine R_iconst (pc := 46) (v := 0) h (by decide) dX5_mark_46 ?_
          refine R_goto (pc := 47) (tgt := 80) h dX5_mark_47 (by decide) ?_
          exact Wp_sub (nX := 0) (lv' := [(0, .ref (ad 0)), (1, .int x1)]) [0, 1] rfl (w5_mark_80 h  (hF := hF))
      · have hF := itp c10 hF
        refine R_aload_n (pc := 35) h 0 rfl rfl dX5_mark_35 ?_
        refine R_iconst (pc := 36) (v := 3) h (by decide) dX5_mark_36 ?_
        obtain ⟨⟨M12, r13⟩, hc11, hF⟩ := bd hF
        refine R_callV (pc := 37) (st := []) h [.int (3 : Int32)] cvX5_81 (c5_found (ad := ad) (z := X.1) hc11) rfl rfl lm_0 (by decide) (by decide) (Nat.le_of_ble_eq_true rfl) dX5_mark_37 (st1 := [.int r13]) rfl ?_
        cases hF
        exact R_ireturn (pc := 40) h rfl rfl rfl dX5_mark_40
    · have hF := itp c6 hF
      refine R_iconst (pc := 20) (v := (-1)) h (by decide) dX5_mark_20 ?_
      cases hF
      exact R_ireturn (pc := 21) h rfl rfl rfl dX5_mark_21
theorem c5_mark {ad : Nat → Nat} {z : ZZ} {R : Mem × Int32} {x1 : Int32} {x2 : Int32} {M : Mem} (hF : f5_mark x1 x2 M = some R) : Con layM ad z yX5_mark cX5_mark 4 (some .int) 4 M [.ref (ad 0), .int x1, .int x2] (R.1) (some (.int R.2)) := con_of (own := RX5) (lv := [(0, .ref (ad 0)), (1, .int x1), (2, .int x2)]) (by decide +kernel) rfl (Nat.le_of_ble_eq_true rfl) rfl (fun X hz h => w5_mark h hF)
def f5_worth (x1 : Int32) (x2 : Int32) (M : Mem) : Option (Mem × Int32) :=
    (f5_isPin M x1).bind fun r2 =>
    if r2 = 0 then ((some (M, (-1 : Int32))))
    else ((f5_in x2.toInt64 (0 : Int64) (9 : Int64)).bind fun r5 =>
    if r5 = 0 then ((some (M, (-1 : Int32))))
    else ((rd M 6 8 x1).bind fun v7 =>
    (f5_worthBy M v7 x1 x2).bind fun r9 =>
    (f5_tell r9 M).bind fun ⟨M11, r12⟩ =>
    (some (M11, r12))))
set_option maxHeartbeats 4000000 in
set_option maxRecDepth 10000 in
theorem w5_worth {ad : Nat → Nat} {X : XX} {R : Mem × Int32} (h : Cx layM ad X cX5_worth RX5 3 3 (some .int) (R.1) (some (.int R.2))) {x1 : Int32} {x2 : Int32} {M : Mem} (hF : f5_worth x1 x2 M = some R) : Wp layM ad X M 0 [(0, .ref (ad 0)), (1, .int x1), (2, .int x2)] [] := by
  unfold f5_worth at hF
  refine R_aload_n (pc := 0) h 0 rfl rfl dX5_worth_0 ?_
  refine R_iload_n (pc := 1) h 1 rfl rfl dX5_worth_1 ?_
  obtain ⟨r2, hc1, hF⟩ := bd hF
  refine R_callV (pc := 2) (st := []) h [.int x1] cvX5_153 (c5_isPin (ad := ad) (z := X.1) hc1) rfl rfl lm_0 (by decide) (by decide) (Nat.le_of_ble_eq_true rfl) dX5_worth_2 (st1 := [.int r2]) rfl ?_
  refine R_if_eq (pc := 5) (tgt := 39) h dX5_worth_5 (by decide) (fun c3 => ?_) (fun c3 => ?_)
  · have hF := itp c3 hF
    refine R_iconst (pc := 39) (v := (-1)) h (by decide) dX5_worth_39 ?_
    cases hF
    exact R_ireturn (pc := 40) h rfl rfl rfl dX5_worth_40
  · have hF := ifn c3 hF
    refine R_iload_n (pc := 8) h 2 rfl rfl dX5_worth_8 ?_
    refine R_i2l (pc := 9) h dX5_worth_9 ?_
    refine R_lconst (pc := 10) (v := 0) h (by decide) dX5_worth_10 ?_
    refine R_ldc2 (pc := 11) h klX5_161 dX5_worth_11 ?_
    obtain ⟨r5, hc4, hF⟩ := bd hF
    refine R_callS (pc := 14) (st := []) h [.long x2.toInt64, .long (0 : Int64), .long (9 : Int64)] csX5_71 (c5_in (ad := ad) (z := X.1) (M := M) hc4) rfl rfl (by decide) (by decide) (Nat.le_of_ble_eq_true rfl) dX5_worth_14 (st1 := [.int r5]) rfl ?_
    refine R_if_eq (pc := 17) (tgt := 39) h dX5_worth_17 (by decide) (fun c6 => ?_) (fun c6 => ?_)
    · have hF := itp c6 hF
      refine R_iconst (pc := 39) (v := (-1)) h (by decide) dX5_worth_39 ?_
      cases hF
      exact R_ireturn (pc := 40) h rfl rfl rfl dX5_worth_40
    · have hF := ifn c6 hF
      refine R_aload_n (pc := 20) h 0 rfl rfl dX5_worth_20 ?_
      refine R_aload_n (pc := 21) h 0 rfl rfl dX5_worth_21 ?_
      refine R_aload_n (pc := 22) h 0 rfl rfl dX5_worth_22 ?_
      refine R_getR (pc := 23) (q1 := 6) h flX5_29 lm_0 rfl dX5_worth_23 ?_
      refine R_iload_n (pc := 26) h 1 rfl rfl dX5_worth_26 ?_
      obtain ⟨v7, hv7, hF⟩ := bd hF
      refine R_iald (pc := 27) h hv7 lm_6 dX5_worth_27 ?_
      refine R_iload_n (pc := 28) h 1 rfl rfl dX5_worth_28 ?_
      refine R_iload_n (pc := 29) h 2 rfl rfl dX5_worth_29 ?_
      obtain ⟨r9, hc8, hF⟩ := bd hF
      refine R_callV (pc := 30) (st := [.ref (ad 0)]) h [.int v7, .int x1, .int x2] cvX5_142 (c5_worthBy (ad := ad) (z := X.1) hc8) rfl rfl lm_0 (by decide) (by decide) (Nat.le_of_ble_eq_true rfl) dX5_worth_30 (st1 := [.int r9, .ref (ad 0)]) rfl ?_
      obtain ⟨⟨M11, r12⟩, hc10, hF⟩ := bd hF
      refine R_callV (pc := 33) (st := []) h [.int r9] cvX5_85 (c5_tell (ad := ad) (z := X.1) hc10) rfl rfl lm_0 (by decide) (by decide) (Nat.le_of_ble_eq_true rfl) dX5_worth_33 (st1 := [.int r12]) rfl ?_
      refine R_goto (pc := 36) (tgt := 40) h dX5_worth_36 (by decide) ?_
      cases hF
      exact R_ireturn (pc := 40) h rfl rfl rfl dX5_worth_40
theorem c5_worth {ad : Nat → Nat} {z : ZZ} {R : Mem × Int32} {x1 : Int32} {x2 : Int32} {M : Mem} (hF : f5_worth x1 x2 M = some R) : Con layM ad z yX5_worth cX5_worth 3 (some .int) 3 M [.ref (ad 0), .int x1, .int x2] (R.1) (some (.int R.2)) := con_of (own := RX5) (lv := [(0, .ref (ad 0)), (1, .int x1), (2, .int x2)]) (by decide +kernel) rfl (Nat.le_of_ble_eq_true rfl) rfl (fun X hz h => w5_worth h hF)
def f5_copies_10_11_3 (fu : Nat) : Nat → Int32 → Int32 → Int32 → Int32 → Mem → Option (Mem)
  | 0 => fun _ _ _ _ _ => none
  | f + 1 => fun x1 x3 x4 x5 M =>
    if x4 ≤ x5 then ((some M))
    else ((rd M 10 9 (x1 + x5)).bind fun v2 =>
    (wr M 11 360 (x3 + x5) v2).bind fun M3 =>
    nm (x5 + (1 : Int32)) fun v4 =>
    ((f5_copies_10_11_3 fu f) x1 x3 x4 v4 M3))
set_option maxHeartbeats 4000000 in
set_option maxRecDepth 10000 in
theorem w5_copies_10_11i_3 {ad : Nat → Nat} {X : XX} {R : Mem} {fu : Nat}  (h : Cx layM ad X cX5_copies RX5 6 1 none (R) none)  : ∀ (f : Nat) (x1 : Int32) (x3 : Int32) (x4 : Int32) (x5 : Int32) (M : Mem), f5_copies_10_11_3 fu f x1 x3 x4 x5 M = some R → Wp layM ad X M 3 [(0, .ref (ad 10)), (1, .int x1), (2, .ref (ad 11)), (3, .int x3), (4, .int x4), (5, .int x5)] [] := by
  intro f
  induction f with
  | zero => intro x1 x3 x4 x5 M hF; exact absurd hF (by simp [f5_copies_10_11_3])
  | succ f ih =>
    intro x1 x3 x4 x5 M hF
    rw [f5_copies_10_11_3] at hF
    refine R_iload (pc := 3) h 5 rfl dX5_copies_3 ?_
    refine R_iload (pc := 5) h 4 rfl dX5_copies_5 ?_
    refine R_icmp_ge (pc := 7) (tgt := 28) h dX5_copies_7 (by decide) (fun c1 => ?_) (fun c1 => ?_)
    · have hF := itp c1 hF
      cases hF
      exact R_return (pc := 28) h rfl rfl rfl dX5_copies_28
    · have hF := ifn c1 hF
      refine R_aload_n (pc := 10) h 2 rfl rfl dX5_copies_10 ?_
      refine R_iload_n (pc := 11) h 3 rfl rfl dX5_copies_11 ?_
      refine R_iload (pc := 12) h 5 rfl dX5_copies_12 ?_
      refine R_iadd (pc := 14) h dX5_copies_14 ?_
      refine R_aload_n (pc := 15) h 0 rfl rfl dX5_copies_15 ?_
      refine R_iload_n (pc := 16) h 1 rfl rfl dX5_copies_16 ?_
      refine R_iload (pc := 17) h 5 rfl dX5_copies_17 ?_
      refine R_iadd (pc := 19) h dX5_copies_19 ?_
      obtain ⟨v2, hv2, hF⟩ := bd hF
      refine R_iald (pc := 20) h hv2 lm_10 dX5_copies_20 ?_
      obtain ⟨M3, hM3, hF⟩ := bd hF
      refine R_iast (pc := 21) h hM3 lm_11 dX5_copies_21 ?_
      obtain ⟨v4, hv4, hF⟩ := nm_e2 hF
      refine R_iinc (pc := 22) (lv' := [(5, .int v4), (0, .ref (ad 10)), (1, .int x1), (2, .ref (ad 11)), (3, .int x3), (4, .int x4)]) h 5 rfl (by decide) hv4 (by decide) rfl dX5_copies_22 ?_
      refine R_goto (pc := 25) (tgt := 3) h dX5_copies_25 (by decide) ?_
      exact Wp_sub (nX := 0) (lv' := [(0, .ref (ad 10)), (1, .int x1), (2, .ref (ad 11)), (3, .int x3), (4, .int x4), (5, .int v4)]) [1, 2, 3, 4, 5, 0] rfl (ih _ _ _ _ _ hF)
theorem w5_copies_10_11_3 {ad : Nat → Nat} {X : XX} {R : Mem} {fu : Nat}  (h : Cx layM ad X cX5_copies RX5 6 1 none (R) none)  {f : Nat} {x1 : Int32} {x3 : Int32} {x4 : Int32} {x5 : Int32} {M : Mem} (hF : f5_copies_10_11_3 fu f x1 x3 x4 x5 M = some R) : Wp layM ad X M 3 [(0, .ref (ad 10)), (1, .int x1), (2, .ref (ad 11)), (3, .int x3), (4, .int x4), (5, .int x5)] [] := w5_copies_10_11i_3 h  f _ _ _ _ _ hF
def f5_copies_10_11 (fu : Nat) (x1 : Int32) (x3 : Int32) (x4 : Int32) (M : Mem) : Option (Mem) :=
    (f5_copies_10_11_3 fu fu x1 x3 x4 (0 : Int32) M)
set_option maxHeartbeats 4000000 in
set_option maxRecDepth 10000 in
theorem w5_copies_10_11 {ad : Nat → Nat} {X : XX} {R : Mem} {fu : Nat} (h : Cx layM ad X cX5_copies RX5 6 1 none (R) none) {x1 : Int32} {x3 : Int32} {x4 : Int32} {M : Mem} (hF : f5_copies_10_11 fu x1 x3 x4 M = some R) : Wp layM ad X M 0 [(0, .ref (ad 10)), (1, .int x1), (2, .ref (ad 11)), (3, .int x3), (4, .int x4)] [] := by
  unfold f5_copies_10_11 at hF
  refine R_iconst (pc := 0) (v := 0) h (by decide) dX5_copies_0 ?_
  refine R_istore (pc := 1) (lv' := [(5, .int (0 : Int32)), (0, .ref (ad 10)), (1, .int x1), (2, .ref (ad 11)), (3, .int x3), (4, .int x4)]) h rfl (by decide) rfl dX5_copies_1 ?_
  exact Wp_sub (nX := 0) (lv' := [(0, .ref (ad 10)), (1, .int x1), (2, .ref (ad 11)), (3, .int x3), (4, .int x4), (5, .int (0 : Int32))]) [1, 2, 3, 4, 5, 0] rfl (w5_copies_10_11_3 h  (hF := hF))
theorem c5_copies_10_11 {ad : Nat → Nat} {z : ZZ} {R : Mem} {fu : Nat} {x1 : Int32} {x3 : Int32} {x4 : Int32} {M : Mem} (hF : f5_copies_10_11 fu x1 x3 x4 M = some R) : Con layM ad z yX5_copies cX5_copies 6 none 1 M [.ref (ad 10), .int x1, .ref (ad 11), .int x3, .int x4] (R) none := con_of (own := RX5) (lv := [(0, .ref (ad 10)), (1, .int x1), (2, .ref (ad 11)), (3, .int x3), (4, .int x4)]) (by decide +kernel) rfl (Nat.le_of_ble_eq_true rfl) rfl (fun X hz h => w5_copies_10_11 h hF)
def f5_remember (fu : Nat) (M : Mem) : Option (Mem) :=
    (f5_copies_10_11 fu (0 : Int32) ((9 : Int32) * (M.1 0 16)) (9 : Int32) M).bind fun M2 =>
    nm (sI M2 0 16 ((M2.1 0 16) + (1 : Int32))) fun M3 =>
    (some M3)
set_option maxHeartbeats 4000000 in
set_option maxRecDepth 10000 in
theorem w5_remember {ad : Nat → Nat} {X : XX} {R : Mem} {fu : Nat} (h : Cx layM ad X cX5_remember RX5 1 2 none (R) none) {M : Mem} (hF : f5_remember fu M = some R) : Wp layM ad X M 0 [(0, .ref (ad 0))] [] := by
  unfold f5_remember at hF
  refine R_aload_n (pc := 0) h 0 rfl rfl dX5_remember_0 ?_
  refine R_getR (pc := 1) (q1 := 10) h flX5_41 lm_0 rfl dX5_remember_1 ?_
  refine R_iconst (pc := 4) (v := 0) h (by decide) dX5_remember_4 ?_
  refine R_aload_n (pc := 5) h 0 rfl rfl dX5_remember_5 ?_
  refine R_getR (pc := 6) (q1 := 11) h flX5_44 lm_0 rfl dX5_remember_6 ?_
  refine R_bipush (pc := 9) (v := 9) h (by decide) dX5_remember_9 ?_
  refine R_aload_n (pc := 11) h 0 rfl rfl dX5_remember_11 ?_
  refine R_getI (pc := 12) h flX5_91 lm_0 rfl dX5_remember_12 ?_
  refine R_imul (pc := 15) h dX5_remember_15 ?_
  refine R_bipush (pc := 16) (v := 9) h (by decide) dX5_remember_16 ?_
  obtain ⟨M2, hc1, hF⟩ := bd hF
  refine R_callS (pc := 18) (st := []) h [.ref (ad 10), .int (0 : Int32), .ref (ad 11), .int ((9 : Int32) * (M.1 0 16)), .int (9 : Int32)] csX5_163 (c5_copies_10_11 (ad := ad) (z := X.1) hc1) rfl rfl (by decide) (by decide) (Nat.le_of_ble_eq_true rfl) dX5_remember_18 (st1 := []) rfl ?_
  refine R_aload_n (pc := 21) h 0 rfl rfl dX5_remember_21 ?_
  refine R_dup (pc := 22) h rfl dX5_remember_22 ?_
  refine R_getI (pc := 23) h flX5_91 lm_0 rfl dX5_remember_23 ?_
  refine R_iconst (pc := 26) (v := 1) h (by decide) dX5_remember_26 ?_
  refine R_iadd (pc := 27) h dX5_remember_27 ?_
  obtain ⟨M3, hM3, hF⟩ := nm_e2 hF
  refine R_putI (pc := 28) h hM3 fpX5_91 lm_0 rfl dX5_remember_28 ?_
  cases hF
  exact R_return (pc := 31) h rfl rfl rfl dX5_remember_31
theorem c5_remember {ad : Nat → Nat} {z : ZZ} {R : Mem} {fu : Nat} {M : Mem} (hF : f5_remember fu M = some R) : Con layM ad z yX5_remember cX5_remember 1 none 2 M [.ref (ad 0)] (R) none := con_of (own := RX5) (lv := [(0, .ref (ad 0))]) (by decide +kernel) rfl (Nat.le_of_ble_eq_true rfl) rfl (fun X hz h => w5_remember h hF)
def f5_step_12 (fu : Nat) (x1 : Int32) (M : Mem) : Option (Mem × Int32) :=
    if (M.1 0 9) = 0 then ((some (M, (-4 : Int32))))
    else ((rd M 10 9 (0 : Int32)).bind fun v2 =>
    (f5_in (v2 + x1).toInt64 (0 : Int64) (9 : Int64)).bind fun r4 =>
    if r4 = 0 then ((some (M, (-4 : Int32))))
    else (if (M.1 0 16) = (40 : Int32) then ((some (M, (-2 : Int32))))
    else ((f5_remember fu M).bind fun M8 =>
    (rd M8 10 9 (0 : Int32)).bind fun v9 =>
    (wr M8 10 9 (0 : Int32) (v9 + x1)).bind fun M10 =>
    (rd M10 10 9 (0 : Int32)).bind fun v11 =>
    (some (M10, v11)))))
set_option maxHeartbeats 4000000 in
set_option maxRecDepth 10000 in
theorem w5_step_12 {ad : Nat → Nat} {X : XX} {R : Mem × Int32} {fu : Nat}  (h : Cx layM ad X cX5_step RX5 2 3 (some .int) (R.1) (some (.int R.2)))  {x1 : Int32} {M : Mem} (hF : f5_step_12 fu x1 M = some R) : Wp layM ad X M 12 [(0, .ref (ad 0)), (1, .int x1)] [] := by
  unfold f5_step_12 at hF
  refine R_aload_n (pc := 12) h 0 rfl rfl dX5_step_12 ?_
  refine R_getI (pc := 13) h flX5_130 lm_0 rfl dX5_step_13 ?_
  refine R_if_eq (pc := 16) (tgt := 38) h dX5_step_16 (by decide) (fun c1 => ?_) (fun c1 => ?_)
  · have hF := itp c1 hF
    refine R_bipush (pc := 38) (v := (-4)) h (by decide) dX5_step_38 ?_
    cases hF
    exact R_ireturn (pc := 40) h rfl rfl rfl dX5_step_40
  · have hF := ifn c1 hF
    refine R_aload_n (pc := 19) h 0 rfl rfl dX5_step_19 ?_
    refine R_getR (pc := 20) (q1 := 10) h flX5_41 lm_0 rfl dX5_step_20 ?_
    refine R_iconst (pc := 23) (v := 0) h (by decide) dX5_step_23 ?_
    obtain ⟨v2, hv2, hF⟩ := bd hF
    refine R_iald (pc := 24) h hv2 lm_10 dX5_step_24 ?_
    refine R_iload_n (pc := 25) h 1 rfl rfl dX5_step_25 ?_
    refine R_iadd (pc := 26) h dX5_step_26 ?_
    refine R_i2l (pc := 27) h dX5_step_27 ?_
    refine R_lconst (pc := 28) (v := 0) h (by decide) dX5_step_28 ?_
    refine R_ldc2 (pc := 29) h klX5_161 dX5_step_29 ?_
    obtain ⟨r4, hc3, hF⟩ := bd hF
    refine R_callS (pc := 32) (st := []) h [.long (v2 + x1).toInt64, .long (0 : Int64), .long (9 : Int64)] csX5_71 (c5_in (ad := ad) (z := X.1) (M := M) hc3) rfl rfl (by decide) (by decide) (Nat.le_of_ble_eq_true rfl) dX5_step_32 (st1 := [.int r4]) rfl ?_
    refine R_if_ne (pc := 35) (tgt := 41) h dX5_step_35 (by decide) (fun c5 => ?_) (fun c5 => ?_)
    · have hF := ifn c5 hF
      refine R_aload_n (pc := 41) h 0 rfl rfl dX5_step_41 ?_
      refine R_getI (pc := 42) h flX5_91 lm_0 rfl dX5_step_42 ?_
      refine R_bipush (pc := 45) (v := 40) h (by decide) dX5_step_45 ?_
      refine R_icmp_ne (pc := 47) (tgt := 53) h dX5_step_47 (by decide) (fun c6 => ?_) (fun c6 => ?_)
      · have hF := ifn c6 hF
        refine R_aload_n (pc := 53) h 0 rfl rfl dX5_step_53 ?_
        obtain ⟨M8, hc7, hF⟩ := bd hF
        refine R_callV (pc := 54) (st := []) h [] cvX5_167 (c5_remember (ad := ad) (z := X.1) hc7) rfl rfl lm_0 (by decide) (by decide) (Nat.le_of_ble_eq_true rfl) dX5_step_54 (st1 := []) rfl ?_
        refine R_aload_n (pc := 57) h 0 rfl rfl dX5_step_57 ?_
        refine R_getR (pc := 58) (q1 := 10) h flX5_41 lm_0 rfl dX5_step_58 ?_
        refine R_iconst (pc := 61) (v := 0) h (by decide) dX5_step_61 ?_
        refine R_dup2 (pc := 62) h rfl rfl dX5_step_62 ?_
        obtain ⟨v9, hv9, hF⟩ := bd hF
        refine R_iald (pc := 63) h hv9 lm_10 dX5_step_63 ?_
        refine R_iload_n (pc := 64) h 1 rfl rfl dX5_step_64 ?_
        refine R_iadd (pc := 65) h dX5_step_65 ?_
        obtain ⟨M10, hM10, hF⟩ := bd hF
        refine R_iast (pc := 66) h hM10 lm_10 dX5_step_66 ?_
        refine R_aload_n (pc := 67) h 0 rfl rfl dX5_step_67 ?_
        refine R_getR (pc := 68) (q1 := 10) h flX5_41 lm_0 rfl dX5_step_68 ?_
        refine R_iconst (pc := 71) (v := 0) h (by decide) dX5_step_71 ?_
        obtain ⟨v11, hv11, hF⟩ := bd hF
        refine R_iald (pc := 72) h hv11 lm_10 dX5_step_72 ?_
        cases hF
        exact R_ireturn (pc := 73) h rfl rfl rfl dX5_step_73
      · have hF := itp c6 hF
        refine R_bipush (pc := 50) (v := (-2)) h (by decide) dX5_step_50 ?_
        cases hF
        exact R_ireturn (pc := 52) h rfl rfl rfl dX5_step_52
    · have hF := itp c5 hF
      refine R_bipush (pc := 38) (v := (-4)) h (by decide) dX5_step_38 ?_
      cases hF
      exact R_ireturn (pc := 40) h rfl rfl rfl dX5_step_40
def f5_step (fu : Nat) (x1 : Int32) (M : Mem) : Option (Mem × Int32) :=
    if x1 = (1 : Int32) then ((f5_step_12 fu x1 M))
    else (if x1 = (-1 : Int32) then ((f5_step_12 fu x1 M))
    else ((some (M, (-1 : Int32)))))
set_option maxHeartbeats 4000000 in
set_option maxRecDepth 10000 in
theorem w5_step {ad : Nat → Nat} {X : XX} {R : Mem × Int32} {fu : Nat} (h : Cx layM ad X cX5_step RX5 2 3 (some .int) (R.1) (some (.int R.2))) {x1 : Int32} {M : Mem} (hF : f5_step fu x1 M = some R) : Wp layM ad X M 0 [(0, .ref (ad 0)), (1, .int x1)] [] := by
  unfold f5_step at hF
  refine R_iload_n (pc := 0) h 1 rfl rfl dX5_step_0 ?_
  refine R_iconst (pc := 1) (v := 1) h (by decide) dX5_step_1 ?_
  refine R_icmp_eq (pc := 2) (tgt := 12) h dX5_step_2 (by decide) (fun c1 => ?_) (fun c1 => ?_)
  · have hF := itp c1 hF
    exact Wp_sub (nX := 0) (lv' := [(0, .ref (ad 0)), (1, .int x1)]) [0, 1] rfl (w5_step_12 h  (hF := hF))
  · have hF := ifn c1 hF
    refine R_iload_n (pc := 5) h 1 rfl rfl dX5_step_5 ?_
    refine R_iconst (pc := 6) (v := (-1)) h (by decide) dX5_step_6 ?_
    refine R_icmp_eq (pc := 7) (tgt := 12) h dX5_step_7 (by decide) (fun c2 => ?_) (fun c2 => ?_)
    · have hF := itp c2 hF
      exact Wp_sub (nX := 0) (lv' := [(0, .ref (ad 0)), (1, .int x1)]) [0, 1] rfl (w5_step_12 h  (hF := hF))
    · have hF := ifn c2 hF
      refine R_iconst (pc := 10) (v := (-1)) h (by decide) dX5_step_10 ?_
      cases hF
      exact R_ireturn (pc := 11) h rfl rfl rfl dX5_step_11
theorem c5_step {ad : Nat → Nat} {z : ZZ} {R : Mem × Int32} {fu : Nat} {x1 : Int32} {M : Mem} (hF : f5_step fu x1 M = some R) : Con layM ad z yX5_step cX5_step 2 (some .int) 3 M [.ref (ad 0), .int x1] (R.1) (some (.int R.2)) := con_of (own := RX5) (lv := [(0, .ref (ad 0)), (1, .int x1)]) (by decide +kernel) rfl (Nat.le_of_ble_eq_true rfl) rfl (fun X hz h => w5_step h hF)
def f5_those_4 (M : Mem) (fu : Nat) : Nat → Int32 → Int32 → Int32 → Option (Int32)
  | 0 => fun _ _ _ => none
  | f + 1 => fun x1 x2 x3 =>
    if (M.1 0 9) ≤ x3 then ((some x2))
    else (if x1 = (-9 : Int32) then ((f5_lies M x3).bind fun r4 =>
    if r4 = 0 then (nm (x2 ||| (0 : Int32)) fun v6 =>
    nm (x3 + (1 : Int32)) fun v7 =>
    ((f5_those_4 M fu f) x1 v6 v7))
    else (nm (x2 ||| ((1 : Int32) <<< (x3 &&& 31))) fun v8 =>
    nm (x3 + (1 : Int32)) fun v9 =>
    ((f5_those_4 M fu f) x1 v8 v9)))
    else ((rd M 10 9 ((1 : Int32) + x3)).bind fun v10 =>
    if v10 = x1 then (nm (x2 ||| ((1 : Int32) <<< (x3 &&& 31))) fun v12 =>
    nm (x3 + (1 : Int32)) fun v13 =>
    ((f5_those_4 M fu f) x1 v12 v13))
    else (nm (x2 ||| (0 : Int32)) fun v14 =>
    nm (x3 + (1 : Int32)) fun v15 =>
    ((f5_those_4 M fu f) x1 v14 v15))))
set_option maxHeartbeats 4000000 in
set_option maxRecDepth 10000 in
theorem w5_thosei_4 {ad : Nat → Nat} {X : XX} {R : Int32} {M : Mem} {fu : Nat}  (h : Cx layM ad X cX5_those RX5 4 2 (some .int) M (some (.int R)))  : ∀ (f : Nat) (x1 : Int32) (x2 : Int32) (x3 : Int32), f5_those_4 M fu f x1 x2 x3 = some R → Wp layM ad X M 4 [(0, .ref (ad 0)), (1, .int x1), (2, .int x2), (3, .int x3)] [] := by
  intro f
  induction f with
  | zero => intro x1 x2 x3 hF; exact absurd hF (by simp [f5_those_4])
  | succ f ih =>
    intro x1 x2 x3 hF
    rw [f5_those_4] at hF
    refine R_iload_n (pc := 4) h 3 rfl rfl dX5_those_4 ?_
    refine R_aload_n (pc := 5) h 0 rfl rfl dX5_those_5 ?_
    refine R_getI (pc := 6) h flX5_130 lm_0 rfl dX5_those_6 ?_
    refine R_icmp_ge (pc := 9) (tgt := 64) h dX5_those_9 (by decide) (fun c1 => ?_) (fun c1 => ?_)
    · have hF := itp c1 hF
      refine R_iload_n (pc := 64) h 2 rfl rfl dX5_those_64 ?_
      cases hF
      exact R_ireturn (pc := 65) h rfl rfl rfl dX5_those_65
    · have hF := ifn c1 hF
      refine R_iload_n (pc := 12) h 2 rfl rfl dX5_those_12 ?_
      refine R_iload_n (pc := 13) h 1 rfl rfl dX5_those_13 ?_
      refine R_bipush (pc := 14) (v := (-9)) h (by decide) dX5_those_14 ?_
      refine R_icmp_ne (pc := 16) (tgt := 37) h dX5_those_16 (by decide) (fun c2 => ?_) (fun c2 => ?_)
      · have hF := ifn c2 hF
        refine R_aload_n (pc := 37) h 0 rfl rfl dX5_those_37 ?_
        refine R_getR (pc := 38) (q1 := 10) h flX5_41 lm_0 rfl dX5_those_38 ?_
        refine R_iconst (pc := 41) (v := 1) h (by decide) dX5_those_41 ?_
        refine R_iload_n (pc := 42) h 3 rfl rfl dX5_those_42 ?_
        refine R_iadd (pc := 43) h dX5_those_43 ?_
        obtain ⟨v10, hv10, hF⟩ := bd hF
        refine R_iald (pc := 44) h hv10 lm_10 dX5_those_44 ?_
        refine R_iload_n (pc := 45) h 1 rfl rfl dX5_those_45 ?_
        refine R_icmp_ne (pc := 46) (tgt := 55) h dX5_those_46 (by decide) (fun c11 => ?_) (fun c11 => ?_)
        · have hF := ifn c11 hF
          refine R_iconst (pc := 55) (v := 0) h (by decide) dX5_those_55 ?_
          refine R_ior (pc := 56) h dX5_those_56 ?_
          obtain ⟨v14, hv14, hF⟩ := nm_e2 hF
          refine R_istore_n (pc := 57) (lv' := [(2, .int v14), (0, .ref (ad 0)), (1, .int x1), (3, .int x3)]) h hv14 rfl (by decide) rfl dX5_those_57 ?_
          obtain ⟨v15, hv15, hF⟩ := nm_e2 hF
          refine R_iinc (pc := 58) (lv' := [(3, .int v15), (2, .int v14), (0, .ref (ad 0)), (1, .int x1)]) h 3 rfl (by decide) hv15 (by decide) rfl dX5_those_58 ?_
          refine R_goto (pc := 61) (tgt := 4) h dX5_those_61 (by decide) ?_
          exact Wp_sub (nX := 0) (lv' := [(0, .ref (ad 0)), (1, .int x1), (2, .int v14), (3, .int v15)]) [2, 3, 1, 0] rfl (ih _ _ _ hF)
        · have hF := itp c11 hF
          refine R_iconst (pc := 49) (v := 1) h (by decide) dX5_those_49 ?_
          refine R_iload_n (pc := 50) h 3 rfl rfl dX5_those_50 ?_
          refine R_ishl (pc := 51) h dX5_those_51 ?_
          refine R_goto (pc := 52) (tgt := 56) h dX5_those_52 (by decide) ?_
          refine R_ior (pc := 56) h dX5_those_56 ?_
          obtain ⟨v12, hv12, hF⟩ := nm_e2 hF
          refine R_istore_n (pc := 57) (lv' := [(2, .int v12), (0, .ref (ad 0)), (1, .int x1), (3, .int x3)]) h hv12 rfl (by decide) rfl dX5_those_57 ?_
          obtain ⟨v13, hv13, hF⟩ := nm_e2 hF
          refine R_iinc (pc := 58) (lv' := [(3, .int v13), (2, .int v12), (0, .ref (ad 0)), (1, .int x1)]) h 3 rfl (by decide) hv13 (by decide) rfl dX5_those_58 ?_
          refine R_goto (pc := 61) (tgt := 4) h dX5_those_61 (by decide) ?_
          exact Wp_sub (nX := 0) (lv' := [(0, .ref (ad 0)), (1, .int x1), (2, .int v12), (3, .int v13)]) [2, 3, 1, 0] rfl (ih _ _ _ hF)
      · have hF := itp c2 hF
        refine R_aload_n (pc := 19) h 0 rfl rfl dX5_those_19 ?_
        refine R_iload_n (pc := 20) h 3 rfl rfl dX5_those_20 ?_
        obtain ⟨r4, hc3, hF⟩ := bd hF
        refine R_callV (pc := 21) (st := [.int x2]) h [.int x3] cvX5_133 (c5_lies (ad := ad) (z := X.1) hc3) rfl rfl lm_0 (by decide) (by decide) (Nat.le_of_ble_eq_true rfl) dX5_those_21 (st1 := [.int r4, .int x2]) rfl ?_
        refine R_if_eq (pc := 24) (tgt := 33) h dX5_those_24 (by decide) (fun c5 => ?_) (fun c5 => ?_)
        · have hF := itp c5 hF
          refine R_iconst (pc := 33) (v := 0) h (by decide) dX5_those_33 ?_
          refine R_goto (pc := 34) (tgt := 56) h dX5_those_34 (by decide) ?_
          refine R_ior (pc := 56) h dX5_those_56 ?_
          obtain ⟨v6, hv6, hF⟩ := nm_e2 hF
          refine R_istore_n (pc := 57) (lv' := [(2, .int v6), (0, .ref (ad 0)), (1, .int x1), (3, .int x3)]) h hv6 rfl (by decide) rfl dX5_those_57 ?_
          obtain ⟨v7, hv7, hF⟩ := nm_e2 hF
          refine R_iinc (pc := 58) (lv' := [(3, .int v7), (2, .int v6), (0, .ref (ad 0)), (1, .int x1)]) h 3 rfl (by decide) hv7 (by decide) rfl dX5_those_58 ?_
          refine R_goto (pc := 61) (tgt := 4) h dX5_those_61 (by decide) ?_
          exact Wp_sub (nX := 0) (lv' := [(0, .ref (ad 0)), (1, .int x1), (2, .int v6), (3, .int v7)]) [2, 3, 1, 0] rfl (ih _ _ _ hF)
        · have hF := ifn c5 hF
          refine R_iconst (pc := 27) (v := 1) h (by decide) dX5_those_27 ?_
          refine R_iload_n (pc := 28) h 3 rfl rfl dX5_those_28 ?_
          refine R_ishl (pc := 29) h dX5_those_29 ?_
          refine R_goto (pc := 30) (tgt := 56) h dX5_those_30 (by decide) ?_
          refine R_ior (pc := 56) h dX5_those_56 ?_
          obtain ⟨v8, hv8, hF⟩ := nm_e2 hF
          refine R_istore_n (pc := 57) (lv' := [(2, .int v8), (0, .ref (ad 0)), (1, .int x1), (3, .int x3)]) h hv8 rfl (by decide) rfl dX5_those_57 ?_
          obtain ⟨v9, hv9, hF⟩ := nm_e2 hF
          refine R_iinc (pc := 58) (lv' := [(3, .int v9), (2, .int v8), (0, .ref (ad 0)), (1, .int x1)]) h 3 rfl (by decide) hv9 (by decide) rfl dX5_those_58 ?_
          refine R_goto (pc := 61) (tgt := 4) h dX5_those_61 (by decide) ?_
          exact Wp_sub (nX := 0) (lv' := [(0, .ref (ad 0)), (1, .int x1), (2, .int v8), (3, .int v9)]) [2, 3, 1, 0] rfl (ih _ _ _ hF)
theorem w5_those_4 {ad : Nat → Nat} {X : XX} {R : Int32} {M : Mem} {fu : Nat}  (h : Cx layM ad X cX5_those RX5 4 2 (some .int) M (some (.int R)))  {f : Nat} {x1 : Int32} {x2 : Int32} {x3 : Int32} (hF : f5_those_4 M fu f x1 x2 x3 = some R) : Wp layM ad X M 4 [(0, .ref (ad 0)), (1, .int x1), (2, .int x2), (3, .int x3)] [] := w5_thosei_4 h  f _ _ _ hF
def f5_those (M : Mem) (fu : Nat) (x1 : Int32) : Option (Int32) :=
    (f5_those_4 M fu fu x1 (0 : Int32) (0 : Int32))
set_option maxHeartbeats 4000000 in
set_option maxRecDepth 10000 in
theorem w5_those {ad : Nat → Nat} {X : XX} {R : Int32} {M : Mem} {fu : Nat} (h : Cx layM ad X cX5_those RX5 4 2 (some .int) M (some (.int R))) {x1 : Int32} (hF : f5_those M fu x1 = some R) : Wp layM ad X M 0 [(0, .ref (ad 0)), (1, .int x1)] [] := by
  unfold f5_those at hF
  refine R_iconst (pc := 0) (v := 0) h (by decide) dX5_those_0 ?_
  refine R_istore_n (pc := 1) (lv' := [(2, .int (0 : Int32)), (0, .ref (ad 0)), (1, .int x1)]) h rfl rfl (by decide) rfl dX5_those_1 ?_
  refine R_iconst (pc := 2) (v := 0) h (by decide) dX5_those_2 ?_
  refine R_istore_n (pc := 3) (lv' := [(3, .int (0 : Int32)), (2, .int (0 : Int32)), (0, .ref (ad 0)), (1, .int x1)]) h rfl rfl (by decide) rfl dX5_those_3 ?_
  exact Wp_sub (nX := 0) (lv' := [(0, .ref (ad 0)), (1, .int x1), (2, .int (0 : Int32)), (3, .int (0 : Int32))]) [2, 3, 1, 0] rfl (w5_those_4 h  (hF := hF))
theorem c5_those {ad : Nat → Nat} {z : ZZ} {R : Int32} {M : Mem} {fu : Nat} {x1 : Int32} (hF : f5_those M fu x1 = some R) : Con layM ad z yX5_those cX5_those 4 (some .int) 2 M [.ref (ad 0), .int x1] (M) (some (.int R)) := con_of (own := RX5) (lv := [(0, .ref (ad 0)), (1, .int x1)]) (by decide +kernel) rfl (Nat.le_of_ble_eq_true rfl) rfl (fun X hz h => w5_those h hF)
def f5_bits_4 (fu : Nat) : Nat → Int32 → Int32 → Option (Int32)
  | 0 => fun _ _ => none
  | f + 1 => fun x1 x2 =>
    if x2 = 0 then ((some x1))
    else (nm (x1 + (1 : Int32)) fun v2 =>
    nm (x2 &&& (x2 - (1 : Int32))) fun v3 =>
    ((f5_bits_4 fu f) v2 v3))
set_option maxHeartbeats 4000000 in
set_option maxRecDepth 10000 in
theorem w5_bitsi_4 {ad : Nat → Nat} {X : XX} {R : Int32} {M : Mem} {fu : Nat}  (h : Cx layM ad X cX5_bits RX5 3 1 (some .int) M (some (.int R)))  : ∀ (f : Nat) (x1 : Int32) (x2 : Int32), f5_bits_4 fu f x1 x2 = some R → Wp layM ad X M 4 [(1, .int x1), (2, .int x2)] [] := by
  intro f
  induction f with
  | zero => intro x1 x2 hF; exact absurd hF (by simp [f5_bits_4])
  | succ f ih =>
    intro x1 x2 hF
    rw [f5_bits_4] at hF
    refine R_iload_n (pc := 4) h 1 rfl rfl dX5_bits_4 ?_
    refine R_if_eq (pc := 5) (tgt := 20) h dX5_bits_5 (by decide) (fun c1 => ?_) (fun c1 => ?_)
    · have hF := itp c1 hF
      refine R_iload_n (pc := 20) h 0 rfl rfl dX5_bits_20 ?_
      cases hF
      exact R_ireturn (pc := 21) h rfl rfl rfl dX5_bits_21
    · have hF := ifn c1 hF
      obtain ⟨v2, hv2, hF⟩ := nm_e2 hF
      refine R_iinc (pc := 8) (lv' := [(1, .int v2), (2, .int x2)]) h 0 rfl (by decide) hv2 (by decide) rfl dX5_bits_8 ?_
      refine R_iload_n (pc := 11) h 1 rfl rfl dX5_bits_11 ?_
      refine R_iload_n (pc := 12) h 1 rfl rfl dX5_bits_12 ?_
      refine R_iconst (pc := 13) (v := 1) h (by decide) dX5_bits_13 ?_
      refine R_isub (pc := 14) h dX5_bits_14 ?_
      refine R_iand (pc := 15) h dX5_bits_15 ?_
      obtain ⟨v3, hv3, hF⟩ := nm_e2 hF
      refine R_istore_n (pc := 16) (lv' := [(2, .int v3), (1, .int v2)]) h hv3 rfl (by decide) rfl dX5_bits_16 ?_
      refine R_goto (pc := 17) (tgt := 4) h dX5_bits_17 (by decide) ?_
      exact Wp_sub (nX := 0) (lv' := [(1, .int v2), (2, .int v3)]) [1, 0] rfl (ih _ _ hF)
theorem w5_bits_4 {ad : Nat → Nat} {X : XX} {R : Int32} {M : Mem} {fu : Nat}  (h : Cx layM ad X cX5_bits RX5 3 1 (some .int) M (some (.int R)))  {f : Nat} {x1 : Int32} {x2 : Int32} (hF : f5_bits_4 fu f x1 x2 = some R) : Wp layM ad X M 4 [(1, .int x1), (2, .int x2)] [] := w5_bitsi_4 h  f _ _ hF
def f5_bits (fu : Nat) (x0 : Int32) : Option (Int32) :=
    (f5_bits_4 fu fu (0 : Int32) x0)
set_option maxHeartbeats 4000000 in
set_option maxRecDepth 10000 in
theorem w5_bits {ad : Nat → Nat} {X : XX} {R : Int32} {M : Mem} {fu : Nat} (h : Cx layM ad X cX5_bits RX5 3 1 (some .int) M (some (.int R))) {x0 : Int32} (hF : f5_bits fu x0 = some R) : Wp layM ad X M 0 [(0, .int x0)] [] := by
  unfold f5_bits at hF
  refine R_iconst (pc := 0) (v := 0) h (by decide) dX5_bits_0 ?_
  refine R_istore_n (pc := 1) (lv' := [(1, .int (0 : Int32)), (0, .int x0)]) h rfl rfl (by decide) rfl dX5_bits_1 ?_
  refine R_iload_n (pc := 2) h 1 rfl rfl dX5_bits_2 ?_
  refine R_istore_n (pc := 3) (lv' := [(2, .int x0), (1, .int (0 : Int32)), (0, .int x0)]) h rfl rfl (by decide) rfl dX5_bits_3 ?_
  exact Wp_sub (nX := 0) (lv' := [(1, .int (0 : Int32)), (2, .int x0)]) [1, 0] rfl (w5_bits_4 h  (hF := hF))
theorem c5_bits {ad : Nat → Nat} {z : ZZ} {R : Int32} {M : Mem} {fu : Nat} {x0 : Int32} (hF : f5_bits fu x0 = some R) : Con layM ad z yX5_bits cX5_bits 3 (some .int) 1 M [.int x0] (M) (some (.int R)) := con_of (own := RX5) (lv := [(0, .int x0)]) (by decide +kernel) rfl (Nat.le_of_ble_eq_true rfl) rfl (fun X hz h => w5_bits h hF)
def f5_pick (fu : Nat) (x1 : Int32) (M : Mem) : Option (Mem × Int32) :=
    (f5_isPin M x1).bind fun r2 =>
    if r2 = 0 then ((some (M, (-1 : Int32))))
    else ((rd M 10 9 ((1 : Int32) + x1)).bind fun v4 =>
    (rd M 10 9 (0 : Int32)).bind fun v5 =>
    if v4 = v5 then (if (M.1 0 16) = (40 : Int32) then ((some (M, (-2 : Int32))))
    else ((f5_remember fu M).bind fun M9 =>
    (wr M9 10 9 ((1 : Int32) + x1) (-1 : Int32)).bind fun M10 =>
    (f5_those M10 fu (-1 : Int32)).bind fun r12 =>
    (f5_bits fu r12).bind fun r14 =>
    (some (M10, r14))))
    else ((some (M, (-4 : Int32)))))
set_option maxHeartbeats 4000000 in
set_option maxRecDepth 10000 in
theorem w5_pick {ad : Nat → Nat} {X : XX} {R : Mem × Int32} {fu : Nat} (h : Cx layM ad X cX5_pick RX5 2 3 (some .int) (R.1) (some (.int R.2))) {x1 : Int32} {M : Mem} (hF : f5_pick fu x1 M = some R) : Wp layM ad X M 0 [(0, .ref (ad 0)), (1, .int x1)] [] := by
  unfold f5_pick at hF
  refine R_aload_n (pc := 0) h 0 rfl rfl dX5_pick_0 ?_
  refine R_iload_n (pc := 1) h 1 rfl rfl dX5_pick_1 ?_
  obtain ⟨r2, hc1, hF⟩ := bd hF
  refine R_callV (pc := 2) (st := []) h [.int x1] cvX5_153 (c5_isPin (ad := ad) (z := X.1) hc1) rfl rfl lm_0 (by decide) (by decide) (Nat.le_of_ble_eq_true rfl) dX5_pick_2 (st1 := [.int r2]) rfl ?_
  refine R_if_ne (pc := 5) (tgt := 10) h dX5_pick_5 (by decide) (fun c3 => ?_) (fun c3 => ?_)
  · have hF := ifn c3 hF
    refine R_aload_n (pc := 10) h 0 rfl rfl dX5_pick_10 ?_
    refine R_getR (pc := 11) (q1 := 10) h flX5_41 lm_0 rfl dX5_pick_11 ?_
    refine R_iconst (pc := 14) (v := 1) h (by decide) dX5_pick_14 ?_
    refine R_iload_n (pc := 15) h 1 rfl rfl dX5_pick_15 ?_
    refine R_iadd (pc := 16) h dX5_pick_16 ?_
    obtain ⟨v4, hv4, hF⟩ := bd hF
    refine R_iald (pc := 17) h hv4 lm_10 dX5_pick_17 ?_
    refine R_aload_n (pc := 18) h 0 rfl rfl dX5_pick_18 ?_
    refine R_getR (pc := 19) (q1 := 10) h flX5_41 lm_0 rfl dX5_pick_19 ?_
    refine R_iconst (pc := 22) (v := 0) h (by decide) dX5_pick_22 ?_
    obtain ⟨v5, hv5, hF⟩ := bd hF
    refine R_iald (pc := 23) h hv5 lm_10 dX5_pick_23 ?_
    refine R_icmp_eq (pc := 24) (tgt := 30) h dX5_pick_24 (by decide) (fun c6 => ?_) (fun c6 => ?_)
    · have hF := itp c6 hF
      refine R_aload_n (pc := 30) h 0 rfl rfl dX5_pick_30 ?_
      refine R_getI (pc := 31) h flX5_91 lm_0 rfl dX5_pick_31 ?_
      refine R_bipush (pc := 34) (v := 40) h (by decide) dX5_pick_34 ?_
      refine R_icmp_ne (pc := 36) (tgt := 42) h dX5_pick_36 (by decide) (fun c7 => ?_) (fun c7 => ?_)
      · have hF := ifn c7 hF
        refine R_aload_n (pc := 42) h 0 rfl rfl dX5_pick_42 ?_
        obtain ⟨M9, hc8, hF⟩ := bd hF
        refine R_callV (pc := 43) (st := []) h [] cvX5_167 (c5_remember (ad := ad) (z := X.1) hc8) rfl rfl lm_0 (by decide) (by decide) (Nat.le_of_ble_eq_true rfl) dX5_pick_43 (st1 := []) rfl ?_
        refine R_aload_n (pc := 46) h 0 rfl rfl dX5_pick_46 ?_
        refine R_getR (pc := 47) (q1 := 10) h flX5_41 lm_0 rfl dX5_pick_47 ?_
        refine R_iconst (pc := 50) (v := 1) h (by decide) dX5_pick_50 ?_
        refine R_iload_n (pc := 51) h 1 rfl rfl dX5_pick_51 ?_
        refine R_iadd (pc := 52) h dX5_pick_52 ?_
        refine R_iconst (pc := 53) (v := (-1)) h (by decide) dX5_pick_53 ?_
        obtain ⟨M10, hM10, hF⟩ := bd hF
        refine R_iast (pc := 54) h hM10 lm_10 dX5_pick_54 ?_
        refine R_aload_n (pc := 55) h 0 rfl rfl dX5_pick_55 ?_
        refine R_iconst (pc := 56) (v := (-1)) h (by decide) dX5_pick_56 ?_
        obtain ⟨r12, hc11, hF⟩ := bd hF
        refine R_callV (pc := 57) (st := []) h [.int (-1 : Int32)] cvX5_170 (c5_those (ad := ad) (z := X.1) hc11) rfl rfl lm_0 (by decide) (by decide) (Nat.le_of_ble_eq_true rfl) dX5_pick_57 (st1 := [.int r12]) rfl ?_
        obtain ⟨r14, hc13, hF⟩ := bd hF
        refine R_callS (pc := 60) (st := []) h [.int r12] csX5_173 (c5_bits (ad := ad) (z := X.1) (M := M10) hc13) rfl rfl (by decide) (by decide) (Nat.le_of_ble_eq_true rfl) dX5_pick_60 (st1 := [.int r14]) rfl ?_
        cases hF
        exact R_ireturn (pc := 63) h rfl rfl rfl dX5_pick_63
      · have hF := itp c7 hF
        refine R_bipush (pc := 39) (v := (-2)) h (by decide) dX5_pick_39 ?_
        cases hF
        exact R_ireturn (pc := 41) h rfl rfl rfl dX5_pick_41
    · have hF := ifn c6 hF
      refine R_bipush (pc := 27) (v := (-4)) h (by decide) dX5_pick_27 ?_
      cases hF
      exact R_ireturn (pc := 29) h rfl rfl rfl dX5_pick_29
  · have hF := itp c3 hF
    refine R_iconst (pc := 8) (v := (-1)) h (by decide) dX5_pick_8 ?_
    cases hF
    exact R_ireturn (pc := 9) h rfl rfl rfl dX5_pick_9
theorem c5_pick {ad : Nat → Nat} {z : ZZ} {R : Mem × Int32} {fu : Nat} {x1 : Int32} {M : Mem} (hF : f5_pick fu x1 M = some R) : Con layM ad z yX5_pick cX5_pick 2 (some .int) 3 M [.ref (ad 0), .int x1] (R.1) (some (.int R.2)) := con_of (own := RX5) (lv := [(0, .ref (ad 0)), (1, .int x1)]) (by decide +kernel) rfl (Nat.le_of_ble_eq_true rfl) rfl (fun X hz h => w5_pick h hF)
def f5_drop (fu : Nat) (x1 : Int32) (M : Mem) : Option (Mem × Int32) :=
    (f5_isPin M x1).bind fun r2 =>
    if r2 = 0 then ((some (M, (-1 : Int32))))
    else ((rd M 10 9 ((1 : Int32) + x1)).bind fun v4 =>
    if v4 = (-1 : Int32) then (if (M.1 0 16) = (40 : Int32) then ((some (M, (-2 : Int32))))
    else ((f5_remember fu M).bind fun M8 =>
    (rd M8 10 9 (0 : Int32)).bind fun v9 =>
    (wr M8 10 9 ((1 : Int32) + x1) v9).bind fun M10 =>
    (f5_those M10 fu (-1 : Int32)).bind fun r12 =>
    (f5_bits fu r12).bind fun r14 =>
    (some (M10, r14))))
    else ((some (M, (-4 : Int32)))))
set_option maxHeartbeats 4000000 in
set_option maxRecDepth 10000 in
theorem w5_drop {ad : Nat → Nat} {X : XX} {R : Mem × Int32} {fu : Nat} (h : Cx layM ad X cX5_drop RX5 2 3 (some .int) (R.1) (some (.int R.2))) {x1 : Int32} {M : Mem} (hF : f5_drop fu x1 M = some R) : Wp layM ad X M 0 [(0, .ref (ad 0)), (1, .int x1)] [] := by
  unfold f5_drop at hF
  refine R_aload_n (pc := 0) h 0 rfl rfl dX5_drop_0 ?_
  refine R_iload_n (pc := 1) h 1 rfl rfl dX5_drop_1 ?_
  obtain ⟨r2, hc1, hF⟩ := bd hF
  refine R_callV (pc := 2) (st := []) h [.int x1] cvX5_153 (c5_isPin (ad := ad) (z := X.1) hc1) rfl rfl lm_0 (by decide) (by decide) (Nat.le_of_ble_eq_true rfl) dX5_drop_2 (st1 := [.int r2]) rfl ?_
  refine R_if_ne (pc := 5) (tgt := 10) h dX5_drop_5 (by decide) (fun c3 => ?_) (fun c3 => ?_)
  · have hF := ifn c3 hF
    refine R_aload_n (pc := 10) h 0 rfl rfl dX5_drop_10 ?_
    refine R_getR (pc := 11) (q1 := 10) h flX5_41 lm_0 rfl dX5_drop_11 ?_
    refine R_iconst (pc := 14) (v := 1) h (by decide) dX5_drop_14 ?_
    refine R_iload_n (pc := 15) h 1 rfl rfl dX5_drop_15 ?_
    refine R_iadd (pc := 16) h dX5_drop_16 ?_
    obtain ⟨v4, hv4, hF⟩ := bd hF
    refine R_iald (pc := 17) h hv4 lm_10 dX5_drop_17 ?_
    refine R_iconst (pc := 18) (v := (-1)) h (by decide) dX5_drop_18 ?_
    refine R_icmp_eq (pc := 19) (tgt := 25) h dX5_drop_19 (by decide) (fun c5 => ?_) (fun c5 => ?_)
    · have hF := itp c5 hF
      refine R_aload_n (pc := 25) h 0 rfl rfl dX5_drop_25 ?_
      refine R_getI (pc := 26) h flX5_91 lm_0 rfl dX5_drop_26 ?_
      refine R_bipush (pc := 29) (v := 40) h (by decide) dX5_drop_29 ?_
      refine R_icmp_ne (pc := 31) (tgt := 37) h dX5_drop_31 (by decide) (fun c6 => ?_) (fun c6 => ?_)
      · have hF := ifn c6 hF
        refine R_aload_n (pc := 37) h 0 rfl rfl dX5_drop_37 ?_
        obtain ⟨M8, hc7, hF⟩ := bd hF
        refine R_callV (pc := 38) (st := []) h [] cvX5_167 (c5_remember (ad := ad) (z := X.1) hc7) rfl rfl lm_0 (by decide) (by decide) (Nat.le_of_ble_eq_true rfl) dX5_drop_38 (st1 := []) rfl ?_
        refine R_aload_n (pc := 41) h 0 rfl rfl dX5_drop_41 ?_
        refine R_getR (pc := 42) (q1 := 10) h flX5_41 lm_0 rfl dX5_drop_42 ?_
        refine R_iconst (pc := 45) (v := 1) h (by decide) dX5_drop_45 ?_
        refine R_iload_n (pc := 46) h 1 rfl rfl dX5_drop_46 ?_
        refine R_iadd (pc := 47) h dX5_drop_47 ?_
        refine R_aload_n (pc := 48) h 0 rfl rfl dX5_drop_48 ?_
        refine R_getR (pc := 49) (q1 := 10) h flX5_41 lm_0 rfl dX5_drop_49 ?_
        refine R_iconst (pc := 52) (v := 0) h (by decide) dX5_drop_52 ?_
        obtain ⟨v9, hv9, hF⟩ := bd hF
        refine R_iald (pc := 53) h hv9 lm_10 dX5_drop_53 ?_
        obtain ⟨M10, hM10, hF⟩ := bd hF
        refine R_iast (pc := 54) h hM10 lm_10 dX5_drop_54 ?_
        refine R_aload_n (pc := 55) h 0 rfl rfl dX5_drop_55 ?_
        refine R_iconst (pc := 56) (v := (-1)) h (by decide) dX5_drop_56 ?_
        obtain ⟨r12, hc11, hF⟩ := bd hF
        refine R_callV (pc := 57) (st := []) h [.int (-1 : Int32)] cvX5_170 (c5_those (ad := ad) (z := X.1) hc11) rfl rfl lm_0 (by decide) (by decide) (Nat.le_of_ble_eq_true rfl) dX5_drop_57 (st1 := [.int r12]) rfl ?_
        obtain ⟨r14, hc13, hF⟩ := bd hF
        refine R_callS (pc := 60) (st := []) h [.int r12] csX5_173 (c5_bits (ad := ad) (z := X.1) (M := M10) hc13) rfl rfl (by decide) (by decide) (Nat.le_of_ble_eq_true rfl) dX5_drop_60 (st1 := [.int r14]) rfl ?_
        cases hF
        exact R_ireturn (pc := 63) h rfl rfl rfl dX5_drop_63
      · have hF := itp c6 hF
        refine R_bipush (pc := 34) (v := (-2)) h (by decide) dX5_drop_34 ?_
        cases hF
        exact R_ireturn (pc := 36) h rfl rfl rfl dX5_drop_36
    · have hF := ifn c5 hF
      refine R_bipush (pc := 22) (v := (-4)) h (by decide) dX5_drop_22 ?_
      cases hF
      exact R_ireturn (pc := 24) h rfl rfl rfl dX5_drop_24
  · have hF := itp c3 hF
    refine R_iconst (pc := 8) (v := (-1)) h (by decide) dX5_drop_8 ?_
    cases hF
    exact R_ireturn (pc := 9) h rfl rfl rfl dX5_drop_9
theorem c5_drop {ad : Nat → Nat} {z : ZZ} {R : Mem × Int32} {fu : Nat} {x1 : Int32} {M : Mem} (hF : f5_drop fu x1 M = some R) : Con layM ad z yX5_drop cX5_drop 2 (some .int) 3 M [.ref (ad 0), .int x1] (R.1) (some (.int R.2)) := con_of (own := RX5) (lv := [(0, .ref (ad 0)), (1, .int x1)]) (by decide +kernel) rfl (Nat.le_of_ble_eq_true rfl) rfl (fun X hz h => w5_drop h hF)
def f5_refuses (M : Mem) (x1 : Int32) : Option (Int32) :=
    if (M.1 0 9) = 0 then ((some (-4 : Int32)))
    else (if ((M.1 0 16) + x1) ≤ (40 : Int32) then ((some (0 : Int32)))
    else ((some (-2 : Int32))))
set_option maxHeartbeats 4000000 in
set_option maxRecDepth 10000 in
theorem w5_refuses {ad : Nat → Nat} {X : XX} {R : Int32} {M : Mem} (h : Cx layM ad X cX5_refuses RX5 2 1 (some .int) M (some (.int R))) {x1 : Int32} (hF : f5_refuses M x1 = some R) : Wp layM ad X M 0 [(0, .ref (ad 0)), (1, .int x1)] [] := by
  unfold f5_refuses at hF
  refine R_aload_n (pc := 0) h 0 rfl rfl dX5_refuses_0 ?_
  refine R_getI (pc := 1) h flX5_130 lm_0 rfl dX5_refuses_1 ?_
  refine R_if_ne (pc := 4) (tgt := 12) h dX5_refuses_4 (by decide) (fun c1 => ?_) (fun c1 => ?_)
  · have hF := ifn c1 hF
    refine R_aload_n (pc := 12) h 0 rfl rfl dX5_refuses_12 ?_
    refine R_getI (pc := 13) h flX5_91 lm_0 rfl dX5_refuses_13 ?_
    refine R_iload_n (pc := 16) h 1 rfl rfl dX5_refuses_16 ?_
    refine R_iadd (pc := 17) h dX5_refuses_17 ?_
    refine R_bipush (pc := 18) (v := 40) h (by decide) dX5_refuses_18 ?_
    refine R_icmp_le (pc := 20) (tgt := 28) h dX5_refuses_20 (by decide) (fun c2 => ?_) (fun c2 => ?_)
    · have hF := itp c2 hF
      refine R_iconst (pc := 28) (v := 0) h (by decide) dX5_refuses_28 ?_
      cases hF
      exact R_ireturn (pc := 29) h rfl rfl rfl dX5_refuses_29
    · have hF := ifn c2 hF
      refine R_bipush (pc := 23) (v := (-2)) h (by decide) dX5_refuses_23 ?_
      refine R_goto (pc := 25) (tgt := 29) h dX5_refuses_25 (by decide) ?_
      cases hF
      exact R_ireturn (pc := 29) h rfl rfl rfl dX5_refuses_29
  · have hF := itp c1 hF
    refine R_bipush (pc := 7) (v := (-4)) h (by decide) dX5_refuses_7 ?_
    refine R_goto (pc := 9) (tgt := 29) h dX5_refuses_9 (by decide) ?_
    cases hF
    exact R_ireturn (pc := 29) h rfl rfl rfl dX5_refuses_29
theorem c5_refuses {ad : Nat → Nat} {z : ZZ} {R : Int32} {M : Mem} {x1 : Int32} (hF : f5_refuses M x1 = some R) : Con layM ad z yX5_refuses cX5_refuses 2 (some .int) 1 M [.ref (ad 0), .int x1] (M) (some (.int R)) := con_of (own := RX5) (lv := [(0, .ref (ad 0)), (1, .int x1)]) (by decide +kernel) rfl (Nat.le_of_ble_eq_true rfl) rfl (fun X hz h => w5_refuses h hF)
def f5_sweep_20 (fu : Nat) : Nat → Int32 → Int32 → Mem → Option (Mem × Int32)
  | 0 => fun _ _ _ => none
  | f + 1 => fun x2 x3 M =>
    if (M.1 0 9) ≤ x3 then ((some (M, x2)))
    else ((rd M 10 9 ((1 : Int32) + x3)).bind fun v2 =>
    (rd M 10 9 (0 : Int32)).bind fun v3 =>
    if v2 = v3 then ((wr M 10 9 ((1 : Int32) + x3) (-2 : Int32)).bind fun M5 =>
    nm (x2 + (1 : Int32)) fun v6 =>
    nm (x3 + (1 : Int32)) fun v7 =>
    ((f5_sweep_20 fu f) v6 v7 M5))
    else (nm (x3 + (1 : Int32)) fun v8 =>
    ((f5_sweep_20 fu f) x2 v8 M)))
set_option maxHeartbeats 4000000 in
set_option maxRecDepth 10000 in
theorem w5_sweepi_20 {ad : Nat → Nat} {X : XX} {R : Mem × Int32} {fu : Nat}  (h : Cx layM ad X cX5_sweep RX5 4 3 (some .int) (R.1) (some (.int R.2)))  : ∀ (f : Nat) (x2 : Int32) (x3 : Int32) (M : Mem), f5_sweep_20 fu f x2 x3 M = some R → Wp layM ad X M 20 [(0, .ref (ad 0)), (2, .int x2), (3, .int x3)] [] := by
  intro f
  induction f with
  | zero => intro x2 x3 M hF; exact absurd hF (by simp [f5_sweep_20])
  | succ f ih =>
    intro x2 x3 M hF
    rw [f5_sweep_20] at hF
    refine R_iload_n (pc := 20) h 2 rfl rfl dX5_sweep_20 ?_
    refine R_aload_n (pc := 21) h 0 rfl rfl dX5_sweep_21 ?_
    refine R_getI (pc := 22) h flX5_130 lm_0 rfl dX5_sweep_22 ?_
    refine R_icmp_ge (pc := 25) (tgt := 64) h dX5_sweep_25 (by decide) (fun c1 => ?_) (fun c1 => ?_)
    · have hF := itp c1 hF
      refine R_iload_n (pc := 64) h 1 rfl rfl dX5_sweep_64 ?_
      cases hF
      exact R_ireturn (pc := 65) h rfl rfl rfl dX5_sweep_65
    · have hF := ifn c1 hF
      refine R_aload_n (pc := 28) h 0 rfl rfl dX5_sweep_28 ?_
      refine R_getR (pc := 29) (q1 := 10) h flX5_41 lm_0 rfl dX5_sweep_29 ?_
      refine R_iconst (pc := 32) (v := 1) h (by decide) dX5_sweep_32 ?_
      refine R_iload_n (pc := 33) h 2 rfl rfl dX5_sweep_33 ?_
      refine R_iadd (pc := 34) h dX5_sweep_34 ?_
      obtain ⟨v2, hv2, hF⟩ := bd hF
      refine R_iald (pc := 35) h hv2 lm_10 dX5_sweep_35 ?_
      refine R_aload_n (pc := 36) h 0 rfl rfl dX5_sweep_36 ?_
      refine R_getR (pc := 37) (q1 := 10) h flX5_41 lm_0 rfl dX5_sweep_37 ?_
      refine R_iconst (pc := 40) (v := 0) h (by decide) dX5_sweep_40 ?_
      obtain ⟨v3, hv3, hF⟩ := bd hF
      refine R_iald (pc := 41) h hv3 lm_10 dX5_sweep_41 ?_
      refine R_icmp_ne (pc := 42) (tgt := 58) h dX5_sweep_42 (by decide) (fun c4 => ?_) (fun c4 => ?_)
      · have hF := ifn c4 hF
        obtain ⟨v8, hv8, hF⟩ := nm_e2 hF
        refine R_iinc (pc := 58) (lv' := [(3, .int v8), (0, .ref (ad 0)), (2, .int x2)]) h 2 rfl (by decide) hv8 (by decide) rfl dX5_sweep_58 ?_
        refine R_goto (pc := 61) (tgt := 20) h dX5_sweep_61 (by decide) ?_
        exact Wp_sub (nX := 0) (lv' := [(0, .ref (ad 0)), (2, .int x2), (3, .int v8)]) [1, 2, 0] rfl (ih _ _ _ hF)
      · have hF := itp c4 hF
        refine R_aload_n (pc := 45) h 0 rfl rfl dX5_sweep_45 ?_
        refine R_getR (pc := 46) (q1 := 10) h flX5_41 lm_0 rfl dX5_sweep_46 ?_
        refine R_iconst (pc := 49) (v := 1) h (by decide) dX5_sweep_49 ?_
        refine R_iload_n (pc := 50) h 2 rfl rfl dX5_sweep_50 ?_
        refine R_iadd (pc := 51) h dX5_sweep_51 ?_
        refine R_bipush (pc := 52) (v := (-2)) h (by decide) dX5_sweep_52 ?_
        obtain ⟨M5, hM5, hF⟩ := bd hF
        refine R_iast (pc := 54) h hM5 lm_10 dX5_sweep_54 ?_
        obtain ⟨v6, hv6, hF⟩ := nm_e2 hF
        refine R_iinc (pc := 55) (lv' := [(2, .int v6), (0, .ref (ad 0)), (3, .int x3)]) h 1 rfl (by decide) hv6 (by decide) rfl dX5_sweep_55 ?_
        obtain ⟨v7, hv7, hF⟩ := nm_e2 hF
        refine R_iinc (pc := 58) (lv' := [(3, .int v7), (2, .int v6), (0, .ref (ad 0))]) h 2 rfl (by decide) hv7 (by decide) rfl dX5_sweep_58 ?_
        refine R_goto (pc := 61) (tgt := 20) h dX5_sweep_61 (by decide) ?_
        exact Wp_sub (nX := 0) (lv' := [(0, .ref (ad 0)), (2, .int v6), (3, .int v7)]) [2, 1, 0] rfl (ih _ _ _ hF)
theorem w5_sweep_20 {ad : Nat → Nat} {X : XX} {R : Mem × Int32} {fu : Nat}  (h : Cx layM ad X cX5_sweep RX5 4 3 (some .int) (R.1) (some (.int R.2)))  {f : Nat} {x2 : Int32} {x3 : Int32} {M : Mem} (hF : f5_sweep_20 fu f x2 x3 M = some R) : Wp layM ad X M 20 [(0, .ref (ad 0)), (2, .int x2), (3, .int x3)] [] := w5_sweepi_20 h  f _ _ _ hF
def f5_sweep (fu : Nat) (M : Mem) : Option (Mem × Int32) :=
    (f5_refuses M (1 : Int32)).bind fun r2 =>
    if r2 = 0 then ((f5_remember fu M).bind fun M5 =>
    (f5_sweep_20 fu fu (0 : Int32) (0 : Int32) M5))
    else ((some (M, r2)))
set_option maxHeartbeats 4000000 in
set_option maxRecDepth 10000 in
theorem w5_sweep {ad : Nat → Nat} {X : XX} {R : Mem × Int32} {fu : Nat} (h : Cx layM ad X cX5_sweep RX5 4 3 (some .int) (R.1) (some (.int R.2))) {M : Mem} (hF : f5_sweep fu M = some R) : Wp layM ad X M 0 [(0, .ref (ad 0))] [] := by
  unfold f5_sweep at hF
  refine R_aload_n (pc := 0) h 0 rfl rfl dX5_sweep_0 ?_
  refine R_iconst (pc := 1) (v := 1) h (by decide) dX5_sweep_1 ?_
  obtain ⟨r2, hc1, hF⟩ := bd hF
  refine R_callV (pc := 2) (st := []) h [.int (1 : Int32)] cvX5_176 (c5_refuses (ad := ad) (z := X.1) hc1) rfl rfl lm_0 (by decide) (by decide) (Nat.le_of_ble_eq_true rfl) dX5_sweep_2 (st1 := [.int r2]) rfl ?_
  refine R_istore_n (pc := 5) (lv' := [(1, .int r2), (0, .ref (ad 0))]) h rfl rfl (by decide) rfl dX5_sweep_5 ?_
  refine R_iload_n (pc := 6) h 0 rfl rfl dX5_sweep_6 ?_
  refine R_if_eq (pc := 7) (tgt := 12) h dX5_sweep_7 (by decide) (fun c3 => ?_) (fun c3 => ?_)
  · have hF := itp c3 hF
    refine R_aload_n (pc := 12) h 1 rfl rfl dX5_sweep_12 ?_
    obtain ⟨M5, hc4, hF⟩ := bd hF
    refine R_callV (pc := 13) (st := []) h [] cvX5_167 (c5_remember (ad := ad) (z := X.1) hc4) rfl rfl lm_0 (by decide) (by decide) (Nat.le_of_ble_eq_true rfl) dX5_sweep_13 (st1 := []) rfl ?_
    refine R_iconst (pc := 16) (v := 0) h (by decide) dX5_sweep_16 ?_
    refine R_istore_n (pc := 17) (lv' := [(2, .int (0 : Int32)), (1, .int r2), (0, .ref (ad 0))]) h rfl rfl (by decide) rfl dX5_sweep_17 ?_
    refine R_iconst (pc := 18) (v := 0) h (by decide) dX5_sweep_18 ?_
    refine R_istore_n (pc := 19) (lv' := [(3, .int (0 : Int32)), (2, .int (0 : Int32)), (1, .int r2), (0, .ref (ad 0))]) h rfl rfl (by decide) rfl dX5_sweep_19 ?_
    exact Wp_sub (nX := 0) (lv' := [(0, .ref (ad 0)), (2, .int (0 : Int32)), (3, .int (0 : Int32))]) [3, 1, 0] rfl (w5_sweep_20 h  (hF := hF))
  · have hF := ifn c3 hF
    refine R_iload_n (pc := 10) h 0 rfl rfl dX5_sweep_10 ?_
    cases hF
    exact R_ireturn (pc := 11) h rfl rfl rfl dX5_sweep_11
theorem c5_sweep {ad : Nat → Nat} {z : ZZ} {R : Mem × Int32} {fu : Nat} {M : Mem} (hF : f5_sweep fu M = some R) : Con layM ad z yX5_sweep cX5_sweep 4 (some .int) 3 M [.ref (ad 0)] (R.1) (some (.int R.2)) := con_of (own := RX5) (lv := [(0, .ref (ad 0))]) (by decide +kernel) rfl (Nat.le_of_ble_eq_true rfl) rfl (fun X hz h => w5_sweep h hF)
def f5_copies_11_10_3 (fu : Nat) : Nat → Int32 → Int32 → Int32 → Int32 → Mem → Option (Mem)
  | 0 => fun _ _ _ _ _ => none
  | f + 1 => fun x1 x3 x4 x5 M =>
    if x4 ≤ x5 then ((some M))
    else ((rd M 11 360 (x1 + x5)).bind fun v2 =>
    (wr M 10 9 (x3 + x5) v2).bind fun M3 =>
    nm (x5 + (1 : Int32)) fun v4 =>
    ((f5_copies_11_10_3 fu f) x1 x3 x4 v4 M3))
set_option maxHeartbeats 4000000 in
set_option maxRecDepth 10000 in
theorem w5_copies_11_10i_3 {ad : Nat → Nat} {X : XX} {R : Mem} {fu : Nat}  (h : Cx layM ad X cX5_copies RX5 6 1 none (R) none)  : ∀ (f : Nat) (x1 : Int32) (x3 : Int32) (x4 : Int32) (x5 : Int32) (M : Mem), f5_copies_11_10_3 fu f x1 x3 x4 x5 M = some R → Wp layM ad X M 3 [(0, .ref (ad 11)), (1, .int x1), (2, .ref (ad 10)), (3, .int x3), (4, .int x4), (5, .int x5)] [] := by
  intro f
  induction f with
  | zero => intro x1 x3 x4 x5 M hF; exact absurd hF (by simp [f5_copies_11_10_3])
  | succ f ih =>
    intro x1 x3 x4 x5 M hF
    rw [f5_copies_11_10_3] at hF
    refine R_iload (pc := 3) h 5 rfl dX5_copies_3 ?_
    refine R_iload (pc := 5) h 4 rfl dX5_copies_5 ?_
    refine R_icmp_ge (pc := 7) (tgt := 28) h dX5_copies_7 (by decide) (fun c1 => ?_) (fun c1 => ?_)
    · have hF := itp c1 hF
      cases hF
      exact R_return (pc := 28) h rfl rfl rfl dX5_copies_28
    · have hF := ifn c1 hF
      refine R_aload_n (pc := 10) h 2 rfl rfl dX5_copies_10 ?_
      refine R_iload_n (pc := 11) h 3 rfl rfl dX5_copies_11 ?_
      refine R_iload (pc := 12) h 5 rfl dX5_copies_12 ?_
      refine R_iadd (pc := 14) h dX5_copies_14 ?_
      refine R_aload_n (pc := 15) h 0 rfl rfl dX5_copies_15 ?_
      refine R_iload_n (pc := 16) h 1 rfl rfl dX5_copies_16 ?_
      refine R_iload (pc := 17) h 5 rfl dX5_copies_17 ?_
      refine R_iadd (pc := 19) h dX5_copies_19 ?_
      obtain ⟨v2, hv2, hF⟩ := bd hF
      refine R_iald (pc := 20) h hv2 lm_11 dX5_copies_20 ?_
      obtain ⟨M3, hM3, hF⟩ := bd hF
      refine R_iast (pc := 21) h hM3 lm_10 dX5_copies_21 ?_
      obtain ⟨v4, hv4, hF⟩ := nm_e2 hF
      refine R_iinc (pc := 22) (lv' := [(5, .int v4), (0, .ref (ad 11)), (1, .int x1), (2, .ref (ad 10)), (3, .int x3), (4, .int x4)]) h 5 rfl (by decide) hv4 (by decide) rfl dX5_copies_22 ?_
      refine R_goto (pc := 25) (tgt := 3) h dX5_copies_25 (by decide) ?_
      exact Wp_sub (nX := 0) (lv' := [(0, .ref (ad 11)), (1, .int x1), (2, .ref (ad 10)), (3, .int x3), (4, .int x4), (5, .int v4)]) [1, 2, 3, 4, 5, 0] rfl (ih _ _ _ _ _ hF)
theorem w5_copies_11_10_3 {ad : Nat → Nat} {X : XX} {R : Mem} {fu : Nat}  (h : Cx layM ad X cX5_copies RX5 6 1 none (R) none)  {f : Nat} {x1 : Int32} {x3 : Int32} {x4 : Int32} {x5 : Int32} {M : Mem} (hF : f5_copies_11_10_3 fu f x1 x3 x4 x5 M = some R) : Wp layM ad X M 3 [(0, .ref (ad 11)), (1, .int x1), (2, .ref (ad 10)), (3, .int x3), (4, .int x4), (5, .int x5)] [] := w5_copies_11_10i_3 h  f _ _ _ _ _ hF
def f5_copies_11_10 (fu : Nat) (x1 : Int32) (x3 : Int32) (x4 : Int32) (M : Mem) : Option (Mem) :=
    (f5_copies_11_10_3 fu fu x1 x3 x4 (0 : Int32) M)
set_option maxHeartbeats 4000000 in
set_option maxRecDepth 10000 in
theorem w5_copies_11_10 {ad : Nat → Nat} {X : XX} {R : Mem} {fu : Nat} (h : Cx layM ad X cX5_copies RX5 6 1 none (R) none) {x1 : Int32} {x3 : Int32} {x4 : Int32} {M : Mem} (hF : f5_copies_11_10 fu x1 x3 x4 M = some R) : Wp layM ad X M 0 [(0, .ref (ad 11)), (1, .int x1), (2, .ref (ad 10)), (3, .int x3), (4, .int x4)] [] := by
  unfold f5_copies_11_10 at hF
  refine R_iconst (pc := 0) (v := 0) h (by decide) dX5_copies_0 ?_
  refine R_istore (pc := 1) (lv' := [(5, .int (0 : Int32)), (0, .ref (ad 11)), (1, .int x1), (2, .ref (ad 10)), (3, .int x3), (4, .int x4)]) h rfl (by decide) rfl dX5_copies_1 ?_
  exact Wp_sub (nX := 0) (lv' := [(0, .ref (ad 11)), (1, .int x1), (2, .ref (ad 10)), (3, .int x3), (4, .int x4), (5, .int (0 : Int32))]) [1, 2, 3, 4, 5, 0] rfl (w5_copies_11_10_3 h  (hF := hF))
theorem c5_copies_11_10 {ad : Nat → Nat} {z : ZZ} {R : Mem} {fu : Nat} {x1 : Int32} {x3 : Int32} {x4 : Int32} {M : Mem} (hF : f5_copies_11_10 fu x1 x3 x4 M = some R) : Con layM ad z yX5_copies cX5_copies 6 none 1 M [.ref (ad 11), .int x1, .ref (ad 10), .int x3, .int x4] (R) none := con_of (own := RX5) (lv := [(0, .ref (ad 11)), (1, .int x1), (2, .ref (ad 10)), (3, .int x3), (4, .int x4)]) (by decide +kernel) rfl (Nat.le_of_ble_eq_true rfl) rfl (fun X hz h => w5_copies_11_10 h hF)
def f5_undo (fu : Nat) (x1 : Int32) (M : Mem) : Option (Mem × Int32) :=
    (f5_in x1.toInt64 (0 : Int64) (M.1 0 16).toInt64).bind fun r2 =>
    if r2 = 0 then ((some (M, (-1 : Int32))))
    else (nm ((M.1 0 16) - x1) fun v4 =>
    if v4 ≤ 0 then (nm (sI M 0 16 x1) fun M6 =>
    (some (M6, v4)))
    else ((f5_copies_11_10 fu ((9 : Int32) * x1) (0 : Int32) (9 : Int32) M).bind fun M8 =>
    nm (sI M8 0 16 x1) fun M9 =>
    (some (M9, v4))))
set_option maxHeartbeats 4000000 in
set_option maxRecDepth 10000 in
theorem w5_undo {ad : Nat → Nat} {X : XX} {R : Mem × Int32} {fu : Nat} (h : Cx layM ad X cX5_undo RX5 3 2 (some .int) (R.1) (some (.int R.2))) {x1 : Int32} {M : Mem} (hF : f5_undo fu x1 M = some R) : Wp layM ad X M 0 [(0, .ref (ad 0)), (1, .int x1)] [] := by
  unfold f5_undo at hF
  refine R_iload_n (pc := 0) h 1 rfl rfl dX5_undo_0 ?_
  refine R_i2l (pc := 1) h dX5_undo_1 ?_
  refine R_lconst (pc := 2) (v := 0) h (by decide) dX5_undo_2 ?_
  refine R_aload_n (pc := 3) h 0 rfl rfl dX5_undo_3 ?_
  refine R_getI (pc := 4) h flX5_91 lm_0 rfl dX5_undo_4 ?_
  refine R_i2l (pc := 7) h dX5_undo_7 ?_
  obtain ⟨r2, hc1, hF⟩ := bd hF
  refine R_callS (pc := 8) (st := []) h [.long x1.toInt64, .long (0 : Int64), .long (M.1 0 16).toInt64] csX5_71 (c5_in (ad := ad) (z := X.1) (M := M) hc1) rfl rfl (by decide) (by decide) (Nat.le_of_ble_eq_true rfl) dX5_undo_8 (st1 := [.int r2]) rfl ?_
  refine R_if_ne (pc := 11) (tgt := 16) h dX5_undo_11 (by decide) (fun c3 => ?_) (fun c3 => ?_)
  · have hF := ifn c3 hF
    refine R_aload_n (pc := 16) h 0 rfl rfl dX5_undo_16 ?_
    refine R_getI (pc := 17) h flX5_91 lm_0 rfl dX5_undo_17 ?_
    refine R_iload_n (pc := 20) h 1 rfl rfl dX5_undo_20 ?_
    refine R_isub (pc := 21) h dX5_undo_21 ?_
    obtain ⟨v4, hv4, hF⟩ := nm_e2 hF
    refine R_istore_n (pc := 22) (lv' := [(2, .int v4), (0, .ref (ad 0)), (1, .int x1)]) h hv4 rfl (by decide) rfl dX5_undo_22 ?_
    refine R_iload_n (pc := 23) h 0 rfl rfl dX5_undo_23 ?_
    refine R_if_le (pc := 24) (tgt := 45) h dX5_undo_24 (by decide) (fun c5 => ?_) (fun c5 => ?_)
    · have hF := itp c5 hF
      refine R_aload_n (pc := 45) h 1 rfl rfl dX5_undo_45 ?_
      refine R_iload_n (pc := 46) h 2 rfl rfl dX5_undo_46 ?_
      obtain ⟨M6, hM6, hF⟩ := nm_e2 hF
      refine R_putI (pc := 47) h hM6 fpX5_91 lm_0 rfl dX5_undo_47 ?_
      refine R_iload_n (pc := 50) h 0 rfl rfl dX5_undo_50 ?_
      cases hF
      exact R_ireturn (pc := 51) h rfl rfl rfl dX5_undo_51
    · have hF := ifn c5 hF
      refine R_aload_n (pc := 27) h 1 rfl rfl dX5_undo_27 ?_
      refine R_getR (pc := 28) (q1 := 11) h flX5_44 lm_0 rfl dX5_undo_28 ?_
      refine R_bipush (pc := 31) (v := 9) h (by decide) dX5_undo_31 ?_
      refine R_iload_n (pc := 33) h 2 rfl rfl dX5_undo_33 ?_
      refine R_imul (pc := 34) h dX5_undo_34 ?_
      refine R_aload_n (pc := 35) h 1 rfl rfl dX5_undo_35 ?_
      refine R_getR (pc := 36) (q1 := 10) h flX5_41 lm_0 rfl dX5_undo_36 ?_
      refine R_iconst (pc := 39) (v := 0) h (by decide) dX5_undo_39 ?_
      refine R_bipush (pc := 40) (v := 9) h (by decide) dX5_undo_40 ?_
      obtain ⟨M8, hc7, hF⟩ := bd hF
      refine R_callS (pc := 42) (st := []) h [.ref (ad 11), .int ((9 : Int32) * x1), .ref (ad 10), .int (0 : Int32), .int (9 : Int32)] csX5_163 (c5_copies_11_10 (ad := ad) (z := X.1) hc7) rfl rfl (by decide) (by decide) (Nat.le_of_ble_eq_true rfl) dX5_undo_42 (st1 := []) rfl ?_
      refine R_aload_n (pc := 45) h 1 rfl rfl dX5_undo_45 ?_
      refine R_iload_n (pc := 46) h 2 rfl rfl dX5_undo_46 ?_
      obtain ⟨M9, hM9, hF⟩ := nm_e2 hF
      refine R_putI (pc := 47) h hM9 fpX5_91 lm_0 rfl dX5_undo_47 ?_
      refine R_iload_n (pc := 50) h 0 rfl rfl dX5_undo_50 ?_
      cases hF
      exact R_ireturn (pc := 51) h rfl rfl rfl dX5_undo_51
  · have hF := itp c3 hF
    refine R_iconst (pc := 14) (v := (-1)) h (by decide) dX5_undo_14 ?_
    cases hF
    exact R_ireturn (pc := 15) h rfl rfl rfl dX5_undo_15
theorem c5_undo {ad : Nat → Nat} {z : ZZ} {R : Mem × Int32} {fu : Nat} {x1 : Int32} {M : Mem} (hF : f5_undo fu x1 M = some R) : Con layM ad z yX5_undo cX5_undo 3 (some .int) 2 M [.ref (ad 0), .int x1] (R.1) (some (.int R.2)) := con_of (own := RX5) (lv := [(0, .ref (ad 0)), (1, .int x1)]) (by decide +kernel) rfl (Nat.le_of_ble_eq_true rfl) rfl (fun X hz h => w5_undo h hF)
def f5_copies_10_12_3 (fu : Nat) : Nat → Int32 → Int32 → Int32 → Int32 → Mem → Option (Mem)
  | 0 => fun _ _ _ _ _ => none
  | f + 1 => fun x1 x3 x4 x5 M =>
    if x4 ≤ x5 then ((some M))
    else ((rd M 10 9 (x1 + x5)).bind fun v2 =>
    (wr M 12 1110 (x3 + x5) v2).bind fun M3 =>
    nm (x5 + (1 : Int32)) fun v4 =>
    ((f5_copies_10_12_3 fu f) x1 x3 x4 v4 M3))
set_option maxHeartbeats 4000000 in
set_option maxRecDepth 10000 in
theorem w5_copies_10_12i_3 {ad : Nat → Nat} {X : XX} {R : Mem} {fu : Nat}  (h : Cx layM ad X cX5_copies RX5 6 1 none (R) none)  : ∀ (f : Nat) (x1 : Int32) (x3 : Int32) (x4 : Int32) (x5 : Int32) (M : Mem), f5_copies_10_12_3 fu f x1 x3 x4 x5 M = some R → Wp layM ad X M 3 [(0, .ref (ad 10)), (1, .int x1), (2, .ref (ad 12)), (3, .int x3), (4, .int x4), (5, .int x5)] [] := by
  intro f
  induction f with
  | zero => intro x1 x3 x4 x5 M hF; exact absurd hF (by simp [f5_copies_10_12_3])
  | succ f ih =>
    intro x1 x3 x4 x5 M hF
    rw [f5_copies_10_12_3] at hF
    refine R_iload (pc := 3) h 5 rfl dX5_copies_3 ?_
    refine R_iload (pc := 5) h 4 rfl dX5_copies_5 ?_
    refine R_icmp_ge (pc := 7) (tgt := 28) h dX5_copies_7 (by decide) (fun c1 => ?_) (fun c1 => ?_)
    · have hF := itp c1 hF
      cases hF
      exact R_return (pc := 28) h rfl rfl rfl dX5_copies_28
    · have hF := ifn c1 hF
      refine R_aload_n (pc := 10) h 2 rfl rfl dX5_copies_10 ?_
      refine R_iload_n (pc := 11) h 3 rfl rfl dX5_copies_11 ?_
      refine R_iload (pc := 12) h 5 rfl dX5_copies_12 ?_
      refine R_iadd (pc := 14) h dX5_copies_14 ?_
      refine R_aload_n (pc := 15) h 0 rfl rfl dX5_copies_15 ?_
      refine R_iload_n (pc := 16) h 1 rfl rfl dX5_copies_16 ?_
      refine R_iload (pc := 17) h 5 rfl dX5_copies_17 ?_
      refine R_iadd (pc := 19) h dX5_copies_19 ?_
      obtain ⟨v2, hv2, hF⟩ := bd hF
      refine R_iald (pc := 20) h hv2 lm_10 dX5_copies_20 ?_
      obtain ⟨M3, hM3, hF⟩ := bd hF
      refine R_iast (pc := 21) h hM3 lm_12 dX5_copies_21 ?_
      obtain ⟨v4, hv4, hF⟩ := nm_e2 hF
      refine R_iinc (pc := 22) (lv' := [(5, .int v4), (0, .ref (ad 10)), (1, .int x1), (2, .ref (ad 12)), (3, .int x3), (4, .int x4)]) h 5 rfl (by decide) hv4 (by decide) rfl dX5_copies_22 ?_
      refine R_goto (pc := 25) (tgt := 3) h dX5_copies_25 (by decide) ?_
      exact Wp_sub (nX := 0) (lv' := [(0, .ref (ad 10)), (1, .int x1), (2, .ref (ad 12)), (3, .int x3), (4, .int x4), (5, .int v4)]) [1, 2, 3, 4, 5, 0] rfl (ih _ _ _ _ _ hF)
theorem w5_copies_10_12_3 {ad : Nat → Nat} {X : XX} {R : Mem} {fu : Nat}  (h : Cx layM ad X cX5_copies RX5 6 1 none (R) none)  {f : Nat} {x1 : Int32} {x3 : Int32} {x4 : Int32} {x5 : Int32} {M : Mem} (hF : f5_copies_10_12_3 fu f x1 x3 x4 x5 M = some R) : Wp layM ad X M 3 [(0, .ref (ad 10)), (1, .int x1), (2, .ref (ad 12)), (3, .int x3), (4, .int x4), (5, .int x5)] [] := w5_copies_10_12i_3 h  f _ _ _ _ _ hF
def f5_copies_10_12 (fu : Nat) (x1 : Int32) (x3 : Int32) (x4 : Int32) (M : Mem) : Option (Mem) :=
    (f5_copies_10_12_3 fu fu x1 x3 x4 (0 : Int32) M)
set_option maxHeartbeats 4000000 in
set_option maxRecDepth 10000 in
theorem w5_copies_10_12 {ad : Nat → Nat} {X : XX} {R : Mem} {fu : Nat} (h : Cx layM ad X cX5_copies RX5 6 1 none (R) none) {x1 : Int32} {x3 : Int32} {x4 : Int32} {M : Mem} (hF : f5_copies_10_12 fu x1 x3 x4 M = some R) : Wp layM ad X M 0 [(0, .ref (ad 10)), (1, .int x1), (2, .ref (ad 12)), (3, .int x3), (4, .int x4)] [] := by
  unfold f5_copies_10_12 at hF
  refine R_iconst (pc := 0) (v := 0) h (by decide) dX5_copies_0 ?_
  refine R_istore (pc := 1) (lv' := [(5, .int (0 : Int32)), (0, .ref (ad 10)), (1, .int x1), (2, .ref (ad 12)), (3, .int x3), (4, .int x4)]) h rfl (by decide) rfl dX5_copies_1 ?_
  exact Wp_sub (nX := 0) (lv' := [(0, .ref (ad 10)), (1, .int x1), (2, .ref (ad 12)), (3, .int x3), (4, .int x4), (5, .int (0 : Int32))]) [1, 2, 3, 4, 5, 0] rfl (w5_copies_10_12_3 h  (hF := hF))
theorem c5_copies_10_12 {ad : Nat → Nat} {z : ZZ} {R : Mem} {fu : Nat} {x1 : Int32} {x3 : Int32} {x4 : Int32} {M : Mem} (hF : f5_copies_10_12 fu x1 x3 x4 M = some R) : Con layM ad z yX5_copies cX5_copies 6 none 1 M [.ref (ad 10), .int x1, .ref (ad 12), .int x3, .int x4] (R) none := con_of (own := RX5) (lv := [(0, .ref (ad 10)), (1, .int x1), (2, .ref (ad 12)), (3, .int x3), (4, .int x4)]) (by decide +kernel) rfl (Nat.le_of_ble_eq_true rfl) rfl (fun X hz h => w5_copies_10_12 h hF)
def f5_copies_11_12_3 (fu : Nat) : Nat → Int32 → Int32 → Int32 → Int32 → Mem → Option (Mem)
  | 0 => fun _ _ _ _ _ => none
  | f + 1 => fun x1 x3 x4 x5 M =>
    if x4 ≤ x5 then ((some M))
    else ((rd M 11 360 (x1 + x5)).bind fun v2 =>
    (wr M 12 1110 (x3 + x5) v2).bind fun M3 =>
    nm (x5 + (1 : Int32)) fun v4 =>
    ((f5_copies_11_12_3 fu f) x1 x3 x4 v4 M3))
set_option maxHeartbeats 4000000 in
set_option maxRecDepth 10000 in
theorem w5_copies_11_12i_3 {ad : Nat → Nat} {X : XX} {R : Mem} {fu : Nat}  (h : Cx layM ad X cX5_copies RX5 6 1 none (R) none)  : ∀ (f : Nat) (x1 : Int32) (x3 : Int32) (x4 : Int32) (x5 : Int32) (M : Mem), f5_copies_11_12_3 fu f x1 x3 x4 x5 M = some R → Wp layM ad X M 3 [(0, .ref (ad 11)), (1, .int x1), (2, .ref (ad 12)), (3, .int x3), (4, .int x4), (5, .int x5)] [] := by
  intro f
  induction f with
  | zero => intro x1 x3 x4 x5 M hF; exact absurd hF (by simp [f5_copies_11_12_3])
  | succ f ih =>
    intro x1 x3 x4 x5 M hF
    rw [f5_copies_11_12_3] at hF
    refine R_iload (pc := 3) h 5 rfl dX5_copies_3 ?_
    refine R_iload (pc := 5) h 4 rfl dX5_copies_5 ?_
    refine R_icmp_ge (pc := 7) (tgt := 28) h dX5_copies_7 (by decide) (fun c1 => ?_) (fun c1 => ?_)
    · have hF := itp c1 hF
      cases hF
      exact R_return (pc := 28) h rfl rfl rfl dX5_copies_28
    · have hF := ifn c1 hF
      refine R_aload_n (pc := 10) h 2 rfl rfl dX5_copies_10 ?_
      refine R_iload_n (pc := 11) h 3 rfl rfl dX5_copies_11 ?_
      refine R_iload (pc := 12) h 5 rfl dX5_copies_12 ?_
      refine R_iadd (pc := 14) h dX5_copies_14 ?_
      refine R_aload_n (pc := 15) h 0 rfl rfl dX5_copies_15 ?_
      refine R_iload_n (pc := 16) h 1 rfl rfl dX5_copies_16 ?_
      refine R_iload (pc := 17) h 5 rfl dX5_copies_17 ?_
      refine R_iadd (pc := 19) h dX5_copies_19 ?_
      obtain ⟨v2, hv2, hF⟩ := bd hF
      refine R_iald (pc := 20) h hv2 lm_11 dX5_copies_20 ?_
      obtain ⟨M3, hM3, hF⟩ := bd hF
      refine R_iast (pc := 21) h hM3 lm_12 dX5_copies_21 ?_
      obtain ⟨v4, hv4, hF⟩ := nm_e2 hF
      refine R_iinc (pc := 22) (lv' := [(5, .int v4), (0, .ref (ad 11)), (1, .int x1), (2, .ref (ad 12)), (3, .int x3), (4, .int x4)]) h 5 rfl (by decide) hv4 (by decide) rfl dX5_copies_22 ?_
      refine R_goto (pc := 25) (tgt := 3) h dX5_copies_25 (by decide) ?_
      exact Wp_sub (nX := 0) (lv' := [(0, .ref (ad 11)), (1, .int x1), (2, .ref (ad 12)), (3, .int x3), (4, .int x4), (5, .int v4)]) [1, 2, 3, 4, 5, 0] rfl (ih _ _ _ _ _ hF)
theorem w5_copies_11_12_3 {ad : Nat → Nat} {X : XX} {R : Mem} {fu : Nat}  (h : Cx layM ad X cX5_copies RX5 6 1 none (R) none)  {f : Nat} {x1 : Int32} {x3 : Int32} {x4 : Int32} {x5 : Int32} {M : Mem} (hF : f5_copies_11_12_3 fu f x1 x3 x4 x5 M = some R) : Wp layM ad X M 3 [(0, .ref (ad 11)), (1, .int x1), (2, .ref (ad 12)), (3, .int x3), (4, .int x4), (5, .int x5)] [] := w5_copies_11_12i_3 h  f _ _ _ _ _ hF
def f5_copies_11_12 (fu : Nat) (x1 : Int32) (x3 : Int32) (x4 : Int32) (M : Mem) : Option (Mem) :=
    (f5_copies_11_12_3 fu fu x1 x3 x4 (0 : Int32) M)
set_option maxHeartbeats 4000000 in
set_option maxRecDepth 10000 in
theorem w5_copies_11_12 {ad : Nat → Nat} {X : XX} {R : Mem} {fu : Nat} (h : Cx layM ad X cX5_copies RX5 6 1 none (R) none) {x1 : Int32} {x3 : Int32} {x4 : Int32} {M : Mem} (hF : f5_copies_11_12 fu x1 x3 x4 M = some R) : Wp layM ad X M 0 [(0, .ref (ad 11)), (1, .int x1), (2, .ref (ad 12)), (3, .int x3), (4, .int x4)] [] := by
  unfold f5_copies_11_12 at hF
  refine R_iconst (pc := 0) (v := 0) h (by decide) dX5_copies_0 ?_
  refine R_istore (pc := 1) (lv' := [(5, .int (0 : Int32)), (0, .ref (ad 11)), (1, .int x1), (2, .ref (ad 12)), (3, .int x3), (4, .int x4)]) h rfl (by decide) rfl dX5_copies_1 ?_
  exact Wp_sub (nX := 0) (lv' := [(0, .ref (ad 11)), (1, .int x1), (2, .ref (ad 12)), (3, .int x3), (4, .int x4), (5, .int (0 : Int32))]) [1, 2, 3, 4, 5, 0] rfl (w5_copies_11_12_3 h  (hF := hF))
theorem c5_copies_11_12 {ad : Nat → Nat} {z : ZZ} {R : Mem} {fu : Nat} {x1 : Int32} {x3 : Int32} {x4 : Int32} {M : Mem} (hF : f5_copies_11_12 fu x1 x3 x4 M = some R) : Con layM ad z yX5_copies cX5_copies 6 none 1 M [.ref (ad 11), .int x1, .ref (ad 12), .int x3, .int x4] (R) none := con_of (own := RX5) (lv := [(0, .ref (ad 11)), (1, .int x1), (2, .ref (ad 12)), (3, .int x3), (4, .int x4)]) (by decide +kernel) rfl (Nat.le_of_ble_eq_true rfl) rfl (fun X hz h => w5_copies_11_12 h hF)
def f5_keep (fu : Nat) (x1 : Int32) (M : Mem) : Option (Mem × Int32) :=
    (f5_in x1.toInt64 (0 : Int64) (2 : Int64)).bind fun r2 =>
    if r2 = 0 then ((some (M, (-1 : Int32))))
    else (if (M.1 0 9) = 0 then ((some (M, (-4 : Int32))))
    else ((wr M 12 1110 ((370 : Int32) * x1) (M.1 0 16)).bind fun M5 =>
    (f5_copies_10_12 fu (0 : Int32) (((370 : Int32) * x1) + (1 : Int32)) (9 : Int32) M5).bind fun M7 =>
    (f5_copies_11_12 fu (0 : Int32) ((((370 : Int32) * x1) + (1 : Int32)) + (9 : Int32)) (360 : Int32) M7).bind fun M9 =>
    (some (M9, (M9.1 0 16)))))
set_option maxHeartbeats 4000000 in
set_option maxRecDepth 10000 in
theorem w5_keep {ad : Nat → Nat} {X : XX} {R : Mem × Int32} {fu : Nat} (h : Cx layM ad X cX5_keep RX5 2 2 (some .int) (R.1) (some (.int R.2))) {x1 : Int32} {M : Mem} (hF : f5_keep fu x1 M = some R) : Wp layM ad X M 0 [(0, .ref (ad 0)), (1, .int x1)] [] := by
  unfold f5_keep at hF
  refine R_iload_n (pc := 0) h 1 rfl rfl dX5_keep_0 ?_
  refine R_i2l (pc := 1) h dX5_keep_1 ?_
  refine R_lconst (pc := 2) (v := 0) h (by decide) dX5_keep_2 ?_
  refine R_ldc2 (pc := 3) h klX5_179 dX5_keep_3 ?_
  obtain ⟨r2, hc1, hF⟩ := bd hF
  refine R_callS (pc := 6) (st := []) h [.long x1.toInt64, .long (0 : Int64), .long (2 : Int64)] csX5_71 (c5_in (ad := ad) (z := X.1) (M := M) hc1) rfl rfl (by decide) (by decide) (Nat.le_of_ble_eq_true rfl) dX5_keep_6 (st1 := [.int r2]) rfl ?_
  refine R_if_ne (pc := 9) (tgt := 14) h dX5_keep_9 (by decide) (fun c3 => ?_) (fun c3 => ?_)
  · have hF := ifn c3 hF
    refine R_aload_n (pc := 14) h 0 rfl rfl dX5_keep_14 ?_
    refine R_getI (pc := 15) h flX5_130 lm_0 rfl dX5_keep_15 ?_
    refine R_if_ne (pc := 18) (tgt := 24) h dX5_keep_18 (by decide) (fun c4 => ?_) (fun c4 => ?_)
    · have hF := ifn c4 hF
      refine R_aload_n (pc := 24) h 0 rfl rfl dX5_keep_24 ?_
      refine R_getR (pc := 25) (q1 := 12) h flX5_47 lm_0 rfl dX5_keep_25 ?_
      refine R_sipush (pc := 28) (v := 370) h (by decide) dX5_keep_28 ?_
      refine R_iload_n (pc := 31) h 1 rfl rfl dX5_keep_31 ?_
      refine R_imul (pc := 32) h dX5_keep_32 ?_
      refine R_aload_n (pc := 33) h 0 rfl rfl dX5_keep_33 ?_
      refine R_getI (pc := 34) h flX5_91 lm_0 rfl dX5_keep_34 ?_
      obtain ⟨M5, hM5, hF⟩ := bd hF
      refine R_iast (pc := 37) h hM5 lm_12 dX5_keep_37 ?_
      refine R_aload_n (pc := 38) h 0 rfl rfl dX5_keep_38 ?_
      refine R_getR (pc := 39) (q1 := 10) h flX5_41 lm_0 rfl dX5_keep_39 ?_
      refine R_iconst (pc := 42) (v := 0) h (by decide) dX5_keep_42 ?_
      refine R_aload_n (pc := 43) h 0 rfl rfl dX5_keep_43 ?_
      refine R_getR (pc := 44) (q1 := 12) h flX5_47 lm_0 rfl dX5_keep_44 ?_
      refine R_sipush (pc := 47) (v := 370) h (by decide) dX5_keep_47 ?_
      refine R_iload_n (pc := 50) h 1 rfl rfl dX5_keep_50 ?_
      refine R_imul (pc := 51) h dX5_keep_51 ?_
      refine R_iconst (pc := 52) (v := 1) h (by decide) dX5_keep_52 ?_
      refine R_iadd (pc := 53) h dX5_keep_53 ?_
      refine R_bipush (pc := 54) (v := 9) h (by decide) dX5_keep_54 ?_
      obtain ⟨M7, hc6, hF⟩ := bd hF
      refine R_callS (pc := 56) (st := []) h [.ref (ad 10), .int (0 : Int32), .ref (ad 12), .int (((370 : Int32) * x1) + (1 : Int32)), .int (9 : Int32)] csX5_163 (c5_copies_10_12 (ad := ad) (z := X.1) hc6) rfl rfl (by decide) (by decide) (Nat.le_of_ble_eq_true rfl) dX5_keep_56 (st1 := []) rfl ?_
      refine R_aload_n (pc := 59) h 0 rfl rfl dX5_keep_59 ?_
      refine R_getR (pc := 60) (q1 := 11) h flX5_44 lm_0 rfl dX5_keep_60 ?_
      refine R_iconst (pc := 63) (v := 0) h (by decide) dX5_keep_63 ?_
      refine R_aload_n (pc := 64) h 0 rfl rfl dX5_keep_64 ?_
      refine R_getR (pc := 65) (q1 := 12) h flX5_47 lm_0 rfl dX5_keep_65 ?_
      refine R_sipush (pc := 68) (v := 370) h (by decide) dX5_keep_68 ?_
      refine R_iload_n (pc := 71) h 1 rfl rfl dX5_keep_71 ?_
      refine R_imul (pc := 72) h dX5_keep_72 ?_
      refine R_iconst (pc := 73) (v := 1) h (by decide) dX5_keep_73 ?_
      refine R_iadd (pc := 74) h dX5_keep_74 ?_
      refine R_bipush (pc := 75) (v := 9) h (by decide) dX5_keep_75 ?_
      refine R_iadd (pc := 77) h dX5_keep_77 ?_
      refine R_sipush (pc := 78) (v := 360) h (by decide) dX5_keep_78 ?_
      obtain ⟨M9, hc8, hF⟩ := bd hF
      refine R_callS (pc := 81) (st := []) h [.ref (ad 11), .int (0 : Int32), .ref (ad 12), .int ((((370 : Int32) * x1) + (1 : Int32)) + (9 : Int32)), .int (360 : Int32)] csX5_163 (c5_copies_11_12 (ad := ad) (z := X.1) hc8) rfl rfl (by decide) (by decide) (Nat.le_of_ble_eq_true rfl) dX5_keep_81 (st1 := []) rfl ?_
      refine R_aload_n (pc := 84) h 0 rfl rfl dX5_keep_84 ?_
      refine R_getI (pc := 85) h flX5_91 lm_0 rfl dX5_keep_85 ?_
      cases hF
      exact R_ireturn (pc := 88) h rfl rfl rfl dX5_keep_88
    · have hF := itp c4 hF
      refine R_bipush (pc := 21) (v := (-4)) h (by decide) dX5_keep_21 ?_
      cases hF
      exact R_ireturn (pc := 23) h rfl rfl rfl dX5_keep_23
  · have hF := itp c3 hF
    refine R_iconst (pc := 12) (v := (-1)) h (by decide) dX5_keep_12 ?_
    cases hF
    exact R_ireturn (pc := 13) h rfl rfl rfl dX5_keep_13
theorem c5_keep {ad : Nat → Nat} {z : ZZ} {R : Mem × Int32} {fu : Nat} {x1 : Int32} {M : Mem} (hF : f5_keep fu x1 M = some R) : Con layM ad z yX5_keep cX5_keep 2 (some .int) 2 M [.ref (ad 0), .int x1] (R.1) (some (.int R.2)) := con_of (own := RX5) (lv := [(0, .ref (ad 0)), (1, .int x1)]) (by decide +kernel) rfl (Nat.le_of_ble_eq_true rfl) rfl (fun X hz h => w5_keep h hF)
def f5_copies_12_10_3 (fu : Nat) : Nat → Int32 → Int32 → Int32 → Int32 → Mem → Option (Mem)
  | 0 => fun _ _ _ _ _ => none
  | f + 1 => fun x1 x3 x4 x5 M =>
    if x4 ≤ x5 then ((some M))
    else ((rd M 12 1110 (x1 + x5)).bind fun v2 =>
    (wr M 10 9 (x3 + x5) v2).bind fun M3 =>
    nm (x5 + (1 : Int32)) fun v4 =>
    ((f5_copies_12_10_3 fu f) x1 x3 x4 v4 M3))
set_option maxHeartbeats 4000000 in
set_option maxRecDepth 10000 in
theorem w5_copies_12_10i_3 {ad : Nat → Nat} {X : XX} {R : Mem} {fu : Nat}  (h : Cx layM ad X cX5_copies RX5 6 1 none (R) none)  : ∀ (f : Nat) (x1 : Int32) (x3 : Int32) (x4 : Int32) (x5 : Int32) (M : Mem), f5_copies_12_10_3 fu f x1 x3 x4 x5 M = some R → Wp layM ad X M 3 [(0, .ref (ad 12)), (1, .int x1), (2, .ref (ad 10)), (3, .int x3), (4, .int x4), (5, .int x5)] [] := by
  intro f
  induction f with
  | zero => intro x1 x3 x4 x5 M hF; exact absurd hF (by simp [f5_copies_12_10_3])
  | succ f ih =>
    intro x1 x3 x4 x5 M hF
    rw [f5_copies_12_10_3] at hF
    refine R_iload (pc := 3) h 5 rfl dX5_copies_3 ?_
    refine R_iload (pc := 5) h 4 rfl dX5_copies_5 ?_
    refine R_icmp_ge (pc := 7) (tgt := 28) h dX5_copies_7 (by decide) (fun c1 => ?_) (fun c1 => ?_)
    · have hF := itp c1 hF
      cases hF
      exact R_return (pc := 28) h rfl rfl rfl dX5_copies_28
    · have hF := ifn c1 hF
      refine R_aload_n (pc := 10) h 2 rfl rfl dX5_copies_10 ?_
      refine R_iload_n (pc := 11) h 3 rfl rfl dX5_copies_11 ?_
      refine R_iload (pc := 12) h 5 rfl dX5_copies_12 ?_
      refine R_iadd (pc := 14) h dX5_copies_14 ?_
      refine R_aload_n (pc := 15) h 0 rfl rfl dX5_copies_15 ?_
      refine R_iload_n (pc := 16) h 1 rfl rfl dX5_copies_16 ?_
      refine R_iload (pc := 17) h 5 rfl dX5_copies_17 ?_
      refine R_iadd (pc := 19) h dX5_copies_19 ?_
      obtain ⟨v2, hv2, hF⟩ := bd hF
      refine R_iald (pc := 20) h hv2 lm_12 dX5_copies_20 ?_
      obtain ⟨M3, hM3, hF⟩ := bd hF
      refine R_iast (pc := 21) h hM3 lm_10 dX5_copies_21 ?_
      obtain ⟨v4, hv4, hF⟩ := nm_e2 hF
      refine R_iinc (pc := 22) (lv' := [(5, .int v4), (0, .ref (ad 12)), (1, .int x1), (2, .ref (ad 10)), (3, .int x3), (4, .int x4)]) h 5 rfl (by decide) hv4 (by decide) rfl dX5_copies_22 ?_
      refine R_goto (pc := 25) (tgt := 3) h dX5_copies_25 (by decide) ?_
      exact Wp_sub (nX := 0) (lv' := [(0, .ref (ad 12)), (1, .int x1), (2, .ref (ad 10)), (3, .int x3), (4, .int x4), (5, .int v4)]) [1, 2, 3, 4, 5, 0] rfl (ih _ _ _ _ _ hF)
theorem w5_copies_12_10_3 {ad : Nat → Nat} {X : XX} {R : Mem} {fu : Nat}  (h : Cx layM ad X cX5_copies RX5 6 1 none (R) none)  {f : Nat} {x1 : Int32} {x3 : Int32} {x4 : Int32} {x5 : Int32} {M : Mem} (hF : f5_copies_12_10_3 fu f x1 x3 x4 x5 M = some R) : Wp layM ad X M 3 [(0, .ref (ad 12)), (1, .int x1), (2, .ref (ad 10)), (3, .int x3), (4, .int x4), (5, .int x5)] [] := w5_copies_12_10i_3 h  f _ _ _ _ _ hF
def f5_copies_12_10 (fu : Nat) (x1 : Int32) (x3 : Int32) (x4 : Int32) (M : Mem) : Option (Mem) :=
    (f5_copies_12_10_3 fu fu x1 x3 x4 (0 : Int32) M)
set_option maxHeartbeats 4000000 in
set_option maxRecDepth 10000 in
theorem w5_copies_12_10 {ad : Nat → Nat} {X : XX} {R : Mem} {fu : Nat} (h : Cx layM ad X cX5_copies RX5 6 1 none (R) none) {x1 : Int32} {x3 : Int32} {x4 : Int32} {M : Mem} (hF : f5_copies_12_10 fu x1 x3 x4 M = some R) : Wp layM ad X M 0 [(0, .ref (ad 12)), (1, .int x1), (2, .ref (ad 10)), (3, .int x3), (4, .int x4)] [] := by
  unfold f5_copies_12_10 at hF
  refine R_iconst (pc := 0) (v := 0) h (by decide) dX5_copies_0 ?_
  refine R_istore (pc := 1) (lv' := [(5, .int (0 : Int32)), (0, .ref (ad 12)), (1, .int x1), (2, .ref (ad 10)), (3, .int x3), (4, .int x4)]) h rfl (by decide) rfl dX5_copies_1 ?_
  exact Wp_sub (nX := 0) (lv' := [(0, .ref (ad 12)), (1, .int x1), (2, .ref (ad 10)), (3, .int x3), (4, .int x4), (5, .int (0 : Int32))]) [1, 2, 3, 4, 5, 0] rfl (w5_copies_12_10_3 h  (hF := hF))
theorem c5_copies_12_10 {ad : Nat → Nat} {z : ZZ} {R : Mem} {fu : Nat} {x1 : Int32} {x3 : Int32} {x4 : Int32} {M : Mem} (hF : f5_copies_12_10 fu x1 x3 x4 M = some R) : Con layM ad z yX5_copies cX5_copies 6 none 1 M [.ref (ad 12), .int x1, .ref (ad 10), .int x3, .int x4] (R) none := con_of (own := RX5) (lv := [(0, .ref (ad 12)), (1, .int x1), (2, .ref (ad 10)), (3, .int x3), (4, .int x4)]) (by decide +kernel) rfl (Nat.le_of_ble_eq_true rfl) rfl (fun X hz h => w5_copies_12_10 h hF)
def f5_copies_12_11_3 (fu : Nat) : Nat → Int32 → Int32 → Int32 → Int32 → Mem → Option (Mem)
  | 0 => fun _ _ _ _ _ => none
  | f + 1 => fun x1 x3 x4 x5 M =>
    if x4 ≤ x5 then ((some M))
    else ((rd M 12 1110 (x1 + x5)).bind fun v2 =>
    (wr M 11 360 (x3 + x5) v2).bind fun M3 =>
    nm (x5 + (1 : Int32)) fun v4 =>
    ((f5_copies_12_11_3 fu f) x1 x3 x4 v4 M3))
set_option maxHeartbeats 4000000 in
set_option maxRecDepth 10000 in
theorem w5_copies_12_11i_3 {ad : Nat → Nat} {X : XX} {R : Mem} {fu : Nat}  (h : Cx layM ad X cX5_copies RX5 6 1 none (R) none)  : ∀ (f : Nat) (x1 : Int32) (x3 : Int32) (x4 : Int32) (x5 : Int32) (M : Mem), f5_copies_12_11_3 fu f x1 x3 x4 x5 M = some R → Wp layM ad X M 3 [(0, .ref (ad 12)), (1, .int x1), (2, .ref (ad 11)), (3, .int x3), (4, .int x4), (5, .int x5)] [] := by
  intro f
  induction f with
  | zero => intro x1 x3 x4 x5 M hF; exact absurd hF (by simp [f5_copies_12_11_3])
  | succ f ih =>
    intro x1 x3 x4 x5 M hF
    rw [f5_copies_12_11_3] at hF
    refine R_iload (pc := 3) h 5 rfl dX5_copies_3 ?_
    refine R_iload (pc := 5) h 4 rfl dX5_copies_5 ?_
    refine R_icmp_ge (pc := 7) (tgt := 28) h dX5_copies_7 (by decide) (fun c1 => ?_) (fun c1 => ?_)
    · have hF := itp c1 hF
      cases hF
      exact R_return (pc := 28) h rfl rfl rfl dX5_copies_28
    · have hF := ifn c1 hF
      refine R_aload_n (pc := 10) h 2 rfl rfl dX5_copies_10 ?_
      refine R_iload_n (pc := 11) h 3 rfl rfl dX5_copies_11 ?_
      refine R_iload (pc := 12) h 5 rfl dX5_copies_12 ?_
      refine R_iadd (pc := 14) h dX5_copies_14 ?_
      refine R_aload_n (pc := 15) h 0 rfl rfl dX5_copies_15 ?_
      refine R_iload_n (pc := 16) h 1 rfl rfl dX5_copies_16 ?_
      refine R_iload (pc := 17) h 5 rfl dX5_copies_17 ?_
      refine R_iadd (pc := 19) h dX5_copies_19 ?_
      obtain ⟨v2, hv2, hF⟩ := bd hF
      refine R_iald (pc := 20) h hv2 lm_12 dX5_copies_20 ?_
      obtain ⟨M3, hM3, hF⟩ := bd hF
      refine R_iast (pc := 21) h hM3 lm_11 dX5_copies_21 ?_
      obtain ⟨v4, hv4, hF⟩ := nm_e2 hF
      refine R_iinc (pc := 22) (lv' := [(5, .int v4), (0, .ref (ad 12)), (1, .int x1), (2, .ref (ad 11)), (3, .int x3), (4, .int x4)]) h 5 rfl (by decide) hv4 (by decide) rfl dX5_copies_22 ?_
      refine R_goto (pc := 25) (tgt := 3) h dX5_copies_25 (by decide) ?_
      exact Wp_sub (nX := 0) (lv' := [(0, .ref (ad 12)), (1, .int x1), (2, .ref (ad 11)), (3, .int x3), (4, .int x4), (5, .int v4)]) [1, 2, 3, 4, 5, 0] rfl (ih _ _ _ _ _ hF)
theorem w5_copies_12_11_3 {ad : Nat → Nat} {X : XX} {R : Mem} {fu : Nat}  (h : Cx layM ad X cX5_copies RX5 6 1 none (R) none)  {f : Nat} {x1 : Int32} {x3 : Int32} {x4 : Int32} {x5 : Int32} {M : Mem} (hF : f5_copies_12_11_3 fu f x1 x3 x4 x5 M = some R) : Wp layM ad X M 3 [(0, .ref (ad 12)), (1, .int x1), (2, .ref (ad 11)), (3, .int x3), (4, .int x4), (5, .int x5)] [] := w5_copies_12_11i_3 h  f _ _ _ _ _ hF
def f5_copies_12_11 (fu : Nat) (x1 : Int32) (x3 : Int32) (x4 : Int32) (M : Mem) : Option (Mem) :=
    (f5_copies_12_11_3 fu fu x1 x3 x4 (0 : Int32) M)
set_option maxHeartbeats 4000000 in
set_option maxRecDepth 10000 in
theorem w5_copies_12_11 {ad : Nat → Nat} {X : XX} {R : Mem} {fu : Nat} (h : Cx layM ad X cX5_copies RX5 6 1 none (R) none) {x1 : Int32} {x3 : Int32} {x4 : Int32} {M : Mem} (hF : f5_copies_12_11 fu x1 x3 x4 M = some R) : Wp layM ad X M 0 [(0, .ref (ad 12)), (1, .int x1), (2, .ref (ad 11)), (3, .int x3), (4, .int x4)] [] := by
  unfold f5_copies_12_11 at hF
  refine R_iconst (pc := 0) (v := 0) h (by decide) dX5_copies_0 ?_
  refine R_istore (pc := 1) (lv' := [(5, .int (0 : Int32)), (0, .ref (ad 12)), (1, .int x1), (2, .ref (ad 11)), (3, .int x3), (4, .int x4)]) h rfl (by decide) rfl dX5_copies_1 ?_
  exact Wp_sub (nX := 0) (lv' := [(0, .ref (ad 12)), (1, .int x1), (2, .ref (ad 11)), (3, .int x3), (4, .int x4), (5, .int (0 : Int32))]) [1, 2, 3, 4, 5, 0] rfl (w5_copies_12_11_3 h  (hF := hF))
theorem c5_copies_12_11 {ad : Nat → Nat} {z : ZZ} {R : Mem} {fu : Nat} {x1 : Int32} {x3 : Int32} {x4 : Int32} {M : Mem} (hF : f5_copies_12_11 fu x1 x3 x4 M = some R) : Con layM ad z yX5_copies cX5_copies 6 none 1 M [.ref (ad 12), .int x1, .ref (ad 11), .int x3, .int x4] (R) none := con_of (own := RX5) (lv := [(0, .ref (ad 12)), (1, .int x1), (2, .ref (ad 11)), (3, .int x3), (4, .int x4)]) (by decide +kernel) rfl (Nat.le_of_ble_eq_true rfl) rfl (fun X hz h => w5_copies_12_11 h hF)
def f5_on (fu : Nat) (x1 : Int32) (M : Mem) : Option (Mem × Int32) :=
    (f5_in x1.toInt64 (0 : Int64) (2 : Int64)).bind fun r2 =>
    if r2 = 0 then ((some (M, (-1 : Int32))))
    else ((rd M 12 1110 ((370 : Int32) * x1)).bind fun v4 =>
    if 0 ≤ v4 then ((rd M 12 1110 ((370 : Int32) * x1)).bind fun v6 =>
    nm (sI M 0 16 v6) fun M7 =>
    (f5_copies_12_10 fu (((370 : Int32) * x1) + (1 : Int32)) (0 : Int32) (9 : Int32) M7).bind fun M9 =>
    (f5_copies_12_11 fu ((((370 : Int32) * x1) + (1 : Int32)) + (9 : Int32)) (0 : Int32) (360 : Int32) M9).bind fun M11 =>
    (some (M11, (M11.1 0 16))))
    else ((f5_found (1 : Int32) M).bind fun ⟨M13, r14⟩ =>
    (some (M13, r14))))
set_option maxHeartbeats 4000000 in
set_option maxRecDepth 10000 in
theorem w5_on {ad : Nat → Nat} {X : XX} {R : Mem × Int32} {fu : Nat} (h : Cx layM ad X cX5_on RX5 2 2 (some .int) (R.1) (some (.int R.2))) {x1 : Int32} {M : Mem} (hF : f5_on fu x1 M = some R) : Wp layM ad X M 0 [(0, .ref (ad 0)), (1, .int x1)] [] := by
  unfold f5_on at hF
  refine R_iload_n (pc := 0) h 1 rfl rfl dX5_on_0 ?_
  refine R_i2l (pc := 1) h dX5_on_1 ?_
  refine R_lconst (pc := 2) (v := 0) h (by decide) dX5_on_2 ?_
  refine R_ldc2 (pc := 3) h klX5_179 dX5_on_3 ?_
  obtain ⟨r2, hc1, hF⟩ := bd hF
  refine R_callS (pc := 6) (st := []) h [.long x1.toInt64, .long (0 : Int64), .long (2 : Int64)] csX5_71 (c5_in (ad := ad) (z := X.1) (M := M) hc1) rfl rfl (by decide) (by decide) (Nat.le_of_ble_eq_true rfl) dX5_on_6 (st1 := [.int r2]) rfl ?_
  refine R_if_ne (pc := 9) (tgt := 14) h dX5_on_9 (by decide) (fun c3 => ?_) (fun c3 => ?_)
  · have hF := ifn c3 hF
    refine R_aload_n (pc := 14) h 0 rfl rfl dX5_on_14 ?_
    refine R_getR (pc := 15) (q1 := 12) h flX5_47 lm_0 rfl dX5_on_15 ?_
    refine R_sipush (pc := 18) (v := 370) h (by decide) dX5_on_18 ?_
    refine R_iload_n (pc := 21) h 1 rfl rfl dX5_on_21 ?_
    refine R_imul (pc := 22) h dX5_on_22 ?_
    obtain ⟨v4, hv4, hF⟩ := bd hF
    refine R_iald (pc := 23) h hv4 lm_12 dX5_on_23 ?_
    refine R_if_ge (pc := 24) (tgt := 33) h dX5_on_24 (by decide) (fun c5 => ?_) (fun c5 => ?_)
    · have hF := itp c5 hF
      refine R_aload_n (pc := 33) h 0 rfl rfl dX5_on_33 ?_
      refine R_aload_n (pc := 34) h 0 rfl rfl dX5_on_34 ?_
      refine R_getR (pc := 35) (q1 := 12) h flX5_47 lm_0 rfl dX5_on_35 ?_
      refine R_sipush (pc := 38) (v := 370) h (by decide) dX5_on_38 ?_
      refine R_iload_n (pc := 41) h 1 rfl rfl dX5_on_41 ?_
      refine R_imul (pc := 42) h dX5_on_42 ?_
      obtain ⟨v6, hv6, hF⟩ := bd hF
      refine R_iald (pc := 43) h hv6 lm_12 dX5_on_43 ?_
      obtain ⟨M7, hM7, hF⟩ := nm_e2 hF
      refine R_putI (pc := 44) h hM7 fpX5_91 lm_0 rfl dX5_on_44 ?_
      refine R_aload_n (pc := 47) h 0 rfl rfl dX5_on_47 ?_
      refine R_getR (pc := 48) (q1 := 12) h flX5_47 lm_0 rfl dX5_on_48 ?_
      refine R_sipush (pc := 51) (v := 370) h (by decide) dX5_on_51 ?_
      refine R_iload_n (pc := 54) h 1 rfl rfl dX5_on_54 ?_
      refine R_imul (pc := 55) h dX5_on_55 ?_
      refine R_iconst (pc := 56) (v := 1) h (by decide) dX5_on_56 ?_
      refine R_iadd (pc := 57) h dX5_on_57 ?_
      refine R_aload_n (pc := 58) h 0 rfl rfl dX5_on_58 ?_
      refine R_getR (pc := 59) (q1 := 10) h flX5_41 lm_0 rfl dX5_on_59 ?_
      refine R_iconst (pc := 62) (v := 0) h (by decide) dX5_on_62 ?_
      refine R_bipush (pc := 63) (v := 9) h (by decide) dX5_on_63 ?_
      obtain ⟨M9, hc8, hF⟩ := bd hF
      refine R_callS (pc := 65) (st := []) h [.ref (ad 12), .int (((370 : Int32) * x1) + (1 : Int32)), .ref (ad 10), .int (0 : Int32), .int (9 : Int32)] csX5_163 (c5_copies_12_10 (ad := ad) (z := X.1) hc8) rfl rfl (by decide) (by decide) (Nat.le_of_ble_eq_true rfl) dX5_on_65 (st1 := []) rfl ?_
      refine R_aload_n (pc := 68) h 0 rfl rfl dX5_on_68 ?_
      refine R_getR (pc := 69) (q1 := 12) h flX5_47 lm_0 rfl dX5_on_69 ?_
      refine R_sipush (pc := 72) (v := 370) h (by decide) dX5_on_72 ?_
      refine R_iload_n (pc := 75) h 1 rfl rfl dX5_on_75 ?_
      refine R_imul (pc := 76) h dX5_on_76 ?_
      refine R_iconst (pc := 77) (v := 1) h (by decide) dX5_on_77 ?_
      refine R_iadd (pc := 78) h dX5_on_78 ?_
      refine R_bipush (pc := 79) (v := 9) h (by decide) dX5_on_79 ?_
      refine R_iadd (pc := 81) h dX5_on_81 ?_
      refine R_aload_n (pc := 82) h 0 rfl rfl dX5_on_82 ?_
      refine R_getR (pc := 83) (q1 := 11) h flX5_44 lm_0 rfl dX5_on_83 ?_
      refine R_iconst (pc := 86) (v := 0) h (by decide) dX5_on_86 ?_
      refine R_sipush (pc := 87) (v := 360) h (by decide) dX5_on_87 ?_
      obtain ⟨M11, hc10, hF⟩ := bd hF
      refine R_callS (pc := 90) (st := []) h [.ref (ad 12), .int ((((370 : Int32) * x1) + (1 : Int32)) + (9 : Int32)), .ref (ad 11), .int (0 : Int32), .int (360 : Int32)] csX5_163 (c5_copies_12_11 (ad := ad) (z := X.1) hc10) rfl rfl (by decide) (by decide) (Nat.le_of_ble_eq_true rfl) dX5_on_90 (st1 := []) rfl ?_
      refine R_aload_n (pc := 93) h 0 rfl rfl dX5_on_93 ?_
      refine R_getI (pc := 94) h flX5_91 lm_0 rfl dX5_on_94 ?_
      cases hF
      exact R_ireturn (pc := 97) h rfl rfl rfl dX5_on_97
    · have hF := ifn c5 hF
      refine R_aload_n (pc := 27) h 0 rfl rfl dX5_on_27 ?_
      refine R_iconst (pc := 28) (v := 1) h (by decide) dX5_on_28 ?_
      obtain ⟨⟨M13, r14⟩, hc12, hF⟩ := bd hF
      refine R_callV (pc := 29) (st := []) h [.int (1 : Int32)] cvX5_81 (c5_found (ad := ad) (z := X.1) hc12) rfl rfl lm_0 (by decide) (by decide) (Nat.le_of_ble_eq_true rfl) dX5_on_29 (st1 := [.int r14]) rfl ?_
      cases hF
      exact R_ireturn (pc := 32) h rfl rfl rfl dX5_on_32
  · have hF := itp c3 hF
    refine R_iconst (pc := 12) (v := (-1)) h (by decide) dX5_on_12 ?_
    cases hF
    exact R_ireturn (pc := 13) h rfl rfl rfl dX5_on_13
theorem c5_on {ad : Nat → Nat} {z : ZZ} {R : Mem × Int32} {fu : Nat} {x1 : Int32} {M : Mem} (hF : f5_on fu x1 M = some R) : Con layM ad z yX5_on cX5_on 2 (some .int) 2 M [.ref (ad 0), .int x1] (R.1) (some (.int R.2)) := con_of (own := RX5) (lv := [(0, .ref (ad 0)), (1, .int x1)]) (by decide +kernel) rfl (Nat.le_of_ble_eq_true rfl) rfl (fun X hz h => w5_on h hF)
def f5_hoursAll_8 (M : Mem) (fu : Nat) : Nat → Int32 → Int32 → Int32 → Int32 → Int32 → Option (Int32)
  | 0 => fun _ _ _ _ _ => none
  | f + 1 => fun x1 x2 x3 x4 x5 =>
    if (M.1 0 9) ≤ x5 then (if x2 = 0 then ((some x3))
    else ((some x4)))
    else ((f5_has x1 x5).bind fun r4 =>
    if r4 = 0 then (nm (x5 + (1 : Int32)) fun v6 =>
    ((f5_hoursAll_8 M fu f) x1 x2 x3 x4 v6))
    else ((f5_hoursOf M x5).bind fun r8 =>
    nm (x4 ||| (x3 &&& r8)) fun v9 =>
    (f5_hoursOf M x5).bind fun r11 =>
    nm (x3 ||| r11) fun v12 =>
    nm (x5 + (1 : Int32)) fun v13 =>
    ((f5_hoursAll_8 M fu f) x1 x2 v12 v9 v13)))
set_option maxHeartbeats 4000000 in
set_option maxRecDepth 10000 in
theorem w5_hoursAlli_8 {ad : Nat → Nat} {X : XX} {R : Int32} {M : Mem} {fu : Nat}  (h : Cx layM ad X cX5_hoursAll RX5 6 2 (some .int) M (some (.int R)))  : ∀ (f : Nat) (x1 : Int32) (x2 : Int32) (x3 : Int32) (x4 : Int32) (x5 : Int32), f5_hoursAll_8 M fu f x1 x2 x3 x4 x5 = some R → Wp layM ad X M 8 [(0, .ref (ad 0)), (1, .int x1), (2, .int x2), (3, .int x3), (4, .int x4), (5, .int x5)] [] := by
  intro f
  induction f with
  | zero => intro x1 x2 x3 x4 x5 hF; exact absurd hF (by simp [f5_hoursAll_8])
  | succ f ih =>
    intro x1 x2 x3 x4 x5 hF
    rw [f5_hoursAll_8] at hF
    refine R_iload (pc := 8) h 5 rfl dX5_hoursAll_8 ?_
    refine R_aload_n (pc := 10) h 0 rfl rfl dX5_hoursAll_10 ?_
    refine R_getI (pc := 11) h flX5_130 lm_0 rfl dX5_hoursAll_11 ?_
    refine R_icmp_ge (pc := 14) (tgt := 54) h dX5_hoursAll_14 (by decide) (fun c1 => ?_) (fun c1 => ?_)
    · have hF := itp c1 hF
      refine R_iload_n (pc := 54) h 2 rfl rfl dX5_hoursAll_54 ?_
      refine R_if_eq (pc := 55) (tgt := 63) h dX5_hoursAll_55 (by decide) (fun c2 => ?_) (fun c2 => ?_)
      · have hF := itp c2 hF
        refine R_iload_n (pc := 63) h 3 rfl rfl dX5_hoursAll_63 ?_
        cases hF
        exact R_ireturn (pc := 64) h rfl rfl rfl dX5_hoursAll_64
      · have hF := ifn c2 hF
        refine R_iload (pc := 58) h 4 rfl dX5_hoursAll_58 ?_
        refine R_goto (pc := 60) (tgt := 64) h dX5_hoursAll_60 (by decide) ?_
        cases hF
        exact R_ireturn (pc := 64) h rfl rfl rfl dX5_hoursAll_64
    · have hF := ifn c1 hF
      refine R_iload_n (pc := 17) h 1 rfl rfl dX5_hoursAll_17 ?_
      refine R_iload (pc := 18) h 5 rfl dX5_hoursAll_18 ?_
      obtain ⟨r4, hc3, hF⟩ := bd hF
      refine R_callS (pc := 20) (st := []) h [.int x1, .int x5] csX5_139 (c5_has (ad := ad) (z := X.1) (M := M) hc3) rfl rfl (by decide) (by decide) (Nat.le_of_ble_eq_true rfl) dX5_hoursAll_20 (st1 := [.int r4]) rfl ?_
      refine R_if_eq (pc := 23) (tgt := 48) h dX5_hoursAll_23 (by decide) (fun c5 => ?_) (fun c5 => ?_)
      · have hF := itp c5 hF
        obtain ⟨v6, hv6, hF⟩ := nm_e2 hF
        refine R_iinc (pc := 48) (lv' := [(5, .int v6), (0, .ref (ad 0)), (1, .int x1), (2, .int x2), (3, .int x3), (4, .int x4)]) h 5 rfl (by decide) hv6 (by decide) rfl dX5_hoursAll_48 ?_
        refine R_goto (pc := 51) (tgt := 8) h dX5_hoursAll_51 (by decide) ?_
        exact Wp_sub (nX := 0) (lv' := [(0, .ref (ad 0)), (1, .int x1), (2, .int x2), (3, .int x3), (4, .int x4), (5, .int v6)]) [1, 2, 3, 4, 5, 0] rfl (ih _ _ _ _ _ hF)
      · have hF := ifn c5 hF
        refine R_iload (pc := 26) h 4 rfl dX5_hoursAll_26 ?_
        refine R_iload_n (pc := 28) h 3 rfl rfl dX5_hoursAll_28 ?_
        refine R_aload_n (pc := 29) h 0 rfl rfl dX5_hoursAll_29 ?_
        refine R_iload (pc := 30) h 5 rfl dX5_hoursAll_30 ?_
        obtain ⟨r8, hc7, hF⟩ := bd hF
        refine R_callV (pc := 32) (st := [.int x3, .int x4]) h [.int x5] cvX5_136 (c5_hoursOf (ad := ad) (z := X.1) hc7) rfl rfl lm_0 (by decide) (by decide) (Nat.le_of_ble_eq_true rfl) dX5_hoursAll_32 (st1 := [.int r8, .int x3, .int x4]) rfl ?_
        refine R_iand (pc := 35) h dX5_hoursAll_35 ?_
        refine R_ior (pc := 36) h dX5_hoursAll_36 ?_
        obtain ⟨v9, hv9, hF⟩ := nm_e2 hF
        refine R_istore (pc := 37) (lv' := [(4, .int v9), (0, .ref (ad 0)), (1, .int x1), (2, .int x2), (3, .int x3), (5, .int x5)]) h hv9 (by decide) rfl dX5_hoursAll_37 ?_
        refine R_iload_n (pc := 39) h 4 rfl rfl dX5_hoursAll_39 ?_
        refine R_aload_n (pc := 40) h 1 rfl rfl dX5_hoursAll_40 ?_
        refine R_iload (pc := 41) h 5 rfl dX5_hoursAll_41 ?_
        obtain ⟨r11, hc10, hF⟩ := bd hF
        refine R_callV (pc := 43) (st := [.int x3]) h [.int x5] cvX5_136 (c5_hoursOf (ad := ad) (z := X.1) hc10) rfl rfl lm_0 (by decide) (by decide) (Nat.le_of_ble_eq_true rfl) dX5_hoursAll_43 (st1 := [.int r11, .int x3]) rfl ?_
        refine R_ior (pc := 46) h dX5_hoursAll_46 ?_
        obtain ⟨v12, hv12, hF⟩ := nm_e2 hF
        refine R_istore_n (pc := 47) (lv' := [(3, .int v12), (4, .int v9), (0, .ref (ad 0)), (1, .int x1), (2, .int x2), (5, .int x5)]) h hv12 rfl (by decide) rfl dX5_hoursAll_47 ?_
        obtain ⟨v13, hv13, hF⟩ := nm_e2 hF
        refine R_iinc (pc := 48) (lv' := [(5, .int v13), (3, .int v12), (4, .int v9), (0, .ref (ad 0)), (1, .int x1), (2, .int x2)]) h 5 rfl (by decide) hv13 (by decide) rfl dX5_hoursAll_48 ?_
        refine R_goto (pc := 51) (tgt := 8) h dX5_hoursAll_51 (by decide) ?_
        exact Wp_sub (nX := 0) (lv' := [(0, .ref (ad 0)), (1, .int x1), (2, .int x2), (3, .int v12), (4, .int v9), (5, .int v13)]) [3, 4, 5, 1, 2, 0] rfl (ih _ _ _ _ _ hF)
theorem w5_hoursAll_8 {ad : Nat → Nat} {X : XX} {R : Int32} {M : Mem} {fu : Nat}  (h : Cx layM ad X cX5_hoursAll RX5 6 2 (some .int) M (some (.int R)))  {f : Nat} {x1 : Int32} {x2 : Int32} {x3 : Int32} {x4 : Int32} {x5 : Int32} (hF : f5_hoursAll_8 M fu f x1 x2 x3 x4 x5 = some R) : Wp layM ad X M 8 [(0, .ref (ad 0)), (1, .int x1), (2, .int x2), (3, .int x3), (4, .int x4), (5, .int x5)] [] := w5_hoursAlli_8 h  f _ _ _ _ _ hF
def f5_hoursAll (M : Mem) (fu : Nat) (x1 : Int32) (x2 : Int32) : Option (Int32) :=
    (f5_hoursAll_8 M fu fu x1 x2 (0 : Int32) (0 : Int32) (0 : Int32))
set_option maxHeartbeats 4000000 in
set_option maxRecDepth 10000 in
theorem w5_hoursAll {ad : Nat → Nat} {X : XX} {R : Int32} {M : Mem} {fu : Nat} (h : Cx layM ad X cX5_hoursAll RX5 6 2 (some .int) M (some (.int R))) {x1 : Int32} {x2 : Int32} (hF : f5_hoursAll M fu x1 x2 = some R) : Wp layM ad X M 0 [(0, .ref (ad 0)), (1, .int x1), (2, .int x2)] [] := by
  unfold f5_hoursAll at hF
  refine R_iconst (pc := 0) (v := 0) h (by decide) dX5_hoursAll_0 ?_
  refine R_istore_n (pc := 1) (lv' := [(3, .int (0 : Int32)), (0, .ref (ad 0)), (1, .int x1), (2, .int x2)]) h rfl rfl (by decide) rfl dX5_hoursAll_1 ?_
  refine R_iconst (pc := 2) (v := 0) h (by decide) dX5_hoursAll_2 ?_
  refine R_istore (pc := 3) (lv' := [(4, .int (0 : Int32)), (3, .int (0 : Int32)), (0, .ref (ad 0)), (1, .int x1), (2, .int x2)]) h rfl (by decide) rfl dX5_hoursAll_3 ?_
  refine R_iconst (pc := 5) (v := 0) h (by decide) dX5_hoursAll_5 ?_
  refine R_istore (pc := 6) (lv' := [(5, .int (0 : Int32)), (4, .int (0 : Int32)), (3, .int (0 : Int32)), (0, .ref (ad 0)), (1, .int x1), (2, .int x2)]) h rfl (by decide) rfl dX5_hoursAll_6 ?_
  exact Wp_sub (nX := 0) (lv' := [(0, .ref (ad 0)), (1, .int x1), (2, .int x2), (3, .int (0 : Int32)), (4, .int (0 : Int32)), (5, .int (0 : Int32))]) [3, 4, 5, 2, 1, 0] rfl (w5_hoursAll_8 h  (hF := hF))
theorem c5_hoursAll {ad : Nat → Nat} {z : ZZ} {R : Int32} {M : Mem} {fu : Nat} {x1 : Int32} {x2 : Int32} (hF : f5_hoursAll M fu x1 x2 = some R) : Con layM ad z yX5_hoursAll cX5_hoursAll 6 (some .int) 2 M [.ref (ad 0), .int x1, .int x2] (M) (some (.int R)) := con_of (own := RX5) (lv := [(0, .ref (ad 0)), (1, .int x1), (2, .int x2)]) (by decide +kernel) rfl (Nat.le_of_ble_eq_true rfl) rfl (fun X hz h => w5_hoursAll h hF)
def f5_answer (x1 : Int32) (x2 : Int32) (M : Mem) : Option (Mem × Int32) :=
    nm (sI M 0 4 x2) fun M1 =>
    (some (M1, x1))
set_option maxHeartbeats 4000000 in
set_option maxRecDepth 10000 in
theorem w5_answer {ad : Nat → Nat} {X : XX} {R : Mem × Int32} (h : Cx layM ad X cX5_answer RX5 3 1 (some .int) (R.1) (some (.int R.2))) {x1 : Int32} {x2 : Int32} {M : Mem} (hF : f5_answer x1 x2 M = some R) : Wp layM ad X M 0 [(0, .ref (ad 0)), (1, .int x1), (2, .int x2)] [] := by
  unfold f5_answer at hF
  refine R_aload_n (pc := 0) h 0 rfl rfl dX5_answer_0 ?_
  refine R_iload_n (pc := 1) h 2 rfl rfl dX5_answer_1 ?_
  obtain ⟨M1, hM1, hF⟩ := nm_e2 hF
  refine R_putI (pc := 2) h hM1 fpX5_66 lm_0 rfl dX5_answer_2 ?_
  refine R_iload_n (pc := 5) h 1 rfl rfl dX5_answer_5 ?_
  cases hF
  exact R_ireturn (pc := 6) h rfl rfl rfl dX5_answer_6
theorem c5_answer {ad : Nat → Nat} {z : ZZ} {R : Mem × Int32} {x1 : Int32} {x2 : Int32} {M : Mem} (hF : f5_answer x1 x2 M = some R) : Con layM ad z yX5_answer cX5_answer 3 (some .int) 1 M [.ref (ad 0), .int x1, .int x2] (R.1) (some (.int R.2)) := con_of (own := RX5) (lv := [(0, .ref (ad 0)), (1, .int x1), (2, .int x2)]) (by decide +kernel) rfl (Nat.le_of_ble_eq_true rfl) rfl (fun X hz h => w5_answer h hF)
def f5_busy (fu : Nat) (M : Mem) : Option (Mem × Int32) :=
    (f5_those M fu (-1 : Int32)).bind fun r2 =>
    (f5_hoursAll M fu r2 (0 : Int32)).bind fun r4 =>
    (f5_hoursAll M fu r2 (1 : Int32)).bind fun r6 =>
    (f5_answer r4 r6 M).bind fun ⟨M8, r9⟩ =>
    (some (M8, r9))
set_option maxHeartbeats 4000000 in
set_option maxRecDepth 10000 in
theorem w5_busy {ad : Nat → Nat} {X : XX} {R : Mem × Int32} {fu : Nat} (h : Cx layM ad X cX5_busy RX5 2 3 (some .int) (R.1) (some (.int R.2))) {M : Mem} (hF : f5_busy fu M = some R) : Wp layM ad X M 0 [(0, .ref (ad 0))] [] := by
  unfold f5_busy at hF
  refine R_aload_n (pc := 0) h 0 rfl rfl dX5_busy_0 ?_
  refine R_iconst (pc := 1) (v := (-1)) h (by decide) dX5_busy_1 ?_
  obtain ⟨r2, hc1, hF⟩ := bd hF
  refine R_callV (pc := 2) (st := []) h [.int (-1 : Int32)] cvX5_170 (c5_those (ad := ad) (z := X.1) hc1) rfl rfl lm_0 (by decide) (by decide) (Nat.le_of_ble_eq_true rfl) dX5_busy_2 (st1 := [.int r2]) rfl ?_
  refine R_istore_n (pc := 5) (lv' := [(1, .int r2), (0, .ref (ad 0))]) h rfl rfl (by decide) rfl dX5_busy_5 ?_
  refine R_aload_n (pc := 6) h 1 rfl rfl dX5_busy_6 ?_
  refine R_aload_n (pc := 7) h 1 rfl rfl dX5_busy_7 ?_
  refine R_iload_n (pc := 8) h 0 rfl rfl dX5_busy_8 ?_
  refine R_iconst (pc := 9) (v := 0) h (by decide) dX5_busy_9 ?_
  obtain ⟨r4, hc3, hF⟩ := bd hF
  refine R_callV (pc := 10) (st := [.ref (ad 0)]) h [.int r2, .int (0 : Int32)] cvX5_149 (c5_hoursAll (ad := ad) (z := X.1) hc3) rfl rfl lm_0 (by decide) (by decide) (Nat.le_of_ble_eq_true rfl) dX5_busy_10 (st1 := [.int r4, .ref (ad 0)]) rfl ?_
  refine R_aload_n (pc := 13) h 1 rfl rfl dX5_busy_13 ?_
  refine R_iload_n (pc := 14) h 0 rfl rfl dX5_busy_14 ?_
  refine R_iconst (pc := 15) (v := 1) h (by decide) dX5_busy_15 ?_
  obtain ⟨r6, hc5, hF⟩ := bd hF
  refine R_callV (pc := 16) (st := [.int r4, .ref (ad 0)]) h [.int r2, .int (1 : Int32)] cvX5_149 (c5_hoursAll (ad := ad) (z := X.1) hc5) rfl rfl lm_0 (by decide) (by decide) (Nat.le_of_ble_eq_true rfl) dX5_busy_16 (st1 := [.int r6, .int r4, .ref (ad 0)]) rfl ?_
  obtain ⟨⟨M8, r9⟩, hc7, hF⟩ := bd hF
  refine R_callV (pc := 19) (st := []) h [.int r4, .int r6] cvX5_181 (c5_answer (ad := ad) (z := X.1) hc7) rfl rfl lm_0 (by decide) (by decide) (Nat.le_of_ble_eq_true rfl) dX5_busy_19 (st1 := [.int r9]) rfl ?_
  cases hF
  exact R_ireturn (pc := 22) h rfl rfl rfl dX5_busy_22
theorem c5_busy {ad : Nat → Nat} {z : ZZ} {R : Mem × Int32} {fu : Nat} {M : Mem} (hF : f5_busy fu M = some R) : Con layM ad z yX5_busy cX5_busy 2 (some .int) 3 M [.ref (ad 0)] (R.1) (some (.int R.2)) := con_of (own := RX5) (lv := [(0, .ref (ad 0))]) (by decide +kernel) rfl (Nat.le_of_ble_eq_true rfl) rfl (fun X hz h => w5_busy h hF)
def f5_worthAll_4 (M : Mem) (fu : Nat) : Nat → Int32 → Int32 → Int32 → Option (Int32)
  | 0 => fun _ _ _ => none
  | f + 1 => fun x1 x2 x3 =>
    if (M.1 0 9) ≤ x3 then ((some x2))
    else ((f5_has x1 x3).bind fun r3 =>
    if r3 = 0 then (nm (x2 + (0 : Int32)) fun v5 =>
    nm (x3 + (1 : Int32)) fun v6 =>
    ((f5_worthAll_4 M fu f) x1 v5 v6))
    else ((f5_worthOf M x3).bind fun r8 =>
    nm (x2 + r8) fun v9 =>
    nm (x3 + (1 : Int32)) fun v10 =>
    ((f5_worthAll_4 M fu f) x1 v9 v10)))
set_option maxHeartbeats 4000000 in
set_option maxRecDepth 10000 in
theorem w5_worthAlli_4 {ad : Nat → Nat} {X : XX} {R : Int32} {M : Mem} {fu : Nat}  (h : Cx layM ad X cX5_worthAll RX5 4 4 (some .int) M (some (.int R)))  : ∀ (f : Nat) (x1 : Int32) (x2 : Int32) (x3 : Int32), f5_worthAll_4 M fu f x1 x2 x3 = some R → Wp layM ad X M 4 [(0, .ref (ad 0)), (1, .int x1), (2, .int x2), (3, .int x3)] [] := by
  intro f
  induction f with
  | zero => intro x1 x2 x3 hF; exact absurd hF (by simp [f5_worthAll_4])
  | succ f ih =>
    intro x1 x2 x3 hF
    rw [f5_worthAll_4] at hF
    refine R_iload_n (pc := 4) h 3 rfl rfl dX5_worthAll_4 ?_
    refine R_aload_n (pc := 5) h 0 rfl rfl dX5_worthAll_5 ?_
    refine R_getI (pc := 6) h flX5_130 lm_0 rfl dX5_worthAll_6 ?_
    refine R_icmp_ge (pc := 9) (tgt := 38) h dX5_worthAll_9 (by decide) (fun c1 => ?_) (fun c1 => ?_)
    · have hF := itp c1 hF
      refine R_iload_n (pc := 38) h 2 rfl rfl dX5_worthAll_38 ?_
      cases hF
      exact R_ireturn (pc := 39) h rfl rfl rfl dX5_worthAll_39
    · have hF := ifn c1 hF
      refine R_iload_n (pc := 12) h 2 rfl rfl dX5_worthAll_12 ?_
      refine R_iload_n (pc := 13) h 1 rfl rfl dX5_worthAll_13 ?_
      refine R_iload_n (pc := 14) h 3 rfl rfl dX5_worthAll_14 ?_
      obtain ⟨r3, hc2, hF⟩ := bd hF
      refine R_callS (pc := 15) (st := [.int x2]) h [.int x1, .int x3] csX5_139 (c5_has (ad := ad) (z := X.1) (M := M) hc2) rfl rfl (by decide) (by decide) (Nat.le_of_ble_eq_true rfl) dX5_worthAll_15 (st1 := [.int r3, .int x2]) rfl ?_
      refine R_if_eq (pc := 18) (tgt := 29) h dX5_worthAll_18 (by decide) (fun c4 => ?_) (fun c4 => ?_)
      · have hF := itp c4 hF
        refine R_iconst (pc := 29) (v := 0) h (by decide) dX5_worthAll_29 ?_
        refine R_iadd (pc := 30) h dX5_worthAll_30 ?_
        obtain ⟨v5, hv5, hF⟩ := nm_e2 hF
        refine R_istore_n (pc := 31) (lv' := [(2, .int v5), (0, .ref (ad 0)), (1, .int x1), (3, .int x3)]) h hv5 rfl (by decide) rfl dX5_worthAll_31 ?_
        obtain ⟨v6, hv6, hF⟩ := nm_e2 hF
        refine R_iinc (pc := 32) (lv' := [(3, .int v6), (2, .int v5), (0, .ref (ad 0)), (1, .int x1)]) h 3 rfl (by decide) hv6 (by decide) rfl dX5_worthAll_32 ?_
        refine R_goto (pc := 35) (tgt := 4) h dX5_worthAll_35 (by decide) ?_
        exact Wp_sub (nX := 0) (lv' := [(0, .ref (ad 0)), (1, .int x1), (2, .int v5), (3, .int v6)]) [2, 3, 1, 0] rfl (ih _ _ _ hF)
      · have hF := ifn c4 hF
        refine R_aload_n (pc := 21) h 0 rfl rfl dX5_worthAll_21 ?_
        refine R_iload_n (pc := 22) h 3 rfl rfl dX5_worthAll_22 ?_
        obtain ⟨r8, hc7, hF⟩ := bd hF
        refine R_callV (pc := 23) (st := [.int x2]) h [.int x3] cvX5_146 (c5_worthOf (ad := ad) (z := X.1) hc7) rfl rfl lm_0 (by decide) (by decide) (Nat.le_of_ble_eq_true rfl) dX5_worthAll_23 (st1 := [.int r8, .int x2]) rfl ?_
        refine R_goto (pc := 26) (tgt := 30) h dX5_worthAll_26 (by decide) ?_
        refine R_iadd (pc := 30) h dX5_worthAll_30 ?_
        obtain ⟨v9, hv9, hF⟩ := nm_e2 hF
        refine R_istore_n (pc := 31) (lv' := [(2, .int v9), (0, .ref (ad 0)), (1, .int x1), (3, .int x3)]) h hv9 rfl (by decide) rfl dX5_worthAll_31 ?_
        obtain ⟨v10, hv10, hF⟩ := nm_e2 hF
        refine R_iinc (pc := 32) (lv' := [(3, .int v10), (2, .int v9), (0, .ref (ad 0)), (1, .int x1)]) h 3 rfl (by decide) hv10 (by decide) rfl dX5_worthAll_32 ?_
        refine R_goto (pc := 35) (tgt := 4) h dX5_worthAll_35 (by decide) ?_
        exact Wp_sub (nX := 0) (lv' := [(0, .ref (ad 0)), (1, .int x1), (2, .int v9), (3, .int v10)]) [2, 3, 1, 0] rfl (ih _ _ _ hF)
theorem w5_worthAll_4 {ad : Nat → Nat} {X : XX} {R : Int32} {M : Mem} {fu : Nat}  (h : Cx layM ad X cX5_worthAll RX5 4 4 (some .int) M (some (.int R)))  {f : Nat} {x1 : Int32} {x2 : Int32} {x3 : Int32} (hF : f5_worthAll_4 M fu f x1 x2 x3 = some R) : Wp layM ad X M 4 [(0, .ref (ad 0)), (1, .int x1), (2, .int x2), (3, .int x3)] [] := w5_worthAlli_4 h  f _ _ _ hF
def f5_worthAll (M : Mem) (fu : Nat) (x1 : Int32) : Option (Int32) :=
    (f5_worthAll_4 M fu fu x1 (0 : Int32) (0 : Int32))
set_option maxHeartbeats 4000000 in
set_option maxRecDepth 10000 in
theorem w5_worthAll {ad : Nat → Nat} {X : XX} {R : Int32} {M : Mem} {fu : Nat} (h : Cx layM ad X cX5_worthAll RX5 4 4 (some .int) M (some (.int R))) {x1 : Int32} (hF : f5_worthAll M fu x1 = some R) : Wp layM ad X M 0 [(0, .ref (ad 0)), (1, .int x1)] [] := by
  unfold f5_worthAll at hF
  refine R_iconst (pc := 0) (v := 0) h (by decide) dX5_worthAll_0 ?_
  refine R_istore_n (pc := 1) (lv' := [(2, .int (0 : Int32)), (0, .ref (ad 0)), (1, .int x1)]) h rfl rfl (by decide) rfl dX5_worthAll_1 ?_
  refine R_iconst (pc := 2) (v := 0) h (by decide) dX5_worthAll_2 ?_
  refine R_istore_n (pc := 3) (lv' := [(3, .int (0 : Int32)), (2, .int (0 : Int32)), (0, .ref (ad 0)), (1, .int x1)]) h rfl rfl (by decide) rfl dX5_worthAll_3 ?_
  exact Wp_sub (nX := 0) (lv' := [(0, .ref (ad 0)), (1, .int x1), (2, .int (0 : Int32)), (3, .int (0 : Int32))]) [2, 3, 1, 0] rfl (w5_worthAll_4 h  (hF := hF))
theorem c5_worthAll {ad : Nat → Nat} {z : ZZ} {R : Int32} {M : Mem} {fu : Nat} {x1 : Int32} (hF : f5_worthAll M fu x1 = some R) : Con layM ad z yX5_worthAll cX5_worthAll 4 (some .int) 4 M [.ref (ad 0), .int x1] (M) (some (.int R)) := con_of (own := RX5) (lv := [(0, .ref (ad 0)), (1, .int x1)]) (by decide +kernel) rfl (Nat.le_of_ble_eq_true rfl) rfl (fun X hz h => w5_worthAll h hF)
def f5_clashes_21 (fu : Nat) (k10 : Int32 → Int32 → Int32 → Mem → Option (Mem × Int32)) : Nat → Int32 → Int32 → Int32 → Int32 → Mem → Option (Mem × Int32)
  | 0 => fun _ _ _ _ _ => none
  | f + 1 => fun x1 x2 x3 x4 M =>
    if x3 ≤ x4 then (nm (x3 + (1 : Int32)) fun v2 =>
    (k10 x1 x2 v2 M))
    else ((f5_has x1 x3).bind fun r4 =>
    if r4 = 0 then (nm (x2 + (0 : Int32)) fun v6 =>
    nm (x4 + (1 : Int32)) fun v7 =>
    ((f5_clashes_21 fu k10 f) x1 v6 x3 v7 M))
    else ((f5_has x1 x4).bind fun r9 =>
    if r9 = 0 then (nm (x2 + (0 : Int32)) fun v11 =>
    nm (x4 + (1 : Int32)) fun v12 =>
    ((f5_clashes_21 fu k10 f) x1 v11 x3 v12 M))
    else ((f5_hoursOf M x3).bind fun r14 =>
    (f5_hoursOf M x4).bind fun r16 =>
    if (r14 &&& r16) = 0 then (nm (x2 + (0 : Int32)) fun v18 =>
    nm (x4 + (1 : Int32)) fun v19 =>
    ((f5_clashes_21 fu k10 f) x1 v18 x3 v19 M))
    else (nm (x2 + (1 : Int32)) fun v20 =>
    nm (x4 + (1 : Int32)) fun v21 =>
    ((f5_clashes_21 fu k10 f) x1 v20 x3 v21 M)))))
set_option maxHeartbeats 4000000 in
set_option maxRecDepth 10000 in
theorem w5_clashesi_21 {ad : Nat → Nat} {X : XX} {R : Mem × Int32} {fu : Nat} {k10 : Int32 → Int32 → Int32 → Mem → Option (Mem × Int32)} (h : Cx layM ad X cX5_clashes RX5 5 5 (some .int) (R.1) (some (.int R.2))) (hk10 : ∀ (x1 : Int32) (x2 : Int32) (x3 : Int32) (M : Mem), k10 x1 x2 x3 M = some R → Wp layM ad X M 10 [(0, .ref (ad 0)), (1, .int x1), (2, .int x2), (3, .int x3)] []) : ∀ (f : Nat) (x1 : Int32) (x2 : Int32) (x3 : Int32) (x4 : Int32) (M : Mem), f5_clashes_21 fu k10 f x1 x2 x3 x4 M = some R → Wp layM ad X M 21 [(0, .ref (ad 0)), (1, .int x1), (2, .int x2), (3, .int x3), (4, .int x4)] [] := by
  intro f
  induction f with
  | zero => intro x1 x2 x3 x4 M hF; exact absurd hF (by simp [f5_clashes_21])
  | succ f ih =>
    intro x1 x2 x3 x4 M hF
    rw [f5_clashes_21] at hF
    refine R_iload (pc := 21) h 4 rfl dX5_clashes_21 ?_
    refine R_iload_n (pc := 23) h 3 rfl rfl dX5_clashes_23 ?_
    refine R_icmp_ge (pc := 24) (tgt := 73) h dX5_clashes_24 (by decide) (fun c1 => ?_) (fun c1 => ?_)
    · have hF := itp c1 hF
      obtain ⟨v2, hv2, hF⟩ := nm_e2 hF
      refine R_iinc (pc := 73) (lv' := [(3, .int v2), (0, .ref (ad 0)), (1, .int x1), (2, .int x2), (4, .int x4)]) h 3 rfl (by decide) hv2 (by decide) rfl dX5_clashes_73 ?_
      refine R_goto (pc := 76) (tgt := 10) h dX5_clashes_76 (by decide) ?_
      exact Wp_sub (nX := 0) (lv' := [(0, .ref (ad 0)), (1, .int x1), (2, .int x2), (3, .int v2)]) [1, 2, 3, 0] rfl (hk10 _ _ _ _ hF)
    · have hF := ifn c1 hF
      refine R_iload_n (pc := 27) h 2 rfl rfl dX5_clashes_27 ?_
      refine R_iload_n (pc := 28) h 1 rfl rfl dX5_clashes_28 ?_
      refine R_iload_n (pc := 29) h 3 rfl rfl dX5_clashes_29 ?_
      obtain ⟨r4, hc3, hF⟩ := bd hF
      refine R_callS (pc := 30) (st := [.int x2]) h [.int x1, .int x3] csX5_139 (c5_has (ad := ad) (z := X.1) (M := M) hc3) rfl rfl (by decide) (by decide) (Nat.le_of_ble_eq_true rfl) dX5_clashes_30 (st1 := [.int r4, .int x2]) rfl ?_
      refine R_if_eq (pc := 33) (tgt := 64) h dX5_clashes_33 (by decide) (fun c5 => ?_) (fun c5 => ?_)
      · have hF := itp c5 hF
        refine R_iconst (pc := 64) (v := 0) h (by decide) dX5_clashes_64 ?_
        refine R_iadd (pc := 65) h dX5_clashes_65 ?_
        obtain ⟨v6, hv6, hF⟩ := nm_e2 hF
        refine R_istore_n (pc := 66) (lv' := [(2, .int v6), (0, .ref (ad 0)), (1, .int x1), (3, .int x3), (4, .int x4)]) h hv6 rfl (by decide) rfl dX5_clashes_66 ?_
        obtain ⟨v7, hv7, hF⟩ := nm_e2 hF
        refine R_iinc (pc := 67) (lv' := [(4, .int v7), (2, .int v6), (0, .ref (ad 0)), (1, .int x1), (3, .int x3)]) h 4 rfl (by decide) hv7 (by decide) rfl dX5_clashes_67 ?_
        refine R_goto (pc := 70) (tgt := 21) h dX5_clashes_70 (by decide) ?_
        exact Wp_sub (nX := 0) (lv' := [(0, .ref (ad 0)), (1, .int x1), (2, .int v6), (3, .int x3), (4, .int v7)]) [2, 3, 1, 4, 0] rfl (ih _ _ _ _ _ hF)
      · have hF := ifn c5 hF
        refine R_iload_n (pc := 36) h 1 rfl rfl dX5_clashes_36 ?_
        refine R_iload (pc := 37) h 4 rfl dX5_clashes_37 ?_
        obtain ⟨r9, hc8, hF⟩ := bd hF
        refine R_callS (pc := 39) (st := [.int x2]) h [.int x1, .int x4] csX5_139 (c5_has (ad := ad) (z := X.1) (M := M) hc8) rfl rfl (by decide) (by decide) (Nat.le_of_ble_eq_true rfl) dX5_clashes_39 (st1 := [.int r9, .int x2]) rfl ?_
        refine R_if_eq (pc := 42) (tgt := 64) h dX5_clashes_42 (by decide) (fun c10 => ?_) (fun c10 => ?_)
        · have hF := itp c10 hF
          refine R_iconst (pc := 64) (v := 0) h (by decide) dX5_clashes_64 ?_
          refine R_iadd (pc := 65) h dX5_clashes_65 ?_
          obtain ⟨v11, hv11, hF⟩ := nm_e2 hF
          refine R_istore_n (pc := 66) (lv' := [(2, .int v11), (0, .ref (ad 0)), (1, .int x1), (3, .int x3), (4, .int x4)]) h hv11 rfl (by decide) rfl dX5_clashes_66 ?_
          obtain ⟨v12, hv12, hF⟩ := nm_e2 hF
          refine R_iinc (pc := 67) (lv' := [(4, .int v12), (2, .int v11), (0, .ref (ad 0)), (1, .int x1), (3, .int x3)]) h 4 rfl (by decide) hv12 (by decide) rfl dX5_clashes_67 ?_
          refine R_goto (pc := 70) (tgt := 21) h dX5_clashes_70 (by decide) ?_
          exact Wp_sub (nX := 0) (lv' := [(0, .ref (ad 0)), (1, .int x1), (2, .int v11), (3, .int x3), (4, .int v12)]) [2, 3, 1, 4, 0] rfl (ih _ _ _ _ _ hF)
        · have hF := ifn c10 hF
          refine R_aload_n (pc := 45) h 0 rfl rfl dX5_clashes_45 ?_
          refine R_iload_n (pc := 46) h 3 rfl rfl dX5_clashes_46 ?_
          obtain ⟨r14, hc13, hF⟩ := bd hF
          refine R_callV (pc := 47) (st := [.int x2]) h [.int x3] cvX5_136 (c5_hoursOf (ad := ad) (z := X.1) hc13) rfl rfl lm_0 (by decide) (by decide) (Nat.le_of_ble_eq_true rfl) dX5_clashes_47 (st1 := [.int r14, .int x2]) rfl ?_
          refine R_aload_n (pc := 50) h 0 rfl rfl dX5_clashes_50 ?_
          refine R_iload (pc := 51) h 4 rfl dX5_clashes_51 ?_
          obtain ⟨r16, hc15, hF⟩ := bd hF
          refine R_callV (pc := 53) (st := [.int r14, .int x2]) h [.int x4] cvX5_136 (c5_hoursOf (ad := ad) (z := X.1) hc15) rfl rfl lm_0 (by decide) (by decide) (Nat.le_of_ble_eq_true rfl) dX5_clashes_53 (st1 := [.int r16, .int r14, .int x2]) rfl ?_
          refine R_iand (pc := 56) h dX5_clashes_56 ?_
          refine R_if_eq (pc := 57) (tgt := 64) h dX5_clashes_57 (by decide) (fun c17 => ?_) (fun c17 => ?_)
          · have hF := itp c17 hF
            refine R_iconst (pc := 64) (v := 0) h (by decide) dX5_clashes_64 ?_
            refine R_iadd (pc := 65) h dX5_clashes_65 ?_
            obtain ⟨v18, hv18, hF⟩ := nm_e2 hF
            refine R_istore_n (pc := 66) (lv' := [(2, .int v18), (0, .ref (ad 0)), (1, .int x1), (3, .int x3), (4, .int x4)]) h hv18 rfl (by decide) rfl dX5_clashes_66 ?_
            obtain ⟨v19, hv19, hF⟩ := nm_e2 hF
            refine R_iinc (pc := 67) (lv' := [(4, .int v19), (2, .int v18), (0, .ref (ad 0)), (1, .int x1), (3, .int x3)]) h 4 rfl (by decide) hv19 (by decide) rfl dX5_clashes_67 ?_
            refine R_goto (pc := 70) (tgt := 21) h dX5_clashes_70 (by decide) ?_
            exact Wp_sub (nX := 0) (lv' := [(0, .ref (ad 0)), (1, .int x1), (2, .int v18), (3, .int x3), (4, .int v19)]) [2, 3, 1, 4, 0] rfl (ih _ _ _ _ _ hF)
          · have hF := ifn c17 hF
            refine R_iconst (pc := 60) (v := 1) h (by decide) dX5_clashes_60 ?_
            refine R_goto (pc := 61) (tgt := 65) h dX5_clashes_61 (by decide) ?_
            refine R_iadd (pc := 65) h dX5_clashes_65 ?_
            obtain ⟨v20, hv20, hF⟩ := nm_e2 hF
            refine R_istore_n (pc := 66) (lv' := [(2, .int v20), (0, .ref (ad 0)), (1, .int x1), (3, .int x3), (4, .int x4)]) h hv20 rfl (by decide) rfl dX5_clashes_66 ?_
            obtain ⟨v21, hv21, hF⟩ := nm_e2 hF
            refine R_iinc (pc := 67) (lv' := [(4, .int v21), (2, .int v20), (0, .ref (ad 0)), (1, .int x1), (3, .int x3)]) h 4 rfl (by decide) hv21 (by decide) rfl dX5_clashes_67 ?_
            refine R_goto (pc := 70) (tgt := 21) h dX5_clashes_70 (by decide) ?_
            exact Wp_sub (nX := 0) (lv' := [(0, .ref (ad 0)), (1, .int x1), (2, .int v20), (3, .int x3), (4, .int v21)]) [2, 3, 1, 4, 0] rfl (ih _ _ _ _ _ hF)
theorem w5_clashes_21 {ad : Nat → Nat} {X : XX} {R : Mem × Int32} {fu : Nat} {k10 : Int32 → Int32 → Int32 → Mem → Option (Mem × Int32)} (h : Cx layM ad X cX5_clashes RX5 5 5 (some .int) (R.1) (some (.int R.2))) (hk10 : ∀ (x1 : Int32) (x2 : Int32) (x3 : Int32) (M : Mem), k10 x1 x2 x3 M = some R → Wp layM ad X M 10 [(0, .ref (ad 0)), (1, .int x1), (2, .int x2), (3, .int x3)] []) {f : Nat} {x1 : Int32} {x2 : Int32} {x3 : Int32} {x4 : Int32} {M : Mem} (hF : f5_clashes_21 fu k10 f x1 x2 x3 x4 M = some R) : Wp layM ad X M 21 [(0, .ref (ad 0)), (1, .int x1), (2, .int x2), (3, .int x3), (4, .int x4)] [] := w5_clashesi_21 h hk10 f _ _ _ _ _ hF
def f5_clashes_10 (fu : Nat) : Nat → Int32 → Int32 → Int32 → Mem → Option (Mem × Int32)
  | 0 => fun _ _ _ _ => none
  | f + 1 => fun x1 x2 x3 M =>
    if (M.1 0 9) ≤ x3 then ((f5_worthAll M fu x1).bind fun r3 =>
    (f5_answer x2 r3 M).bind fun ⟨M5, r6⟩ =>
    (some (M5, r6)))
    else ((f5_clashes_21 fu (f5_clashes_10 fu f) fu x1 x2 x3 (0 : Int32) M))
set_option maxHeartbeats 4000000 in
set_option maxRecDepth 10000 in
theorem w5_clashesi_10 {ad : Nat → Nat} {X : XX} {R : Mem × Int32} {fu : Nat}  (h : Cx layM ad X cX5_clashes RX5 5 5 (some .int) (R.1) (some (.int R.2)))  : ∀ (f : Nat) (x1 : Int32) (x2 : Int32) (x3 : Int32) (M : Mem), f5_clashes_10 fu f x1 x2 x3 M = some R → Wp layM ad X M 10 [(0, .ref (ad 0)), (1, .int x1), (2, .int x2), (3, .int x3)] [] := by
  intro f
  induction f with
  | zero => intro x1 x2 x3 M hF; exact absurd hF (by simp [f5_clashes_10])
  | succ f ih =>
    intro x1 x2 x3 M hF
    rw [f5_clashes_10] at hF
    refine R_iload_n (pc := 10) h 3 rfl rfl dX5_clashes_10 ?_
    refine R_aload_n (pc := 11) h 0 rfl rfl dX5_clashes_11 ?_
    refine R_getI (pc := 12) h flX5_130 lm_0 rfl dX5_clashes_12 ?_
    refine R_icmp_ge (pc := 15) (tgt := 79) h dX5_clashes_15 (by decide) (fun c1 => ?_) (fun c1 => ?_)
    · have hF := itp c1 hF
      refine R_aload_n (pc := 79) h 0 rfl rfl dX5_clashes_79 ?_
      refine R_iload_n (pc := 80) h 2 rfl rfl dX5_clashes_80 ?_
      refine R_aload_n (pc := 81) h 0 rfl rfl dX5_clashes_81 ?_
      refine R_iload_n (pc := 82) h 1 rfl rfl dX5_clashes_82 ?_
      obtain ⟨r3, hc2, hF⟩ := bd hF
      refine R_callV (pc := 83) (st := [.int x2, .ref (ad 0)]) h [.int x1] cvX5_185 (c5_worthAll (ad := ad) (z := X.1) hc2) rfl rfl lm_0 (by decide) (by decide) (Nat.le_of_ble_eq_true rfl) dX5_clashes_83 (st1 := [.int r3, .int x2, .ref (ad 0)]) rfl ?_
      obtain ⟨⟨M5, r6⟩, hc4, hF⟩ := bd hF
      refine R_callV (pc := 86) (st := []) h [.int x2, .int r3] cvX5_181 (c5_answer (ad := ad) (z := X.1) hc4) rfl rfl lm_0 (by decide) (by decide) (Nat.le_of_ble_eq_true rfl) dX5_clashes_86 (st1 := [.int r6]) rfl ?_
      cases hF
      exact R_ireturn (pc := 89) h rfl rfl rfl dX5_clashes_89
    · have hF := ifn c1 hF
      refine R_iconst (pc := 18) (v := 0) h (by decide) dX5_clashes_18 ?_
      refine R_istore (pc := 19) (lv' := [(4, .int (0 : Int32)), (0, .ref (ad 0)), (1, .int x1), (2, .int x2), (3, .int x3)]) h rfl (by decide) rfl dX5_clashes_19 ?_
      exact Wp_sub (nX := 0) (lv' := [(0, .ref (ad 0)), (1, .int x1), (2, .int x2), (3, .int x3), (4, .int (0 : Int32))]) [1, 2, 3, 4, 0] rfl (w5_clashes_21 h (hk10 := fun a0 a1 a2 a3 hF => ih a0 a1 a2 a3 hF) (hF := hF))
theorem w5_clashes_10 {ad : Nat → Nat} {X : XX} {R : Mem × Int32} {fu : Nat}  (h : Cx layM ad X cX5_clashes RX5 5 5 (some .int) (R.1) (some (.int R.2)))  {f : Nat} {x1 : Int32} {x2 : Int32} {x3 : Int32} {M : Mem} (hF : f5_clashes_10 fu f x1 x2 x3 M = some R) : Wp layM ad X M 10 [(0, .ref (ad 0)), (1, .int x1), (2, .int x2), (3, .int x3)] [] := w5_clashesi_10 h  f _ _ _ _ hF
def f5_clashes (fu : Nat) (M : Mem) : Option (Mem × Int32) :=
    (f5_those M fu (-1 : Int32)).bind fun r2 =>
    (f5_clashes_10 fu fu r2 (0 : Int32) (0 : Int32) M)
set_option maxHeartbeats 4000000 in
set_option maxRecDepth 10000 in
theorem w5_clashes {ad : Nat → Nat} {X : XX} {R : Mem × Int32} {fu : Nat} (h : Cx layM ad X cX5_clashes RX5 5 5 (some .int) (R.1) (some (.int R.2))) {M : Mem} (hF : f5_clashes fu M = some R) : Wp layM ad X M 0 [(0, .ref (ad 0))] [] := by
  unfold f5_clashes at hF
  refine R_aload_n (pc := 0) h 0 rfl rfl dX5_clashes_0 ?_
  refine R_iconst (pc := 1) (v := (-1)) h (by decide) dX5_clashes_1 ?_
  obtain ⟨r2, hc1, hF⟩ := bd hF
  refine R_callV (pc := 2) (st := []) h [.int (-1 : Int32)] cvX5_170 (c5_those (ad := ad) (z := X.1) hc1) rfl rfl lm_0 (by decide) (by decide) (Nat.le_of_ble_eq_true rfl) dX5_clashes_2 (st1 := [.int r2]) rfl ?_
  refine R_istore_n (pc := 5) (lv' := [(1, .int r2), (0, .ref (ad 0))]) h rfl rfl (by decide) rfl dX5_clashes_5 ?_
  refine R_iconst (pc := 6) (v := 0) h (by decide) dX5_clashes_6 ?_
  refine R_istore_n (pc := 7) (lv' := [(2, .int (0 : Int32)), (1, .int r2), (0, .ref (ad 0))]) h rfl rfl (by decide) rfl dX5_clashes_7 ?_
  refine R_iconst (pc := 8) (v := 0) h (by decide) dX5_clashes_8 ?_
  refine R_istore_n (pc := 9) (lv' := [(3, .int (0 : Int32)), (2, .int (0 : Int32)), (1, .int r2), (0, .ref (ad 0))]) h rfl rfl (by decide) rfl dX5_clashes_9 ?_
  exact Wp_sub (nX := 0) (lv' := [(0, .ref (ad 0)), (1, .int r2), (2, .int (0 : Int32)), (3, .int (0 : Int32))]) [3, 2, 1, 0] rfl (w5_clashes_10 h  (hF := hF))
theorem c5_clashes {ad : Nat → Nat} {z : ZZ} {R : Mem × Int32} {fu : Nat} {M : Mem} (hF : f5_clashes fu M = some R) : Con layM ad z yX5_clashes cX5_clashes 5 (some .int) 5 M [.ref (ad 0)] (R.1) (some (.int R.2)) := con_of (own := RX5) (lv := [(0, .ref (ad 0))]) (by decide +kernel) rfl (Nat.le_of_ble_eq_true rfl) rfl (fun X hz h => w5_clashes h hF)
def f5_clash (M : Mem) (fu : Nat) (x1 : Int32) : Option (Int32) :=
    (f5_hoursAll M fu x1 (1 : Int32)).bind fun r2 =>
    if r2 = 0 then ((some (0 : Int32)))
    else ((some (1 : Int32)))
set_option maxHeartbeats 4000000 in
set_option maxRecDepth 10000 in
theorem w5_clash {ad : Nat → Nat} {X : XX} {R : Int32} {M : Mem} {fu : Nat} (h : Cx layM ad X cX5_clash RX5 2 3 (some .boolean) M (some (.int R))) {x1 : Int32} (hF : f5_clash M fu x1 = some R) : Wp layM ad X M 0 [(0, .ref (ad 0)), (1, .int x1)] [] := by
  unfold f5_clash at hF
  refine R_aload_n (pc := 0) h 0 rfl rfl dX5_clash_0 ?_
  refine R_iload_n (pc := 1) h 1 rfl rfl dX5_clash_1 ?_
  refine R_iconst (pc := 2) (v := 1) h (by decide) dX5_clash_2 ?_
  obtain ⟨r2, hc1, hF⟩ := bd hF
  refine R_callV (pc := 3) (st := []) h [.int x1, .int (1 : Int32)] cvX5_149 (c5_hoursAll (ad := ad) (z := X.1) hc1) rfl rfl lm_0 (by decide) (by decide) (Nat.le_of_ble_eq_true rfl) dX5_clash_3 (st1 := [.int r2]) rfl ?_
  refine R_if_eq (pc := 6) (tgt := 13) h dX5_clash_6 (by decide) (fun c3 => ?_) (fun c3 => ?_)
  · have hF := itp c3 hF
    refine R_iconst (pc := 13) (v := 0) h (by decide) dX5_clash_13 ?_
    cases hF
    exact R_zreturn (pc := 14) h rfl zr0 rfl rfl dX5_clash_14
  · have hF := ifn c3 hF
    refine R_iconst (pc := 9) (v := 1) h (by decide) dX5_clash_9 ?_
    refine R_goto (pc := 10) (tgt := 14) h dX5_clash_10 (by decide) ?_
    cases hF
    exact R_zreturn (pc := 14) h rfl zr1 rfl rfl dX5_clash_14
theorem c5_clash {ad : Nat → Nat} {z : ZZ} {R : Int32} {M : Mem} {fu : Nat} {x1 : Int32} (hF : f5_clash M fu x1 = some R) : Con layM ad z yX5_clash cX5_clash 2 (some .boolean) 3 M [.ref (ad 0), .int x1] (M) (some (.int R)) := con_of (own := RX5) (lv := [(0, .ref (ad 0)), (1, .int x1)]) (by decide +kernel) rfl (Nat.le_of_ble_eq_true rfl) rfl (fun X hz h => w5_clash h hF)
def f5_least_46 (fu : Nat) (k11 : Int32 → Int32 → Int32 → Mem → Option (Mem × Int32)) (x1 : Int32) (x2 : Int32) (x3 : Int32) (M : Mem) : Option (Mem × Int32) :=
    (f5_clash M fu (x1 &&& (x3 ^^^ (-1 : Int32)))).bind fun r2 =>
    if r2 = 0 then (nm (x3 + (1 : Int32)) fun v4 =>
    (k11 x1 x3 v4 M))
    else (nm (x3 + (1 : Int32)) fun v5 =>
    (k11 x1 x2 v5 M))
set_option maxHeartbeats 4000000 in
set_option maxRecDepth 10000 in
theorem w5_least_46 {ad : Nat → Nat} {X : XX} {R : Mem × Int32} {fu : Nat} {k11 : Int32 → Int32 → Int32 → Mem → Option (Mem × Int32)} (h : Cx layM ad X cX5_least RX5 4 4 (some .int) (R.1) (some (.int R.2))) (hk11 : ∀ (x1 : Int32) (x2 : Int32) (x3 : Int32) (M : Mem), k11 x1 x2 x3 M = some R → Wp layM ad X M 11 [(0, .ref (ad 0)), (1, .int x1), (2, .int x2), (3, .int x3)] []) {x1 : Int32} {x2 : Int32} {x3 : Int32} {M : Mem} (hF : f5_least_46 fu k11 x1 x2 x3 M = some R) : Wp layM ad X M 46 [(0, .ref (ad 0)), (1, .int x1), (2, .int x2), (3, .int x3)] [] := by
  unfold f5_least_46 at hF
  refine R_aload_n (pc := 46) h 0 rfl rfl dX5_least_46 ?_
  refine R_iload_n (pc := 47) h 1 rfl rfl dX5_least_47 ?_
  refine R_iload_n (pc := 48) h 3 rfl rfl dX5_least_48 ?_
  refine R_iconst (pc := 49) (v := (-1)) h (by decide) dX5_least_49 ?_
  refine R_ixor (pc := 50) h dX5_least_50 ?_
  refine R_iand (pc := 51) h dX5_least_51 ?_
  obtain ⟨r2, hc1, hF⟩ := bd hF
  refine R_callV (pc := 52) (st := []) h [.int (x1 &&& (x3 ^^^ (-1 : Int32)))] cvX5_188 (c5_clash (ad := ad) (z := X.1) hc1) rfl rfl lm_0 (by decide) (by decide) (Nat.le_of_ble_eq_true rfl) dX5_least_52 (st1 := [.int r2]) rfl ?_
  refine R_if_ne (pc := 55) (tgt := 60) h dX5_least_55 (by decide) (fun c3 => ?_) (fun c3 => ?_)
  · have hF := ifn c3 hF
    obtain ⟨v5, hv5, hF⟩ := nm_e2 hF
    refine R_iinc (pc := 60) (lv' := [(3, .int v5), (0, .ref (ad 0)), (1, .int x1), (2, .int x2)]) h 3 rfl (by decide) hv5 (by decide) rfl dX5_least_60 ?_
    refine R_goto (pc := 63) (tgt := 11) h dX5_least_63 (by decide) ?_
    exact Wp_sub (nX := 0) (lv' := [(0, .ref (ad 0)), (1, .int x1), (2, .int x2), (3, .int v5)]) [1, 2, 3, 0] rfl (hk11 _ _ _ _ hF)
  · have hF := itp c3 hF
    refine R_iload_n (pc := 58) h 3 rfl rfl dX5_least_58 ?_
    refine R_istore_n (pc := 59) (lv' := [(2, .int x3), (0, .ref (ad 0)), (1, .int x1), (3, .int x3)]) h rfl rfl (by decide) rfl dX5_least_59 ?_
    obtain ⟨v4, hv4, hF⟩ := nm_e2 hF
    refine R_iinc (pc := 60) (lv' := [(3, .int v4), (2, .int x3), (0, .ref (ad 0)), (1, .int x1)]) h 3 rfl (by decide) hv4 (by decide) rfl dX5_least_60 ?_
    refine R_goto (pc := 63) (tgt := 11) h dX5_least_63 (by decide) ?_
    exact Wp_sub (nX := 0) (lv' := [(0, .ref (ad 0)), (1, .int x1), (2, .int x3), (3, .int v4)]) [2, 3, 1, 0] rfl (hk11 _ _ _ _ hF)
def f5_least_11 (fu : Nat) : Nat → Int32 → Int32 → Int32 → Mem → Option (Mem × Int32)
  | 0 => fun _ _ _ _ => none
  | f + 1 => fun x1 x2 x3 M =>
    if ((1 : Int32) <<< ((M.1 0 9) &&& 31)) ≤ x3 then ((f5_bits fu x2).bind fun r3 =>
    (f5_answer r3 x2 M).bind fun ⟨M5, r6⟩ =>
    (some (M5, r6)))
    else (if (x3 &&& (x1 ^^^ (-1 : Int32))) = 0 then (if x2 = (-9 : Int32) then ((f5_least_46 fu (f5_least_11 fu f) x1 x2 x3 M))
    else ((f5_bits fu x3).bind fun r10 =>
    (f5_bits fu x2).bind fun r12 =>
    if r12 ≤ r10 then (nm (x3 + (1 : Int32)) fun v14 =>
    ((f5_least_11 fu f) x1 x2 v14 M))
    else ((f5_least_46 fu (f5_least_11 fu f) x1 x2 x3 M))))
    else (nm (x3 + (1 : Int32)) fun v15 =>
    ((f5_least_11 fu f) x1 x2 v15 M)))
set_option maxHeartbeats 4000000 in
set_option maxRecDepth 10000 in
theorem w5_leasti_11 {ad : Nat → Nat} {X : XX} {R : Mem × Int32} {fu : Nat}  (h : Cx layM ad X cX5_least RX5 4 4 (some .int) (R.1) (some (.int R.2)))  : ∀ (f : Nat) (x1 : Int32) (x2 : Int32) (x3 : Int32) (M : Mem), f5_least_11 fu f x1 x2 x3 M = some R → Wp layM ad X M 11 [(0, .ref (ad 0)), (1, .int x1), (2, .int x2), (3, .int x3)] [] := by
  intro f
  induction f with
  | zero => intro x1 x2 x3 M hF; exact absurd hF (by simp [f5_least_11])
  | succ f ih =>
    intro x1 x2 x3 M hF
    rw [f5_least_11] at hF
    refine R_iload_n (pc := 11) h 3 rfl rfl dX5_least_11 ?_
    refine R_iconst (pc := 12) (v := 1) h (by decide) dX5_least_12 ?_
    refine R_aload_n (pc := 13) h 0 rfl rfl dX5_least_13 ?_
    refine R_getI (pc := 14) h flX5_130 lm_0 rfl dX5_least_14 ?_
    refine R_ishl (pc := 17) h dX5_least_17 ?_
    refine R_icmp_ge (pc := 18) (tgt := 66) h dX5_least_18 (by decide) (fun c1 => ?_) (fun c1 => ?_)
    · have hF := itp c1 hF
      refine R_aload_n (pc := 66) h 0 rfl rfl dX5_least_66 ?_
      refine R_iload_n (pc := 67) h 2 rfl rfl dX5_least_67 ?_
      obtain ⟨r3, hc2, hF⟩ := bd hF
      refine R_callS (pc := 68) (st := [.ref (ad 0)]) h [.int x2] csX5_173 (c5_bits (ad := ad) (z := X.1) (M := M) hc2) rfl rfl (by decide) (by decide) (Nat.le_of_ble_eq_true rfl) dX5_least_68 (st1 := [.int r3, .ref (ad 0)]) rfl ?_
      refine R_iload_n (pc := 71) h 2 rfl rfl dX5_least_71 ?_
      obtain ⟨⟨M5, r6⟩, hc4, hF⟩ := bd hF
      refine R_callV (pc := 72) (st := []) h [.int r3, .int x2] cvX5_181 (c5_answer (ad := ad) (z := X.1) hc4) rfl rfl lm_0 (by decide) (by decide) (Nat.le_of_ble_eq_true rfl) dX5_least_72 (st1 := [.int r6]) rfl ?_
      cases hF
      exact R_ireturn (pc := 75) h rfl rfl rfl dX5_least_75
    · have hF := ifn c1 hF
      refine R_iload_n (pc := 21) h 3 rfl rfl dX5_least_21 ?_
      refine R_iload_n (pc := 22) h 1 rfl rfl dX5_least_22 ?_
      refine R_iconst (pc := 23) (v := (-1)) h (by decide) dX5_least_23 ?_
      refine R_ixor (pc := 24) h dX5_least_24 ?_
      refine R_iand (pc := 25) h dX5_least_25 ?_
      refine R_if_ne (pc := 26) (tgt := 60) h dX5_least_26 (by decide) (fun c7 => ?_) (fun c7 => ?_)
      · have hF := ifn c7 hF
        obtain ⟨v15, hv15, hF⟩ := nm_e2 hF
        refine R_iinc (pc := 60) (lv' := [(3, .int v15), (0, .ref (ad 0)), (1, .int x1), (2, .int x2)]) h 3 rfl (by decide) hv15 (by decide) rfl dX5_least_60 ?_
        refine R_goto (pc := 63) (tgt := 11) h dX5_least_63 (by decide) ?_
        exact Wp_sub (nX := 0) (lv' := [(0, .ref (ad 0)), (1, .int x1), (2, .int x2), (3, .int v15)]) [1, 2, 3, 0] rfl (ih _ _ _ _ hF)
      · have hF := itp c7 hF
        refine R_iload_n (pc := 29) h 2 rfl rfl dX5_least_29 ?_
        refine R_bipush (pc := 30) (v := (-9)) h (by decide) dX5_least_30 ?_
        refine R_icmp_eq (pc := 32) (tgt := 46) h dX5_least_32 (by decide) (fun c8 => ?_) (fun c8 => ?_)
        · have hF := itp c8 hF
          exact Wp_sub (nX := 0) (lv' := [(0, .ref (ad 0)), (1, .int x1), (2, .int x2), (3, .int x3)]) [0, 1, 2, 3] rfl (w5_least_46 h (hk11 := fun a0 a1 a2 a3 hF => ih a0 a1 a2 a3 hF) (hF := hF))
        · have hF := ifn c8 hF
          refine R_iload_n (pc := 35) h 3 rfl rfl dX5_least_35 ?_
          obtain ⟨r10, hc9, hF⟩ := bd hF
          refine R_callS (pc := 36) (st := []) h [.int x3] csX5_173 (c5_bits (ad := ad) (z := X.1) (M := M) hc9) rfl rfl (by decide) (by decide) (Nat.le_of_ble_eq_true rfl) dX5_least_36 (st1 := [.int r10]) rfl ?_
          refine R_iload_n (pc := 39) h 2 rfl rfl dX5_least_39 ?_
          obtain ⟨r12, hc11, hF⟩ := bd hF
          refine R_callS (pc := 40) (st := [.int r10]) h [.int x2] csX5_173 (c5_bits (ad := ad) (z := X.1) (M := M) hc11) rfl rfl (by decide) (by decide) (Nat.le_of_ble_eq_true rfl) dX5_least_40 (st1 := [.int r12, .int r10]) rfl ?_
          refine R_icmp_ge (pc := 43) (tgt := 60) h dX5_least_43 (by decide) (fun c13 => ?_) (fun c13 => ?_)
          · have hF := itp c13 hF
            obtain ⟨v14, hv14, hF⟩ := nm_e2 hF
            refine R_iinc (pc := 60) (lv' := [(3, .int v14), (0, .ref (ad 0)), (1, .int x1), (2, .int x2)]) h 3 rfl (by decide) hv14 (by decide) rfl dX5_least_60 ?_
            refine R_goto (pc := 63) (tgt := 11) h dX5_least_63 (by decide) ?_
            exact Wp_sub (nX := 0) (lv' := [(0, .ref (ad 0)), (1, .int x1), (2, .int x2), (3, .int v14)]) [1, 2, 3, 0] rfl (ih _ _ _ _ hF)
          · have hF := ifn c13 hF
            exact Wp_sub (nX := 0) (lv' := [(0, .ref (ad 0)), (1, .int x1), (2, .int x2), (3, .int x3)]) [0, 1, 2, 3] rfl (w5_least_46 h (hk11 := fun a0 a1 a2 a3 hF => ih a0 a1 a2 a3 hF) (hF := hF))
theorem w5_least_11 {ad : Nat → Nat} {X : XX} {R : Mem × Int32} {fu : Nat}  (h : Cx layM ad X cX5_least RX5 4 4 (some .int) (R.1) (some (.int R.2)))  {f : Nat} {x1 : Int32} {x2 : Int32} {x3 : Int32} {M : Mem} (hF : f5_least_11 fu f x1 x2 x3 M = some R) : Wp layM ad X M 11 [(0, .ref (ad 0)), (1, .int x1), (2, .int x2), (3, .int x3)] [] := w5_leasti_11 h  f _ _ _ _ hF
def f5_least (fu : Nat) (M : Mem) : Option (Mem × Int32) :=
    (f5_those M fu (-1 : Int32)).bind fun r2 =>
    (f5_least_11 fu fu r2 (-9 : Int32) (0 : Int32) M)
set_option maxHeartbeats 4000000 in
set_option maxRecDepth 10000 in
theorem w5_least {ad : Nat → Nat} {X : XX} {R : Mem × Int32} {fu : Nat} (h : Cx layM ad X cX5_least RX5 4 4 (some .int) (R.1) (some (.int R.2))) {M : Mem} (hF : f5_least fu M = some R) : Wp layM ad X M 0 [(0, .ref (ad 0))] [] := by
  unfold f5_least at hF
  refine R_aload_n (pc := 0) h 0 rfl rfl dX5_least_0 ?_
  refine R_iconst (pc := 1) (v := (-1)) h (by decide) dX5_least_1 ?_
  obtain ⟨r2, hc1, hF⟩ := bd hF
  refine R_callV (pc := 2) (st := []) h [.int (-1 : Int32)] cvX5_170 (c5_those (ad := ad) (z := X.1) hc1) rfl rfl lm_0 (by decide) (by decide) (Nat.le_of_ble_eq_true rfl) dX5_least_2 (st1 := [.int r2]) rfl ?_
  refine R_istore_n (pc := 5) (lv' := [(1, .int r2), (0, .ref (ad 0))]) h rfl rfl (by decide) rfl dX5_least_5 ?_
  refine R_bipush (pc := 6) (v := (-9)) h (by decide) dX5_least_6 ?_
  refine R_istore_n (pc := 8) (lv' := [(2, .int (-9 : Int32)), (1, .int r2), (0, .ref (ad 0))]) h rfl rfl (by decide) rfl dX5_least_8 ?_
  refine R_iconst (pc := 9) (v := 0) h (by decide) dX5_least_9 ?_
  refine R_istore_n (pc := 10) (lv' := [(3, .int (0 : Int32)), (2, .int (-9 : Int32)), (1, .int r2), (0, .ref (ad 0))]) h rfl rfl (by decide) rfl dX5_least_10 ?_
  exact Wp_sub (nX := 0) (lv' := [(0, .ref (ad 0)), (1, .int r2), (2, .int (-9 : Int32)), (3, .int (0 : Int32))]) [3, 2, 1, 0] rfl (w5_least_11 h  (hF := hF))
theorem c5_least {ad : Nat → Nat} {z : ZZ} {R : Mem × Int32} {fu : Nat} {M : Mem} (hF : f5_least fu M = some R) : Con layM ad z yX5_least cX5_least 4 (some .int) 4 M [.ref (ad 0)] (R.1) (some (.int R.2)) := con_of (own := RX5) (lv := [(0, .ref (ad 0))]) (by decide +kernel) rfl (Nat.le_of_ble_eq_true rfl) rfl (fun X hz h => w5_least h hF)
