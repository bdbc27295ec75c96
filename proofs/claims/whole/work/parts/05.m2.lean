theorem dX5_bestOf_0 : decode cX5_bestOf 0 = .ok (.iconst 0, 1) := by decide +kernel
theorem dX5_bestOf_1 : decode cX5_bestOf 1 = .ok (.istore_n 2, 1) := by decide +kernel
theorem dX5_bestOf_2 : decode cX5_bestOf 2 = .ok (.iconst 0, 1) := by decide +kernel
theorem dX5_bestOf_3 : decode cX5_bestOf 3 = .ok (.istore_n 3, 1) := by decide +kernel
theorem dX5_bestOf_4 : decode cX5_bestOf 4 = .ok (.iload_n 3, 1) := by decide +kernel
theorem dX5_bestOf_5 : decode cX5_bestOf 5 = .ok (.iconst 1, 1) := by decide +kernel
theorem dX5_bestOf_6 : decode cX5_bestOf 6 = .ok (.aload_n 0, 1) := by decide +kernel
theorem dX5_bestOf_7 : decode cX5_bestOf 7 = .ok (.getfield 130, 3) := by decide +kernel
theorem dX5_bestOf_10 : decode cX5_bestOf 10 = .ok (.ishl, 1) := by decide +kernel
theorem dX5_bestOf_11 : decode cX5_bestOf 11 = .ok (.if_icmp .ge 40, 3) := by decide +kernel
theorem dX5_bestOf_14 : decode cX5_bestOf 14 = .ok (.iload_n 3, 1) := by decide +kernel
theorem dX5_bestOf_15 : decode cX5_bestOf 15 = .ok (.iload_n 1, 1) := by decide +kernel
theorem dX5_bestOf_16 : decode cX5_bestOf 16 = .ok (.iconst (-1), 1) := by decide +kernel
theorem dX5_bestOf_17 : decode cX5_bestOf 17 = .ok (.ixor, 1) := by decide +kernel
theorem dX5_bestOf_18 : decode cX5_bestOf 18 = .ok (.iand, 1) := by decide +kernel
theorem dX5_bestOf_19 : decode cX5_bestOf 19 = .ok (.ifCond .ne 26, 3) := by decide +kernel
theorem dX5_bestOf_22 : decode cX5_bestOf 22 = .ok (.aload_n 0, 1) := by decide +kernel
theorem dX5_bestOf_23 : decode cX5_bestOf 23 = .ok (.iload_n 3, 1) := by decide +kernel
theorem dX5_bestOf_24 : decode cX5_bestOf 24 = .ok (.invokevirtual 185, 3) := by decide +kernel
theorem dX5_bestOf_27 : decode cX5_bestOf 27 = .ok (.aload_n 0, 1) := by decide +kernel
theorem dX5_bestOf_28 : decode cX5_bestOf 28 = .ok (.iload_n 2, 1) := by decide +kernel
theorem dX5_bestOf_29 : decode cX5_bestOf 29 = .ok (.invokevirtual 185, 3) := by decide +kernel
theorem dX5_bestOf_32 : decode cX5_bestOf 32 = .ok (.if_icmp .le 13, 3) := by decide +kernel
theorem dX5_bestOf_35 : decode cX5_bestOf 35 = .ok (.aload_n 0, 1) := by decide +kernel
theorem dX5_bestOf_36 : decode cX5_bestOf 36 = .ok (.iload_n 3, 1) := by decide +kernel
theorem dX5_bestOf_37 : decode cX5_bestOf 37 = .ok (.invokevirtual 188, 3) := by decide +kernel
theorem dX5_bestOf_40 : decode cX5_bestOf 40 = .ok (.ifCond .ne 5, 3) := by decide +kernel
theorem dX5_bestOf_43 : decode cX5_bestOf 43 = .ok (.iload_n 3, 1) := by decide +kernel
theorem dX5_bestOf_44 : decode cX5_bestOf 44 = .ok (.istore_n 2, 1) := by decide +kernel
theorem dX5_bestOf_45 : decode cX5_bestOf 45 = .ok (.iinc 3 1, 3) := by decide +kernel
theorem dX5_bestOf_48 : decode cX5_bestOf 48 = .ok (.goto (-44), 3) := by decide +kernel
theorem dX5_bestOf_51 : decode cX5_bestOf 51 = .ok (.iload_n 2, 1) := by decide +kernel
theorem dX5_bestOf_52 : decode cX5_bestOf 52 = .ok (.ireturn, 1) := by decide +kernel
theorem dX5_best_0 : decode cX5_best 0 = .ok (.iload_n 1, 1) := by decide +kernel
theorem dX5_best_1 : decode cX5_best 1 = .ok (.invokestatic 77, 3) := by decide +kernel
theorem dX5_best_4 : decode cX5_best 4 = .ok (.ifCond .ne 5, 3) := by decide +kernel
theorem dX5_best_7 : decode cX5_best 7 = .ok (.iconst (-1), 1) := by decide +kernel
theorem dX5_best_8 : decode cX5_best 8 = .ok (.ireturn, 1) := by decide +kernel
theorem dX5_best_9 : decode cX5_best 9 = .ok (.aload_n 0, 1) := by decide +kernel
theorem dX5_best_10 : decode cX5_best 10 = .ok (.getfield 130, 3) := by decide +kernel
theorem dX5_best_13 : decode cX5_best 13 = .ok (.ifCond .ne 6, 3) := by decide +kernel
theorem dX5_best_16 : decode cX5_best 16 = .ok (.bipush (-4), 2) := by decide +kernel
theorem dX5_best_18 : decode cX5_best 18 = .ok (.ireturn, 1) := by decide +kernel
theorem dX5_best_19 : decode cX5_best 19 = .ok (.aload_n 0, 1) := by decide +kernel
theorem dX5_best_20 : decode cX5_best 20 = .ok (.aload_n 0, 1) := by decide +kernel
theorem dX5_best_21 : decode cX5_best 21 = .ok (.iconst (-1), 1) := by decide +kernel
theorem dX5_best_22 : decode cX5_best 22 = .ok (.invokevirtual 170, 3) := by decide +kernel
theorem dX5_best_25 : decode cX5_best 25 = .ok (.aload_n 0, 1) := by decide +kernel
theorem dX5_best_26 : decode cX5_best 26 = .ok (.bipush (-9), 2) := by decide +kernel
theorem dX5_best_28 : decode cX5_best 28 = .ok (.invokevirtual 170, 3) := by decide +kernel
theorem dX5_best_31 : decode cX5_best 31 = .ok (.ior, 1) := by decide +kernel
theorem dX5_best_32 : decode cX5_best 32 = .ok (.invokevirtual 191, 3) := by decide +kernel
theorem dX5_best_35 : decode cX5_best 35 = .ok (.istore_n 2, 1) := by decide +kernel
theorem dX5_best_36 : decode cX5_best 36 = .ok (.aload_n 0, 1) := by decide +kernel
theorem dX5_best_37 : decode cX5_best 37 = .ok (.iload_n 1, 1) := by decide +kernel
theorem dX5_best_38 : decode cX5_best 38 = .ok (.iload_n 2, 1) := by decide +kernel
theorem dX5_best_39 : decode cX5_best 39 = .ok (.invokestatic 173, 3) := by decide +kernel
theorem dX5_best_42 : decode cX5_best 42 = .ok (.invokevirtual 194, 3) := by decide +kernel
theorem dX5_best_45 : decode cX5_best 45 = .ok (.istore_n 3, 1) := by decide +kernel
theorem dX5_best_46 : decode cX5_best 46 = .ok (.bipush 40, 2) := by decide +kernel
theorem dX5_best_48 : decode cX5_best 48 = .ok (.iload_n 1, 1) := by decide +kernel
theorem dX5_best_49 : decode cX5_best 49 = .ok (.imul, 1) := by decide +kernel
theorem dX5_best_50 : decode cX5_best 50 = .ok (.istore 4, 2) := by decide +kernel
theorem dX5_best_52 : decode cX5_best 52 = .ok (.iconst 0, 1) := by decide +kernel
theorem dX5_best_53 : decode cX5_best 53 = .ok (.istore 5, 2) := by decide +kernel
theorem dX5_best_55 : decode cX5_best 55 = .ok (.iload 5, 2) := by decide +kernel
theorem dX5_best_57 : decode cX5_best 57 = .ok (.bipush 10, 2) := by decide +kernel
theorem dX5_best_59 : decode cX5_best 59 = .ok (.if_icmp .ge 60, 3) := by decide +kernel
theorem dX5_best_62 : decode cX5_best 62 = .ok (.iconst 0, 1) := by decide +kernel
theorem dX5_best_63 : decode cX5_best 63 = .ok (.istore 6, 2) := by decide +kernel
theorem dX5_best_65 : decode cX5_best 65 = .ok (.iload 6, 2) := by decide +kernel
theorem dX5_best_67 : decode cX5_best 67 = .ok (.aload_n 0, 1) := by decide +kernel
theorem dX5_best_68 : decode cX5_best 68 = .ok (.getfield 130, 3) := by decide +kernel
theorem dX5_best_71 : decode cX5_best 71 = .ok (.if_icmp .ge 42, 3) := by decide +kernel
theorem dX5_best_74 : decode cX5_best 74 = .ok (.iload_n 2, 1) := by decide +kernel
theorem dX5_best_75 : decode cX5_best 75 = .ok (.iload 6, 2) := by decide +kernel
theorem dX5_best_77 : decode cX5_best 77 = .ok (.invokestatic 139, 3) := by decide +kernel
theorem dX5_best_80 : decode cX5_best 80 = .ok (.ifCond .eq 27, 3) := by decide +kernel
theorem dX5_best_83 : decode cX5_best 83 = .ok (.aload_n 0, 1) := by decide +kernel
theorem dX5_best_84 : decode cX5_best 84 = .ok (.getfield 32, 3) := by decide +kernel
theorem dX5_best_87 : decode cX5_best 87 = .ok (.iload 6, 2) := by decide +kernel
theorem dX5_best_89 : decode cX5_best 89 = .ok (.iaload, 1) := by decide +kernel
theorem dX5_best_90 : decode cX5_best 90 = .ok (.iload 5, 2) := by decide +kernel
theorem dX5_best_92 : decode cX5_best 92 = .ok (.if_icmp .ne 15, 3) := by decide +kernel
theorem dX5_best_95 : decode cX5_best 95 = .ok (.aload_n 0, 1) := by decide +kernel
theorem dX5_best_96 : decode cX5_best 96 = .ok (.getfield 7, 3) := by decide +kernel
theorem dX5_best_99 : decode cX5_best 99 = .ok (.iload 4, 2) := by decide +kernel
theorem dX5_best_101 : decode cX5_best 101 = .ok (.iload 6, 2) := by decide +kernel
theorem dX5_best_103 : decode cX5_best 103 = .ok (.iastore, 1) := by decide +kernel
theorem dX5_best_104 : decode cX5_best 104 = .ok (.iinc 4 1, 3) := by decide +kernel
theorem dX5_best_107 : decode cX5_best 107 = .ok (.iinc 6 1, 3) := by decide +kernel
theorem dX5_best_110 : decode cX5_best 110 = .ok (.goto (-45), 3) := by decide +kernel
theorem dX5_best_113 : decode cX5_best 113 = .ok (.iinc 5 1, 3) := by decide +kernel
theorem dX5_best_116 : decode cX5_best 116 = .ok (.goto (-61), 3) := by decide +kernel
theorem dX5_best_119 : decode cX5_best 119 = .ok (.aload_n 0, 1) := by decide +kernel
theorem dX5_best_120 : decode cX5_best 120 = .ok (.aload_n 0, 1) := by decide +kernel
theorem dX5_best_121 : decode cX5_best 121 = .ok (.iload_n 2, 1) := by decide +kernel
theorem dX5_best_122 : decode cX5_best 122 = .ok (.invokevirtual 185, 3) := by decide +kernel
theorem dX5_best_125 : decode cX5_best 125 = .ok (.iload_n 2, 1) := by decide +kernel
theorem dX5_best_126 : decode cX5_best 126 = .ok (.invokevirtual 181, 3) := by decide +kernel
theorem dX5_best_129 : decode cX5_best 129 = .ok (.ireturn, 1) := by decide +kernel
theorem dX5_far_0 : decode cX5_far 0 = .ok (.iload_n 0, 1) := by decide +kernel
theorem dX5_far_1 : decode cX5_far 1 = .ok (.iload_n 1, 1) := by decide +kernel
theorem dX5_far_2 : decode cX5_far 2 = .ok (.if_icmp .ge 9, 3) := by decide +kernel
theorem dX5_far_5 : decode cX5_far 5 = .ok (.iload_n 1, 1) := by decide +kernel
theorem dX5_far_6 : decode cX5_far 6 = .ok (.iload_n 0, 1) := by decide +kernel
theorem dX5_far_7 : decode cX5_far 7 = .ok (.isub, 1) := by decide +kernel
theorem dX5_far_8 : decode cX5_far 8 = .ok (.goto 6, 3) := by decide +kernel
theorem dX5_far_11 : decode cX5_far 11 = .ok (.iload_n 0, 1) := by decide +kernel
theorem dX5_far_12 : decode cX5_far 12 = .ok (.iload_n 1, 1) := by decide +kernel
theorem dX5_far_13 : decode cX5_far 13 = .ok (.isub, 1) := by decide +kernel
theorem dX5_far_14 : decode cX5_far 14 = .ok (.ireturn, 1) := by decide +kernel
theorem dX5_steps_0 : decode cX5_steps 0 = .ok (.bipush 10, 2) := by decide +kernel
theorem dX5_steps_2 : decode cX5_steps 2 = .ok (.istore_n 2, 1) := by decide +kernel
theorem dX5_steps_3 : decode cX5_steps 3 = .ok (.iconst (-1), 1) := by decide +kernel
theorem dX5_steps_4 : decode cX5_steps 4 = .ok (.istore_n 3, 1) := by decide +kernel
theorem dX5_steps_5 : decode cX5_steps 5 = .ok (.iconst 0, 1) := by decide +kernel
theorem dX5_steps_6 : decode cX5_steps 6 = .ok (.istore 4, 2) := by decide +kernel
theorem dX5_steps_8 : decode cX5_steps 8 = .ok (.iload 4, 2) := by decide +kernel
theorem dX5_steps_10 : decode cX5_steps 10 = .ok (.aload_n 0, 1) := by decide +kernel
theorem dX5_steps_11 : decode cX5_steps 11 = .ok (.getfield 130, 3) := by decide +kernel
theorem dX5_steps_14 : decode cX5_steps 14 = .ok (.if_icmp .ge 72, 3) := by decide +kernel
theorem dX5_steps_17 : decode cX5_steps 17 = .ok (.iload_n 1, 1) := by decide +kernel
theorem dX5_steps_18 : decode cX5_steps 18 = .ok (.iload 4, 2) := by decide +kernel
theorem dX5_steps_20 : decode cX5_steps 20 = .ok (.invokestatic 139, 3) := by decide +kernel
theorem dX5_steps_23 : decode cX5_steps 23 = .ok (.ifCond .eq 57, 3) := by decide +kernel
theorem dX5_steps_26 : decode cX5_steps 26 = .ok (.aload_n 0, 1) := by decide +kernel
theorem dX5_steps_27 : decode cX5_steps 27 = .ok (.getfield 41, 3) := by decide +kernel
theorem dX5_steps_30 : decode cX5_steps 30 = .ok (.iconst 1, 1) := by decide +kernel
theorem dX5_steps_31 : decode cX5_steps 31 = .ok (.iload 4, 2) := by decide +kernel
theorem dX5_steps_33 : decode cX5_steps 33 = .ok (.iadd, 1) := by decide +kernel
theorem dX5_steps_34 : decode cX5_steps 34 = .ok (.iaload, 1) := by decide +kernel
theorem dX5_steps_35 : decode cX5_steps 35 = .ok (.iload_n 2, 1) := by decide +kernel
theorem dX5_steps_36 : decode cX5_steps 36 = .ok (.if_icmp .ge 15, 3) := by decide +kernel
theorem dX5_steps_39 : decode cX5_steps 39 = .ok (.aload_n 0, 1) := by decide +kernel
theorem dX5_steps_40 : decode cX5_steps 40 = .ok (.getfield 41, 3) := by decide +kernel
theorem dX5_steps_43 : decode cX5_steps 43 = .ok (.iconst 1, 1) := by decide +kernel
theorem dX5_steps_44 : decode cX5_steps 44 = .ok (.iload 4, 2) := by decide +kernel
theorem dX5_steps_46 : decode cX5_steps 46 = .ok (.iadd, 1) := by decide +kernel
theorem dX5_steps_47 : decode cX5_steps 47 = .ok (.iaload, 1) := by decide +kernel
theorem dX5_steps_48 : decode cX5_steps 48 = .ok (.goto 4, 3) := by decide +kernel
theorem dX5_steps_51 : decode cX5_steps 51 = .ok (.iload_n 2, 1) := by decide +kernel
theorem dX5_steps_52 : decode cX5_steps 52 = .ok (.istore_n 2, 1) := by decide +kernel
theorem dX5_steps_53 : decode cX5_steps 53 = .ok (.aload_n 0, 1) := by decide +kernel
theorem dX5_steps_54 : decode cX5_steps 54 = .ok (.getfield 41, 3) := by decide +kernel
theorem dX5_steps_57 : decode cX5_steps 57 = .ok (.iconst 1, 1) := by decide +kernel
theorem dX5_steps_58 : decode cX5_steps 58 = .ok (.iload 4, 2) := by decide +kernel
theorem dX5_steps_60 : decode cX5_steps 60 = .ok (.iadd, 1) := by decide +kernel
theorem dX5_steps_61 : decode cX5_steps 61 = .ok (.iaload, 1) := by decide +kernel
theorem dX5_steps_62 : decode cX5_steps 62 = .ok (.iload_n 3, 1) := by decide +kernel
theorem dX5_steps_63 : decode cX5_steps 63 = .ok (.if_icmp .le 15, 3) := by decide +kernel
theorem dX5_steps_66 : decode cX5_steps 66 = .ok (.aload_n 0, 1) := by decide +kernel
theorem dX5_steps_67 : decode cX5_steps 67 = .ok (.getfield 41, 3) := by decide +kernel
theorem dX5_steps_70 : decode cX5_steps 70 = .ok (.iconst 1, 1) := by decide +kernel
theorem dX5_steps_71 : decode cX5_steps 71 = .ok (.iload 4, 2) := by decide +kernel
theorem dX5_steps_73 : decode cX5_steps 73 = .ok (.iadd, 1) := by decide +kernel
theorem dX5_steps_74 : decode cX5_steps 74 = .ok (.iaload, 1) := by decide +kernel
theorem dX5_steps_75 : decode cX5_steps 75 = .ok (.goto 4, 3) := by decide +kernel
theorem dX5_steps_78 : decode cX5_steps 78 = .ok (.iload_n 3, 1) := by decide +kernel
theorem dX5_steps_79 : decode cX5_steps 79 = .ok (.istore_n 3, 1) := by decide +kernel
theorem dX5_steps_80 : decode cX5_steps 80 = .ok (.iinc 4 1, 3) := by decide +kernel
theorem dX5_steps_83 : decode cX5_steps 83 = .ok (.goto (-75), 3) := by decide +kernel
theorem dX5_steps_86 : decode cX5_steps 86 = .ok (.iload_n 1, 1) := by decide +kernel
theorem dX5_steps_87 : decode cX5_steps 87 = .ok (.ifCond .ne 15, 3) := by decide +kernel
theorem dX5_steps_90 : decode cX5_steps 90 = .ok (.aload_n 0, 1) := by decide +kernel
theorem dX5_steps_91 : decode cX5_steps 91 = .ok (.aload_n 0, 1) := by decide +kernel
theorem dX5_steps_92 : decode cX5_steps 92 = .ok (.getfield 41, 3) := by decide +kernel
theorem dX5_steps_95 : decode cX5_steps 95 = .ok (.iconst 0, 1) := by decide +kernel
theorem dX5_steps_96 : decode cX5_steps 96 = .ok (.iaload, 1) := by decide +kernel
theorem dX5_steps_97 : decode cX5_steps 97 = .ok (.putfield 197, 3) := by decide +kernel
theorem dX5_steps_100 : decode cX5_steps 100 = .ok (.iconst 0, 1) := by decide +kernel
theorem dX5_steps_101 : decode cX5_steps 101 = .ok (.ireturn, 1) := by decide +kernel
theorem dX5_steps_102 : decode cX5_steps 102 = .ok (.aload_n 0, 1) := by decide +kernel
theorem dX5_steps_103 : decode cX5_steps 103 = .ok (.getfield 41, 3) := by decide +kernel
theorem dX5_steps_106 : decode cX5_steps 106 = .ok (.iconst 0, 1) := by decide +kernel
theorem dX5_steps_107 : decode cX5_steps 107 = .ok (.iaload, 1) := by decide +kernel
theorem dX5_steps_108 : decode cX5_steps 108 = .ok (.iload_n 2, 1) := by decide +kernel
theorem dX5_steps_109 : decode cX5_steps 109 = .ok (.invokestatic 200, 3) := by decide +kernel
theorem dX5_steps_112 : decode cX5_steps 112 = .ok (.iload_n 3, 1) := by decide +kernel
theorem dX5_steps_113 : decode cX5_steps 113 = .ok (.iadd, 1) := by decide +kernel
theorem dX5_steps_114 : decode cX5_steps 114 = .ok (.iload_n 2, 1) := by decide +kernel
theorem dX5_steps_115 : decode cX5_steps 115 = .ok (.isub, 1) := by decide +kernel
theorem dX5_steps_116 : decode cX5_steps 116 = .ok (.istore 4, 2) := by decide +kernel
theorem dX5_steps_118 : decode cX5_steps 118 = .ok (.aload_n 0, 1) := by decide +kernel
theorem dX5_steps_119 : decode cX5_steps 119 = .ok (.getfield 41, 3) := by decide +kernel
theorem dX5_steps_122 : decode cX5_steps 122 = .ok (.iconst 0, 1) := by decide +kernel
theorem dX5_steps_123 : decode cX5_steps 123 = .ok (.iaload, 1) := by decide +kernel
theorem dX5_steps_124 : decode cX5_steps 124 = .ok (.iload_n 3, 1) := by decide +kernel
theorem dX5_steps_125 : decode cX5_steps 125 = .ok (.invokestatic 200, 3) := by decide +kernel
theorem dX5_steps_128 : decode cX5_steps 128 = .ok (.iload_n 3, 1) := by decide +kernel
theorem dX5_steps_129 : decode cX5_steps 129 = .ok (.iadd, 1) := by decide +kernel
theorem dX5_steps_130 : decode cX5_steps 130 = .ok (.iload_n 2, 1) := by decide +kernel
theorem dX5_steps_131 : decode cX5_steps 131 = .ok (.isub, 1) := by decide +kernel
theorem dX5_steps_132 : decode cX5_steps 132 = .ok (.istore 5, 2) := by decide +kernel
theorem dX5_steps_134 : decode cX5_steps 134 = .ok (.aload_n 0, 1) := by decide +kernel
theorem dX5_steps_135 : decode cX5_steps 135 = .ok (.iload 5, 2) := by decide +kernel
theorem dX5_steps_137 : decode cX5_steps 137 = .ok (.iload 4, 2) := by decide +kernel
theorem dX5_steps_139 : decode cX5_steps 139 = .ok (.if_icmp .gt 7, 3) := by decide +kernel
theorem dX5_steps_142 : decode cX5_steps 142 = .ok (.iload_n 2, 1) := by decide +kernel
theorem dX5_steps_143 : decode cX5_steps 143 = .ok (.goto 4, 3) := by decide +kernel
theorem dX5_steps_146 : decode cX5_steps 146 = .ok (.iload_n 3, 1) := by decide +kernel
theorem dX5_steps_147 : decode cX5_steps 147 = .ok (.putfield 197, 3) := by decide +kernel
theorem dX5_steps_150 : decode cX5_steps 150 = .ok (.iload 5, 2) := by decide +kernel
theorem dX5_steps_152 : decode cX5_steps 152 = .ok (.iload 4, 2) := by decide +kernel
theorem dX5_steps_154 : decode cX5_steps 154 = .ok (.if_icmp .gt 8, 3) := by decide +kernel
theorem dX5_steps_157 : decode cX5_steps 157 = .ok (.iload 5, 2) := by decide +kernel
theorem dX5_steps_159 : decode cX5_steps 159 = .ok (.goto 5, 3) := by decide +kernel
theorem dX5_steps_162 : decode cX5_steps 162 = .ok (.iload 4, 2) := by decide +kernel
theorem dX5_steps_164 : decode cX5_steps 164 = .ok (.ireturn, 1) := by decide +kernel
theorem dX5_walk_0 : decode cX5_walk 0 = .ok (.iload_n 1, 1) := by decide +kernel
theorem dX5_walk_1 : decode cX5_walk 1 = .ok (.i2l, 1) := by decide +kernel
theorem dX5_walk_2 : decode cX5_walk 2 = .ok (.lconst 0, 1) := by decide +kernel
theorem dX5_walk_3 : decode cX5_walk 3 = .ok (.iconst 1, 1) := by decide +kernel
theorem dX5_walk_4 : decode cX5_walk 4 = .ok (.aload_n 0, 1) := by decide +kernel
theorem dX5_walk_5 : decode cX5_walk 5 = .ok (.getfield 130, 3) := by decide +kernel
theorem dX5_walk_8 : decode cX5_walk 8 = .ok (.ishl, 1) := by decide +kernel
theorem dX5_walk_9 : decode cX5_walk 9 = .ok (.iconst 1, 1) := by decide +kernel
theorem dX5_walk_10 : decode cX5_walk 10 = .ok (.isub, 1) := by decide +kernel
theorem dX5_walk_11 : decode cX5_walk 11 = .ok (.i2l, 1) := by decide +kernel
theorem dX5_walk_12 : decode cX5_walk 12 = .ok (.invokestatic 71, 3) := by decide +kernel
theorem dX5_walk_15 : decode cX5_walk 15 = .ok (.ifCond .ne 5, 3) := by decide +kernel
theorem dX5_walk_18 : decode cX5_walk 18 = .ok (.iconst (-1), 1) := by decide +kernel
theorem dX5_walk_19 : decode cX5_walk 19 = .ok (.ireturn, 1) := by decide +kernel
theorem dX5_walk_20 : decode cX5_walk 20 = .ok (.iload_n 1, 1) := by decide +kernel
theorem dX5_walk_21 : decode cX5_walk 21 = .ok (.aload_n 0, 1) := by decide +kernel
theorem dX5_walk_22 : decode cX5_walk 22 = .ok (.bipush (-9), 2) := by decide +kernel
theorem dX5_walk_24 : decode cX5_walk 24 = .ok (.invokevirtual 170, 3) := by decide +kernel
theorem dX5_walk_27 : decode cX5_walk 27 = .ok (.iconst (-1), 1) := by decide +kernel
theorem dX5_walk_28 : decode cX5_walk 28 = .ok (.ixor, 1) := by decide +kernel
theorem dX5_walk_29 : decode cX5_walk 29 = .ok (.iand, 1) := by decide +kernel
theorem dX5_walk_30 : decode cX5_walk 30 = .ok (.ifCond .eq 6, 3) := by decide +kernel
theorem dX5_walk_33 : decode cX5_walk 33 = .ok (.bipush (-4), 2) := by decide +kernel
theorem dX5_walk_35 : decode cX5_walk 35 = .ok (.ireturn, 1) := by decide +kernel
theorem dX5_walk_36 : decode cX5_walk 36 = .ok (.aload_n 0, 1) := by decide +kernel
theorem dX5_walk_37 : decode cX5_walk 37 = .ok (.iload_n 1, 1) := by decide +kernel
theorem dX5_walk_38 : decode cX5_walk 38 = .ok (.invokevirtual 203, 3) := by decide +kernel
theorem dX5_walk_41 : decode cX5_walk 41 = .ok (.istore_n 2, 1) := by decide +kernel
theorem dX5_walk_42 : decode cX5_walk 42 = .ok (.aload_n 0, 1) := by decide +kernel
theorem dX5_walk_43 : decode cX5_walk 43 = .ok (.iload_n 2, 1) := by decide +kernel
theorem dX5_walk_44 : decode cX5_walk 44 = .ok (.aload_n 0, 1) := by decide +kernel
theorem dX5_walk_45 : decode cX5_walk 45 = .ok (.getfield 197, 3) := by decide +kernel
theorem dX5_walk_48 : decode cX5_walk 48 = .ok (.invokevirtual 181, 3) := by decide +kernel
theorem dX5_walk_51 : decode cX5_walk 51 = .ok (.ireturn, 1) := by decide +kernel
theorem dX5_within_0 : decode cX5_within 0 = .ok (.iload_n 1, 1) := by decide +kernel
theorem dX5_within_1 : decode cX5_within 1 = .ok (.i2l, 1) := by decide +kernel
theorem dX5_within_2 : decode cX5_within 2 = .ok (.lconst 0, 1) := by decide +kernel
theorem dX5_within_3 : decode cX5_within 3 = .ok (.ldc2_w 206, 3) := by decide +kernel
theorem dX5_within_6 : decode cX5_within 6 = .ok (.invokestatic 71, 3) := by decide +kernel
theorem dX5_within_9 : decode cX5_within 9 = .ok (.ifCond .ne 5, 3) := by decide +kernel
theorem dX5_within_12 : decode cX5_within 12 = .ok (.iconst (-1), 1) := by decide +kernel
theorem dX5_within_13 : decode cX5_within 13 = .ok (.ireturn, 1) := by decide +kernel
theorem dX5_within_14 : decode cX5_within 14 = .ok (.aload_n 0, 1) := by decide +kernel
theorem dX5_within_15 : decode cX5_within 15 = .ok (.getfield 130, 3) := by decide +kernel
theorem dX5_within_18 : decode cX5_within 18 = .ok (.ifCond .ne 6, 3) := by decide +kernel
theorem dX5_within_21 : decode cX5_within 21 = .ok (.bipush (-4), 2) := by decide +kernel
theorem dX5_within_23 : decode cX5_within 23 = .ok (.ireturn, 1) := by decide +kernel
theorem dX5_within_24 : decode cX5_within 24 = .ok (.aload_n 0, 1) := by decide +kernel
theorem dX5_within_25 : decode cX5_within 25 = .ok (.bipush (-9), 2) := by decide +kernel
theorem dX5_within_27 : decode cX5_within 27 = .ok (.invokevirtual 170, 3) := by decide +kernel
theorem dX5_within_30 : decode cX5_within 30 = .ok (.istore_n 2, 1) := by decide +kernel
theorem dX5_within_31 : decode cX5_within 31 = .ok (.aload_n 0, 1) := by decide +kernel
theorem dX5_within_32 : decode cX5_within 32 = .ok (.aload_n 0, 1) := by decide +kernel
theorem dX5_within_33 : decode cX5_within 33 = .ok (.iconst (-1), 1) := by decide +kernel
theorem dX5_within_34 : decode cX5_within 34 = .ok (.invokevirtual 170, 3) := by decide +kernel
theorem dX5_within_37 : decode cX5_within 37 = .ok (.iconst 0, 1) := by decide +kernel
theorem dX5_within_38 : decode cX5_within 38 = .ok (.invokevirtual 149, 3) := by decide +kernel
theorem dX5_within_41 : decode cX5_within 41 = .ok (.istore_n 3, 1) := by decide +kernel
theorem dX5_within_42 : decode cX5_within 42 = .ok (.iconst 0, 1) := by decide +kernel
theorem dX5_within_43 : decode cX5_within 43 = .ok (.istore 4, 2) := by decide +kernel
theorem dX5_within_45 : decode cX5_within 45 = .ok (.iconst 0, 1) := by decide +kernel
theorem dX5_within_46 : decode cX5_within 46 = .ok (.istore 5, 2) := by decide +kernel
theorem dX5_within_48 : decode cX5_within 48 = .ok (.iload 5, 2) := by decide +kernel
theorem dX5_within_50 : decode cX5_within 50 = .ok (.iconst 1, 1) := by decide +kernel
theorem dX5_within_51 : decode cX5_within 51 = .ok (.aload_n 0, 1) := by decide +kernel
theorem dX5_within_52 : decode cX5_within 52 = .ok (.getfield 130, 3) := by decide +kernel
theorem dX5_within_55 : decode cX5_within 55 = .ok (.ishl, 1) := by decide +kernel
theorem dX5_within_56 : decode cX5_within 56 = .ok (.if_icmp .ge 85, 3) := by decide +kernel
theorem dX5_within_59 : decode cX5_within 59 = .ok (.iload 5, 2) := by decide +kernel
theorem dX5_within_61 : decode cX5_within 61 = .ok (.iload_n 2, 1) := by decide +kernel
theorem dX5_within_62 : decode cX5_within 62 = .ok (.iconst (-1), 1) := by decide +kernel
theorem dX5_within_63 : decode cX5_within 63 = .ok (.ixor, 1) := by decide +kernel
theorem dX5_within_64 : decode cX5_within 64 = .ok (.iand, 1) := by decide +kernel
theorem dX5_within_65 : decode cX5_within 65 = .ok (.ifCond .ne 43, 3) := by decide +kernel
theorem dX5_within_68 : decode cX5_within 68 = .ok (.aload_n 0, 1) := by decide +kernel
theorem dX5_within_69 : decode cX5_within 69 = .ok (.iload 5, 2) := by decide +kernel
theorem dX5_within_71 : decode cX5_within 71 = .ok (.invokevirtual 185, 3) := by decide +kernel
theorem dX5_within_74 : decode cX5_within 74 = .ok (.aload_n 0, 1) := by decide +kernel
theorem dX5_within_75 : decode cX5_within 75 = .ok (.iload 4, 2) := by decide +kernel
theorem dX5_within_77 : decode cX5_within 77 = .ok (.invokevirtual 185, 3) := by decide +kernel
theorem dX5_within_80 : decode cX5_within 80 = .ok (.if_icmp .le 28, 3) := by decide +kernel
theorem dX5_within_83 : decode cX5_within 83 = .ok (.aload_n 0, 1) := by decide +kernel
theorem dX5_within_84 : decode cX5_within 84 = .ok (.iload 5, 2) := by decide +kernel
theorem dX5_within_86 : decode cX5_within 86 = .ok (.invokevirtual 188, 3) := by decide +kernel
theorem dX5_within_89 : decode cX5_within 89 = .ok (.ifCond .ne 19, 3) := by decide +kernel
theorem dX5_within_92 : decode cX5_within 92 = .ok (.aload_n 0, 1) := by decide +kernel
theorem dX5_within_93 : decode cX5_within 93 = .ok (.iload 5, 2) := by decide +kernel
theorem dX5_within_95 : decode cX5_within 95 = .ok (.iconst 0, 1) := by decide +kernel
theorem dX5_within_96 : decode cX5_within 96 = .ok (.invokevirtual 149, 3) := by decide +kernel
theorem dX5_within_99 : decode cX5_within 99 = .ok (.iload_n 3, 1) := by decide +kernel
theorem dX5_within_100 : decode cX5_within 100 = .ok (.iand, 1) := by decide +kernel
theorem dX5_within_101 : decode cX5_within 101 = .ok (.ifCond .ne 7, 3) := by decide +kernel
theorem dX5_within_104 : decode cX5_within 104 = .ok (.iconst 1, 1) := by decide +kernel
theorem dX5_within_105 : decode cX5_within 105 = .ok (.goto 4, 3) := by decide +kernel
theorem dX5_within_108 : decode cX5_within 108 = .ok (.iconst 0, 1) := by decide +kernel
theorem dX5_within_109 : decode cX5_within 109 = .ok (.istore 6, 2) := by decide +kernel
theorem dX5_within_111 : decode cX5_within 111 = .ok (.iload 6, 2) := by decide +kernel
theorem dX5_within_113 : decode cX5_within 113 = .ok (.ifCond .eq 18, 3) := by decide +kernel
theorem dX5_within_116 : decode cX5_within 116 = .ok (.aload_n 0, 1) := by decide +kernel
theorem dX5_within_117 : decode cX5_within 117 = .ok (.iload 5, 2) := by decide +kernel
theorem dX5_within_119 : decode cX5_within 119 = .ok (.invokevirtual 203, 3) := by decide +kernel
theorem dX5_within_122 : decode cX5_within 122 = .ok (.iload_n 1, 1) := by decide +kernel
theorem dX5_within_123 : decode cX5_within 123 = .ok (.if_icmp .gt 8, 3) := by decide +kernel
theorem dX5_within_126 : decode cX5_within 126 = .ok (.iload 5, 2) := by decide +kernel
theorem dX5_within_128 : decode cX5_within 128 = .ok (.goto 5, 3) := by decide +kernel
theorem dX5_within_131 : decode cX5_within 131 = .ok (.iload 4, 2) := by decide +kernel
theorem dX5_within_133 : decode cX5_within 133 = .ok (.istore 4, 2) := by decide +kernel
theorem dX5_within_135 : decode cX5_within 135 = .ok (.iinc 5 1, 3) := by decide +kernel
theorem dX5_within_138 : decode cX5_within 138 = .ok (.goto (-90), 3) := by decide +kernel
theorem dX5_within_141 : decode cX5_within 141 = .ok (.aload_n 0, 1) := by decide +kernel
theorem dX5_within_142 : decode cX5_within 142 = .ok (.aload_n 0, 1) := by decide +kernel
theorem dX5_within_143 : decode cX5_within 143 = .ok (.iload 4, 2) := by decide +kernel
theorem dX5_within_145 : decode cX5_within 145 = .ok (.invokevirtual 185, 3) := by decide +kernel
theorem dX5_within_148 : decode cX5_within 148 = .ok (.iload 4, 2) := by decide +kernel
theorem dX5_within_150 : decode cX5_within 150 = .ok (.invokevirtual 181, 3) := by decide +kernel
theorem dX5_within_153 : decode cX5_within 153 = .ok (.ireturn, 1) := by decide +kernel
theorem dX5_whose_0 : decode cX5_whose 0 = .ok (.iload_n 1, 1) := by decide +kernel
theorem dX5_whose_1 : decode cX5_whose 1 = .ok (.invokestatic 77, 3) := by decide +kernel
theorem dX5_whose_4 : decode cX5_whose 4 = .ok (.ifCond .ne 5, 3) := by decide +kernel
theorem dX5_whose_7 : decode cX5_whose 7 = .ok (.iconst (-1), 1) := by decide +kernel
theorem dX5_whose_8 : decode cX5_whose 8 = .ok (.ireturn, 1) := by decide +kernel
theorem dX5_whose_9 : decode cX5_whose 9 = .ok (.aload_n 0, 1) := by decide +kernel
theorem dX5_whose_10 : decode cX5_whose 10 = .ok (.getfield 130, 3) := by decide +kernel
theorem dX5_whose_13 : decode cX5_whose 13 = .ok (.ifCond .ne 6, 3) := by decide +kernel
theorem dX5_whose_16 : decode cX5_whose 16 = .ok (.bipush (-4), 2) := by decide +kernel
theorem dX5_whose_18 : decode cX5_whose 18 = .ok (.ireturn, 1) := by decide +kernel
theorem dX5_whose_19 : decode cX5_whose 19 = .ok (.aload_n 0, 1) := by decide +kernel
theorem dX5_whose_20 : decode cX5_whose 20 = .ok (.getfield 13, 3) := by decide +kernel
theorem dX5_whose_23 : decode cX5_whose 23 = .ok (.iload_n 1, 1) := by decide +kernel
theorem dX5_whose_24 : decode cX5_whose 24 = .ok (.iaload, 1) := by decide +kernel
theorem dX5_whose_25 : decode cX5_whose 25 = .ok (.ifCond .ge 9, 3) := by decide +kernel
theorem dX5_whose_28 : decode cX5_whose 28 = .ok (.aload_n 0, 1) := by decide +kernel
theorem dX5_whose_29 : decode cX5_whose 29 = .ok (.iconst 1, 1) := by decide +kernel
theorem dX5_whose_30 : decode cX5_whose 30 = .ok (.invokevirtual 81, 3) := by decide +kernel
theorem dX5_whose_33 : decode cX5_whose 33 = .ok (.ireturn, 1) := by decide +kernel
theorem dX5_whose_34 : decode cX5_whose 34 = .ok (.aload_n 0, 1) := by decide +kernel
theorem dX5_whose_35 : decode cX5_whose 35 = .ok (.getfield 13, 3) := by decide +kernel
theorem dX5_whose_38 : decode cX5_whose 38 = .ok (.iload_n 1, 1) := by decide +kernel
theorem dX5_whose_39 : decode cX5_whose 39 = .ok (.iaload, 1) := by decide +kernel
theorem dX5_whose_40 : decode cX5_whose 40 = .ok (.bipush 13, 2) := by decide +kernel
theorem dX5_whose_42 : decode cX5_whose 42 = .ok (.if_icmp .eq 9, 3) := by decide +kernel
theorem dX5_whose_45 : decode cX5_whose 45 = .ok (.aload_n 0, 1) := by decide +kernel
theorem dX5_whose_46 : decode cX5_whose 46 = .ok (.iconst 5, 1) := by decide +kernel
theorem dX5_whose_47 : decode cX5_whose 47 = .ok (.invokevirtual 81, 3) := by decide +kernel
theorem dX5_whose_50 : decode cX5_whose 50 = .ok (.ireturn, 1) := by decide +kernel
theorem dX5_whose_51 : decode cX5_whose 51 = .ok (.iconst 0, 1) := by decide +kernel
theorem dX5_whose_52 : decode cX5_whose 52 = .ok (.istore_n 2, 1) := by decide +kernel
theorem dX5_whose_53 : decode cX5_whose 53 = .ok (.iconst 0, 1) := by decide +kernel
theorem dX5_whose_54 : decode cX5_whose 54 = .ok (.istore_n 3, 1) := by decide +kernel
theorem dX5_whose_55 : decode cX5_whose 55 = .ok (.iconst 0, 1) := by decide +kernel
theorem dX5_whose_56 : decode cX5_whose 56 = .ok (.istore 4, 2) := by decide +kernel
theorem dX5_whose_58 : decode cX5_whose 58 = .ok (.iload 4, 2) := by decide +kernel
theorem dX5_whose_60 : decode cX5_whose 60 = .ok (.bipush 13, 2) := by decide +kernel
theorem dX5_whose_62 : decode cX5_whose 62 = .ok (.if_icmp .ge 80, 3) := by decide +kernel
theorem dX5_whose_65 : decode cX5_whose 65 = .ok (.aload_n 0, 1) := by decide +kernel
theorem dX5_whose_66 : decode cX5_whose 66 = .ok (.getfield 7, 3) := by decide +kernel
theorem dX5_whose_69 : decode cX5_whose 69 = .ok (.bipush 40, 2) := by decide +kernel
theorem dX5_whose_71 : decode cX5_whose 71 = .ok (.iload_n 1, 1) := by decide +kernel
theorem dX5_whose_72 : decode cX5_whose 72 = .ok (.imul, 1) := by decide +kernel
theorem dX5_whose_73 : decode cX5_whose 73 = .ok (.iload 4, 2) := by decide +kernel
theorem dX5_whose_75 : decode cX5_whose 75 = .ok (.iadd, 1) := by decide +kernel
theorem dX5_whose_76 : decode cX5_whose 76 = .ok (.iaload, 1) := by decide +kernel
theorem dX5_whose_77 : decode cX5_whose 77 = .ok (.istore 5, 2) := by decide +kernel
theorem dX5_whose_79 : decode cX5_whose 79 = .ok (.iload 5, 2) := by decide +kernel
theorem dX5_whose_81 : decode cX5_whose 81 = .ok (.ifCond .eq 22, 3) := by decide +kernel
theorem dX5_whose_84 : decode cX5_whose 84 = .ok (.iload 5, 2) := by decide +kernel
theorem dX5_whose_86 : decode cX5_whose 86 = .ok (.iconst 1, 1) := by decide +kernel
theorem dX5_whose_87 : decode cX5_whose 87 = .ok (.if_icmp .eq 16, 3) := by decide +kernel
theorem dX5_whose_90 : decode cX5_whose 90 = .ok (.iload 5, 2) := by decide +kernel
theorem dX5_whose_92 : decode cX5_whose 92 = .ok (.bipush (-9), 2) := by decide +kernel
theorem dX5_whose_94 : decode cX5_whose 94 = .ok (.if_icmp .eq 9, 3) := by decide +kernel
theorem dX5_whose_97 : decode cX5_whose 97 = .ok (.aload_n 0, 1) := by decide +kernel
theorem dX5_whose_98 : decode cX5_whose 98 = .ok (.iconst 3, 1) := by decide +kernel
theorem dX5_whose_99 : decode cX5_whose 99 = .ok (.invokevirtual 81, 3) := by decide +kernel
theorem dX5_whose_102 : decode cX5_whose 102 = .ok (.ireturn, 1) := by decide +kernel
theorem dX5_whose_103 : decode cX5_whose 103 = .ok (.iload_n 2, 1) := by decide +kernel
theorem dX5_whose_104 : decode cX5_whose 104 = .ok (.iload 5, 2) := by decide +kernel
theorem dX5_whose_106 : decode cX5_whose 106 = .ok (.iconst 1, 1) := by decide +kernel
theorem dX5_whose_107 : decode cX5_whose 107 = .ok (.if_icmp .ne 10, 3) := by decide +kernel
theorem dX5_whose_110 : decode cX5_whose 110 = .ok (.iconst 1, 1) := by decide +kernel
theorem dX5_whose_111 : decode cX5_whose 111 = .ok (.iload 4, 2) := by decide +kernel
theorem dX5_whose_113 : decode cX5_whose 113 = .ok (.ishl, 1) := by decide +kernel
theorem dX5_whose_114 : decode cX5_whose 114 = .ok (.goto 4, 3) := by decide +kernel
theorem dX5_whose_117 : decode cX5_whose 117 = .ok (.iconst 0, 1) := by decide +kernel
theorem dX5_whose_118 : decode cX5_whose 118 = .ok (.ior, 1) := by decide +kernel
theorem dX5_whose_119 : decode cX5_whose 119 = .ok (.istore_n 2, 1) := by decide +kernel
theorem dX5_whose_120 : decode cX5_whose 120 = .ok (.iload_n 3, 1) := by decide +kernel
theorem dX5_whose_121 : decode cX5_whose 121 = .ok (.iload 5, 2) := by decide +kernel
theorem dX5_whose_123 : decode cX5_whose 123 = .ok (.ifCond .ne 10, 3) := by decide +kernel
theorem dX5_whose_126 : decode cX5_whose 126 = .ok (.iconst 1, 1) := by decide +kernel
theorem dX5_whose_127 : decode cX5_whose 127 = .ok (.iload 4, 2) := by decide +kernel
theorem dX5_whose_129 : decode cX5_whose 129 = .ok (.ishl, 1) := by decide +kernel
theorem dX5_whose_130 : decode cX5_whose 130 = .ok (.goto 4, 3) := by decide +kernel
theorem dX5_whose_133 : decode cX5_whose 133 = .ok (.iconst 0, 1) := by decide +kernel
theorem dX5_whose_134 : decode cX5_whose 134 = .ok (.ior, 1) := by decide +kernel
theorem dX5_whose_135 : decode cX5_whose 135 = .ok (.istore_n 3, 1) := by decide +kernel
theorem dX5_whose_136 : decode cX5_whose 136 = .ok (.iinc 4 1, 3) := by decide +kernel
theorem dX5_whose_139 : decode cX5_whose 139 = .ok (.goto (-81), 3) := by decide +kernel
theorem dX5_whose_142 : decode cX5_whose 142 = .ok (.aload_n 0, 1) := by decide +kernel
theorem dX5_whose_143 : decode cX5_whose 143 = .ok (.bipush (-2), 2) := by decide +kernel
theorem dX5_whose_145 : decode cX5_whose 145 = .ok (.invokevirtual 170, 3) := by decide +kernel
theorem dX5_whose_148 : decode cX5_whose 148 = .ok (.istore 4, 2) := by decide +kernel
theorem dX5_whose_150 : decode cX5_whose 150 = .ok (.iconst 0, 1) := by decide +kernel
theorem dX5_whose_151 : decode cX5_whose 151 = .ok (.istore 5, 2) := by decide +kernel
theorem dX5_whose_153 : decode cX5_whose 153 = .ok (.bipush (-9), 2) := by decide +kernel
theorem dX5_whose_155 : decode cX5_whose 155 = .ok (.istore 6, 2) := by decide +kernel
theorem dX5_whose_157 : decode cX5_whose 157 = .ok (.iconst 0, 1) := by decide +kernel
theorem dX5_whose_158 : decode cX5_whose 158 = .ok (.istore 7, 2) := by decide +kernel
theorem dX5_whose_160 : decode cX5_whose 160 = .ok (.iload 7, 2) := by decide +kernel
theorem dX5_whose_162 : decode cX5_whose 162 = .ok (.iconst 1, 1) := by decide +kernel
theorem dX5_whose_163 : decode cX5_whose 163 = .ok (.aload_n 0, 1) := by decide +kernel
theorem dX5_whose_164 : decode cX5_whose 164 = .ok (.getfield 130, 3) := by decide +kernel
theorem dX5_whose_167 : decode cX5_whose 167 = .ok (.ishl, 1) := by decide +kernel
theorem dX5_whose_168 : decode cX5_whose 168 = .ok (.if_icmp .ge 60, 3) := by decide +kernel
theorem dX5_whose_171 : decode cX5_whose 171 = .ok (.aload_n 0, 1) := by decide +kernel
theorem dX5_whose_172 : decode cX5_whose 172 = .ok (.iload 7, 2) := by decide +kernel
theorem dX5_whose_174 : decode cX5_whose 174 = .ok (.iconst 0, 1) := by decide +kernel
theorem dX5_whose_175 : decode cX5_whose 175 = .ok (.invokevirtual 149, 3) := by decide +kernel
theorem dX5_whose_178 : decode cX5_whose 178 = .ok (.istore 8, 2) := by decide +kernel
theorem dX5_whose_180 : decode cX5_whose 180 = .ok (.iload 7, 2) := by decide +kernel
theorem dX5_whose_182 : decode cX5_whose 182 = .ok (.iload 4, 2) := by decide +kernel
theorem dX5_whose_184 : decode cX5_whose 184 = .ok (.iand, 1) := by decide +kernel
theorem dX5_whose_185 : decode cX5_whose 185 = .ok (.ifCond .ne 37, 3) := by decide +kernel
theorem dX5_whose_188 : decode cX5_whose 188 = .ok (.iload 8, 2) := by decide +kernel
theorem dX5_whose_190 : decode cX5_whose 190 = .ok (.iload_n 2, 1) := by decide +kernel
theorem dX5_whose_191 : decode cX5_whose 191 = .ok (.iand, 1) := by decide +kernel
theorem dX5_whose_192 : decode cX5_whose 192 = .ok (.iload_n 2, 1) := by decide +kernel
theorem dX5_whose_193 : decode cX5_whose 193 = .ok (.if_icmp .ne 29, 3) := by decide +kernel
theorem dX5_whose_196 : decode cX5_whose 196 = .ok (.iload 8, 2) := by decide +kernel
theorem dX5_whose_198 : decode cX5_whose 198 = .ok (.iload_n 3, 1) := by decide +kernel
theorem dX5_whose_199 : decode cX5_whose 199 = .ok (.iand, 1) := by decide +kernel
theorem dX5_whose_200 : decode cX5_whose 200 = .ok (.ifCond .ne 22, 3) := by decide +kernel
theorem dX5_whose_203 : decode cX5_whose 203 = .ok (.iinc 5 1, 3) := by decide +kernel
theorem dX5_whose_206 : decode cX5_whose 206 = .ok (.iload 6, 2) := by decide +kernel
theorem dX5_whose_208 : decode cX5_whose 208 = .ok (.bipush (-9), 2) := by decide +kernel
theorem dX5_whose_210 : decode cX5_whose 210 = .ok (.if_icmp .ne 8, 3) := by decide +kernel
theorem dX5_whose_213 : decode cX5_whose 213 = .ok (.iload 7, 2) := by decide +kernel
theorem dX5_whose_215 : decode cX5_whose 215 = .ok (.goto 5, 3) := by decide +kernel
theorem dX5_whose_218 : decode cX5_whose 218 = .ok (.iload 6, 2) := by decide +kernel
theorem dX5_whose_220 : decode cX5_whose 220 = .ok (.istore 6, 2) := by decide +kernel
theorem dX5_whose_222 : decode cX5_whose 222 = .ok (.iinc 7 1, 3) := by decide +kernel
theorem dX5_whose_225 : decode cX5_whose 225 = .ok (.goto (-65), 3) := by decide +kernel
theorem dX5_whose_228 : decode cX5_whose 228 = .ok (.iload 5, 2) := by decide +kernel
theorem dX5_whose_230 : decode cX5_whose 230 = .ok (.ifCond .ne 8, 3) := by decide +kernel
theorem dX5_whose_233 : decode cX5_whose 233 = .ok (.bipush (-9), 2) := by decide +kernel
theorem dX5_whose_235 : decode cX5_whose 235 = .ok (.goto 11, 3) := by decide +kernel
theorem dX5_whose_238 : decode cX5_whose 238 = .ok (.aload_n 0, 1) := by decide +kernel
theorem dX5_whose_239 : decode cX5_whose 239 = .ok (.iload 5, 2) := by decide +kernel
theorem dX5_whose_241 : decode cX5_whose 241 = .ok (.iload 6, 2) := by decide +kernel
theorem dX5_whose_243 : decode cX5_whose 243 = .ok (.invokevirtual 181, 3) := by decide +kernel
theorem dX5_whose_246 : decode cX5_whose 246 = .ok (.ireturn, 1) := by decide +kernel
theorem dX5_refusesPairs_0 : decode cX5_refusesPairs 0 = .ok (.aload_n 0, 1) := by decide +kernel
theorem dX5_refusesPairs_1 : decode cX5_refusesPairs 1 = .ok (.getfield 13, 3) := by decide +kernel
theorem dX5_refusesPairs_4 : decode cX5_refusesPairs 4 = .ok (.iload_n 1, 1) := by decide +kernel
theorem dX5_refusesPairs_5 : decode cX5_refusesPairs 5 = .ok (.iaload, 1) := by decide +kernel
theorem dX5_refusesPairs_6 : decode cX5_refusesPairs 6 = .ok (.ifCond .ge 9, 3) := by decide +kernel
theorem dX5_refusesPairs_9 : decode cX5_refusesPairs 9 = .ok (.aload_n 0, 1) := by decide +kernel
theorem dX5_refusesPairs_10 : decode cX5_refusesPairs 10 = .ok (.iconst 1, 1) := by decide +kernel
theorem dX5_refusesPairs_11 : decode cX5_refusesPairs 11 = .ok (.invokevirtual 81, 3) := by decide +kernel
theorem dX5_refusesPairs_14 : decode cX5_refusesPairs 14 = .ok (.ireturn, 1) := by decide +kernel
theorem dX5_refusesPairs_15 : decode cX5_refusesPairs 15 = .ok (.aload_n 0, 1) := by decide +kernel
theorem dX5_refusesPairs_16 : decode cX5_refusesPairs 16 = .ok (.getfield 13, 3) := by decide +kernel
theorem dX5_refusesPairs_19 : decode cX5_refusesPairs 19 = .ok (.iload_n 1, 1) := by decide +kernel
theorem dX5_refusesPairs_20 : decode cX5_refusesPairs 20 = .ok (.iaload, 1) := by decide +kernel
theorem dX5_refusesPairs_21 : decode cX5_refusesPairs 21 = .ok (.iconst 2, 1) := by decide +kernel
theorem dX5_refusesPairs_22 : decode cX5_refusesPairs 22 = .ok (.irem, 1) := by decide +kernel
theorem dX5_refusesPairs_23 : decode cX5_refusesPairs 23 = .ok (.iconst 1, 1) := by decide +kernel
theorem dX5_refusesPairs_24 : decode cX5_refusesPairs 24 = .ok (.if_icmp .ne 9, 3) := by decide +kernel
theorem dX5_refusesPairs_27 : decode cX5_refusesPairs 27 = .ok (.aload_n 0, 1) := by decide +kernel
theorem dX5_refusesPairs_28 : decode cX5_refusesPairs 28 = .ok (.iconst 5, 1) := by decide +kernel
theorem dX5_refusesPairs_29 : decode cX5_refusesPairs 29 = .ok (.invokevirtual 81, 3) := by decide +kernel
theorem dX5_refusesPairs_32 : decode cX5_refusesPairs 32 = .ok (.ireturn, 1) := by decide +kernel
theorem dX5_refusesPairs_33 : decode cX5_refusesPairs 33 = .ok (.iconst 0, 1) := by decide +kernel
theorem dX5_refusesPairs_34 : decode cX5_refusesPairs 34 = .ok (.istore_n 2, 1) := by decide +kernel
theorem dX5_refusesPairs_35 : decode cX5_refusesPairs 35 = .ok (.iload_n 2, 1) := by decide +kernel
theorem dX5_refusesPairs_36 : decode cX5_refusesPairs 36 = .ok (.aload_n 0, 1) := by decide +kernel
theorem dX5_refusesPairs_37 : decode cX5_refusesPairs 37 = .ok (.getfield 13, 3) := by decide +kernel
theorem dX5_refusesPairs_40 : decode cX5_refusesPairs 40 = .ok (.iload_n 1, 1) := by decide +kernel
theorem dX5_refusesPairs_41 : decode cX5_refusesPairs 41 = .ok (.iaload, 1) := by decide +kernel
theorem dX5_refusesPairs_42 : decode cX5_refusesPairs 42 = .ok (.if_icmp .ge 63, 3) := by decide +kernel
theorem dX5_refusesPairs_45 : decode cX5_refusesPairs 45 = .ok (.aload_n 0, 1) := by decide +kernel
theorem dX5_refusesPairs_46 : decode cX5_refusesPairs 46 = .ok (.getfield 7, 3) := by decide +kernel
theorem dX5_refusesPairs_49 : decode cX5_refusesPairs 49 = .ok (.bipush 40, 2) := by decide +kernel
theorem dX5_refusesPairs_51 : decode cX5_refusesPairs 51 = .ok (.iload_n 1, 1) := by decide +kernel
theorem dX5_refusesPairs_52 : decode cX5_refusesPairs 52 = .ok (.imul, 1) := by decide +kernel
theorem dX5_refusesPairs_53 : decode cX5_refusesPairs 53 = .ok (.iload_n 2, 1) := by decide +kernel
theorem dX5_refusesPairs_54 : decode cX5_refusesPairs 54 = .ok (.iadd, 1) := by decide +kernel
theorem dX5_refusesPairs_55 : decode cX5_refusesPairs 55 = .ok (.iaload, 1) := by decide +kernel
theorem dX5_refusesPairs_56 : decode cX5_refusesPairs 56 = .ok (.i2l, 1) := by decide +kernel
theorem dX5_refusesPairs_57 : decode cX5_refusesPairs 57 = .ok (.lconst 0, 1) := by decide +kernel
theorem dX5_refusesPairs_58 : decode cX5_refusesPairs 58 = .ok (.ldc2_w 161, 3) := by decide +kernel
theorem dX5_refusesPairs_61 : decode cX5_refusesPairs 61 = .ok (.invokestatic 71, 3) := by decide +kernel
theorem dX5_refusesPairs_64 : decode cX5_refusesPairs 64 = .ok (.ifCond .eq 29, 3) := by decide +kernel
theorem dX5_refusesPairs_67 : decode cX5_refusesPairs 67 = .ok (.aload_n 0, 1) := by decide +kernel
theorem dX5_refusesPairs_68 : decode cX5_refusesPairs 68 = .ok (.getfield 7, 3) := by decide +kernel
theorem dX5_refusesPairs_71 : decode cX5_refusesPairs 71 = .ok (.bipush 40, 2) := by decide +kernel
theorem dX5_refusesPairs_73 : decode cX5_refusesPairs 73 = .ok (.iload_n 1, 1) := by decide +kernel
theorem dX5_refusesPairs_74 : decode cX5_refusesPairs 74 = .ok (.imul, 1) := by decide +kernel
theorem dX5_refusesPairs_75 : decode cX5_refusesPairs 75 = .ok (.iload_n 2, 1) := by decide +kernel
theorem dX5_refusesPairs_76 : decode cX5_refusesPairs 76 = .ok (.iadd, 1) := by decide +kernel
theorem dX5_refusesPairs_77 : decode cX5_refusesPairs 77 = .ok (.iconst 1, 1) := by decide +kernel
theorem dX5_refusesPairs_78 : decode cX5_refusesPairs 78 = .ok (.iadd, 1) := by decide +kernel
theorem dX5_refusesPairs_79 : decode cX5_refusesPairs 79 = .ok (.iaload, 1) := by decide +kernel
theorem dX5_refusesPairs_80 : decode cX5_refusesPairs 80 = .ok (.i2l, 1) := by decide +kernel
theorem dX5_refusesPairs_81 : decode cX5_refusesPairs 81 = .ok (.ldc2_w 208, 3) := by decide +kernel
theorem dX5_refusesPairs_84 : decode cX5_refusesPairs 84 = .ok (.ldc2_w 210, 3) := by decide +kernel
theorem dX5_refusesPairs_87 : decode cX5_refusesPairs 87 = .ok (.invokestatic 71, 3) := by decide +kernel
theorem dX5_refusesPairs_90 : decode cX5_refusesPairs 90 = .ok (.ifCond .ne 9, 3) := by decide +kernel
theorem dX5_refusesPairs_93 : decode cX5_refusesPairs 93 = .ok (.aload_n 0, 1) := by decide +kernel
theorem dX5_refusesPairs_94 : decode cX5_refusesPairs 94 = .ok (.iconst 3, 1) := by decide +kernel
theorem dX5_refusesPairs_95 : decode cX5_refusesPairs 95 = .ok (.invokevirtual 81, 3) := by decide +kernel
theorem dX5_refusesPairs_98 : decode cX5_refusesPairs 98 = .ok (.ireturn, 1) := by decide +kernel
theorem dX5_refusesPairs_99 : decode cX5_refusesPairs 99 = .ok (.iinc 2 2, 3) := by decide +kernel
theorem dX5_refusesPairs_102 : decode cX5_refusesPairs 102 = .ok (.goto (-67), 3) := by decide +kernel
theorem dX5_refusesPairs_105 : decode cX5_refusesPairs 105 = .ok (.iconst 0, 1) := by decide +kernel
theorem dX5_refusesPairs_106 : decode cX5_refusesPairs 106 = .ok (.ireturn, 1) := by decide +kernel
theorem dX5_kindsOf_0 : decode cX5_kindsOf 0 = .ok (.iconst 0, 1) := by decide +kernel
theorem dX5_kindsOf_1 : decode cX5_kindsOf 1 = .ok (.istore_n 3, 1) := by decide +kernel
theorem dX5_kindsOf_2 : decode cX5_kindsOf 2 = .ok (.iconst 0, 1) := by decide +kernel
theorem dX5_kindsOf_3 : decode cX5_kindsOf 3 = .ok (.istore 4, 2) := by decide +kernel
theorem dX5_kindsOf_5 : decode cX5_kindsOf 5 = .ok (.iload 4, 2) := by decide +kernel
theorem dX5_kindsOf_7 : decode cX5_kindsOf 7 = .ok (.bipush 6, 2) := by decide +kernel
theorem dX5_kindsOf_9 : decode cX5_kindsOf 9 = .ok (.if_icmp .ge 96, 3) := by decide +kernel
theorem dX5_kindsOf_12 : decode cX5_kindsOf 12 = .ok (.iconst 1, 1) := by decide +kernel
theorem dX5_kindsOf_13 : decode cX5_kindsOf 13 = .ok (.istore 5, 2) := by decide +kernel
theorem dX5_kindsOf_15 : decode cX5_kindsOf 15 = .ok (.iconst 0, 1) := by decide +kernel
theorem dX5_kindsOf_16 : decode cX5_kindsOf 16 = .ok (.istore 6, 2) := by decide +kernel
theorem dX5_kindsOf_18 : decode cX5_kindsOf 18 = .ok (.iload 6, 2) := by decide +kernel
theorem dX5_kindsOf_20 : decode cX5_kindsOf 20 = .ok (.aload_n 0, 1) := by decide +kernel
theorem dX5_kindsOf_21 : decode cX5_kindsOf 21 = .ok (.getfield 13, 3) := by decide +kernel
theorem dX5_kindsOf_24 : decode cX5_kindsOf 24 = .ok (.iload_n 2, 1) := by decide +kernel
theorem dX5_kindsOf_25 : decode cX5_kindsOf 25 = .ok (.iaload, 1) := by decide +kernel
theorem dX5_kindsOf_26 : decode cX5_kindsOf 26 = .ok (.if_icmp .ge 57, 3) := by decide +kernel
theorem dX5_kindsOf_29 : decode cX5_kindsOf 29 = .ok (.iload 5, 2) := by decide +kernel
theorem dX5_kindsOf_31 : decode cX5_kindsOf 31 = .ok (.ifCond .eq 43, 3) := by decide +kernel
theorem dX5_kindsOf_34 : decode cX5_kindsOf 34 = .ok (.aload_n 0, 1) := by decide +kernel
theorem dX5_kindsOf_35 : decode cX5_kindsOf 35 = .ok (.iload 4, 2) := by decide +kernel
theorem dX5_kindsOf_37 : decode cX5_kindsOf 37 = .ok (.iload_n 1, 1) := by decide +kernel
theorem dX5_kindsOf_38 : decode cX5_kindsOf 38 = .ok (.aload_n 0, 1) := by decide +kernel
theorem dX5_kindsOf_39 : decode cX5_kindsOf 39 = .ok (.getfield 7, 3) := by decide +kernel
theorem dX5_kindsOf_42 : decode cX5_kindsOf 42 = .ok (.bipush 40, 2) := by decide +kernel
theorem dX5_kindsOf_44 : decode cX5_kindsOf 44 = .ok (.iload_n 2, 1) := by decide +kernel
theorem dX5_kindsOf_45 : decode cX5_kindsOf 45 = .ok (.imul, 1) := by decide +kernel
theorem dX5_kindsOf_46 : decode cX5_kindsOf 46 = .ok (.iload 6, 2) := by decide +kernel
theorem dX5_kindsOf_48 : decode cX5_kindsOf 48 = .ok (.iadd, 1) := by decide +kernel
theorem dX5_kindsOf_49 : decode cX5_kindsOf 49 = .ok (.iaload, 1) := by decide +kernel
theorem dX5_kindsOf_50 : decode cX5_kindsOf 50 = .ok (.invokevirtual 142, 3) := by decide +kernel
theorem dX5_kindsOf_53 : decode cX5_kindsOf 53 = .ok (.aload_n 0, 1) := by decide +kernel
theorem dX5_kindsOf_54 : decode cX5_kindsOf 54 = .ok (.getfield 7, 3) := by decide +kernel
theorem dX5_kindsOf_57 : decode cX5_kindsOf 57 = .ok (.bipush 40, 2) := by decide +kernel
theorem dX5_kindsOf_59 : decode cX5_kindsOf 59 = .ok (.iload_n 2, 1) := by decide +kernel
theorem dX5_kindsOf_60 : decode cX5_kindsOf 60 = .ok (.imul, 1) := by decide +kernel
theorem dX5_kindsOf_61 : decode cX5_kindsOf 61 = .ok (.iload 6, 2) := by decide +kernel
theorem dX5_kindsOf_63 : decode cX5_kindsOf 63 = .ok (.iadd, 1) := by decide +kernel
theorem dX5_kindsOf_64 : decode cX5_kindsOf 64 = .ok (.iconst 1, 1) := by decide +kernel
theorem dX5_kindsOf_65 : decode cX5_kindsOf 65 = .ok (.iadd, 1) := by decide +kernel
theorem dX5_kindsOf_66 : decode cX5_kindsOf 66 = .ok (.iaload, 1) := by decide +kernel
theorem dX5_kindsOf_67 : decode cX5_kindsOf 67 = .ok (.if_icmp .ne 7, 3) := by decide +kernel
theorem dX5_kindsOf_70 : decode cX5_kindsOf 70 = .ok (.iconst 1, 1) := by decide +kernel
theorem dX5_kindsOf_71 : decode cX5_kindsOf 71 = .ok (.goto 4, 3) := by decide +kernel
theorem dX5_kindsOf_74 : decode cX5_kindsOf 74 = .ok (.iconst 0, 1) := by decide +kernel
theorem dX5_kindsOf_75 : decode cX5_kindsOf 75 = .ok (.istore 5, 2) := by decide +kernel
theorem dX5_kindsOf_77 : decode cX5_kindsOf 77 = .ok (.iinc 6 2, 3) := by decide +kernel
theorem dX5_kindsOf_80 : decode cX5_kindsOf 80 = .ok (.goto (-62), 3) := by decide +kernel
theorem dX5_kindsOf_83 : decode cX5_kindsOf 83 = .ok (.iload_n 3, 1) := by decide +kernel
theorem dX5_kindsOf_84 : decode cX5_kindsOf 84 = .ok (.iload 5, 2) := by decide +kernel
theorem dX5_kindsOf_86 : decode cX5_kindsOf 86 = .ok (.ifCond .eq 10, 3) := by decide +kernel
theorem dX5_kindsOf_89 : decode cX5_kindsOf 89 = .ok (.iconst 1, 1) := by decide +kernel
theorem dX5_kindsOf_90 : decode cX5_kindsOf 90 = .ok (.iload 4, 2) := by decide +kernel
theorem dX5_kindsOf_92 : decode cX5_kindsOf 92 = .ok (.ishl, 1) := by decide +kernel
theorem dX5_kindsOf_93 : decode cX5_kindsOf 93 = .ok (.goto 4, 3) := by decide +kernel
theorem dX5_kindsOf_96 : decode cX5_kindsOf 96 = .ok (.iconst 0, 1) := by decide +kernel
theorem dX5_kindsOf_97 : decode cX5_kindsOf 97 = .ok (.ior, 1) := by decide +kernel
theorem dX5_kindsOf_98 : decode cX5_kindsOf 98 = .ok (.istore_n 3, 1) := by decide +kernel
theorem dX5_kindsOf_99 : decode cX5_kindsOf 99 = .ok (.iinc 4 1, 3) := by decide +kernel
theorem dX5_kindsOf_102 : decode cX5_kindsOf 102 = .ok (.goto (-97), 3) := by decide +kernel
theorem dX5_kindsOf_105 : decode cX5_kindsOf 105 = .ok (.iload_n 3, 1) := by decide +kernel
theorem dX5_kindsOf_106 : decode cX5_kindsOf 106 = .ok (.ireturn, 1) := by decide +kernel
theorem dX5_kinds_0 : decode cX5_kinds 0 = .ok (.aload_n 0, 1) := by decide +kernel
theorem dX5_kinds_1 : decode cX5_kinds 1 = .ok (.iload_n 1, 1) := by decide +kernel
theorem dX5_kinds_2 : decode cX5_kinds 2 = .ok (.invokevirtual 153, 3) := by decide +kernel
theorem dX5_kinds_5 : decode cX5_kinds 5 = .ok (.ifCond .eq 10, 3) := by decide +kernel
theorem dX5_kinds_8 : decode cX5_kinds 8 = .ok (.iload_n 2, 1) := by decide +kernel
theorem dX5_kinds_9 : decode cX5_kinds 9 = .ok (.invokestatic 77, 3) := by decide +kernel
theorem dX5_kinds_12 : decode cX5_kinds 12 = .ok (.ifCond .ne 5, 3) := by decide +kernel
theorem dX5_kinds_15 : decode cX5_kinds 15 = .ok (.iconst (-1), 1) := by decide +kernel
theorem dX5_kinds_16 : decode cX5_kinds 16 = .ok (.ireturn, 1) := by decide +kernel
theorem dX5_kinds_17 : decode cX5_kinds 17 = .ok (.aload_n 0, 1) := by decide +kernel
theorem dX5_kinds_18 : decode cX5_kinds 18 = .ok (.iload_n 2, 1) := by decide +kernel
theorem dX5_kinds_19 : decode cX5_kinds 19 = .ok (.invokevirtual 212, 3) := by decide +kernel
theorem dX5_kinds_22 : decode cX5_kinds 22 = .ok (.istore_n 3, 1) := by decide +kernel
theorem dX5_kinds_23 : decode cX5_kinds 23 = .ok (.iload_n 3, 1) := by decide +kernel
theorem dX5_kinds_24 : decode cX5_kinds 24 = .ok (.ifCond .eq 7, 3) := by decide +kernel
theorem dX5_kinds_27 : decode cX5_kinds 27 = .ok (.iload_n 3, 1) := by decide +kernel
theorem dX5_kinds_28 : decode cX5_kinds 28 = .ok (.goto 9, 3) := by decide +kernel
theorem dX5_kinds_31 : decode cX5_kinds 31 = .ok (.aload_n 0, 1) := by decide +kernel
theorem dX5_kinds_32 : decode cX5_kinds 32 = .ok (.iload_n 1, 1) := by decide +kernel
theorem dX5_kinds_33 : decode cX5_kinds 33 = .ok (.iload_n 2, 1) := by decide +kernel
theorem dX5_kinds_34 : decode cX5_kinds 34 = .ok (.invokevirtual 215, 3) := by decide +kernel
theorem dX5_kinds_37 : decode cX5_kinds 37 = .ok (.ireturn, 1) := by decide +kernel
theorem dX5_test_0 : decode cX5_test 0 = .ok (.aload_n 0, 1) := by decide +kernel
theorem dX5_test_1 : decode cX5_test 1 = .ok (.iload_n 1, 1) := by decide +kernel
theorem dX5_test_2 : decode cX5_test 2 = .ok (.invokevirtual 153, 3) := by decide +kernel
theorem dX5_test_5 : decode cX5_test 5 = .ok (.ifCond .eq 10, 3) := by decide +kernel
theorem dX5_test_8 : decode cX5_test 8 = .ok (.iload_n 2, 1) := by decide +kernel
theorem dX5_test_9 : decode cX5_test 9 = .ok (.invokestatic 77, 3) := by decide +kernel
theorem dX5_test_12 : decode cX5_test 12 = .ok (.ifCond .ne 5, 3) := by decide +kernel
theorem dX5_test_15 : decode cX5_test 15 = .ok (.iconst (-1), 1) := by decide +kernel
theorem dX5_test_16 : decode cX5_test 16 = .ok (.ireturn, 1) := by decide +kernel
theorem dX5_test_17 : decode cX5_test 17 = .ok (.aload_n 0, 1) := by decide +kernel
theorem dX5_test_18 : decode cX5_test 18 = .ok (.iload_n 2, 1) := by decide +kernel
theorem dX5_test_19 : decode cX5_test 19 = .ok (.invokevirtual 212, 3) := by decide +kernel
theorem dX5_test_22 : decode cX5_test 22 = .ok (.istore_n 3, 1) := by decide +kernel
theorem dX5_test_23 : decode cX5_test 23 = .ok (.iload_n 3, 1) := by decide +kernel
theorem dX5_test_24 : decode cX5_test 24 = .ok (.ifCond .eq 5, 3) := by decide +kernel
theorem dX5_test_27 : decode cX5_test 27 = .ok (.iload_n 3, 1) := by decide +kernel
theorem dX5_test_28 : decode cX5_test 28 = .ok (.ireturn, 1) := by decide +kernel
theorem dX5_test_29 : decode cX5_test 29 = .ok (.aload_n 0, 1) := by decide +kernel
theorem dX5_test_30 : decode cX5_test 30 = .ok (.iload_n 1, 1) := by decide +kernel
theorem dX5_test_31 : decode cX5_test 31 = .ok (.iload_n 2, 1) := by decide +kernel
theorem dX5_test_32 : decode cX5_test 32 = .ok (.invokevirtual 215, 3) := by decide +kernel
theorem dX5_test_35 : decode cX5_test 35 = .ok (.istore 4, 2) := by decide +kernel
theorem dX5_test_37 : decode cX5_test 37 = .ok (.bipush (-9), 2) := by decide +kernel
theorem dX5_test_39 : decode cX5_test 39 = .ok (.istore 5, 2) := by decide +kernel
theorem dX5_test_41 : decode cX5_test 41 = .ok (.bipush 7, 2) := by decide +kernel
theorem dX5_test_43 : decode cX5_test 43 = .ok (.istore 6, 2) := by decide +kernel
theorem dX5_test_45 : decode cX5_test 45 = .ok (.iconst 0, 1) := by decide +kernel
theorem dX5_test_46 : decode cX5_test 46 = .ok (.istore 7, 2) := by decide +kernel
theorem dX5_test_48 : decode cX5_test 48 = .ok (.iload 7, 2) := by decide +kernel
theorem dX5_test_50 : decode cX5_test 50 = .ok (.bipush 10, 2) := by decide +kernel
theorem dX5_test_52 : decode cX5_test 52 = .ok (.if_icmp .ge 151, 3) := by decide +kernel
theorem dX5_test_55 : decode cX5_test 55 = .ok (.iload 4, 2) := by decide +kernel
theorem dX5_test_57 : decode cX5_test 57 = .ok (.ifCond .eq 146, 3) := by decide +kernel
theorem dX5_test_60 : decode cX5_test 60 = .ok (.iconst 0, 1) := by decide +kernel
theorem dX5_test_61 : decode cX5_test 61 = .ok (.istore 8, 2) := by decide +kernel
theorem dX5_test_63 : decode cX5_test 63 = .ok (.iconst 0, 1) := by decide +kernel
theorem dX5_test_64 : decode cX5_test 64 = .ok (.istore 9, 2) := by decide +kernel
theorem dX5_test_66 : decode cX5_test 66 = .ok (.iload 9, 2) := by decide +kernel
theorem dX5_test_68 : decode cX5_test 68 = .ok (.bipush 6, 2) := by decide +kernel
theorem dX5_test_70 : decode cX5_test 70 = .ok (.if_icmp .ge 95, 3) := by decide +kernel
theorem dX5_test_73 : decode cX5_test 73 = .ok (.iconst 0, 1) := by decide +kernel
theorem dX5_test_74 : decode cX5_test 74 = .ok (.istore 10, 2) := by decide +kernel
theorem dX5_test_76 : decode cX5_test 76 = .ok (.iconst 0, 1) := by decide +kernel
theorem dX5_test_77 : decode cX5_test 77 = .ok (.istore 11, 2) := by decide +kernel
theorem dX5_test_79 : decode cX5_test 79 = .ok (.iload 11, 2) := by decide +kernel
theorem dX5_test_81 : decode cX5_test 81 = .ok (.bipush 6, 2) := by decide +kernel
theorem dX5_test_83 : decode cX5_test 83 = .ok (.if_icmp .ge 60, 3) := by decide +kernel
theorem dX5_test_86 : decode cX5_test 86 = .ok (.iload 10, 2) := by decide +kernel
theorem dX5_test_88 : decode cX5_test 88 = .ok (.iload 4, 2) := by decide +kernel
theorem dX5_test_90 : decode cX5_test 90 = .ok (.iload 9, 2) := by decide +kernel
theorem dX5_test_92 : decode cX5_test 92 = .ok (.invokestatic 139, 3) := by decide +kernel
theorem dX5_test_95 : decode cX5_test 95 = .ok (.ifCond .eq 38, 3) := by decide +kernel
theorem dX5_test_98 : decode cX5_test 98 = .ok (.iload 4, 2) := by decide +kernel
theorem dX5_test_100 : decode cX5_test 100 = .ok (.iload 11, 2) := by decide +kernel
theorem dX5_test_102 : decode cX5_test 102 = .ok (.invokestatic 139, 3) := by decide +kernel
theorem dX5_test_105 : decode cX5_test 105 = .ok (.ifCond .eq 28, 3) := by decide +kernel
theorem dX5_test_108 : decode cX5_test 108 = .ok (.aload_n 0, 1) := by decide +kernel
theorem dX5_test_109 : decode cX5_test 109 = .ok (.iload 9, 2) := by decide +kernel
theorem dX5_test_111 : decode cX5_test 111 = .ok (.iload_n 1, 1) := by decide +kernel
theorem dX5_test_112 : decode cX5_test 112 = .ok (.iload 7, 2) := by decide +kernel
theorem dX5_test_114 : decode cX5_test 114 = .ok (.invokevirtual 142, 3) := by decide +kernel
theorem dX5_test_117 : decode cX5_test 117 = .ok (.aload_n 0, 1) := by decide +kernel
theorem dX5_test_118 : decode cX5_test 118 = .ok (.iload 11, 2) := by decide +kernel
theorem dX5_test_120 : decode cX5_test 120 = .ok (.iload_n 1, 1) := by decide +kernel
theorem dX5_test_121 : decode cX5_test 121 = .ok (.iload 7, 2) := by decide +kernel
theorem dX5_test_123 : decode cX5_test 123 = .ok (.invokevirtual 142, 3) := by decide +kernel
theorem dX5_test_126 : decode cX5_test 126 = .ok (.if_icmp .ne 7, 3) := by decide +kernel
theorem dX5_test_129 : decode cX5_test 129 = .ok (.iconst 1, 1) := by decide +kernel
theorem dX5_test_130 : decode cX5_test 130 = .ok (.goto 4, 3) := by decide +kernel
theorem dX5_test_133 : decode cX5_test 133 = .ok (.iconst 0, 1) := by decide +kernel
theorem dX5_test_134 : decode cX5_test 134 = .ok (.iadd, 1) := by decide +kernel
theorem dX5_test_135 : decode cX5_test 135 = .ok (.istore 10, 2) := by decide +kernel
theorem dX5_test_137 : decode cX5_test 137 = .ok (.iinc 11 1, 3) := by decide +kernel
theorem dX5_test_140 : decode cX5_test 140 = .ok (.goto (-61), 3) := by decide +kernel
theorem dX5_test_143 : decode cX5_test 143 = .ok (.iload 10, 2) := by decide +kernel
theorem dX5_test_145 : decode cX5_test 145 = .ok (.iload 8, 2) := by decide +kernel
theorem dX5_test_147 : decode cX5_test 147 = .ok (.if_icmp .le 8, 3) := by decide +kernel
theorem dX5_test_150 : decode cX5_test 150 = .ok (.iload 10, 2) := by decide +kernel
theorem dX5_test_152 : decode cX5_test 152 = .ok (.goto 5, 3) := by decide +kernel
theorem dX5_test_155 : decode cX5_test 155 = .ok (.iload 8, 2) := by decide +kernel
theorem dX5_test_157 : decode cX5_test 157 = .ok (.istore 8, 2) := by decide +kernel
theorem dX5_test_159 : decode cX5_test 159 = .ok (.iinc 9 1, 3) := by decide +kernel
theorem dX5_test_162 : decode cX5_test 162 = .ok (.goto (-96), 3) := by decide +kernel
theorem dX5_test_165 : decode cX5_test 165 = .ok (.iload 8, 2) := by decide +kernel
theorem dX5_test_167 : decode cX5_test 167 = .ok (.iload 6, 2) := by decide +kernel
theorem dX5_test_169 : decode cX5_test 169 = .ok (.if_icmp .ge 8, 3) := by decide +kernel
theorem dX5_test_172 : decode cX5_test 172 = .ok (.iload 7, 2) := by decide +kernel
theorem dX5_test_174 : decode cX5_test 174 = .ok (.goto 5, 3) := by decide +kernel
theorem dX5_test_177 : decode cX5_test 177 = .ok (.iload 5, 2) := by decide +kernel
theorem dX5_test_179 : decode cX5_test 179 = .ok (.istore 5, 2) := by decide +kernel
theorem dX5_test_181 : decode cX5_test 181 = .ok (.iload 8, 2) := by decide +kernel
theorem dX5_test_183 : decode cX5_test 183 = .ok (.iload 6, 2) := by decide +kernel
theorem dX5_test_185 : decode cX5_test 185 = .ok (.if_icmp .ge 8, 3) := by decide +kernel
theorem dX5_test_188 : decode cX5_test 188 = .ok (.iload 8, 2) := by decide +kernel
theorem dX5_test_190 : decode cX5_test 190 = .ok (.goto 5, 3) := by decide +kernel
theorem dX5_test_193 : decode cX5_test 193 = .ok (.iload 6, 2) := by decide +kernel
theorem dX5_test_195 : decode cX5_test 195 = .ok (.istore 6, 2) := by decide +kernel
theorem dX5_test_197 : decode cX5_test 197 = .ok (.iinc 7 1, 3) := by decide +kernel
theorem dX5_test_200 : decode cX5_test 200 = .ok (.goto (-152), 3) := by decide +kernel
theorem dX5_test_203 : decode cX5_test 203 = .ok (.iload 5, 2) := by decide +kernel
theorem dX5_test_205 : decode cX5_test 205 = .ok (.bipush (-9), 2) := by decide +kernel
theorem dX5_test_207 : decode cX5_test 207 = .ok (.if_icmp .ne 8, 3) := by decide +kernel
theorem dX5_test_210 : decode cX5_test 210 = .ok (.bipush (-9), 2) := by decide +kernel
theorem dX5_test_212 : decode cX5_test 212 = .ok (.goto 11, 3) := by decide +kernel
theorem dX5_test_215 : decode cX5_test 215 = .ok (.aload_n 0, 1) := by decide +kernel
theorem dX5_test_216 : decode cX5_test 216 = .ok (.iload 5, 2) := by decide +kernel
theorem dX5_test_218 : decode cX5_test 218 = .ok (.iload 6, 2) := by decide +kernel
theorem dX5_test_220 : decode cX5_test 220 = .ok (.invokevirtual 181, 3) := by decide +kernel
theorem dX5_test_223 : decode cX5_test 223 = .ok (.ireturn, 1) := by decide +kernel
theorem dX5_lucks_0 : decode cX5_lucks 0 = .ok (.aload_n 0, 1) := by decide +kernel
theorem dX5_lucks_1 : decode cX5_lucks 1 = .ok (.iload_n 1, 1) := by decide +kernel
theorem dX5_lucks_2 : decode cX5_lucks 2 = .ok (.invokevirtual 153, 3) := by decide +kernel
theorem dX5_lucks_5 : decode cX5_lucks 5 = .ok (.ifCond .eq 17, 3) := by decide +kernel
theorem dX5_lucks_8 : decode cX5_lucks 8 = .ok (.iload_n 2, 1) := by decide +kernel
theorem dX5_lucks_9 : decode cX5_lucks 9 = .ok (.i2l, 1) := by decide +kernel
theorem dX5_lucks_10 : decode cX5_lucks 10 = .ok (.ldc2_w 208, 3) := by decide +kernel
theorem dX5_lucks_13 : decode cX5_lucks 13 = .ok (.ldc2_w 210, 3) := by decide +kernel
theorem dX5_lucks_16 : decode cX5_lucks 16 = .ok (.invokestatic 71, 3) := by decide +kernel
theorem dX5_lucks_19 : decode cX5_lucks 19 = .ok (.ifCond .ne 5, 3) := by decide +kernel
theorem dX5_lucks_22 : decode cX5_lucks 22 = .ok (.iconst (-1), 1) := by decide +kernel
theorem dX5_lucks_23 : decode cX5_lucks 23 = .ok (.ireturn, 1) := by decide +kernel
theorem dX5_lucks_24 : decode cX5_lucks 24 = .ok (.iconst 0, 1) := by decide +kernel
theorem dX5_lucks_25 : decode cX5_lucks 25 = .ok (.istore_n 3, 1) := by decide +kernel
theorem dX5_lucks_26 : decode cX5_lucks 26 = .ok (.iconst 0, 1) := by decide +kernel
theorem dX5_lucks_27 : decode cX5_lucks 27 = .ok (.istore 4, 2) := by decide +kernel
theorem dX5_lucks_29 : decode cX5_lucks 29 = .ok (.iload 4, 2) := by decide +kernel
theorem dX5_lucks_31 : decode cX5_lucks 31 = .ok (.bipush 10, 2) := by decide +kernel
theorem dX5_lucks_33 : decode cX5_lucks 33 = .ok (.if_icmp .ge 37, 3) := by decide +kernel
theorem dX5_lucks_36 : decode cX5_lucks 36 = .ok (.iload_n 3, 1) := by decide +kernel
theorem dX5_lucks_37 : decode cX5_lucks 37 = .ok (.aload_n 0, 1) := by decide +kernel
theorem dX5_lucks_38 : decode cX5_lucks 38 = .ok (.aload_n 0, 1) := by decide +kernel
theorem dX5_lucks_39 : decode cX5_lucks 39 = .ok (.getfield 29, 3) := by decide +kernel
theorem dX5_lucks_42 : decode cX5_lucks 42 = .ok (.iload_n 1, 1) := by decide +kernel
theorem dX5_lucks_43 : decode cX5_lucks 43 = .ok (.iaload, 1) := by decide +kernel
theorem dX5_lucks_44 : decode cX5_lucks 44 = .ok (.iload_n 1, 1) := by decide +kernel
theorem dX5_lucks_45 : decode cX5_lucks 45 = .ok (.iload 4, 2) := by decide +kernel
theorem dX5_lucks_47 : decode cX5_lucks 47 = .ok (.invokevirtual 142, 3) := by decide +kernel
theorem dX5_lucks_50 : decode cX5_lucks 50 = .ok (.iload_n 2, 1) := by decide +kernel
theorem dX5_lucks_51 : decode cX5_lucks 51 = .ok (.if_icmp .ne 10, 3) := by decide +kernel
theorem dX5_lucks_54 : decode cX5_lucks 54 = .ok (.iconst 1, 1) := by decide +kernel
theorem dX5_lucks_55 : decode cX5_lucks 55 = .ok (.iload 4, 2) := by decide +kernel
theorem dX5_lucks_57 : decode cX5_lucks 57 = .ok (.ishl, 1) := by decide +kernel
theorem dX5_lucks_58 : decode cX5_lucks 58 = .ok (.goto 4, 3) := by decide +kernel
theorem dX5_lucks_61 : decode cX5_lucks 61 = .ok (.iconst 0, 1) := by decide +kernel
theorem dX5_lucks_62 : decode cX5_lucks 62 = .ok (.ior, 1) := by decide +kernel
theorem dX5_lucks_63 : decode cX5_lucks 63 = .ok (.istore_n 3, 1) := by decide +kernel
theorem dX5_lucks_64 : decode cX5_lucks 64 = .ok (.iinc 4 1, 3) := by decide +kernel
theorem dX5_lucks_67 : decode cX5_lucks 67 = .ok (.goto (-38), 3) := by decide +kernel
theorem dX5_lucks_70 : decode cX5_lucks 70 = .ok (.iload_n 3, 1) := by decide +kernel
theorem dX5_lucks_71 : decode cX5_lucks 71 = .ok (.ireturn, 1) := by decide +kernel
theorem dX5_played_0 : decode cX5_played 0 = .ok (.iconst 0, 1) := by decide +kernel
theorem dX5_played_1 : decode cX5_played 1 = .ok (.istore_n 3, 1) := by decide +kernel
theorem dX5_played_2 : decode cX5_played 2 = .ok (.iconst 0, 1) := by decide +kernel
theorem dX5_played_3 : decode cX5_played 3 = .ok (.istore 4, 2) := by decide +kernel
theorem dX5_played_5 : decode cX5_played 5 = .ok (.iconst 0, 1) := by decide +kernel
theorem dX5_played_6 : decode cX5_played 6 = .ok (.istore 5, 2) := by decide +kernel
theorem dX5_played_8 : decode cX5_played 8 = .ok (.iconst 0, 1) := by decide +kernel
theorem dX5_played_9 : decode cX5_played 9 = .ok (.istore 6, 2) := by decide +kernel
theorem dX5_played_11 : decode cX5_played 11 = .ok (.iconst 1, 1) := by decide +kernel
theorem dX5_played_12 : decode cX5_played 12 = .ok (.istore 7, 2) := by decide +kernel
theorem dX5_played_14 : decode cX5_played 14 = .ok (.iconst 1, 1) := by decide +kernel
theorem dX5_played_15 : decode cX5_played 15 = .ok (.istore 8, 2) := by decide +kernel
theorem dX5_played_17 : decode cX5_played 17 = .ok (.iload 8, 2) := by decide +kernel
theorem dX5_played_19 : decode cX5_played 19 = .ok (.iload_n 2, 1) := by decide +kernel
theorem dX5_played_20 : decode cX5_played 20 = .ok (.if_icmp .ge 16, 3) := by decide +kernel
theorem dX5_played_23 : decode cX5_played 23 = .ok (.iload 7, 2) := by decide +kernel
theorem dX5_played_25 : decode cX5_played 25 = .ok (.bipush 9, 2) := by decide +kernel
theorem dX5_played_27 : decode cX5_played 27 = .ok (.imul, 1) := by decide +kernel
theorem dX5_played_28 : decode cX5_played 28 = .ok (.istore 7, 2) := by decide +kernel
theorem dX5_played_30 : decode cX5_played 30 = .ok (.iinc 8 1, 3) := by decide +kernel
theorem dX5_played_33 : decode cX5_played 33 = .ok (.goto (-16), 3) := by decide +kernel
theorem dX5_played_36 : decode cX5_played 36 = .ok (.iconst 0, 1) := by decide +kernel
theorem dX5_played_37 : decode cX5_played 37 = .ok (.istore 8, 2) := by decide +kernel
theorem dX5_played_39 : decode cX5_played 39 = .ok (.iload 8, 2) := by decide +kernel
theorem dX5_played_41 : decode cX5_played 41 = .ok (.iload_n 2, 1) := by decide +kernel
theorem dX5_played_42 : decode cX5_played 42 = .ok (.if_icmp .ge 170, 3) := by decide +kernel
theorem dX5_played_45 : decode cX5_played 45 = .ok (.iload_n 1, 1) := by decide +kernel
theorem dX5_played_46 : decode cX5_played 46 = .ok (.iload 7, 2) := by decide +kernel
theorem dX5_played_48 : decode cX5_played 48 = .ok (.idiv, 1) := by decide +kernel
theorem dX5_played_49 : decode cX5_played 49 = .ok (.bipush 9, 2) := by decide +kernel
theorem dX5_played_51 : decode cX5_played 51 = .ok (.irem, 1) := by decide +kernel
theorem dX5_played_52 : decode cX5_played 52 = .ok (.istore 9, 2) := by decide +kernel
theorem dX5_played_54 : decode cX5_played 54 = .ok (.iload 7, 2) := by decide +kernel
theorem dX5_played_56 : decode cX5_played 56 = .ok (.bipush 9, 2) := by decide +kernel
theorem dX5_played_58 : decode cX5_played 58 = .ok (.idiv, 1) := by decide +kernel
theorem dX5_played_59 : decode cX5_played 59 = .ok (.istore 7, 2) := by decide +kernel
theorem dX5_played_61 : decode cX5_played 61 = .ok (.iload 9, 2) := by decide +kernel
theorem dX5_played_63 : decode cX5_played 63 = .ok (.bipush 8, 2) := by decide +kernel
theorem dX5_played_65 : decode cX5_played 65 = .ok (.if_icmp .ge 141, 3) := by decide +kernel
theorem dX5_played_68 : decode cX5_played 68 = .ok (.iload 8, 2) := by decide +kernel
theorem dX5_played_70 : decode cX5_played 70 = .ok (.iconst 2, 1) := by decide +kernel
theorem dX5_played_71 : decode cX5_played 71 = .ok (.irem, 1) := by decide +kernel
theorem dX5_played_72 : decode cX5_played 72 = .ok (.ifCond .ne 8, 3) := by decide +kernel
theorem dX5_played_75 : decode cX5_played 75 = .ok (.iload 4, 2) := by decide +kernel
theorem dX5_played_77 : decode cX5_played 77 = .ok (.goto 5, 3) := by decide +kernel
theorem dX5_played_80 : decode cX5_played 80 = .ok (.iload 5, 2) := by decide +kernel
theorem dX5_played_82 : decode cX5_played 82 = .ok (.istore 10, 2) := by decide +kernel
theorem dX5_played_84 : decode cX5_played 84 = .ok (.iload 9, 2) := by decide +kernel
theorem dX5_played_86 : decode cX5_played 86 = .ok (.aload_n 0, 1) := by decide +kernel
theorem dX5_played_87 : decode cX5_played 87 = .ok (.getfield 130, 3) := by decide +kernel
theorem dX5_played_90 : decode cX5_played 90 = .ok (.if_icmp .ge 33, 3) := by decide +kernel
theorem dX5_played_93 : decode cX5_played 93 = .ok (.aload_n 0, 1) := by decide +kernel
theorem dX5_played_94 : decode cX5_played 94 = .ok (.iload 9, 2) := by decide +kernel
theorem dX5_played_96 : decode cX5_played 96 = .ok (.invokevirtual 133, 3) := by decide +kernel
theorem dX5_played_99 : decode cX5_played 99 = .ok (.ifCond .eq 24, 3) := by decide +kernel
theorem dX5_played_102 : decode cX5_played 102 = .ok (.iload_n 3, 1) := by decide +kernel
theorem dX5_played_103 : decode cX5_played 103 = .ok (.iload 9, 2) := by decide +kernel
theorem dX5_played_105 : decode cX5_played 105 = .ok (.invokestatic 139, 3) := by decide +kernel
theorem dX5_played_108 : decode cX5_played 108 = .ok (.ifCond .ne 15, 3) := by decide +kernel
theorem dX5_played_111 : decode cX5_played 111 = .ok (.iload 10, 2) := by decide +kernel
theorem dX5_played_113 : decode cX5_played 113 = .ok (.aload_n 0, 1) := by decide +kernel
theorem dX5_played_114 : decode cX5_played 114 = .ok (.iload 9, 2) := by decide +kernel
theorem dX5_played_116 : decode cX5_played 116 = .ok (.invokevirtual 136, 3) := by decide +kernel
theorem dX5_played_119 : decode cX5_played 119 = .ok (.iand, 1) := by decide +kernel
theorem dX5_played_120 : decode cX5_played 120 = .ok (.ifCond .eq 6, 3) := by decide +kernel
theorem dX5_played_123 : decode cX5_played 123 = .ok (.ldc 218, 2) := by decide +kernel
theorem dX5_played_125 : decode cX5_played 125 = .ok (.ireturn, 1) := by decide +kernel
theorem dX5_played_126 : decode cX5_played 126 = .ok (.iload_n 3, 1) := by decide +kernel
theorem dX5_played_127 : decode cX5_played 127 = .ok (.iconst 1, 1) := by decide +kernel
theorem dX5_played_128 : decode cX5_played 128 = .ok (.iload 9, 2) := by decide +kernel
theorem dX5_played_130 : decode cX5_played 130 = .ok (.ishl, 1) := by decide +kernel
theorem dX5_played_131 : decode cX5_played 131 = .ok (.ior, 1) := by decide +kernel
theorem dX5_played_132 : decode cX5_played 132 = .ok (.istore_n 3, 1) := by decide +kernel
theorem dX5_played_133 : decode cX5_played 133 = .ok (.iload 4, 2) := by decide +kernel
theorem dX5_played_135 : decode cX5_played 135 = .ok (.iload 8, 2) := by decide +kernel
theorem dX5_played_137 : decode cX5_played 137 = .ok (.iconst 2, 1) := by decide +kernel
theorem dX5_played_138 : decode cX5_played 138 = .ok (.irem, 1) := by decide +kernel
theorem dX5_played_139 : decode cX5_played 139 = .ok (.ifCond .ne 12, 3) := by decide +kernel
theorem dX5_played_142 : decode cX5_played 142 = .ok (.aload_n 0, 1) := by decide +kernel
theorem dX5_played_143 : decode cX5_played 143 = .ok (.iload 9, 2) := by decide +kernel
theorem dX5_played_145 : decode cX5_played 145 = .ok (.invokevirtual 136, 3) := by decide +kernel
theorem dX5_played_148 : decode cX5_played 148 = .ok (.goto 4, 3) := by decide +kernel
theorem dX5_played_151 : decode cX5_played 151 = .ok (.iconst 0, 1) := by decide +kernel
theorem dX5_played_152 : decode cX5_played 152 = .ok (.ior, 1) := by decide +kernel
theorem dX5_played_153 : decode cX5_played 153 = .ok (.istore 4, 2) := by decide +kernel
theorem dX5_played_155 : decode cX5_played 155 = .ok (.iload 5, 2) := by decide +kernel
theorem dX5_played_157 : decode cX5_played 157 = .ok (.iload 8, 2) := by decide +kernel
theorem dX5_played_159 : decode cX5_played 159 = .ok (.iconst 2, 1) := by decide +kernel
theorem dX5_played_160 : decode cX5_played 160 = .ok (.irem, 1) := by decide +kernel
theorem dX5_played_161 : decode cX5_played 161 = .ok (.iconst 1, 1) := by decide +kernel
theorem dX5_played_162 : decode cX5_played 162 = .ok (.if_icmp .ne 12, 3) := by decide +kernel
theorem dX5_played_165 : decode cX5_played 165 = .ok (.aload_n 0, 1) := by decide +kernel
theorem dX5_played_166 : decode cX5_played 166 = .ok (.iload 9, 2) := by decide +kernel
theorem dX5_played_168 : decode cX5_played 168 = .ok (.invokevirtual 136, 3) := by decide +kernel
theorem dX5_played_171 : decode cX5_played 171 = .ok (.goto 4, 3) := by decide +kernel
theorem dX5_played_174 : decode cX5_played 174 = .ok (.iconst 0, 1) := by decide +kernel
theorem dX5_played_175 : decode cX5_played 175 = .ok (.ior, 1) := by decide +kernel
theorem dX5_played_176 : decode cX5_played 176 = .ok (.istore 5, 2) := by decide +kernel
theorem dX5_played_178 : decode cX5_played 178 = .ok (.iload 6, 2) := by decide +kernel
theorem dX5_played_180 : decode cX5_played 180 = .ok (.iload 8, 2) := by decide +kernel
theorem dX5_played_182 : decode cX5_played 182 = .ok (.iconst 2, 1) := by decide +kernel
theorem dX5_played_183 : decode cX5_played 183 = .ok (.irem, 1) := by decide +kernel
theorem dX5_played_184 : decode cX5_played 184 = .ok (.ifCond .ne 12, 3) := by decide +kernel
theorem dX5_played_187 : decode cX5_played 187 = .ok (.aload_n 0, 1) := by decide +kernel
theorem dX5_played_188 : decode cX5_played 188 = .ok (.iload 9, 2) := by decide +kernel
theorem dX5_played_190 : decode cX5_played 190 = .ok (.invokevirtual 146, 3) := by decide +kernel
theorem dX5_played_193 : decode cX5_played 193 = .ok (.goto 10, 3) := by decide +kernel
theorem dX5_played_196 : decode cX5_played 196 = .ok (.aload_n 0, 1) := by decide +kernel
theorem dX5_played_197 : decode cX5_played 197 = .ok (.iload 9, 2) := by decide +kernel
theorem dX5_played_199 : decode cX5_played 199 = .ok (.invokevirtual 146, 3) := by decide +kernel
theorem dX5_played_202 : decode cX5_played 202 = .ok (.ineg, 1) := by decide +kernel
theorem dX5_played_203 : decode cX5_played 203 = .ok (.iadd, 1) := by decide +kernel
theorem dX5_played_204 : decode cX5_played 204 = .ok (.istore 6, 2) := by decide +kernel
theorem dX5_played_206 : decode cX5_played 206 = .ok (.iinc 8 1, 3) := by decide +kernel
theorem dX5_played_209 : decode cX5_played 209 = .ok (.goto (-170), 3) := by decide +kernel
theorem dX5_played_212 : decode cX5_played 212 = .ok (.iload 6, 2) := by decide +kernel
theorem dX5_played_214 : decode cX5_played 214 = .ok (.ireturn, 1) := by decide +kernel
def f5_bestOf_4 (M : Mem) (fu : Nat) : Nat → Int32 → Int32 → Int32 → Option (Int32)
  | 0 => fun _ _ _ => none
  | f + 1 => fun x1 x2 x3 =>
    if ((1 : Int32) <<< ((M.1 0 9) &&& 31)) ≤ x3 then ((some x2))
    else (if (x3 &&& (x1 ^^^ (-1 : Int32))) = 0 then ((f5_worthAll M fu x3).bind fun r4 =>
    (f5_worthAll M fu x2).bind fun r6 =>
    if r4 ≤ r6 then (nm (x3 + (1 : Int32)) fun v8 =>
    ((f5_bestOf_4 M fu f) x1 x2 v8))
    else ((f5_clash M fu x3).bind fun r10 =>
    if r10 = 0 then (nm (x3 + (1 : Int32)) fun v12 =>
    ((f5_bestOf_4 M fu f) x1 x3 v12))
    else (nm (x3 + (1 : Int32)) fun v13 =>
    ((f5_bestOf_4 M fu f) x1 x2 v13))))
    else (nm (x3 + (1 : Int32)) fun v14 =>
    ((f5_bestOf_4 M fu f) x1 x2 v14)))
set_option maxHeartbeats 4000000 in
set_option maxRecDepth 10000 in
theorem w5_bestOfi_4 {ad : Nat → Nat} {X : XX} {R : Int32} {M : Mem} {fu : Nat}  (h : Cx layM ad X cX5_bestOf RX5 4 5 (some .int) M (some (.int R)))  : ∀ (f : Nat) (x1 : Int32) (x2 : Int32) (x3 : Int32), f5_bestOf_4 M fu f x1 x2 x3 = some R → Wp layM ad X M 4 [(0, .ref (ad 0)), (1, .int x1), (2, .int x2), (3, .int x3)] [] := by
  intro f
  induction f with
  | zero => intro x1 x2 x3 hF; exact absurd hF (by simp [f5_bestOf_4])
  | succ f ih =>
    intro x1 x2 x3 hF
    rw [f5_bestOf_4] at hF
    refine R_iload_n (pc := 4) h 3 rfl rfl dX5_bestOf_4 ?_
    refine R_iconst (pc := 5) (v := 1) h (by decide) dX5_bestOf_5 ?_
    refine R_aload_n (pc := 6) h 0 rfl rfl dX5_bestOf_6 ?_
    refine R_getI (pc := 7) h flX5_130 lm_0 rfl dX5_bestOf_7 ?_
    refine R_ishl (pc := 10) h dX5_bestOf_10 ?_
    refine R_icmp_ge (pc := 11) (tgt := 51) h dX5_bestOf_11 (by decide) (fun c1 => ?_) (fun c1 => ?_)
    · have hF := itp c1 hF
      refine R_iload_n (pc := 51) h 2 rfl rfl dX5_bestOf_51 ?_
      cases hF
      exact R_ireturn (pc := 52) h rfl rfl rfl dX5_bestOf_52
    · have hF := ifn c1 hF
      refine R_iload_n (pc := 14) h 3 rfl rfl dX5_bestOf_14 ?_
      refine R_iload_n (pc := 15) h 1 rfl rfl dX5_bestOf_15 ?_
      refine R_iconst (pc := 16) (v := (-1)) h (by decide) dX5_bestOf_16 ?_
      refine R_ixor (pc := 17) h dX5_bestOf_17 ?_
      refine R_iand (pc := 18) h dX5_bestOf_18 ?_
      refine R_if_ne (pc := 19) (tgt := 45) h dX5_bestOf_19 (by decide) (fun c2 => ?_) (fun c2 => ?_)
      · have hF := ifn c2 hF
        obtain ⟨v14, hv14, hF⟩ := nm_e2 hF
        refine R_iinc (pc := 45) (lv' := [(3, .int v14), (0, .ref (ad 0)), (1, .int x1), (2, .int x2)]) h 3 rfl (by decide) hv14 (by decide) rfl dX5_bestOf_45 ?_
        refine R_goto (pc := 48) (tgt := 4) h dX5_bestOf_48 (by decide) ?_
        exact Wp_sub (nX := 0) (lv' := [(0, .ref (ad 0)), (1, .int x1), (2, .int x2), (3, .int v14)]) [1, 2, 3, 0] rfl (ih _ _ _ hF)
      · have hF := itp c2 hF
        refine R_aload_n (pc := 22) h 0 rfl rfl dX5_bestOf_22 ?_
        refine R_iload_n (pc := 23) h 3 rfl rfl dX5_bestOf_23 ?_
        obtain ⟨r4, hc3, hF⟩ := bd hF
        refine R_callV (pc := 24) (st := []) h [.int x3] cvX5_185 (c5_worthAll (ad := ad) (z := X.1) hc3) rfl rfl lm_0 (by decide) (by decide) (Nat.le_of_ble_eq_true rfl) dX5_bestOf_24 (st1 := [.int r4]) rfl ?_
        refine R_aload_n (pc := 27) h 0 rfl rfl dX5_bestOf_27 ?_
        refine R_iload_n (pc := 28) h 2 rfl rfl dX5_bestOf_28 ?_
        obtain ⟨r6, hc5, hF⟩ := bd hF
        refine R_callV (pc := 29) (st := [.int r4]) h [.int x2] cvX5_185 (c5_worthAll (ad := ad) (z := X.1) hc5) rfl rfl lm_0 (by decide) (by decide) (Nat.le_of_ble_eq_true rfl) dX5_bestOf_29 (st1 := [.int r6, .int r4]) rfl ?_
        refine R_icmp_le (pc := 32) (tgt := 45) h dX5_bestOf_32 (by decide) (fun c7 => ?_) (fun c7 => ?_)
        · have hF := itp c7 hF
          obtain ⟨v8, hv8, hF⟩ := nm_e2 hF
          refine R_iinc (pc := 45) (lv' := [(3, .int v8), (0, .ref (ad 0)), (1, .int x1), (2, .int x2)]) h 3 rfl (by decide) hv8 (by decide) rfl dX5_bestOf_45 ?_
          refine R_goto (pc := 48) (tgt := 4) h dX5_bestOf_48 (by decide) ?_
          exact Wp_sub (nX := 0) (lv' := [(0, .ref (ad 0)), (1, .int x1), (2, .int x2), (3, .int v8)]) [1, 2, 3, 0] rfl (ih _ _ _ hF)
        · have hF := ifn c7 hF
          refine R_aload_n (pc := 35) h 0 rfl rfl dX5_bestOf_35 ?_
          refine R_iload_n (pc := 36) h 3 rfl rfl dX5_bestOf_36 ?_
          obtain ⟨r10, hc9, hF⟩ := bd hF
          refine R_callV (pc := 37) (st := []) h [.int x3] cvX5_188 (c5_clash (ad := ad) (z := X.1) hc9) rfl rfl lm_0 (by decide) (by decide) (Nat.le_of_ble_eq_true rfl) dX5_bestOf_37 (st1 := [.int r10]) rfl ?_
          refine R_if_ne (pc := 40) (tgt := 45) h dX5_bestOf_40 (by decide) (fun c11 => ?_) (fun c11 => ?_)
          · have hF := ifn c11 hF
            obtain ⟨v13, hv13, hF⟩ := nm_e2 hF
            refine R_iinc (pc := 45) (lv' := [(3, .int v13), (0, .ref (ad 0)), (1, .int x1), (2, .int x2)]) h 3 rfl (by decide) hv13 (by decide) rfl dX5_bestOf_45 ?_
            refine R_goto (pc := 48) (tgt := 4) h dX5_bestOf_48 (by decide) ?_
            exact Wp_sub (nX := 0) (lv' := [(0, .ref (ad 0)), (1, .int x1), (2, .int x2), (3, .int v13)]) [1, 2, 3, 0] rfl (ih _ _ _ hF)
          · have hF := itp c11 hF
            refine R_iload_n (pc := 43) h 3 rfl rfl dX5_bestOf_43 ?_
            refine R_istore_n (pc := 44) (lv' := [(2, .int x3), (0, .ref (ad 0)), (1, .int x1), (3, .int x3)]) h rfl rfl (by decide) rfl dX5_bestOf_44 ?_
            obtain ⟨v12, hv12, hF⟩ := nm_e2 hF
            refine R_iinc (pc := 45) (lv' := [(3, .int v12), (2, .int x3), (0, .ref (ad 0)), (1, .int x1)]) h 3 rfl (by decide) hv12 (by decide) rfl dX5_bestOf_45 ?_
            refine R_goto (pc := 48) (tgt := 4) h dX5_bestOf_48 (by decide) ?_
            exact Wp_sub (nX := 0) (lv' := [(0, .ref (ad 0)), (1, .int x1), (2, .int x3), (3, .int v12)]) [2, 3, 1, 0] rfl (ih _ _ _ hF)
theorem w5_bestOf_4 {ad : Nat → Nat} {X : XX} {R : Int32} {M : Mem} {fu : Nat}  (h : Cx layM ad X cX5_bestOf RX5 4 5 (some .int) M (some (.int R)))  {f : Nat} {x1 : Int32} {x2 : Int32} {x3 : Int32} (hF : f5_bestOf_4 M fu f x1 x2 x3 = some R) : Wp layM ad X M 4 [(0, .ref (ad 0)), (1, .int x1), (2, .int x2), (3, .int x3)] [] := w5_bestOfi_4 h  f _ _ _ hF
def f5_bestOf (M : Mem) (fu : Nat) (x1 : Int32) : Option (Int32) :=
    (f5_bestOf_4 M fu fu x1 (0 : Int32) (0 : Int32))
set_option maxHeartbeats 4000000 in
set_option maxRecDepth 10000 in
theorem w5_bestOf {ad : Nat → Nat} {X : XX} {R : Int32} {M : Mem} {fu : Nat} (h : Cx layM ad X cX5_bestOf RX5 4 5 (some .int) M (some (.int R))) {x1 : Int32} (hF : f5_bestOf M fu x1 = some R) : Wp layM ad X M 0 [(0, .ref (ad 0)), (1, .int x1)] [] := by
  unfold f5_bestOf at hF
  refine R_iconst (pc := 0) (v := 0) h (by decide) dX5_bestOf_0 ?_
  refine R_istore_n (pc := 1) (lv' := [(2, .int (0 : Int32)), (0, .ref (ad 0)), (1, .int x1)]) h rfl rfl (by decide) rfl dX5_bestOf_1 ?_
  refine R_iconst (pc := 2) (v := 0) h (by decide) dX5_bestOf_2 ?_
  refine R_istore_n (pc := 3) (lv' := [(3, .int (0 : Int32)), (2, .int (0 : Int32)), (0, .ref (ad 0)), (1, .int x1)]) h rfl rfl (by decide) rfl dX5_bestOf_3 ?_
  exact Wp_sub (nX := 0) (lv' := [(0, .ref (ad 0)), (1, .int x1), (2, .int (0 : Int32)), (3, .int (0 : Int32))]) [2, 3, 1, 0] rfl (w5_bestOf_4 h  (hF := hF))
theorem c5_bestOf {ad : Nat → Nat} {z : ZZ} {R : Int32} {M : Mem} {fu : Nat} {x1 : Int32} (hF : f5_bestOf M fu x1 = some R) : Con layM ad z yX5_bestOf cX5_bestOf 4 (some .int) 5 M [.ref (ad 0), .int x1] (M) (some (.int R)) := con_of (own := RX5) (lv := [(0, .ref (ad 0)), (1, .int x1)]) (by decide +kernel) rfl (Nat.le_of_ble_eq_true rfl) rfl (fun X hz h => w5_bestOf h hF)
def f5_best_65 (fu : Nat) (k55 : Int32 → Int32 → Int32 → Mem → Option (Mem × Int32)) : Nat → Int32 → Int32 → Int32 → Int32 → Mem → Option (Mem × Int32)
  | 0 => fun _ _ _ _ _ => none
  | f + 1 => fun x2 x4 x5 x6 M =>
    if (M.1 0 9) ≤ x6 then (nm (x5 + (1 : Int32)) fun v2 =>
    (k55 x2 x4 v2 M))
    else ((f5_has x2 x6).bind fun r4 =>
    if r4 = 0 then (nm (x6 + (1 : Int32)) fun v6 =>
    ((f5_best_65 fu k55 f) x2 x4 x5 v6 M))
    else ((rd M 7 8 x6).bind fun v7 =>
    if v7 = x5 then ((wr M 1 240 x4 x6).bind fun M9 =>
    nm (x4 + (1 : Int32)) fun v10 =>
    nm (x6 + (1 : Int32)) fun v11 =>
    ((f5_best_65 fu k55 f) x2 v10 x5 v11 M9))
    else (nm (x6 + (1 : Int32)) fun v12 =>
    ((f5_best_65 fu k55 f) x2 x4 x5 v12 M))))
set_option maxHeartbeats 4000000 in
set_option maxRecDepth 10000 in
theorem w5_besti_65 {ad : Nat → Nat} {X : XX} {R : Mem × Int32} {fu : Nat} {k55 : Int32 → Int32 → Int32 → Mem → Option (Mem × Int32)} (h : Cx layM ad X cX5_best RX5 7 6 (some .int) (R.1) (some (.int R.2))) (hk55 : ∀ (x2 : Int32) (x4 : Int32) (x5 : Int32) (M : Mem), k55 x2 x4 x5 M = some R → Wp layM ad X M 55 [(0, .ref (ad 0)), (2, .int x2), (4, .int x4), (5, .int x5)] []) : ∀ (f : Nat) (x2 : Int32) (x4 : Int32) (x5 : Int32) (x6 : Int32) (M : Mem), f5_best_65 fu k55 f x2 x4 x5 x6 M = some R → Wp layM ad X M 65 [(0, .ref (ad 0)), (2, .int x2), (4, .int x4), (5, .int x5), (6, .int x6)] [] := by
  intro f
  induction f with
  | zero => intro x2 x4 x5 x6 M hF; exact absurd hF (by simp [f5_best_65])
  | succ f ih =>
    intro x2 x4 x5 x6 M hF
    rw [f5_best_65] at hF
    refine R_iload (pc := 65) h 4 rfl dX5_best_65 ?_
    refine R_aload_n (pc := 67) h 0 rfl rfl dX5_best_67 ?_
    refine R_getI (pc := 68) h flX5_130 lm_0 rfl dX5_best_68 ?_
    refine R_icmp_ge (pc := 71) (tgt := 113) h dX5_best_71 (by decide) (fun c1 => ?_) (fun c1 => ?_)
    · have hF := itp c1 hF
      obtain ⟨v2, hv2, hF⟩ := nm_e2 hF
      refine R_iinc (pc := 113) (lv' := [(5, .int v2), (0, .ref (ad 0)), (2, .int x2), (4, .int x4), (6, .int x6)]) h 3 rfl (by decide) hv2 (by decide) rfl dX5_best_113 ?_
      refine R_goto (pc := 116) (tgt := 55) h dX5_best_116 (by decide) ?_
      exact Wp_sub (nX := 0) (lv' := [(0, .ref (ad 0)), (2, .int x2), (4, .int x4), (5, .int v2)]) [1, 2, 3, 0] rfl (hk55 _ _ _ _ hF)
    · have hF := ifn c1 hF
      refine R_iload_n (pc := 74) h 1 rfl rfl dX5_best_74 ?_
      refine R_iload (pc := 75) h 4 rfl dX5_best_75 ?_
      obtain ⟨r4, hc3, hF⟩ := bd hF
      refine R_callS (pc := 77) (st := []) h [.int x2, .int x6] csX5_139 (c5_has (ad := ad) (z := X.1) (M := M) hc3) rfl rfl (by decide) (by decide) (Nat.le_of_ble_eq_true rfl) dX5_best_77 (st1 := [.int r4]) rfl ?_
      refine R_if_eq (pc := 80) (tgt := 107) h dX5_best_80 (by decide) (fun c5 => ?_) (fun c5 => ?_)
      · have hF := itp c5 hF
        obtain ⟨v6, hv6, hF⟩ := nm_e2 hF
        refine R_iinc (pc := 107) (lv' := [(6, .int v6), (0, .ref (ad 0)), (2, .int x2), (4, .int x4), (5, .int x5)]) h 4 rfl (by decide) hv6 (by decide) rfl dX5_best_107 ?_
        refine R_goto (pc := 110) (tgt := 65) h dX5_best_110 (by decide) ?_
        exact Wp_sub (nX := 0) (lv' := [(0, .ref (ad 0)), (2, .int x2), (4, .int x4), (5, .int x5), (6, .int v6)]) [1, 2, 3, 4, 0] rfl (ih _ _ _ _ _ hF)
      · have hF := ifn c5 hF
        refine R_aload_n (pc := 83) h 0 rfl rfl dX5_best_83 ?_
        refine R_getR (pc := 84) (q1 := 7) h flX5_32 lm_0 rfl dX5_best_84 ?_
        refine R_iload (pc := 87) h 4 rfl dX5_best_87 ?_
        obtain ⟨v7, hv7, hF⟩ := bd hF
        refine R_iald (pc := 89) h hv7 lm_7 dX5_best_89 ?_
        refine R_iload (pc := 90) h 3 rfl dX5_best_90 ?_
        refine R_icmp_ne (pc := 92) (tgt := 107) h dX5_best_92 (by decide) (fun c8 => ?_) (fun c8 => ?_)
        · have hF := ifn c8 hF
          obtain ⟨v12, hv12, hF⟩ := nm_e2 hF
          refine R_iinc (pc := 107) (lv' := [(6, .int v12), (0, .ref (ad 0)), (2, .int x2), (4, .int x4), (5, .int x5)]) h 4 rfl (by decide) hv12 (by decide) rfl dX5_best_107 ?_
          refine R_goto (pc := 110) (tgt := 65) h dX5_best_110 (by decide) ?_
          exact Wp_sub (nX := 0) (lv' := [(0, .ref (ad 0)), (2, .int x2), (4, .int x4), (5, .int x5), (6, .int v12)]) [1, 2, 3, 4, 0] rfl (ih _ _ _ _ _ hF)
        · have hF := itp c8 hF
          refine R_aload_n (pc := 95) h 0 rfl rfl dX5_best_95 ?_
          refine R_getR (pc := 96) (q1 := 1) h flX5_7 lm_0 rfl dX5_best_96 ?_
          refine R_iload (pc := 99) h 2 rfl dX5_best_99 ?_
          refine R_iload (pc := 101) h 4 rfl dX5_best_101 ?_
          obtain ⟨M9, hM9, hF⟩ := bd hF
          refine R_iast (pc := 103) h hM9 lm_1 dX5_best_103 ?_
          obtain ⟨v10, hv10, hF⟩ := nm_e2 hF
          refine R_iinc (pc := 104) (lv' := [(4, .int v10), (0, .ref (ad 0)), (2, .int x2), (5, .int x5), (6, .int x6)]) h 2 rfl (by decide) hv10 (by decide) rfl dX5_best_104 ?_
          obtain ⟨v11, hv11, hF⟩ := nm_e2 hF
          refine R_iinc (pc := 107) (lv' := [(6, .int v11), (4, .int v10), (0, .ref (ad 0)), (2, .int x2), (5, .int x5)]) h 4 rfl (by decide) hv11 (by decide) rfl dX5_best_107 ?_
          refine R_goto (pc := 110) (tgt := 65) h dX5_best_110 (by decide) ?_
          exact Wp_sub (nX := 0) (lv' := [(0, .ref (ad 0)), (2, .int x2), (4, .int v10), (5, .int x5), (6, .int v11)]) [2, 3, 1, 4, 0] rfl (ih _ _ _ _ _ hF)
theorem w5_best_65 {ad : Nat → Nat} {X : XX} {R : Mem × Int32} {fu : Nat} {k55 : Int32 → Int32 → Int32 → Mem → Option (Mem × Int32)} (h : Cx layM ad X cX5_best RX5 7 6 (some .int) (R.1) (some (.int R.2))) (hk55 : ∀ (x2 : Int32) (x4 : Int32) (x5 : Int32) (M : Mem), k55 x2 x4 x5 M = some R → Wp layM ad X M 55 [(0, .ref (ad 0)), (2, .int x2), (4, .int x4), (5, .int x5)] []) {f : Nat} {x2 : Int32} {x4 : Int32} {x5 : Int32} {x6 : Int32} {M : Mem} (hF : f5_best_65 fu k55 f x2 x4 x5 x6 M = some R) : Wp layM ad X M 65 [(0, .ref (ad 0)), (2, .int x2), (4, .int x4), (5, .int x5), (6, .int x6)] [] := w5_besti_65 h hk55 f _ _ _ _ _ hF
def f5_best_55 (fu : Nat) : Nat → Int32 → Int32 → Int32 → Mem → Option (Mem × Int32)
  | 0 => fun _ _ _ _ => none
  | f + 1 => fun x2 x4 x5 M =>
    if (10 : Int32) ≤ x5 then ((f5_worthAll M fu x2).bind fun r3 =>
    (f5_answer r3 x2 M).bind fun ⟨M5, r6⟩ =>
    (some (M5, r6)))
    else ((f5_best_65 fu (f5_best_55 fu f) fu x2 x4 x5 (0 : Int32) M))
set_option maxHeartbeats 4000000 in
set_option maxRecDepth 10000 in
theorem w5_besti_55 {ad : Nat → Nat} {X : XX} {R : Mem × Int32} {fu : Nat}  (h : Cx layM ad X cX5_best RX5 7 6 (some .int) (R.1) (some (.int R.2)))  : ∀ (f : Nat) (x2 : Int32) (x4 : Int32) (x5 : Int32) (M : Mem), f5_best_55 fu f x2 x4 x5 M = some R → Wp layM ad X M 55 [(0, .ref (ad 0)), (2, .int x2), (4, .int x4), (5, .int x5)] [] := by
  intro f
  induction f with
  | zero => intro x2 x4 x5 M hF; exact absurd hF (by simp [f5_best_55])
  | succ f ih =>
    intro x2 x4 x5 M hF
    rw [f5_best_55] at hF
    refine R_iload (pc := 55) h 3 rfl dX5_best_55 ?_
    refine R_bipush (pc := 57) (v := 10) h (by decide) dX5_best_57 ?_
    refine R_icmp_ge (pc := 59) (tgt := 119) h dX5_best_59 (by decide) (fun c1 => ?_) (fun c1 => ?_)
    · have hF := itp c1 hF
      refine R_aload_n (pc := 119) h 0 rfl rfl dX5_best_119 ?_
      refine R_aload_n (pc := 120) h 0 rfl rfl dX5_best_120 ?_
      refine R_iload_n (pc := 121) h 1 rfl rfl dX5_best_121 ?_
      obtain ⟨r3, hc2, hF⟩ := bd hF
      refine R_callV (pc := 122) (st := [.ref (ad 0)]) h [.int x2] cvX5_185 (c5_worthAll (ad := ad) (z := X.1) hc2) rfl rfl lm_0 (by decide) (by decide) (Nat.le_of_ble_eq_true rfl) dX5_best_122 (st1 := [.int r3, .ref (ad 0)]) rfl ?_
      refine R_iload_n (pc := 125) h 1 rfl rfl dX5_best_125 ?_
      obtain ⟨⟨M5, r6⟩, hc4, hF⟩ := bd hF
      refine R_callV (pc := 126) (st := []) h [.int r3, .int x2] cvX5_181 (c5_answer (ad := ad) (z := X.1) hc4) rfl rfl lm_0 (by decide) (by decide) (Nat.le_of_ble_eq_true rfl) dX5_best_126 (st1 := [.int r6]) rfl ?_
      cases hF
      exact R_ireturn (pc := 129) h rfl rfl rfl dX5_best_129
    · have hF := ifn c1 hF
      refine R_iconst (pc := 62) (v := 0) h (by decide) dX5_best_62 ?_
      refine R_istore (pc := 63) (lv' := [(6, .int (0 : Int32)), (0, .ref (ad 0)), (2, .int x2), (4, .int x4), (5, .int x5)]) h rfl (by decide) rfl dX5_best_63 ?_
      exact Wp_sub (nX := 0) (lv' := [(0, .ref (ad 0)), (2, .int x2), (4, .int x4), (5, .int x5), (6, .int (0 : Int32))]) [1, 2, 3, 4, 0] rfl (w5_best_65 h (hk55 := fun a0 a1 a2 a3 hF => ih a0 a1 a2 a3 hF) (hF := hF))
theorem w5_best_55 {ad : Nat → Nat} {X : XX} {R : Mem × Int32} {fu : Nat}  (h : Cx layM ad X cX5_best RX5 7 6 (some .int) (R.1) (some (.int R.2)))  {f : Nat} {x2 : Int32} {x4 : Int32} {x5 : Int32} {M : Mem} (hF : f5_best_55 fu f x2 x4 x5 M = some R) : Wp layM ad X M 55 [(0, .ref (ad 0)), (2, .int x2), (4, .int x4), (5, .int x5)] [] := w5_besti_55 h  f _ _ _ _ hF
def f5_best (fu : Nat) (x1 : Int32) (M : Mem) : Option (Mem × Int32) :=
    (f5_isRow x1).bind fun r2 =>
    if r2 = 0 then ((some (M, (-1 : Int32))))
    else (if (M.1 0 9) = 0 then ((some (M, (-4 : Int32))))
    else ((f5_those M fu (-1 : Int32)).bind fun r6 =>
    (f5_those M fu (-9 : Int32)).bind fun r8 =>
    (f5_bestOf M fu (r6 ||| r8)).bind fun r10 =>
    (f5_bits fu r10).bind fun r12 =>
    (f5_row fu x1 r12 M).bind fun ⟨M14, r15⟩ =>
    nm ((40 : Int32) * x1) fun v16 =>
    (f5_best_55 fu fu r10 v16 (0 : Int32) M14)))
set_option maxHeartbeats 4000000 in
set_option maxRecDepth 10000 in
theorem w5_best {ad : Nat → Nat} {X : XX} {R : Mem × Int32} {fu : Nat} (h : Cx layM ad X cX5_best RX5 7 6 (some .int) (R.1) (some (.int R.2))) {x1 : Int32} {M : Mem} (hF : f5_best fu x1 M = some R) : Wp layM ad X M 0 [(0, .ref (ad 0)), (1, .int x1)] [] := by
  unfold f5_best at hF
  refine R_iload_n (pc := 0) h 1 rfl rfl dX5_best_0 ?_
  obtain ⟨r2, hc1, hF⟩ := bd hF
  refine R_callS (pc := 1) (st := []) h [.int x1] csX5_77 (c5_isRow (ad := ad) (z := X.1) (M := M) hc1) rfl rfl (by decide) (by decide) (Nat.le_of_ble_eq_true rfl) dX5_best_1 (st1 := [.int r2]) rfl ?_
  refine R_if_ne (pc := 4) (tgt := 9) h dX5_best_4 (by decide) (fun c3 => ?_) (fun c3 => ?_)
  · have hF := ifn c3 hF
    refine R_aload_n (pc := 9) h 0 rfl rfl dX5_best_9 ?_
    refine R_getI (pc := 10) h flX5_130 lm_0 rfl dX5_best_10 ?_
    refine R_if_ne (pc := 13) (tgt := 19) h dX5_best_13 (by decide) (fun c4 => ?_) (fun c4 => ?_)
    · have hF := ifn c4 hF
      refine R_aload_n (pc := 19) h 0 rfl rfl dX5_best_19 ?_
      refine R_aload_n (pc := 20) h 0 rfl rfl dX5_best_20 ?_
      refine R_iconst (pc := 21) (v := (-1)) h (by decide) dX5_best_21 ?_
      obtain ⟨r6, hc5, hF⟩ := bd hF
      refine R_callV (pc := 22) (st := [.ref (ad 0)]) h [.int (-1 : Int32)] cvX5_170 (c5_those (ad := ad) (z := X.1) hc5) rfl rfl lm_0 (by decide) (by decide) (Nat.le_of_ble_eq_true rfl) dX5_best_22 (st1 := [.int r6, .ref (ad 0)]) rfl ?_
      refine R_aload_n (pc := 25) h 0 rfl rfl dX5_best_25 ?_
      refine R_bipush (pc := 26) (v := (-9)) h (by decide) dX5_best_26 ?_
      obtain ⟨r8, hc7, hF⟩ := bd hF
      refine R_callV (pc := 28) (st := [.int r6, .ref (ad 0)]) h [.int (-9 : Int32)] cvX5_170 (c5_those (ad := ad) (z := X.1) hc7) rfl rfl lm_0 (by decide) (by decide) (Nat.le_of_ble_eq_true rfl) dX5_best_28 (st1 := [.int r8, .int r6, .ref (ad 0)]) rfl ?_
      refine R_ior (pc := 31) h dX5_best_31 ?_
      obtain ⟨r10, hc9, hF⟩ := bd hF
      refine R_callV (pc := 32) (st := []) h [.int (r6 ||| r8)] cvX5_191 (c5_bestOf (ad := ad) (z := X.1) hc9) rfl rfl lm_0 (by decide) (by decide) (Nat.le_of_ble_eq_true rfl) dX5_best_32 (st1 := [.int r10]) rfl ?_
      refine R_istore_n (pc := 35) (lv' := [(2, .int r10), (0, .ref (ad 0)), (1, .int x1)]) h rfl rfl (by decide) rfl dX5_best_35 ?_
      refine R_aload_n (pc := 36) h 1 rfl rfl dX5_best_36 ?_
      refine R_iload_n (pc := 37) h 2 rfl rfl dX5_best_37 ?_
      refine R_iload_n (pc := 38) h 0 rfl rfl dX5_best_38 ?_
      obtain ⟨r12, hc11, hF⟩ := bd hF
      refine R_callS (pc := 39) (st := [.int x1, .ref (ad 0)]) h [.int r10] csX5_173 (c5_bits (ad := ad) (z := X.1) (M := M) hc11) rfl rfl (by decide) (by decide) (Nat.le_of_ble_eq_true rfl) dX5_best_39 (st1 := [.int r12, .int x1, .ref (ad 0)]) rfl ?_
      obtain ⟨⟨M14, r15⟩, hc13, hF⟩ := bd hF
      refine R_callV (pc := 42) (st := []) h [.int x1, .int r12] cvX5_194 (c5_row (ad := ad) (z := X.1) hc13) rfl rfl lm_0 (by decide) (by decide) (Nat.le_of_ble_eq_true rfl) dX5_best_42 (st1 := [.int r15]) rfl ?_
      refine R_istore_n (pc := 45) (lv' := [(3, .int r15), (2, .int r10), (0, .ref (ad 0)), (1, .int x1)]) h rfl rfl (by decide) rfl dX5_best_45 ?_
      refine R_bipush (pc := 46) (v := 40) h (by decide) dX5_best_46 ?_
      refine R_iload_n (pc := 48) h 3 rfl rfl dX5_best_48 ?_
      refine R_imul (pc := 49) h dX5_best_49 ?_
      obtain ⟨v16, hv16, hF⟩ := nm_e2 hF
      refine R_istore (pc := 50) (lv' := [(4, .int v16), (3, .int r15), (2, .int r10), (0, .ref (ad 0)), (1, .int x1)]) h hv16 (by decide) rfl dX5_best_50 ?_
      refine R_iconst (pc := 52) (v := 0) h (by decide) dX5_best_52 ?_
      refine R_istore (pc := 53) (lv' := [(5, .int (0 : Int32)), (4, .int v16), (3, .int r15), (2, .int r10), (0, .ref (ad 0)), (1, .int x1)]) h rfl (by decide) rfl dX5_best_53 ?_
      exact Wp_sub (nX := 0) (lv' := [(0, .ref (ad 0)), (2, .int r10), (4, .int v16), (5, .int (0 : Int32))]) [4, 3, 1, 0] rfl (w5_best_55 h  (hF := hF))
    · have hF := itp c4 hF
      refine R_bipush (pc := 16) (v := (-4)) h (by decide) dX5_best_16 ?_
      cases hF
      exact R_ireturn (pc := 18) h rfl rfl rfl dX5_best_18
  · have hF := itp c3 hF
    refine R_iconst (pc := 7) (v := (-1)) h (by decide) dX5_best_7 ?_
    cases hF
    exact R_ireturn (pc := 8) h rfl rfl rfl dX5_best_8
theorem c5_best {ad : Nat → Nat} {z : ZZ} {R : Mem × Int32} {fu : Nat} {x1 : Int32} {M : Mem} (hF : f5_best fu x1 M = some R) : Con layM ad z yX5_best cX5_best 7 (some .int) 6 M [.ref (ad 0), .int x1] (R.1) (some (.int R.2)) := con_of (own := RX5) (lv := [(0, .ref (ad 0)), (1, .int x1)]) (by decide +kernel) rfl (Nat.le_of_ble_eq_true rfl) rfl (fun X hz h => w5_best h hF)
def f5_far (x0 : Int32) (x1 : Int32) : Option (Int32) :=
    if x1 ≤ x0 then ((some (x0 - x1)))
    else ((some (x1 - x0)))
set_option maxHeartbeats 4000000 in
set_option maxRecDepth 10000 in
theorem w5_far {ad : Nat → Nat} {X : XX} {R : Int32} {M : Mem} (h : Cx layM ad X cX5_far RX5 2 1 (some .int) M (some (.int R))) {x0 : Int32} {x1 : Int32} (hF : f5_far x0 x1 = some R) : Wp layM ad X M 0 [(0, .int x0), (1, .int x1)] [] := by
  unfold f5_far at hF
  refine R_iload_n (pc := 0) h 0 rfl rfl dX5_far_0 ?_
  refine R_iload_n (pc := 1) h 1 rfl rfl dX5_far_1 ?_
  refine R_icmp_ge (pc := 2) (tgt := 11) h dX5_far_2 (by decide) (fun c1 => ?_) (fun c1 => ?_)
  · have hF := itp c1 hF
    refine R_iload_n (pc := 11) h 0 rfl rfl dX5_far_11 ?_
    refine R_iload_n (pc := 12) h 1 rfl rfl dX5_far_12 ?_
    refine R_isub (pc := 13) h dX5_far_13 ?_
    cases hF
    exact R_ireturn (pc := 14) h rfl rfl rfl dX5_far_14
  · have hF := ifn c1 hF
    refine R_iload_n (pc := 5) h 1 rfl rfl dX5_far_5 ?_
    refine R_iload_n (pc := 6) h 0 rfl rfl dX5_far_6 ?_
    refine R_isub (pc := 7) h dX5_far_7 ?_
    refine R_goto (pc := 8) (tgt := 14) h dX5_far_8 (by decide) ?_
    cases hF
    exact R_ireturn (pc := 14) h rfl rfl rfl dX5_far_14
theorem c5_far {ad : Nat → Nat} {z : ZZ} {R : Int32} {M : Mem} {x0 : Int32} {x1 : Int32} (hF : f5_far x0 x1 = some R) : Con layM ad z yX5_far cX5_far 2 (some .int) 1 M [.int x0, .int x1] (M) (some (.int R)) := con_of (own := RX5) (lv := [(0, .int x0), (1, .int x1)]) (by decide +kernel) rfl (Nat.le_of_ble_eq_true rfl) rfl (fun X hz h => w5_far h hF)
def f5_steps_52 (fu : Nat) (k8 : Int32 → Int32 → Int32 → Int32 → Mem → Option (Mem × Int32)) (x1 : Int32) (x3 : Int32) (x4 : Int32) (s0 : Int32) (M : Mem) : Option (Mem × Int32) :=
    (rd M 10 9 ((1 : Int32) + x4)).bind fun v1 =>
    if v1 ≤ x3 then (nm (x4 + (1 : Int32)) fun v3 =>
    (k8 x1 s0 x3 v3 M))
    else ((rd M 10 9 ((1 : Int32) + x4)).bind fun v4 =>
    nm (x4 + (1 : Int32)) fun v5 =>
    (k8 x1 s0 v4 v5 M))
set_option maxHeartbeats 4000000 in
set_option maxRecDepth 10000 in
theorem w5_steps_52 {ad : Nat → Nat} {X : XX} {R : Mem × Int32} {fu : Nat} {k8 : Int32 → Int32 → Int32 → Int32 → Mem → Option (Mem × Int32)} (h : Cx layM ad X cX5_steps RX5 6 2 (some .int) (R.1) (some (.int R.2))) (hk8 : ∀ (x1 : Int32) (x2 : Int32) (x3 : Int32) (x4 : Int32) (M : Mem), k8 x1 x2 x3 x4 M = some R → Wp layM ad X M 8 [(0, .ref (ad 0)), (1, .int x1), (2, .int x2), (3, .int x3), (4, .int x4)] []) {x1 : Int32} {x3 : Int32} {x4 : Int32} {s0 : Int32} {M : Mem} (hF : f5_steps_52 fu k8 x1 x3 x4 s0 M = some R) : Wp layM ad X M 52 [(0, .ref (ad 0)), (1, .int x1), (3, .int x3), (4, .int x4)] [.int s0] := by
  unfold f5_steps_52 at hF
  refine R_istore_n (pc := 52) (lv' := [(2, .int s0), (0, .ref (ad 0)), (1, .int x1), (3, .int x3), (4, .int x4)]) h rfl rfl (by decide) rfl dX5_steps_52 ?_
  refine R_aload_n (pc := 53) h 1 rfl rfl dX5_steps_53 ?_
  refine R_getR (pc := 54) (q1 := 10) h flX5_41 lm_0 rfl dX5_steps_54 ?_
  refine R_iconst (pc := 57) (v := 1) h (by decide) dX5_steps_57 ?_
  refine R_iload (pc := 58) h 4 rfl dX5_steps_58 ?_
  refine R_iadd (pc := 60) h dX5_steps_60 ?_
  obtain ⟨v1, hv1, hF⟩ := bd hF
  refine R_iald (pc := 61) h hv1 lm_10 dX5_steps_61 ?_
  refine R_iload_n (pc := 62) h 3 rfl rfl dX5_steps_62 ?_
  refine R_icmp_le (pc := 63) (tgt := 78) h dX5_steps_63 (by decide) (fun c2 => ?_) (fun c2 => ?_)
  · have hF := itp c2 hF
    refine R_iload_n (pc := 78) h 3 rfl rfl dX5_steps_78 ?_
    refine R_istore_n (pc := 79) (lv' := [(3, .int x3), (2, .int s0), (0, .ref (ad 0)), (1, .int x1), (4, .int x4)]) h rfl rfl (by decide) rfl dX5_steps_79 ?_
    obtain ⟨v3, hv3, hF⟩ := nm_e2 hF
    refine R_iinc (pc := 80) (lv' := [(4, .int v3), (3, .int x3), (2, .int s0), (0, .ref (ad 0)), (1, .int x1)]) h 4 rfl (by decide) hv3 (by decide) rfl dX5_steps_80 ?_
    refine R_goto (pc := 83) (tgt := 8) h dX5_steps_83 (by decide) ?_
    exact Wp_sub (nX := 0) (lv' := [(0, .ref (ad 0)), (1, .int x1), (2, .int s0), (3, .int x3), (4, .int v3)]) [3, 4, 2, 1, 0] rfl (hk8 _ _ _ _ _ hF)
  · have hF := ifn c2 hF
    refine R_aload_n (pc := 66) h 1 rfl rfl dX5_steps_66 ?_
    refine R_getR (pc := 67) (q1 := 10) h flX5_41 lm_0 rfl dX5_steps_67 ?_
    refine R_iconst (pc := 70) (v := 1) h (by decide) dX5_steps_70 ?_
    refine R_iload (pc := 71) h 4 rfl dX5_steps_71 ?_
    refine R_iadd (pc := 73) h dX5_steps_73 ?_
    obtain ⟨v4, hv4, hF⟩ := bd hF
    refine R_iald (pc := 74) h hv4 lm_10 dX5_steps_74 ?_
    refine R_goto (pc := 75) (tgt := 79) h dX5_steps_75 (by decide) ?_
    refine R_istore_n (pc := 79) (lv' := [(3, .int v4), (2, .int s0), (0, .ref (ad 0)), (1, .int x1), (4, .int x4)]) h rfl rfl (by decide) rfl dX5_steps_79 ?_
    obtain ⟨v5, hv5, hF⟩ := nm_e2 hF
    refine R_iinc (pc := 80) (lv' := [(4, .int v5), (3, .int v4), (2, .int s0), (0, .ref (ad 0)), (1, .int x1)]) h 4 rfl (by decide) hv5 (by decide) rfl dX5_steps_80 ?_
    refine R_goto (pc := 83) (tgt := 8) h dX5_steps_83 (by decide) ?_
    exact Wp_sub (nX := 0) (lv' := [(0, .ref (ad 0)), (1, .int x1), (2, .int s0), (3, .int v4), (4, .int v5)]) [3, 4, 2, 1, 0] rfl (hk8 _ _ _ _ _ hF)
def f5_steps_147 (fu : Nat) (x4 : Int32) (x5 : Int32) (s0 : Int32) (M : Mem) : Option (Mem × Int32) :=
    nm (sI M 0 24 s0) fun M1 =>
    if x4 < x5 then ((some (M1, x4)))
    else ((some (M1, x5)))
set_option maxHeartbeats 4000000 in
set_option maxRecDepth 10000 in
theorem w5_steps_147 {ad : Nat → Nat} {X : XX} {R : Mem × Int32} {fu : Nat}  (h : Cx layM ad X cX5_steps RX5 6 2 (some .int) (R.1) (some (.int R.2)))  {x4 : Int32} {x5 : Int32} {s0 : Int32} {M : Mem} (hF : f5_steps_147 fu x4 x5 s0 M = some R) : Wp layM ad X M 147 [(4, .int x4), (5, .int x5)] [.int s0, .ref (ad 0)] := by
  unfold f5_steps_147 at hF
  obtain ⟨M1, hM1, hF⟩ := nm_e2 hF
  refine R_putI (pc := 147) h hM1 fpX5_197 lm_0 rfl dX5_steps_147 ?_
  refine R_iload (pc := 150) h 1 rfl dX5_steps_150 ?_
  refine R_iload (pc := 152) h 0 rfl dX5_steps_152 ?_
  refine R_icmp_gt (pc := 154) (tgt := 162) h dX5_steps_154 (by decide) (fun c2 => ?_) (fun c2 => ?_)
  · have hF := itp c2 hF
    refine R_iload (pc := 162) h 0 rfl dX5_steps_162 ?_
    cases hF
    exact R_ireturn (pc := 164) h rfl rfl rfl dX5_steps_164
  · have hF := ifn c2 hF
    refine R_iload (pc := 157) h 1 rfl dX5_steps_157 ?_
    refine R_goto (pc := 159) (tgt := 164) h dX5_steps_159 (by decide) ?_
    cases hF
    exact R_ireturn (pc := 164) h rfl rfl rfl dX5_steps_164
def f5_steps_8 (fu : Nat) : Nat → Int32 → Int32 → Int32 → Int32 → Mem → Option (Mem × Int32)
  | 0 => fun _ _ _ _ _ => none
  | f + 1 => fun x1 x2 x3 x4 M =>
    if (M.1 0 9) ≤ x4 then (if x1 = 0 then ((rd M 10 9 (0 : Int32)).bind fun v3 =>
    nm (sI M 0 24 v3) fun M4 =>
    (some (M4, (0 : Int32))))
    else ((rd M 10 9 (0 : Int32)).bind fun v5 =>
    (f5_far v5 x2).bind fun r7 =>
    nm ((r7 + x3) - x2) fun v8 =>
    (rd M 10 9 (0 : Int32)).bind fun v9 =>
    (f5_far v9 x3).bind fun r11 =>
    nm ((r11 + x3) - x2) fun v12 =>
    if v8 < v12 then ((f5_steps_147 fu v8 v12 x3 M))
    else ((f5_steps_147 fu v8 v12 x2 M))))
    else ((f5_has x1 x4).bind fun r15 =>
    if r15 = 0 then (nm (x4 + (1 : Int32)) fun v17 =>
    ((f5_steps_8 fu f) x1 x2 x3 v17 M))
    else ((rd M 10 9 ((1 : Int32) + x4)).bind fun v18 =>
    if x2 ≤ v18 then ((f5_steps_52 fu (f5_steps_8 fu f) x1 x3 x4 x2 M))
    else ((rd M 10 9 ((1 : Int32) + x4)).bind fun v20 =>
    (f5_steps_52 fu (f5_steps_8 fu f) x1 x3 x4 v20 M))))
set_option maxHeartbeats 4000000 in
set_option maxRecDepth 10000 in
theorem w5_stepsi_8 {ad : Nat → Nat} {X : XX} {R : Mem × Int32} {fu : Nat}  (h : Cx layM ad X cX5_steps RX5 6 2 (some .int) (R.1) (some (.int R.2)))  : ∀ (f : Nat) (x1 : Int32) (x2 : Int32) (x3 : Int32) (x4 : Int32) (M : Mem), f5_steps_8 fu f x1 x2 x3 x4 M = some R → Wp layM ad X M 8 [(0, .ref (ad 0)), (1, .int x1), (2, .int x2), (3, .int x3), (4, .int x4)] [] := by
  intro f
  induction f with
  | zero => intro x1 x2 x3 x4 M hF; exact absurd hF (by simp [f5_steps_8])
  | succ f ih =>
    intro x1 x2 x3 x4 M hF
    rw [f5_steps_8] at hF
    refine R_iload (pc := 8) h 4 rfl dX5_steps_8 ?_
    refine R_aload_n (pc := 10) h 0 rfl rfl dX5_steps_10 ?_
    refine R_getI (pc := 11) h flX5_130 lm_0 rfl dX5_steps_11 ?_
    refine R_icmp_ge (pc := 14) (tgt := 86) h dX5_steps_14 (by decide) (fun c1 => ?_) (fun c1 => ?_)
    · have hF := itp c1 hF
      refine R_iload_n (pc := 86) h 1 rfl rfl dX5_steps_86 ?_
      refine R_if_ne (pc := 87) (tgt := 102) h dX5_steps_87 (by decide) (fun c2 => ?_) (fun c2 => ?_)
      · have hF := ifn c2 hF
        refine R_aload_n (pc := 102) h 0 rfl rfl dX5_steps_102 ?_
        refine R_getR (pc := 103) (q1 := 10) h flX5_41 lm_0 rfl dX5_steps_103 ?_
        refine R_iconst (pc := 106) (v := 0) h (by decide) dX5_steps_106 ?_
        obtain ⟨v5, hv5, hF⟩ := bd hF
        refine R_iald (pc := 107) h hv5 lm_10 dX5_steps_107 ?_
        refine R_iload_n (pc := 108) h 2 rfl rfl dX5_steps_108 ?_
        obtain ⟨r7, hc6, hF⟩ := bd hF
        refine R_callS (pc := 109) (st := []) h [.int v5, .int x2] csX5_200 (c5_far (ad := ad) (z := X.1) (M := M) hc6) rfl rfl (by decide) (by decide) (Nat.le_of_ble_eq_true rfl) dX5_steps_109 (st1 := [.int r7]) rfl ?_
        refine R_iload_n (pc := 112) h 3 rfl rfl dX5_steps_112 ?_
        refine R_iadd (pc := 113) h dX5_steps_113 ?_
        refine R_iload_n (pc := 114) h 2 rfl rfl dX5_steps_114 ?_
        refine R_isub (pc := 115) h dX5_steps_115 ?_
        obtain ⟨v8, hv8, hF⟩ := nm_e2 hF
        refine R_istore (pc := 116) (lv' := [(4, .int v8), (0, .ref (ad 0)), (1, .int x1), (2, .int x2), (3, .int x3)]) h hv8 (by decide) rfl dX5_steps_116 ?_
        refine R_aload_n (pc := 118) h 1 rfl rfl dX5_steps_118 ?_
        refine R_getR (pc := 119) (q1 := 10) h flX5_41 lm_0 rfl dX5_steps_119 ?_
        refine R_iconst (pc := 122) (v := 0) h (by decide) dX5_steps_122 ?_
        obtain ⟨v9, hv9, hF⟩ := bd hF
        refine R_iald (pc := 123) h hv9 lm_10 dX5_steps_123 ?_
        refine R_iload_n (pc := 124) h 4 rfl rfl dX5_steps_124 ?_
        obtain ⟨r11, hc10, hF⟩ := bd hF
        refine R_callS (pc := 125) (st := []) h [.int v9, .int x3] csX5_200 (c5_far (ad := ad) (z := X.1) (M := M) hc10) rfl rfl (by decide) (by decide) (Nat.le_of_ble_eq_true rfl) dX5_steps_125 (st1 := [.int r11]) rfl ?_
        refine R_iload_n (pc := 128) h 4 rfl rfl dX5_steps_128 ?_
        refine R_iadd (pc := 129) h dX5_steps_129 ?_
        refine R_iload_n (pc := 130) h 3 rfl rfl dX5_steps_130 ?_
        refine R_isub (pc := 131) h dX5_steps_131 ?_
        obtain ⟨v12, hv12, hF⟩ := nm_e2 hF
        refine R_istore (pc := 132) (lv' := [(5, .int v12), (4, .int v8), (0, .ref (ad 0)), (1, .int x1), (2, .int x2), (3, .int x3)]) h hv12 (by decide) rfl dX5_steps_132 ?_
        refine R_aload_n (pc := 134) h 2 rfl rfl dX5_steps_134 ?_
        refine R_iload (pc := 135) h 0 rfl dX5_steps_135 ?_
        refine R_iload (pc := 137) h 1 rfl dX5_steps_137 ?_
        refine R_icmp_gt (pc := 139) (tgt := 146) h dX5_steps_139 (by decide) (fun c13 => ?_) (fun c13 => ?_)
        · have hF := itp c13 hF
          refine R_iload_n (pc := 146) h 5 rfl rfl dX5_steps_146 ?_
          exact Wp_sub (nX := 0) (lv' := [(4, .int v8), (5, .int v12)]) [1, 0] rfl (w5_steps_147 h  (hF := hF))
        · have hF := ifn c13 hF
          refine R_iload_n (pc := 142) h 4 rfl rfl dX5_steps_142 ?_
          refine R_goto (pc := 143) (tgt := 147) h dX5_steps_143 (by decide) ?_
          exact Wp_sub (nX := 0) (lv' := [(4, .int v8), (5, .int v12)]) [1, 0] rfl (w5_steps_147 h  (hF := hF))
      · have hF := itp c2 hF
        refine R_aload_n (pc := 90) h 0 rfl rfl dX5_steps_90 ?_
        refine R_aload_n (pc := 91) h 0 rfl rfl dX5_steps_91 ?_
        refine R_getR (pc := 92) (q1 := 10) h flX5_41 lm_0 rfl dX5_steps_92 ?_
        refine R_iconst (pc := 95) (v := 0) h (by decide) dX5_steps_95 ?_
        obtain ⟨v3, hv3, hF⟩ := bd hF
        refine R_iald (pc := 96) h hv3 lm_10 dX5_steps_96 ?_
        obtain ⟨M4, hM4, hF⟩ := nm_e2 hF
        refine R_putI (pc := 97) h hM4 fpX5_197 lm_0 rfl dX5_steps_97 ?_
        refine R_iconst (pc := 100) (v := 0) h (by decide) dX5_steps_100 ?_
        cases hF
        exact R_ireturn (pc := 101) h rfl rfl rfl dX5_steps_101
    · have hF := ifn c1 hF
      refine R_iload_n (pc := 17) h 1 rfl rfl dX5_steps_17 ?_
      refine R_iload (pc := 18) h 4 rfl dX5_steps_18 ?_
      obtain ⟨r15, hc14, hF⟩ := bd hF
      refine R_callS (pc := 20) (st := []) h [.int x1, .int x4] csX5_139 (c5_has (ad := ad) (z := X.1) (M := M) hc14) rfl rfl (by decide) (by decide) (Nat.le_of_ble_eq_true rfl) dX5_steps_20 (st1 := [.int r15]) rfl ?_
      refine R_if_eq (pc := 23) (tgt := 80) h dX5_steps_23 (by decide) (fun c16 => ?_) (fun c16 => ?_)
      · have hF := itp c16 hF
        obtain ⟨v17, hv17, hF⟩ := nm_e2 hF
        refine R_iinc (pc := 80) (lv' := [(4, .int v17), (0, .ref (ad 0)), (1, .int x1), (2, .int x2), (3, .int x3)]) h 4 rfl (by decide) hv17 (by decide) rfl dX5_steps_80 ?_
        refine R_goto (pc := 83) (tgt := 8) h dX5_steps_83 (by decide) ?_
        exact Wp_sub (nX := 0) (lv' := [(0, .ref (ad 0)), (1, .int x1), (2, .int x2), (3, .int x3), (4, .int v17)]) [1, 2, 3, 4, 0] rfl (ih _ _ _ _ _ hF)
      · have hF := ifn c16 hF
        refine R_aload_n (pc := 26) h 0 rfl rfl dX5_steps_26 ?_
        refine R_getR (pc := 27) (q1 := 10) h flX5_41 lm_0 rfl dX5_steps_27 ?_
        refine R_iconst (pc := 30) (v := 1) h (by decide) dX5_steps_30 ?_
        refine R_iload (pc := 31) h 4 rfl dX5_steps_31 ?_
        refine R_iadd (pc := 33) h dX5_steps_33 ?_
        obtain ⟨v18, hv18, hF⟩ := bd hF
        refine R_iald (pc := 34) h hv18 lm_10 dX5_steps_34 ?_
        refine R_iload_n (pc := 35) h 2 rfl rfl dX5_steps_35 ?_
        refine R_icmp_ge (pc := 36) (tgt := 51) h dX5_steps_36 (by decide) (fun c19 => ?_) (fun c19 => ?_)
        · have hF := itp c19 hF
          refine R_iload_n (pc := 51) h 2 rfl rfl dX5_steps_51 ?_
          exact Wp_sub (nX := 0) (lv' := [(0, .ref (ad 0)), (1, .int x1), (3, .int x3), (4, .int x4)]) [0, 1, 3, 4] rfl (w5_steps_52 h (hk8 := fun a0 a1 a2 a3 a4 hF => ih a0 a1 a2 a3 a4 hF) (hF := hF))
        · have hF := ifn c19 hF
          refine R_aload_n (pc := 39) h 0 rfl rfl dX5_steps_39 ?_
          refine R_getR (pc := 40) (q1 := 10) h flX5_41 lm_0 rfl dX5_steps_40 ?_
          refine R_iconst (pc := 43) (v := 1) h (by decide) dX5_steps_43 ?_
          refine R_iload (pc := 44) h 4 rfl dX5_steps_44 ?_
          refine R_iadd (pc := 46) h dX5_steps_46 ?_
          obtain ⟨v20, hv20, hF⟩ := bd hF
          refine R_iald (pc := 47) h hv20 lm_10 dX5_steps_47 ?_
          refine R_goto (pc := 48) (tgt := 52) h dX5_steps_48 (by decide) ?_
          exact Wp_sub (nX := 0) (lv' := [(0, .ref (ad 0)), (1, .int x1), (3, .int x3), (4, .int x4)]) [0, 1, 3, 4] rfl (w5_steps_52 h (hk8 := fun a0 a1 a2 a3 a4 hF => ih a0 a1 a2 a3 a4 hF) (hF := hF))
theorem w5_steps_8 {ad : Nat → Nat} {X : XX} {R : Mem × Int32} {fu : Nat}  (h : Cx layM ad X cX5_steps RX5 6 2 (some .int) (R.1) (some (.int R.2)))  {f : Nat} {x1 : Int32} {x2 : Int32} {x3 : Int32} {x4 : Int32} {M : Mem} (hF : f5_steps_8 fu f x1 x2 x3 x4 M = some R) : Wp layM ad X M 8 [(0, .ref (ad 0)), (1, .int x1), (2, .int x2), (3, .int x3), (4, .int x4)] [] := w5_stepsi_8 h  f _ _ _ _ _ hF
def f5_steps (fu : Nat) (x1 : Int32) (M : Mem) : Option (Mem × Int32) :=
    (f5_steps_8 fu fu x1 (10 : Int32) (-1 : Int32) (0 : Int32) M)
set_option maxHeartbeats 4000000 in
set_option maxRecDepth 10000 in
theorem w5_steps {ad : Nat → Nat} {X : XX} {R : Mem × Int32} {fu : Nat} (h : Cx layM ad X cX5_steps RX5 6 2 (some .int) (R.1) (some (.int R.2))) {x1 : Int32} {M : Mem} (hF : f5_steps fu x1 M = some R) : Wp layM ad X M 0 [(0, .ref (ad 0)), (1, .int x1)] [] := by
  unfold f5_steps at hF
  refine R_bipush (pc := 0) (v := 10) h (by decide) dX5_steps_0 ?_
  refine R_istore_n (pc := 2) (lv' := [(2, .int (10 : Int32)), (0, .ref (ad 0)), (1, .int x1)]) h rfl rfl (by decide) rfl dX5_steps_2 ?_
  refine R_iconst (pc := 3) (v := (-1)) h (by decide) dX5_steps_3 ?_
  refine R_istore_n (pc := 4) (lv' := [(3, .int (-1 : Int32)), (2, .int (10 : Int32)), (0, .ref (ad 0)), (1, .int x1)]) h rfl rfl (by decide) rfl dX5_steps_4 ?_
  refine R_iconst (pc := 5) (v := 0) h (by decide) dX5_steps_5 ?_
  refine R_istore (pc := 6) (lv' := [(4, .int (0 : Int32)), (3, .int (-1 : Int32)), (2, .int (10 : Int32)), (0, .ref (ad 0)), (1, .int x1)]) h rfl (by decide) rfl dX5_steps_6 ?_
  exact Wp_sub (nX := 0) (lv' := [(0, .ref (ad 0)), (1, .int x1), (2, .int (10 : Int32)), (3, .int (-1 : Int32)), (4, .int (0 : Int32))]) [3, 4, 2, 1, 0] rfl (w5_steps_8 h  (hF := hF))
theorem c5_steps {ad : Nat → Nat} {z : ZZ} {R : Mem × Int32} {fu : Nat} {x1 : Int32} {M : Mem} (hF : f5_steps fu x1 M = some R) : Con layM ad z yX5_steps cX5_steps 6 (some .int) 2 M [.ref (ad 0), .int x1] (R.1) (some (.int R.2)) := con_of (own := RX5) (lv := [(0, .ref (ad 0)), (1, .int x1)]) (by decide +kernel) rfl (Nat.le_of_ble_eq_true rfl) rfl (fun X hz h => w5_steps h hF)
def f5_walk (fu : Nat) (x1 : Int32) (M : Mem) : Option (Mem × Int32) :=
    (f5_in x1.toInt64 (0 : Int64) (((1 : Int32) <<< ((M.1 0 9) &&& 31)) - (1 : Int32)).toInt64).bind fun r2 =>
    if r2 = 0 then ((some (M, (-1 : Int32))))
    else ((f5_those M fu (-9 : Int32)).bind fun r5 =>
    if (x1 &&& (r5 ^^^ (-1 : Int32))) = 0 then ((f5_steps fu x1 M).bind fun ⟨M8, r9⟩ =>
    (f5_answer r9 (M8.1 0 24) M8).bind fun ⟨M11, r12⟩ =>
    (some (M11, r12)))
    else ((some (M, (-4 : Int32)))))
set_option maxHeartbeats 4000000 in
set_option maxRecDepth 10000 in
theorem w5_walk {ad : Nat → Nat} {X : XX} {R : Mem × Int32} {fu : Nat} (h : Cx layM ad X cX5_walk RX5 3 3 (some .int) (R.1) (some (.int R.2))) {x1 : Int32} {M : Mem} (hF : f5_walk fu x1 M = some R) : Wp layM ad X M 0 [(0, .ref (ad 0)), (1, .int x1)] [] := by
  unfold f5_walk at hF
  refine R_iload_n (pc := 0) h 1 rfl rfl dX5_walk_0 ?_
  refine R_i2l (pc := 1) h dX5_walk_1 ?_
  refine R_lconst (pc := 2) (v := 0) h (by decide) dX5_walk_2 ?_
  refine R_iconst (pc := 3) (v := 1) h (by decide) dX5_walk_3 ?_
  refine R_aload_n (pc := 4) h 0 rfl rfl dX5_walk_4 ?_
  refine R_getI (pc := 5) h flX5_130 lm_0 rfl dX5_walk_5 ?_
  refine R_ishl (pc := 8) h dX5_walk_8 ?_
  refine R_iconst (pc := 9) (v := 1) h (by decide) dX5_walk_9 ?_
  refine R_isub (pc := 10) h dX5_walk_10 ?_
  refine R_i2l (pc := 11) h dX5_walk_11 ?_
  obtain ⟨r2, hc1, hF⟩ := bd hF
  refine R_callS (pc := 12) (st := []) h [.long x1.toInt64, .long (0 : Int64), .long (((1 : Int32) <<< ((M.1 0 9) &&& 31)) - (1 : Int32)).toInt64] csX5_71 (c5_in (ad := ad) (z := X.1) (M := M) hc1) rfl rfl (by decide) (by decide) (Nat.le_of_ble_eq_true rfl) dX5_walk_12 (st1 := [.int r2]) rfl ?_
  refine R_if_ne (pc := 15) (tgt := 20) h dX5_walk_15 (by decide) (fun c3 => ?_) (fun c3 => ?_)
  · have hF := ifn c3 hF
    refine R_iload_n (pc := 20) h 1 rfl rfl dX5_walk_20 ?_
    refine R_aload_n (pc := 21) h 0 rfl rfl dX5_walk_21 ?_
    refine R_bipush (pc := 22) (v := (-9)) h (by decide) dX5_walk_22 ?_
    obtain ⟨r5, hc4, hF⟩ := bd hF
    refine R_callV (pc := 24) (st := [.int x1]) h [.int (-9 : Int32)] cvX5_170 (c5_those (ad := ad) (z := X.1) hc4) rfl rfl lm_0 (by decide) (by decide) (Nat.le_of_ble_eq_true rfl) dX5_walk_24 (st1 := [.int r5, .int x1]) rfl ?_
    refine R_iconst (pc := 27) (v := (-1)) h (by decide) dX5_walk_27 ?_
    refine R_ixor (pc := 28) h dX5_walk_28 ?_
    refine R_iand (pc := 29) h dX5_walk_29 ?_
    refine R_if_eq (pc := 30) (tgt := 36) h dX5_walk_30 (by decide) (fun c6 => ?_) (fun c6 => ?_)
    · have hF := itp c6 hF
      refine R_aload_n (pc := 36) h 0 rfl rfl dX5_walk_36 ?_
      refine R_iload_n (pc := 37) h 1 rfl rfl dX5_walk_37 ?_
      obtain ⟨⟨M8, r9⟩, hc7, hF⟩ := bd hF
      refine R_callV (pc := 38) (st := []) h [.int x1] cvX5_203 (c5_steps (ad := ad) (z := X.1) hc7) rfl rfl lm_0 (by decide) (by decide) (Nat.le_of_ble_eq_true rfl) dX5_walk_38 (st1 := [.int r9]) rfl ?_
      refine R_istore_n (pc := 41) (lv' := [(2, .int r9), (0, .ref (ad 0)), (1, .int x1)]) h rfl rfl (by decide) rfl dX5_walk_41 ?_
      refine R_aload_n (pc := 42) h 1 rfl rfl dX5_walk_42 ?_
      refine R_iload_n (pc := 43) h 0 rfl rfl dX5_walk_43 ?_
      refine R_aload_n (pc := 44) h 1 rfl rfl dX5_walk_44 ?_
      refine R_getI (pc := 45) h flX5_197 lm_0 rfl dX5_walk_45 ?_
      obtain ⟨⟨M11, r12⟩, hc10, hF⟩ := bd hF
      refine R_callV (pc := 48) (st := []) h [.int r9, .int (M8.1 0 24)] cvX5_181 (c5_answer (ad := ad) (z := X.1) hc10) rfl rfl lm_0 (by decide) (by decide) (Nat.le_of_ble_eq_true rfl) dX5_walk_48 (st1 := [.int r12]) rfl ?_
      cases hF
      exact R_ireturn (pc := 51) h rfl rfl rfl dX5_walk_51
    · have hF := ifn c6 hF
      refine R_bipush (pc := 33) (v := (-4)) h (by decide) dX5_walk_33 ?_
      cases hF
      exact R_ireturn (pc := 35) h rfl rfl rfl dX5_walk_35
  · have hF := itp c3 hF
    refine R_iconst (pc := 18) (v := (-1)) h (by decide) dX5_walk_18 ?_
    cases hF
    exact R_ireturn (pc := 19) h rfl rfl rfl dX5_walk_19
theorem c5_walk {ad : Nat → Nat} {z : ZZ} {R : Mem × Int32} {fu : Nat} {x1 : Int32} {M : Mem} (hF : f5_walk fu x1 M = some R) : Con layM ad z yX5_walk cX5_walk 3 (some .int) 3 M [.ref (ad 0), .int x1] (R.1) (some (.int R.2)) := con_of (own := RX5) (lv := [(0, .ref (ad 0)), (1, .int x1)]) (by decide +kernel) rfl (Nat.le_of_ble_eq_true rfl) rfl (fun X hz h => w5_walk h hF)
def f5_within_109 (fu : Nat) (k48 : Int32 → Int32 → Int32 → Int32 → Int32 → Mem → Option (Mem × Int32)) (x1 : Int32) (x2 : Int32) (x3 : Int32) (x4 : Int32) (x5 : Int32) (s0 : Int32) (M : Mem) : Option (Mem × Int32) :=
    if s0 = 0 then (nm (x5 + (1 : Int32)) fun v2 =>
    (k48 x1 x2 x3 x4 v2 M))
    else ((f5_steps fu x5 M).bind fun ⟨M4, r5⟩ =>
    if x1 < r5 then (nm (x5 + (1 : Int32)) fun v7 =>
    (k48 x1 x2 x3 x4 v7 M4))
    else (nm (x5 + (1 : Int32)) fun v8 =>
    (k48 x1 x2 x3 x5 v8 M4)))
set_option maxHeartbeats 4000000 in
set_option maxRecDepth 10000 in
theorem w5_within_109 {ad : Nat → Nat} {X : XX} {R : Mem × Int32} {fu : Nat} {k48 : Int32 → Int32 → Int32 → Int32 → Int32 → Mem → Option (Mem × Int32)} (h : Cx layM ad X cX5_within RX5 7 5 (some .int) (R.1) (some (.int R.2))) (hk48 : ∀ (x1 : Int32) (x2 : Int32) (x3 : Int32) (x4 : Int32) (x5 : Int32) (M : Mem), k48 x1 x2 x3 x4 x5 M = some R → Wp layM ad X M 48 [(0, .ref (ad 0)), (1, .int x1), (2, .int x2), (3, .int x3), (4, .int x4), (5, .int x5)] []) {x1 : Int32} {x2 : Int32} {x3 : Int32} {x4 : Int32} {x5 : Int32} {s0 : Int32} {M : Mem} (hF : f5_within_109 fu k48 x1 x2 x3 x4 x5 s0 M = some R) : Wp layM ad X M 109 [(0, .ref (ad 0)), (1, .int x1), (2, .int x2), (3, .int x3), (4, .int x4), (5, .int x5)] [.int s0] := by
  unfold f5_within_109 at hF
  refine R_istore (pc := 109) (lv' := [(6, .int s0), (0, .ref (ad 0)), (1, .int x1), (2, .int x2), (3, .int x3), (4, .int x4), (5, .int x5)]) h rfl (by decide) rfl dX5_within_109 ?_
  refine R_iload (pc := 111) h 0 rfl dX5_within_111 ?_
  refine R_if_eq (pc := 113) (tgt := 131) h dX5_within_113 (by decide) (fun c1 => ?_) (fun c1 => ?_)
  · have hF := itp c1 hF
    refine R_iload (pc := 131) h 5 rfl dX5_within_131 ?_
    refine R_istore (pc := 133) (lv' := [(4, .int x4), (6, .int s0), (0, .ref (ad 0)), (1, .int x1), (2, .int x2), (3, .int x3), (5, .int x5)]) h rfl (by decide) rfl dX5_within_133 ?_
    obtain ⟨v2, hv2, hF⟩ := nm_e2 hF
    refine R_iinc (pc := 135) (lv' := [(5, .int v2), (4, .int x4), (6, .int s0), (0, .ref (ad 0)), (1, .int x1), (2, .int x2), (3, .int x3)]) h 6 rfl (by decide) hv2 (by decide) rfl dX5_within_135 ?_
    refine R_goto (pc := 138) (tgt := 48) h dX5_within_138 (by decide) ?_
    exact Wp_sub (nX := 0) (lv' := [(0, .ref (ad 0)), (1, .int x1), (2, .int x2), (3, .int x3), (4, .int x4), (5, .int v2)]) [3, 4, 5, 6, 1, 0] rfl (hk48 _ _ _ _ _ _ hF)
  · have hF := ifn c1 hF
    refine R_aload_n (pc := 116) h 1 rfl rfl dX5_within_116 ?_
    refine R_iload (pc := 117) h 6 rfl dX5_within_117 ?_
    obtain ⟨⟨M4, r5⟩, hc3, hF⟩ := bd hF
    refine R_callV (pc := 119) (st := []) h [.int x5] cvX5_203 (c5_steps (ad := ad) (z := X.1) hc3) rfl rfl lm_0 (by decide) (by decide) (Nat.le_of_ble_eq_true rfl) dX5_within_119 (st1 := [.int r5]) rfl ?_
    refine R_iload_n (pc := 122) h 2 rfl rfl dX5_within_122 ?_
    refine R_icmp_gt (pc := 123) (tgt := 131) h dX5_within_123 (by decide) (fun c6 => ?_) (fun c6 => ?_)
    · have hF := itp c6 hF
      refine R_iload (pc := 131) h 5 rfl dX5_within_131 ?_
      refine R_istore (pc := 133) (lv' := [(4, .int x4), (6, .int s0), (0, .ref (ad 0)), (1, .int x1), (2, .int x2), (3, .int x3), (5, .int x5)]) h rfl (by decide) rfl dX5_within_133 ?_
      obtain ⟨v7, hv7, hF⟩ := nm_e2 hF
      refine R_iinc (pc := 135) (lv' := [(5, .int v7), (4, .int x4), (6, .int s0), (0, .ref (ad 0)), (1, .int x1), (2, .int x2), (3, .int x3)]) h 6 rfl (by decide) hv7 (by decide) rfl dX5_within_135 ?_
      refine R_goto (pc := 138) (tgt := 48) h dX5_within_138 (by decide) ?_
      exact Wp_sub (nX := 0) (lv' := [(0, .ref (ad 0)), (1, .int x1), (2, .int x2), (3, .int x3), (4, .int x4), (5, .int v7)]) [3, 4, 5, 6, 1, 0] rfl (hk48 _ _ _ _ _ _ hF)
    · have hF := ifn c6 hF
      refine R_iload (pc := 126) h 6 rfl dX5_within_126 ?_
      refine R_goto (pc := 128) (tgt := 133) h dX5_within_128 (by decide) ?_
      refine R_istore (pc := 133) (lv' := [(4, .int x5), (6, .int s0), (0, .ref (ad 0)), (1, .int x1), (2, .int x2), (3, .int x3), (5, .int x5)]) h rfl (by decide) rfl dX5_within_133 ?_
      obtain ⟨v8, hv8, hF⟩ := nm_e2 hF
      refine R_iinc (pc := 135) (lv' := [(5, .int v8), (4, .int x5), (6, .int s0), (0, .ref (ad 0)), (1, .int x1), (2, .int x2), (3, .int x3)]) h 6 rfl (by decide) hv8 (by decide) rfl dX5_within_135 ?_
      refine R_goto (pc := 138) (tgt := 48) h dX5_within_138 (by decide) ?_
      exact Wp_sub (nX := 0) (lv' := [(0, .ref (ad 0)), (1, .int x1), (2, .int x2), (3, .int x3), (4, .int x5), (5, .int v8)]) [3, 4, 5, 6, 1, 0] rfl (hk48 _ _ _ _ _ _ hF)
def f5_within_48 (fu : Nat) : Nat → Int32 → Int32 → Int32 → Int32 → Int32 → Mem → Option (Mem × Int32)
  | 0 => fun _ _ _ _ _ _ => none
  | f + 1 => fun x1 x2 x3 x4 x5 M =>
    if ((1 : Int32) <<< ((M.1 0 9) &&& 31)) ≤ x5 then ((f5_worthAll M fu x4).bind fun r3 =>
    (f5_answer r3 x4 M).bind fun ⟨M5, r6⟩ =>
    (some (M5, r6)))
    else (if (x5 &&& (x2 ^^^ (-1 : Int32))) = 0 then ((f5_worthAll M fu x5).bind fun r9 =>
    (f5_worthAll M fu x4).bind fun r11 =>
    if r9 ≤ r11 then ((f5_within_109 fu (f5_within_48 fu f) x1 x2 x3 x4 x5 (0 : Int32) M))
    else ((f5_clash M fu x5).bind fun r14 =>
    if r14 = 0 then ((f5_hoursAll M fu x5 (0 : Int32)).bind fun r17 =>
    if (r17 &&& x3) = 0 then ((f5_within_109 fu (f5_within_48 fu f) x1 x2 x3 x4 x5 (1 : Int32) M))
    else ((f5_within_109 fu (f5_within_48 fu f) x1 x2 x3 x4 x5 (0 : Int32) M)))
    else ((f5_within_109 fu (f5_within_48 fu f) x1 x2 x3 x4 x5 (0 : Int32) M))))
    else ((f5_within_109 fu (f5_within_48 fu f) x1 x2 x3 x4 x5 (0 : Int32) M)))
set_option maxHeartbeats 4000000 in
set_option maxRecDepth 10000 in
theorem w5_withini_48 {ad : Nat → Nat} {X : XX} {R : Mem × Int32} {fu : Nat}  (h : Cx layM ad X cX5_within RX5 7 5 (some .int) (R.1) (some (.int R.2)))  : ∀ (f : Nat) (x1 : Int32) (x2 : Int32) (x3 : Int32) (x4 : Int32) (x5 : Int32) (M : Mem), f5_within_48 fu f x1 x2 x3 x4 x5 M = some R → Wp layM ad X M 48 [(0, .ref (ad 0)), (1, .int x1), (2, .int x2), (3, .int x3), (4, .int x4), (5, .int x5)] [] := by
  intro f
  induction f with
  | zero => intro x1 x2 x3 x4 x5 M hF; exact absurd hF (by simp [f5_within_48])
  | succ f ih =>
    intro x1 x2 x3 x4 x5 M hF
    rw [f5_within_48] at hF
    refine R_iload (pc := 48) h 5 rfl dX5_within_48 ?_
    refine R_iconst (pc := 50) (v := 1) h (by decide) dX5_within_50 ?_
    refine R_aload_n (pc := 51) h 0 rfl rfl dX5_within_51 ?_
    refine R_getI (pc := 52) h flX5_130 lm_0 rfl dX5_within_52 ?_
    refine R_ishl (pc := 55) h dX5_within_55 ?_
    refine R_icmp_ge (pc := 56) (tgt := 141) h dX5_within_56 (by decide) (fun c1 => ?_) (fun c1 => ?_)
    · have hF := itp c1 hF
      refine R_aload_n (pc := 141) h 0 rfl rfl dX5_within_141 ?_
      refine R_aload_n (pc := 142) h 0 rfl rfl dX5_within_142 ?_
      refine R_iload (pc := 143) h 4 rfl dX5_within_143 ?_
      obtain ⟨r3, hc2, hF⟩ := bd hF
      refine R_callV (pc := 145) (st := [.ref (ad 0)]) h [.int x4] cvX5_185 (c5_worthAll (ad := ad) (z := X.1) hc2) rfl rfl lm_0 (by decide) (by decide) (Nat.le_of_ble_eq_true rfl) dX5_within_145 (st1 := [.int r3, .ref (ad 0)]) rfl ?_
      refine R_iload (pc := 148) h 4 rfl dX5_within_148 ?_
      obtain ⟨⟨M5, r6⟩, hc4, hF⟩ := bd hF
      refine R_callV (pc := 150) (st := []) h [.int r3, .int x4] cvX5_181 (c5_answer (ad := ad) (z := X.1) hc4) rfl rfl lm_0 (by decide) (by decide) (Nat.le_of_ble_eq_true rfl) dX5_within_150 (st1 := [.int r6]) rfl ?_
      cases hF
      exact R_ireturn (pc := 153) h rfl rfl rfl dX5_within_153
    · have hF := ifn c1 hF
      refine R_iload (pc := 59) h 5 rfl dX5_within_59 ?_
      refine R_iload_n (pc := 61) h 2 rfl rfl dX5_within_61 ?_
      refine R_iconst (pc := 62) (v := (-1)) h (by decide) dX5_within_62 ?_
      refine R_ixor (pc := 63) h dX5_within_63 ?_
      refine R_iand (pc := 64) h dX5_within_64 ?_
      refine R_if_ne (pc := 65) (tgt := 108) h dX5_within_65 (by decide) (fun c7 => ?_) (fun c7 => ?_)
      · have hF := ifn c7 hF
        refine R_iconst (pc := 108) (v := 0) h (by decide) dX5_within_108 ?_
        exact Wp_sub (nX := 0) (lv' := [(0, .ref (ad 0)), (1, .int x1), (2, .int x2), (3, .int x3), (4, .int x4), (5, .int x5)]) [0, 1, 2, 3, 4, 5] rfl (w5_within_109 h (hk48 := fun a0 a1 a2 a3 a4 a5 hF => ih a0 a1 a2 a3 a4 a5 hF) (hF := hF))
      · have hF := itp c7 hF
        refine R_aload_n (pc := 68) h 0 rfl rfl dX5_within_68 ?_
        refine R_iload (pc := 69) h 5 rfl dX5_within_69 ?_
        obtain ⟨r9, hc8, hF⟩ := bd hF
        refine R_callV (pc := 71) (st := []) h [.int x5] cvX5_185 (c5_worthAll (ad := ad) (z := X.1) hc8) rfl rfl lm_0 (by decide) (by decide) (Nat.le_of_ble_eq_true rfl) dX5_within_71 (st1 := [.int r9]) rfl ?_
        refine R_aload_n (pc := 74) h 0 rfl rfl dX5_within_74 ?_
        refine R_iload (pc := 75) h 4 rfl dX5_within_75 ?_
        obtain ⟨r11, hc10, hF⟩ := bd hF
        refine R_callV (pc := 77) (st := [.int r9]) h [.int x4] cvX5_185 (c5_worthAll (ad := ad) (z := X.1) hc10) rfl rfl lm_0 (by decide) (by decide) (Nat.le_of_ble_eq_true rfl) dX5_within_77 (st1 := [.int r11, .int r9]) rfl ?_
        refine R_icmp_le (pc := 80) (tgt := 108) h dX5_within_80 (by decide) (fun c12 => ?_) (fun c12 => ?_)
        · have hF := itp c12 hF
          refine R_iconst (pc := 108) (v := 0) h (by decide) dX5_within_108 ?_
          exact Wp_sub (nX := 0) (lv' := [(0, .ref (ad 0)), (1, .int x1), (2, .int x2), (3, .int x3), (4, .int x4), (5, .int x5)]) [0, 1, 2, 3, 4, 5] rfl (w5_within_109 h (hk48 := fun a0 a1 a2 a3 a4 a5 hF => ih a0 a1 a2 a3 a4 a5 hF) (hF := hF))
        · have hF := ifn c12 hF
          refine R_aload_n (pc := 83) h 0 rfl rfl dX5_within_83 ?_
          refine R_iload (pc := 84) h 5 rfl dX5_within_84 ?_
          obtain ⟨r14, hc13, hF⟩ := bd hF
          refine R_callV (pc := 86) (st := []) h [.int x5] cvX5_188 (c5_clash (ad := ad) (z := X.1) hc13) rfl rfl lm_0 (by decide) (by decide) (Nat.le_of_ble_eq_true rfl) dX5_within_86 (st1 := [.int r14]) rfl ?_
          refine R_if_ne (pc := 89) (tgt := 108) h dX5_within_89 (by decide) (fun c15 => ?_) (fun c15 => ?_)
          · have hF := ifn c15 hF
            refine R_iconst (pc := 108) (v := 0) h (by decide) dX5_within_108 ?_
            exact Wp_sub (nX := 0) (lv' := [(0, .ref (ad 0)), (1, .int x1), (2, .int x2), (3, .int x3), (4, .int x4), (5, .int x5)]) [0, 1, 2, 3, 4, 5] rfl (w5_within_109 h (hk48 := fun a0 a1 a2 a3 a4 a5 hF => ih a0 a1 a2 a3 a4 a5 hF) (hF := hF))
          · have hF := itp c15 hF
            refine R_aload_n (pc := 92) h 0 rfl rfl dX5_within_92 ?_
            refine R_iload (pc := 93) h 5 rfl dX5_within_93 ?_
            refine R_iconst (pc := 95) (v := 0) h (by decide) dX5_within_95 ?_
            obtain ⟨r17, hc16, hF⟩ := bd hF
            refine R_callV (pc := 96) (st := []) h [.int x5, .int (0 : Int32)] cvX5_149 (c5_hoursAll (ad := ad) (z := X.1) hc16) rfl rfl lm_0 (by decide) (by decide) (Nat.le_of_ble_eq_true rfl) dX5_within_96 (st1 := [.int r17]) rfl ?_
            refine R_iload_n (pc := 99) h 3 rfl rfl dX5_within_99 ?_
            refine R_iand (pc := 100) h dX5_within_100 ?_
            refine R_if_ne (pc := 101) (tgt := 108) h dX5_within_101 (by decide) (fun c18 => ?_) (fun c18 => ?_)
            · have hF := ifn c18 hF
              refine R_iconst (pc := 108) (v := 0) h (by decide) dX5_within_108 ?_
              exact Wp_sub (nX := 0) (lv' := [(0, .ref (ad 0)), (1, .int x1), (2, .int x2), (3, .int x3), (4, .int x4), (5, .int x5)]) [0, 1, 2, 3, 4, 5] rfl (w5_within_109 h (hk48 := fun a0 a1 a2 a3 a4 a5 hF => ih a0 a1 a2 a3 a4 a5 hF) (hF := hF))
            · have hF := itp c18 hF
              refine R_iconst (pc := 104) (v := 1) h (by decide) dX5_within_104 ?_
              refine R_goto (pc := 105) (tgt := 109) h dX5_within_105 (by decide) ?_
              exact Wp_sub (nX := 0) (lv' := [(0, .ref (ad 0)), (1, .int x1), (2, .int x2), (3, .int x3), (4, .int x4), (5, .int x5)]) [0, 1, 2, 3, 4, 5] rfl (w5_within_109 h (hk48 := fun a0 a1 a2 a3 a4 a5 hF => ih a0 a1 a2 a3 a4 a5 hF) (hF := hF))
theorem w5_within_48 {ad : Nat → Nat} {X : XX} {R : Mem × Int32} {fu : Nat}  (h : Cx layM ad X cX5_within RX5 7 5 (some .int) (R.1) (some (.int R.2)))  {f : Nat} {x1 : Int32} {x2 : Int32} {x3 : Int32} {x4 : Int32} {x5 : Int32} {M : Mem} (hF : f5_within_48 fu f x1 x2 x3 x4 x5 M = some R) : Wp layM ad X M 48 [(0, .ref (ad 0)), (1, .int x1), (2, .int x2), (3, .int x3), (4, .int x4), (5, .int x5)] [] := w5_withini_48 h  f _ _ _ _ _ _ hF
def f5_within (fu : Nat) (x1 : Int32) (M : Mem) : Option (Mem × Int32) :=
    (f5_in x1.toInt64 (0 : Int64) (20 : Int64)).bind fun r2 =>
    if r2 = 0 then ((some (M, (-1 : Int32))))
    else (if (M.1 0 9) = 0 then ((some (M, (-4 : Int32))))
    else ((f5_those M fu (-9 : Int32)).bind fun r6 =>
    (f5_those M fu (-1 : Int32)).bind fun r8 =>
    (f5_hoursAll M fu r8 (0 : Int32)).bind fun r10 =>
    (f5_within_48 fu fu x1 r6 r10 (0 : Int32) (0 : Int32) M)))
set_option maxHeartbeats 4000000 in
set_option maxRecDepth 10000 in
theorem w5_within {ad : Nat → Nat} {X : XX} {R : Mem × Int32} {fu : Nat} (h : Cx layM ad X cX5_within RX5 7 5 (some .int) (R.1) (some (.int R.2))) {x1 : Int32} {M : Mem} (hF : f5_within fu x1 M = some R) : Wp layM ad X M 0 [(0, .ref (ad 0)), (1, .int x1)] [] := by
  unfold f5_within at hF
  refine R_iload_n (pc := 0) h 1 rfl rfl dX5_within_0 ?_
  refine R_i2l (pc := 1) h dX5_within_1 ?_
  refine R_lconst (pc := 2) (v := 0) h (by decide) dX5_within_2 ?_
  refine R_ldc2 (pc := 3) h klX5_206 dX5_within_3 ?_
  obtain ⟨r2, hc1, hF⟩ := bd hF
  refine R_callS (pc := 6) (st := []) h [.long x1.toInt64, .long (0 : Int64), .long (20 : Int64)] csX5_71 (c5_in (ad := ad) (z := X.1) (M := M) hc1) rfl rfl (by decide) (by decide) (Nat.le_of_ble_eq_true rfl) dX5_within_6 (st1 := [.int r2]) rfl ?_
  refine R_if_ne (pc := 9) (tgt := 14) h dX5_within_9 (by decide) (fun c3 => ?_) (fun c3 => ?_)
  · have hF := ifn c3 hF
    refine R_aload_n (pc := 14) h 0 rfl rfl dX5_within_14 ?_
    refine R_getI (pc := 15) h flX5_130 lm_0 rfl dX5_within_15 ?_
    refine R_if_ne (pc := 18) (tgt := 24) h dX5_within_18 (by decide) (fun c4 => ?_) (fun c4 => ?_)
    · have hF := ifn c4 hF
      refine R_aload_n (pc := 24) h 0 rfl rfl dX5_within_24 ?_
      refine R_bipush (pc := 25) (v := (-9)) h (by decide) dX5_within_25 ?_
      obtain ⟨r6, hc5, hF⟩ := bd hF
      refine R_callV (pc := 27) (st := []) h [.int (-9 : Int32)] cvX5_170 (c5_those (ad := ad) (z := X.1) hc5) rfl rfl lm_0 (by decide) (by decide) (Nat.le_of_ble_eq_true rfl) dX5_within_27 (st1 := [.int r6]) rfl ?_
      refine R_istore_n (pc := 30) (lv' := [(2, .int r6), (0, .ref (ad 0)), (1, .int x1)]) h rfl rfl (by decide) rfl dX5_within_30 ?_
      refine R_aload_n (pc := 31) h 1 rfl rfl dX5_within_31 ?_
      refine R_aload_n (pc := 32) h 1 rfl rfl dX5_within_32 ?_
      refine R_iconst (pc := 33) (v := (-1)) h (by decide) dX5_within_33 ?_
      obtain ⟨r8, hc7, hF⟩ := bd hF
      refine R_callV (pc := 34) (st := [.ref (ad 0)]) h [.int (-1 : Int32)] cvX5_170 (c5_those (ad := ad) (z := X.1) hc7) rfl rfl lm_0 (by decide) (by decide) (Nat.le_of_ble_eq_true rfl) dX5_within_34 (st1 := [.int r8, .ref (ad 0)]) rfl ?_
      refine R_iconst (pc := 37) (v := 0) h (by decide) dX5_within_37 ?_
      obtain ⟨r10, hc9, hF⟩ := bd hF
      refine R_callV (pc := 38) (st := []) h [.int r8, .int (0 : Int32)] cvX5_149 (c5_hoursAll (ad := ad) (z := X.1) hc9) rfl rfl lm_0 (by decide) (by decide) (Nat.le_of_ble_eq_true rfl) dX5_within_38 (st1 := [.int r10]) rfl ?_
      refine R_istore_n (pc := 41) (lv' := [(3, .int r10), (2, .int r6), (0, .ref (ad 0)), (1, .int x1)]) h rfl rfl (by decide) rfl dX5_within_41 ?_
      refine R_iconst (pc := 42) (v := 0) h (by decide) dX5_within_42 ?_
      refine R_istore (pc := 43) (lv' := [(4, .int (0 : Int32)), (3, .int r10), (2, .int r6), (0, .ref (ad 0)), (1, .int x1)]) h rfl (by decide) rfl dX5_within_43 ?_
      refine R_iconst (pc := 45) (v := 0) h (by decide) dX5_within_45 ?_
      refine R_istore (pc := 46) (lv' := [(5, .int (0 : Int32)), (4, .int (0 : Int32)), (3, .int r10), (2, .int r6), (0, .ref (ad 0)), (1, .int x1)]) h rfl (by decide) rfl dX5_within_46 ?_
      exact Wp_sub (nX := 0) (lv' := [(0, .ref (ad 0)), (1, .int x1), (2, .int r6), (3, .int r10), (4, .int (0 : Int32)), (5, .int (0 : Int32))]) [4, 5, 3, 2, 1, 0] rfl (w5_within_48 h  (hF := hF))
    · have hF := itp c4 hF
      refine R_bipush (pc := 21) (v := (-4)) h (by decide) dX5_within_21 ?_
      cases hF
      exact R_ireturn (pc := 23) h rfl rfl rfl dX5_within_23
  · have hF := itp c3 hF
    refine R_iconst (pc := 12) (v := (-1)) h (by decide) dX5_within_12 ?_
    cases hF
    exact R_ireturn (pc := 13) h rfl rfl rfl dX5_within_13
theorem c5_within {ad : Nat → Nat} {z : ZZ} {R : Mem × Int32} {fu : Nat} {x1 : Int32} {M : Mem} (hF : f5_within fu x1 M = some R) : Con layM ad z yX5_within cX5_within 7 (some .int) 5 M [.ref (ad 0), .int x1] (R.1) (some (.int R.2)) := con_of (own := RX5) (lv := [(0, .ref (ad 0)), (1, .int x1)]) (by decide +kernel) rfl (Nat.le_of_ble_eq_true rfl) rfl (fun X hz h => w5_within h hF)
def f5_whose_118 (fu : Nat) (k58 : Int32 → Int32 → Int32 → Int32 → Mem → Option (Mem × Int32)) (x1 : Int32) (x3 : Int32) (x4 : Int32) (x5 : Int32) (s0 : Int32) (s1 : Int32) (M : Mem) : Option (Mem × Int32) :=
    nm (s1 ||| s0) fun v1 =>
    if x5 = 0 then (nm (x3 ||| ((1 : Int32) <<< (x4 &&& 31))) fun v3 =>
    nm (x4 + (1 : Int32)) fun v4 =>
    (k58 x1 v1 v3 v4 M))
    else (nm (x3 ||| (0 : Int32)) fun v5 =>
    nm (x4 + (1 : Int32)) fun v6 =>
    (k58 x1 v1 v5 v6 M))
set_option maxHeartbeats 4000000 in
set_option maxRecDepth 10000 in
theorem w5_whose_118 {ad : Nat → Nat} {X : XX} {R : Mem × Int32} {fu : Nat} {k58 : Int32 → Int32 → Int32 → Int32 → Mem → Option (Mem × Int32)} (h : Cx layM ad X cX5_whose RX5 9 3 (some .int) (R.1) (some (.int R.2))) (hk58 : ∀ (x1 : Int32) (x2 : Int32) (x3 : Int32) (x4 : Int32) (M : Mem), k58 x1 x2 x3 x4 M = some R → Wp layM ad X M 58 [(0, .ref (ad 0)), (1, .int x1), (2, .int x2), (3, .int x3), (4, .int x4)] []) {x1 : Int32} {x3 : Int32} {x4 : Int32} {x5 : Int32} {s0 : Int32} {s1 : Int32} {M : Mem} (hF : f5_whose_118 fu k58 x1 x3 x4 x5 s0 s1 M = some R) : Wp layM ad X M 118 [(0, .ref (ad 0)), (1, .int x1), (3, .int x3), (4, .int x4), (5, .int x5)] [.int s0, .int s1] := by
  unfold f5_whose_118 at hF
  refine R_ior (pc := 118) h dX5_whose_118 ?_
  obtain ⟨v1, hv1, hF⟩ := nm_e2 hF
  refine R_istore_n (pc := 119) (lv' := [(2, .int v1), (0, .ref (ad 0)), (1, .int x1), (3, .int x3), (4, .int x4), (5, .int x5)]) h hv1 rfl (by decide) rfl dX5_whose_119 ?_
  refine R_iload_n (pc := 120) h 3 rfl rfl dX5_whose_120 ?_
  refine R_iload (pc := 121) h 5 rfl dX5_whose_121 ?_
  refine R_if_ne (pc := 123) (tgt := 133) h dX5_whose_123 (by decide) (fun c2 => ?_) (fun c2 => ?_)
  · have hF := ifn c2 hF
    refine R_iconst (pc := 133) (v := 0) h (by decide) dX5_whose_133 ?_
    refine R_ior (pc := 134) h dX5_whose_134 ?_
    obtain ⟨v5, hv5, hF⟩ := nm_e2 hF
    refine R_istore_n (pc := 135) (lv' := [(3, .int v5), (2, .int v1), (0, .ref (ad 0)), (1, .int x1), (4, .int x4), (5, .int x5)]) h hv5 rfl (by decide) rfl dX5_whose_135 ?_
    obtain ⟨v6, hv6, hF⟩ := nm_e2 hF
    refine R_iinc (pc := 136) (lv' := [(4, .int v6), (3, .int v5), (2, .int v1), (0, .ref (ad 0)), (1, .int x1), (5, .int x5)]) h 4 rfl (by decide) hv6 (by decide) rfl dX5_whose_136 ?_
    refine R_goto (pc := 139) (tgt := 58) h dX5_whose_139 (by decide) ?_
    exact Wp_sub (nX := 0) (lv' := [(0, .ref (ad 0)), (1, .int x1), (2, .int v1), (3, .int v5), (4, .int v6)]) [3, 4, 2, 1, 0] rfl (hk58 _ _ _ _ _ hF)
  · have hF := itp c2 hF
    refine R_iconst (pc := 126) (v := 1) h (by decide) dX5_whose_126 ?_
    refine R_iload (pc := 127) h 4 rfl dX5_whose_127 ?_
    refine R_ishl (pc := 129) h dX5_whose_129 ?_
    refine R_goto (pc := 130) (tgt := 134) h dX5_whose_130 (by decide) ?_
    refine R_ior (pc := 134) h dX5_whose_134 ?_
    obtain ⟨v3, hv3, hF⟩ := nm_e2 hF
    refine R_istore_n (pc := 135) (lv' := [(3, .int v3), (2, .int v1), (0, .ref (ad 0)), (1, .int x1), (4, .int x4), (5, .int x5)]) h hv3 rfl (by decide) rfl dX5_whose_135 ?_
    obtain ⟨v4, hv4, hF⟩ := nm_e2 hF
    refine R_iinc (pc := 136) (lv' := [(4, .int v4), (3, .int v3), (2, .int v1), (0, .ref (ad 0)), (1, .int x1), (5, .int x5)]) h 4 rfl (by decide) hv4 (by decide) rfl dX5_whose_136 ?_
    refine R_goto (pc := 139) (tgt := 58) h dX5_whose_139 (by decide) ?_
    exact Wp_sub (nX := 0) (lv' := [(0, .ref (ad 0)), (1, .int x1), (2, .int v1), (3, .int v3), (4, .int v4)]) [3, 4, 2, 1, 0] rfl (hk58 _ _ _ _ _ hF)
def f5_whose_103 (fu : Nat) (k58 : Int32 → Int32 → Int32 → Int32 → Mem → Option (Mem × Int32)) (x1 : Int32) (x2 : Int32) (x3 : Int32) (x4 : Int32) (x5 : Int32) (M : Mem) : Option (Mem × Int32) :=
    if x5 = (1 : Int32) then ((f5_whose_118 fu k58 x1 x3 x4 x5 ((1 : Int32) <<< (x4 &&& 31)) x2 M))
    else ((f5_whose_118 fu k58 x1 x3 x4 x5 (0 : Int32) x2 M))
set_option maxHeartbeats 4000000 in
set_option maxRecDepth 10000 in
theorem w5_whose_103 {ad : Nat → Nat} {X : XX} {R : Mem × Int32} {fu : Nat} {k58 : Int32 → Int32 → Int32 → Int32 → Mem → Option (Mem × Int32)} (h : Cx layM ad X cX5_whose RX5 9 3 (some .int) (R.1) (some (.int R.2))) (hk58 : ∀ (x1 : Int32) (x2 : Int32) (x3 : Int32) (x4 : Int32) (M : Mem), k58 x1 x2 x3 x4 M = some R → Wp layM ad X M 58 [(0, .ref (ad 0)), (1, .int x1), (2, .int x2), (3, .int x3), (4, .int x4)] []) {x1 : Int32} {x2 : Int32} {x3 : Int32} {x4 : Int32} {x5 : Int32} {M : Mem} (hF : f5_whose_103 fu k58 x1 x2 x3 x4 x5 M = some R) : Wp layM ad X M 103 [(0, .ref (ad 0)), (1, .int x1), (2, .int x2), (3, .int x3), (4, .int x4), (5, .int x5)] [] := by
  unfold f5_whose_103 at hF
  refine R_iload_n (pc := 103) h 2 rfl rfl dX5_whose_103 ?_
  refine R_iload (pc := 104) h 5 rfl dX5_whose_104 ?_
  refine R_iconst (pc := 106) (v := 1) h (by decide) dX5_whose_106 ?_
  refine R_icmp_ne (pc := 107) (tgt := 117) h dX5_whose_107 (by decide) (fun c1 => ?_) (fun c1 => ?_)
  · have hF := ifn c1 hF
    refine R_iconst (pc := 117) (v := 0) h (by decide) dX5_whose_117 ?_
    exact Wp_sub (nX := 0) (lv' := [(0, .ref (ad 0)), (1, .int x1), (3, .int x3), (4, .int x4), (5, .int x5)]) [0, 1, 3, 4, 5] rfl (w5_whose_118 h (hk58 := hk58) (hF := hF))
  · have hF := itp c1 hF
    refine R_iconst (pc := 110) (v := 1) h (by decide) dX5_whose_110 ?_
    refine R_iload (pc := 111) h 4 rfl dX5_whose_111 ?_
    refine R_ishl (pc := 113) h dX5_whose_113 ?_
    refine R_goto (pc := 114) (tgt := 118) h dX5_whose_114 (by decide) ?_
    exact Wp_sub (nX := 0) (lv' := [(0, .ref (ad 0)), (1, .int x1), (3, .int x3), (4, .int x4), (5, .int x5)]) [0, 1, 3, 4, 5] rfl (w5_whose_118 h (hk58 := hk58) (hF := hF))
def f5_whose_160 (fu : Nat) : Nat → Int32 → Int32 → Int32 → Int32 → Int32 → Int32 → Mem → Option (Mem × Int32)
  | 0 => fun _ _ _ _ _ _ _ => none
  | f + 1 => fun x2 x3 x4 x5 x6 x7 M =>
    if ((1 : Int32) <<< ((M.1 0 9) &&& 31)) ≤ x7 then (if x5 = 0 then ((some (M, (-9 : Int32))))
    else ((f5_answer x5 x6 M).bind fun ⟨M4, r5⟩ =>
    (some (M4, r5))))
    else ((f5_hoursAll M fu x7 (0 : Int32)).bind fun r7 =>
    if (x7 &&& x4) = 0 then (if (r7 &&& x2) = x2 then (if (r7 &&& x3) = 0 then (nm (x5 + (1 : Int32)) fun v11 =>
    if x6 = (-9 : Int32) then (nm (x7 + (1 : Int32)) fun v13 =>
    ((f5_whose_160 fu f) x2 x3 x4 v11 x7 v13 M))
    else (nm (x7 + (1 : Int32)) fun v14 =>
    ((f5_whose_160 fu f) x2 x3 x4 v11 x6 v14 M)))
    else (nm (x7 + (1 : Int32)) fun v15 =>
    ((f5_whose_160 fu f) x2 x3 x4 x5 x6 v15 M)))
    else (nm (x7 + (1 : Int32)) fun v16 =>
    ((f5_whose_160 fu f) x2 x3 x4 x5 x6 v16 M)))
    else (nm (x7 + (1 : Int32)) fun v17 =>
    ((f5_whose_160 fu f) x2 x3 x4 x5 x6 v17 M)))
set_option maxHeartbeats 4000000 in
set_option maxRecDepth 10000 in
theorem w5_whosei_160 {ad : Nat → Nat} {X : XX} {R : Mem × Int32} {fu : Nat}  (h : Cx layM ad X cX5_whose RX5 9 3 (some .int) (R.1) (some (.int R.2)))  : ∀ (f : Nat) (x2 : Int32) (x3 : Int32) (x4 : Int32) (x5 : Int32) (x6 : Int32) (x7 : Int32) (M : Mem), f5_whose_160 fu f x2 x3 x4 x5 x6 x7 M = some R → Wp layM ad X M 160 [(0, .ref (ad 0)), (2, .int x2), (3, .int x3), (4, .int x4), (5, .int x5), (6, .int x6), (7, .int x7)] [] := by
  intro f
  induction f with
  | zero => intro x2 x3 x4 x5 x6 x7 M hF; exact absurd hF (by simp [f5_whose_160])
  | succ f ih =>
    intro x2 x3 x4 x5 x6 x7 M hF
    rw [f5_whose_160] at hF
    refine R_iload (pc := 160) h 6 rfl dX5_whose_160 ?_
    refine R_iconst (pc := 162) (v := 1) h (by decide) dX5_whose_162 ?_
    refine R_aload_n (pc := 163) h 0 rfl rfl dX5_whose_163 ?_
    refine R_getI (pc := 164) h flX5_130 lm_0 rfl dX5_whose_164 ?_
    refine R_ishl (pc := 167) h dX5_whose_167 ?_
    refine R_icmp_ge (pc := 168) (tgt := 228) h dX5_whose_168 (by decide) (fun c1 => ?_) (fun c1 => ?_)
    · have hF := itp c1 hF
      refine R_iload (pc := 228) h 4 rfl dX5_whose_228 ?_
      refine R_if_ne (pc := 230) (tgt := 238) h dX5_whose_230 (by decide) (fun c2 => ?_) (fun c2 => ?_)
      · have hF := ifn c2 hF
        refine R_aload_n (pc := 238) h 0 rfl rfl dX5_whose_238 ?_
        refine R_iload (pc := 239) h 4 rfl dX5_whose_239 ?_
        refine R_iload (pc := 241) h 5 rfl dX5_whose_241 ?_
        obtain ⟨⟨M4, r5⟩, hc3, hF⟩ := bd hF
        refine R_callV (pc := 243) (st := []) h [.int x5, .int x6] cvX5_181 (c5_answer (ad := ad) (z := X.1) hc3) rfl rfl lm_0 (by decide) (by decide) (Nat.le_of_ble_eq_true rfl) dX5_whose_243 (st1 := [.int r5]) rfl ?_
        cases hF
        exact R_ireturn (pc := 246) h rfl rfl rfl dX5_whose_246
      · have hF := itp c2 hF
        refine R_bipush (pc := 233) (v := (-9)) h (by decide) dX5_whose_233 ?_
        refine R_goto (pc := 235) (tgt := 246) h dX5_whose_235 (by decide) ?_
        cases hF
        exact R_ireturn (pc := 246) h rfl rfl rfl dX5_whose_246
    · have hF := ifn c1 hF
      refine R_aload_n (pc := 171) h 0 rfl rfl dX5_whose_171 ?_
      refine R_iload (pc := 172) h 6 rfl dX5_whose_172 ?_
      refine R_iconst (pc := 174) (v := 0) h (by decide) dX5_whose_174 ?_
      obtain ⟨r7, hc6, hF⟩ := bd hF
      refine R_callV (pc := 175) (st := []) h [.int x7, .int (0 : Int32)] cvX5_149 (c5_hoursAll (ad := ad) (z := X.1) hc6) rfl rfl lm_0 (by decide) (by decide) (Nat.le_of_ble_eq_true rfl) dX5_whose_175 (st1 := [.int r7]) rfl ?_
      refine R_istore (pc := 178) (lv' := [(8, .int r7), (0, .ref (ad 0)), (2, .int x2), (3, .int x3), (4, .int x4), (5, .int x5), (6, .int x6), (7, .int x7)]) h rfl (by decide) rfl dX5_whose_178 ?_
      refine R_iload (pc := 180) h 7 rfl dX5_whose_180 ?_
      refine R_iload (pc := 182) h 4 rfl dX5_whose_182 ?_
      refine R_iand (pc := 184) h dX5_whose_184 ?_
      refine R_if_ne (pc := 185) (tgt := 222) h dX5_whose_185 (by decide) (fun c8 => ?_) (fun c8 => ?_)
      · have hF := ifn c8 hF
        obtain ⟨v17, hv17, hF⟩ := nm_e2 hF
        refine R_iinc (pc := 222) (lv' := [(7, .int v17), (8, .int r7), (0, .ref (ad 0)), (2, .int x2), (3, .int x3), (4, .int x4), (5, .int x5), (6, .int x6)]) h 7 rfl (by decide) hv17 (by decide) rfl dX5_whose_222 ?_
        refine R_goto (pc := 225) (tgt := 160) h dX5_whose_225 (by decide) ?_
        exact Wp_sub (nX := 0) (lv' := [(0, .ref (ad 0)), (2, .int x2), (3, .int x3), (4, .int x4), (5, .int x5), (6, .int x6), (7, .int v17)]) [2, 3, 4, 5, 6, 7, 0] rfl (ih _ _ _ _ _ _ _ hF)
      · have hF := itp c8 hF
        refine R_iload (pc := 188) h 0 rfl dX5_whose_188 ?_
        refine R_iload_n (pc := 190) h 2 rfl rfl dX5_whose_190 ?_
        refine R_iand (pc := 191) h dX5_whose_191 ?_
        refine R_iload_n (pc := 192) h 2 rfl rfl dX5_whose_192 ?_
        refine R_icmp_ne (pc := 193) (tgt := 222) h dX5_whose_193 (by decide) (fun c9 => ?_) (fun c9 => ?_)
        · have hF := ifn c9 hF
          obtain ⟨v16, hv16, hF⟩ := nm_e2 hF
          refine R_iinc (pc := 222) (lv' := [(7, .int v16), (8, .int r7), (0, .ref (ad 0)), (2, .int x2), (3, .int x3), (4, .int x4), (5, .int x5), (6, .int x6)]) h 7 rfl (by decide) hv16 (by decide) rfl dX5_whose_222 ?_
          refine R_goto (pc := 225) (tgt := 160) h dX5_whose_225 (by decide) ?_
          exact Wp_sub (nX := 0) (lv' := [(0, .ref (ad 0)), (2, .int x2), (3, .int x3), (4, .int x4), (5, .int x5), (6, .int x6), (7, .int v16)]) [2, 3, 4, 5, 6, 7, 0] rfl (ih _ _ _ _ _ _ _ hF)
        · have hF := itp c9 hF
          refine R_iload (pc := 196) h 0 rfl dX5_whose_196 ?_
          refine R_iload_n (pc := 198) h 3 rfl rfl dX5_whose_198 ?_
          refine R_iand (pc := 199) h dX5_whose_199 ?_
          refine R_if_ne (pc := 200) (tgt := 222) h dX5_whose_200 (by decide) (fun c10 => ?_) (fun c10 => ?_)
          · have hF := ifn c10 hF
            obtain ⟨v15, hv15, hF⟩ := nm_e2 hF
            refine R_iinc (pc := 222) (lv' := [(7, .int v15), (8, .int r7), (0, .ref (ad 0)), (2, .int x2), (3, .int x3), (4, .int x4), (5, .int x5), (6, .int x6)]) h 7 rfl (by decide) hv15 (by decide) rfl dX5_whose_222 ?_
            refine R_goto (pc := 225) (tgt := 160) h dX5_whose_225 (by decide) ?_
            exact Wp_sub (nX := 0) (lv' := [(0, .ref (ad 0)), (2, .int x2), (3, .int x3), (4, .int x4), (5, .int x5), (6, .int x6), (7, .int v15)]) [2, 3, 4, 5, 6, 7, 0] rfl (ih _ _ _ _ _ _ _ hF)
          · have hF := itp c10 hF
            obtain ⟨v11, hv11, hF⟩ := nm_e2 hF
            refine R_iinc (pc := 203) (lv' := [(5, .int v11), (8, .int r7), (0, .ref (ad 0)), (2, .int x2), (3, .int x3), (4, .int x4), (6, .int x6), (7, .int x7)]) h 5 rfl (by decide) hv11 (by decide) rfl dX5_whose_203 ?_
            refine R_iload (pc := 206) h 6 rfl dX5_whose_206 ?_
            refine R_bipush (pc := 208) (v := (-9)) h (by decide) dX5_whose_208 ?_
            refine R_icmp_ne (pc := 210) (tgt := 218) h dX5_whose_210 (by decide) (fun c12 => ?_) (fun c12 => ?_)
            · have hF := ifn c12 hF
              refine R_iload (pc := 218) h 6 rfl dX5_whose_218 ?_
              refine R_istore (pc := 220) (lv' := [(6, .int x6), (5, .int v11), (8, .int r7), (0, .ref (ad 0)), (2, .int x2), (3, .int x3), (4, .int x4), (7, .int x7)]) h rfl (by decide) rfl dX5_whose_220 ?_
              obtain ⟨v14, hv14, hF⟩ := nm_e2 hF
              refine R_iinc (pc := 222) (lv' := [(7, .int v14), (6, .int x6), (5, .int v11), (8, .int r7), (0, .ref (ad 0)), (2, .int x2), (3, .int x3), (4, .int x4)]) h 7 rfl (by decide) hv14 (by decide) rfl dX5_whose_222 ?_
              refine R_goto (pc := 225) (tgt := 160) h dX5_whose_225 (by decide) ?_
              exact Wp_sub (nX := 0) (lv' := [(0, .ref (ad 0)), (2, .int x2), (3, .int x3), (4, .int x4), (5, .int v11), (6, .int x6), (7, .int v14)]) [4, 5, 6, 7, 2, 1, 0] rfl (ih _ _ _ _ _ _ _ hF)
            · have hF := itp c12 hF
              refine R_iload (pc := 213) h 7 rfl dX5_whose_213 ?_
              refine R_goto (pc := 215) (tgt := 220) h dX5_whose_215 (by decide) ?_
              refine R_istore (pc := 220) (lv' := [(6, .int x7), (5, .int v11), (8, .int r7), (0, .ref (ad 0)), (2, .int x2), (3, .int x3), (4, .int x4), (7, .int x7)]) h rfl (by decide) rfl dX5_whose_220 ?_
              obtain ⟨v13, hv13, hF⟩ := nm_e2 hF
              refine R_iinc (pc := 222) (lv' := [(7, .int v13), (6, .int x7), (5, .int v11), (8, .int r7), (0, .ref (ad 0)), (2, .int x2), (3, .int x3), (4, .int x4)]) h 7 rfl (by decide) hv13 (by decide) rfl dX5_whose_222 ?_
              refine R_goto (pc := 225) (tgt := 160) h dX5_whose_225 (by decide) ?_
              exact Wp_sub (nX := 0) (lv' := [(0, .ref (ad 0)), (2, .int x2), (3, .int x3), (4, .int x4), (5, .int v11), (6, .int x7), (7, .int v13)]) [4, 5, 6, 7, 2, 1, 0] rfl (ih _ _ _ _ _ _ _ hF)
theorem w5_whose_160 {ad : Nat → Nat} {X : XX} {R : Mem × Int32} {fu : Nat}  (h : Cx layM ad X cX5_whose RX5 9 3 (some .int) (R.1) (some (.int R.2)))  {f : Nat} {x2 : Int32} {x3 : Int32} {x4 : Int32} {x5 : Int32} {x6 : Int32} {x7 : Int32} {M : Mem} (hF : f5_whose_160 fu f x2 x3 x4 x5 x6 x7 M = some R) : Wp layM ad X M 160 [(0, .ref (ad 0)), (2, .int x2), (3, .int x3), (4, .int x4), (5, .int x5), (6, .int x6), (7, .int x7)] [] := w5_whosei_160 h  f _ _ _ _ _ _ _ hF
def f5_whose_58 (fu : Nat) : Nat → Int32 → Int32 → Int32 → Int32 → Mem → Option (Mem × Int32)
  | 0 => fun _ _ _ _ _ => none
  | f + 1 => fun x1 x2 x3 x4 M =>
    if (13 : Int32) ≤ x4 then ((f5_those M fu (-2 : Int32)).bind fun r3 =>
    (f5_whose_160 fu fu x2 x3 r3 (0 : Int32) (-9 : Int32) (0 : Int32) M))
    else ((rd M 1 240 (((40 : Int32) * x1) + x4)).bind fun v4 =>
    if v4 = 0 then ((f5_whose_103 fu (f5_whose_58 fu f) x1 x2 x3 x4 v4 M))
    else (if v4 = (1 : Int32) then ((f5_whose_103 fu (f5_whose_58 fu f) x1 x2 x3 x4 v4 M))
    else (if v4 = (-9 : Int32) then ((f5_whose_103 fu (f5_whose_58 fu f) x1 x2 x3 x4 v4 M))
    else ((f5_found (3 : Int32) M).bind fun ⟨M9, r10⟩ =>
    (some (M9, r10))))))
set_option maxHeartbeats 4000000 in
set_option maxRecDepth 10000 in
theorem w5_whosei_58 {ad : Nat → Nat} {X : XX} {R : Mem × Int32} {fu : Nat}  (h : Cx layM ad X cX5_whose RX5 9 3 (some .int) (R.1) (some (.int R.2)))  : ∀ (f : Nat) (x1 : Int32) (x2 : Int32) (x3 : Int32) (x4 : Int32) (M : Mem), f5_whose_58 fu f x1 x2 x3 x4 M = some R → Wp layM ad X M 58 [(0, .ref (ad 0)), (1, .int x1), (2, .int x2), (3, .int x3), (4, .int x4)] [] := by
  intro f
  induction f with
  | zero => intro x1 x2 x3 x4 M hF; exact absurd hF (by simp [f5_whose_58])
  | succ f ih =>
    intro x1 x2 x3 x4 M hF
    rw [f5_whose_58] at hF
    refine R_iload (pc := 58) h 4 rfl dX5_whose_58 ?_
    refine R_bipush (pc := 60) (v := 13) h (by decide) dX5_whose_60 ?_
    refine R_icmp_ge (pc := 62) (tgt := 142) h dX5_whose_62 (by decide) (fun c1 => ?_) (fun c1 => ?_)
    · have hF := itp c1 hF
      refine R_aload_n (pc := 142) h 0 rfl rfl dX5_whose_142 ?_
      refine R_bipush (pc := 143) (v := (-2)) h (by decide) dX5_whose_143 ?_
      obtain ⟨r3, hc2, hF⟩ := bd hF
      refine R_callV (pc := 145) (st := []) h [.int (-2 : Int32)] cvX5_170 (c5_those (ad := ad) (z := X.1) hc2) rfl rfl lm_0 (by decide) (by decide) (Nat.le_of_ble_eq_true rfl) dX5_whose_145 (st1 := [.int r3]) rfl ?_
      refine R_istore (pc := 148) (lv' := [(4, .int r3), (0, .ref (ad 0)), (1, .int x1), (2, .int x2), (3, .int x3)]) h rfl (by decide) rfl dX5_whose_148 ?_
      refine R_iconst (pc := 150) (v := 0) h (by decide) dX5_whose_150 ?_
      refine R_istore (pc := 151) (lv' := [(5, .int (0 : Int32)), (4, .int r3), (0, .ref (ad 0)), (1, .int x1), (2, .int x2), (3, .int x3)]) h rfl (by decide) rfl dX5_whose_151 ?_
      refine R_bipush (pc := 153) (v := (-9)) h (by decide) dX5_whose_153 ?_
      refine R_istore (pc := 155) (lv' := [(6, .int (-9 : Int32)), (5, .int (0 : Int32)), (4, .int r3), (0, .ref (ad 0)), (1, .int x1), (2, .int x2), (3, .int x3)]) h rfl (by decide) rfl dX5_whose_155 ?_
      refine R_iconst (pc := 157) (v := 0) h (by decide) dX5_whose_157 ?_
      refine R_istore (pc := 158) (lv' := [(7, .int (0 : Int32)), (6, .int (-9 : Int32)), (5, .int (0 : Int32)), (4, .int r3), (0, .ref (ad 0)), (1, .int x1), (2, .int x2), (3, .int x3)]) h rfl (by decide) rfl dX5_whose_158 ?_
      exact Wp_sub (nX := 0) (lv' := [(0, .ref (ad 0)), (2, .int x2), (3, .int x3), (4, .int r3), (5, .int (0 : Int32)), (6, .int (-9 : Int32)), (7, .int (0 : Int32))]) [4, 6, 7, 3, 2, 1, 0] rfl (w5_whose_160 h  (hF := hF))
    · have hF := ifn c1 hF
      refine R_aload_n (pc := 65) h 0 rfl rfl dX5_whose_65 ?_
      refine R_getR (pc := 66) (q1 := 1) h flX5_7 lm_0 rfl dX5_whose_66 ?_
      refine R_bipush (pc := 69) (v := 40) h (by decide) dX5_whose_69 ?_
      refine R_iload_n (pc := 71) h 1 rfl rfl dX5_whose_71 ?_
      refine R_imul (pc := 72) h dX5_whose_72 ?_
      refine R_iload (pc := 73) h 4 rfl dX5_whose_73 ?_
      refine R_iadd (pc := 75) h dX5_whose_75 ?_
      obtain ⟨v4, hv4, hF⟩ := bd hF
      refine R_iald (pc := 76) h hv4 lm_1 dX5_whose_76 ?_
      refine R_istore (pc := 77) (lv' := [(5, .int v4), (0, .ref (ad 0)), (1, .int x1), (2, .int x2), (3, .int x3), (4, .int x4)]) h rfl (by decide) rfl dX5_whose_77 ?_
      refine R_iload (pc := 79) h 0 rfl dX5_whose_79 ?_
      refine R_if_eq (pc := 81) (tgt := 103) h dX5_whose_81 (by decide) (fun c5 => ?_) (fun c5 => ?_)
      · have hF := itp c5 hF
        exact Wp_sub (nX := 0) (lv' := [(0, .ref (ad 0)), (1, .int x1), (2, .int x2), (3, .int x3), (4, .int x4), (5, .int v4)]) [1, 2, 3, 4, 5, 0] rfl (w5_whose_103 h (hk58 := fun a0 a1 a2 a3 a4 hF => ih a0 a1 a2 a3 a4 hF) (hF := hF))
      · have hF := ifn c5 hF
        refine R_iload (pc := 84) h 0 rfl dX5_whose_84 ?_
        refine R_iconst (pc := 86) (v := 1) h (by decide) dX5_whose_86 ?_
        refine R_icmp_eq (pc := 87) (tgt := 103) h dX5_whose_87 (by decide) (fun c6 => ?_) (fun c6 => ?_)
        · have hF := itp c6 hF
          exact Wp_sub (nX := 0) (lv' := [(0, .ref (ad 0)), (1, .int x1), (2, .int x2), (3, .int x3), (4, .int x4), (5, .int v4)]) [1, 2, 3, 4, 5, 0] rfl (w5_whose_103 h (hk58 := fun a0 a1 a2 a3 a4 hF => ih a0 a1 a2 a3 a4 hF) (hF := hF))
        · have hF := ifn c6 hF
          refine R_iload (pc := 90) h 0 rfl dX5_whose_90 ?_
          refine R_bipush (pc := 92) (v := (-9)) h (by decide) dX5_whose_92 ?_
          refine R_icmp_eq (pc := 94) (tgt := 103) h dX5_whose_94 (by decide) (fun c7 => ?_) (fun c7 => ?_)
          · have hF := itp c7 hF
            exact Wp_sub (nX := 0) (lv' := [(0, .ref (ad 0)), (1, .int x1), (2, .int x2), (3, .int x3), (4, .int x4), (5, .int v4)]) [1, 2, 3, 4, 5, 0] rfl (w5_whose_103 h (hk58 := fun a0 a1 a2 a3 a4 hF => ih a0 a1 a2 a3 a4 hF) (hF := hF))
          · have hF := ifn c7 hF
            refine R_aload_n (pc := 97) h 1 rfl rfl dX5_whose_97 ?_
            refine R_iconst (pc := 98) (v := 3) h (by decide) dX5_whose_98 ?_
            obtain ⟨⟨M9, r10⟩, hc8, hF⟩ := bd hF
            refine R_callV (pc := 99) (st := []) h [.int (3 : Int32)] cvX5_81 (c5_found (ad := ad) (z := X.1) hc8) rfl rfl lm_0 (by decide) (by decide) (Nat.le_of_ble_eq_true rfl) dX5_whose_99 (st1 := [.int r10]) rfl ?_
            cases hF
            exact R_ireturn (pc := 102) h rfl rfl rfl dX5_whose_102
theorem w5_whose_58 {ad : Nat → Nat} {X : XX} {R : Mem × Int32} {fu : Nat}  (h : Cx layM ad X cX5_whose RX5 9 3 (some .int) (R.1) (some (.int R.2)))  {f : Nat} {x1 : Int32} {x2 : Int32} {x3 : Int32} {x4 : Int32} {M : Mem} (hF : f5_whose_58 fu f x1 x2 x3 x4 M = some R) : Wp layM ad X M 58 [(0, .ref (ad 0)), (1, .int x1), (2, .int x2), (3, .int x3), (4, .int x4)] [] := w5_whosei_58 h  f _ _ _ _ _ hF
def f5_whose (fu : Nat) (x1 : Int32) (M : Mem) : Option (Mem × Int32) :=
    (f5_isRow x1).bind fun r2 =>
    if r2 = 0 then ((some (M, (-1 : Int32))))
    else (if (M.1 0 9) = 0 then ((some (M, (-4 : Int32))))
    else ((rd M 2 6 x1).bind fun v5 =>
    if 0 ≤ v5 then ((rd M 2 6 x1).bind fun v7 =>
    if v7 = (13 : Int32) then ((f5_whose_58 fu fu x1 (0 : Int32) (0 : Int32) (0 : Int32) M))
    else ((f5_found (5 : Int32) M).bind fun ⟨M10, r11⟩ =>
    (some (M10, r11))))
    else ((f5_found (1 : Int32) M).bind fun ⟨M13, r14⟩ =>
    (some (M13, r14)))))
set_option maxHeartbeats 4000000 in
set_option maxRecDepth 10000 in
theorem w5_whose {ad : Nat → Nat} {X : XX} {R : Mem × Int32} {fu : Nat} (h : Cx layM ad X cX5_whose RX5 9 3 (some .int) (R.1) (some (.int R.2))) {x1 : Int32} {M : Mem} (hF : f5_whose fu x1 M = some R) : Wp layM ad X M 0 [(0, .ref (ad 0)), (1, .int x1)] [] := by
  unfold f5_whose at hF
  refine R_iload_n (pc := 0) h 1 rfl rfl dX5_whose_0 ?_
  obtain ⟨r2, hc1, hF⟩ := bd hF
  refine R_callS (pc := 1) (st := []) h [.int x1] csX5_77 (c5_isRow (ad := ad) (z := X.1) (M := M) hc1) rfl rfl (by decide) (by decide) (Nat.le_of_ble_eq_true rfl) dX5_whose_1 (st1 := [.int r2]) rfl ?_
  refine R_if_ne (pc := 4) (tgt := 9) h dX5_whose_4 (by decide) (fun c3 => ?_) (fun c3 => ?_)
  · have hF := ifn c3 hF
    refine R_aload_n (pc := 9) h 0 rfl rfl dX5_whose_9 ?_
    refine R_getI (pc := 10) h flX5_130 lm_0 rfl dX5_whose_10 ?_
    refine R_if_ne (pc := 13) (tgt := 19) h dX5_whose_13 (by decide) (fun c4 => ?_) (fun c4 => ?_)
    · have hF := ifn c4 hF
      refine R_aload_n (pc := 19) h 0 rfl rfl dX5_whose_19 ?_
      refine R_getR (pc := 20) (q1 := 2) h flX5_13 lm_0 rfl dX5_whose_20 ?_
      refine R_iload_n (pc := 23) h 1 rfl rfl dX5_whose_23 ?_
      obtain ⟨v5, hv5, hF⟩ := bd hF
      refine R_iald (pc := 24) h hv5 lm_2 dX5_whose_24 ?_
      refine R_if_ge (pc := 25) (tgt := 34) h dX5_whose_25 (by decide) (fun c6 => ?_) (fun c6 => ?_)
      · have hF := itp c6 hF
        refine R_aload_n (pc := 34) h 0 rfl rfl dX5_whose_34 ?_
        refine R_getR (pc := 35) (q1 := 2) h flX5_13 lm_0 rfl dX5_whose_35 ?_
        refine R_iload_n (pc := 38) h 1 rfl rfl dX5_whose_38 ?_
        obtain ⟨v7, hv7, hF⟩ := bd hF
        refine R_iald (pc := 39) h hv7 lm_2 dX5_whose_39 ?_
        refine R_bipush (pc := 40) (v := 13) h (by decide) dX5_whose_40 ?_
        refine R_icmp_eq (pc := 42) (tgt := 51) h dX5_whose_42 (by decide) (fun c8 => ?_) (fun c8 => ?_)
        · have hF := itp c8 hF
          refine R_iconst (pc := 51) (v := 0) h (by decide) dX5_whose_51 ?_
          refine R_istore_n (pc := 52) (lv' := [(2, .int (0 : Int32)), (0, .ref (ad 0)), (1, .int x1)]) h rfl rfl (by decide) rfl dX5_whose_52 ?_
          refine R_iconst (pc := 53) (v := 0) h (by decide) dX5_whose_53 ?_
          refine R_istore_n (pc := 54) (lv' := [(3, .int (0 : Int32)), (2, .int (0 : Int32)), (0, .ref (ad 0)), (1, .int x1)]) h rfl rfl (by decide) rfl dX5_whose_54 ?_
          refine R_iconst (pc := 55) (v := 0) h (by decide) dX5_whose_55 ?_
          refine R_istore (pc := 56) (lv' := [(4, .int (0 : Int32)), (3, .int (0 : Int32)), (2, .int (0 : Int32)), (0, .ref (ad 0)), (1, .int x1)]) h rfl (by decide) rfl dX5_whose_56 ?_
          exact Wp_sub (nX := 0) (lv' := [(0, .ref (ad 0)), (1, .int x1), (2, .int (0 : Int32)), (3, .int (0 : Int32)), (4, .int (0 : Int32))]) [3, 4, 2, 1, 0] rfl (w5_whose_58 h  (hF := hF))
        · have hF := ifn c8 hF
          refine R_aload_n (pc := 45) h 0 rfl rfl dX5_whose_45 ?_
          refine R_iconst (pc := 46) (v := 5) h (by decide) dX5_whose_46 ?_
          obtain ⟨⟨M10, r11⟩, hc9, hF⟩ := bd hF
          refine R_callV (pc := 47) (st := []) h [.int (5 : Int32)] cvX5_81 (c5_found (ad := ad) (z := X.1) hc9) rfl rfl lm_0 (by decide) (by decide) (Nat.le_of_ble_eq_true rfl) dX5_whose_47 (st1 := [.int r11]) rfl ?_
          cases hF
          exact R_ireturn (pc := 50) h rfl rfl rfl dX5_whose_50
      · have hF := ifn c6 hF
        refine R_aload_n (pc := 28) h 0 rfl rfl dX5_whose_28 ?_
        refine R_iconst (pc := 29) (v := 1) h (by decide) dX5_whose_29 ?_
        obtain ⟨⟨M13, r14⟩, hc12, hF⟩ := bd hF
        refine R_callV (pc := 30) (st := []) h [.int (1 : Int32)] cvX5_81 (c5_found (ad := ad) (z := X.1) hc12) rfl rfl lm_0 (by decide) (by decide) (Nat.le_of_ble_eq_true rfl) dX5_whose_30 (st1 := [.int r14]) rfl ?_
        cases hF
        exact R_ireturn (pc := 33) h rfl rfl rfl dX5_whose_33
    · have hF := itp c4 hF
      refine R_bipush (pc := 16) (v := (-4)) h (by decide) dX5_whose_16 ?_
      cases hF
      exact R_ireturn (pc := 18) h rfl rfl rfl dX5_whose_18
  · have hF := itp c3 hF
    refine R_iconst (pc := 7) (v := (-1)) h (by decide) dX5_whose_7 ?_
    cases hF
    exact R_ireturn (pc := 8) h rfl rfl rfl dX5_whose_8
theorem c5_whose {ad : Nat → Nat} {z : ZZ} {R : Mem × Int32} {fu : Nat} {x1 : Int32} {M : Mem} (hF : f5_whose fu x1 M = some R) : Con layM ad z yX5_whose cX5_whose 9 (some .int) 3 M [.ref (ad 0), .int x1] (R.1) (some (.int R.2)) := con_of (own := RX5) (lv := [(0, .ref (ad 0)), (1, .int x1)]) (by decide +kernel) rfl (Nat.le_of_ble_eq_true rfl) rfl (fun X hz h => w5_whose h hF)
def f5_refusesPairs_93 (fu : Nat) (M : Mem) : Option (Mem × Int32) :=
    (f5_found (3 : Int32) M).bind fun ⟨M2, r3⟩ =>
    (some (M2, r3))
set_option maxHeartbeats 4000000 in
set_option maxRecDepth 10000 in
theorem w5_refusesPairs_93 {ad : Nat → Nat} {X : XX} {R : Mem × Int32} {fu : Nat}  (h : Cx layM ad X cX5_refusesPairs RX5 3 2 (some .int) (R.1) (some (.int R.2)))  {M : Mem} (hF : f5_refusesPairs_93 fu M = some R) : Wp layM ad X M 93 [(0, .ref (ad 0))] [] := by
  unfold f5_refusesPairs_93 at hF
  refine R_aload_n (pc := 93) h 0 rfl rfl dX5_refusesPairs_93 ?_
  refine R_iconst (pc := 94) (v := 3) h (by decide) dX5_refusesPairs_94 ?_
  obtain ⟨⟨M2, r3⟩, hc1, hF⟩ := bd hF
  refine R_callV (pc := 95) (st := []) h [.int (3 : Int32)] cvX5_81 (c5_found (ad := ad) (z := X.1) hc1) rfl rfl lm_0 (by decide) (by decide) (Nat.le_of_ble_eq_true rfl) dX5_refusesPairs_95 (st1 := [.int r3]) rfl ?_
  cases hF
  exact R_ireturn (pc := 98) h rfl rfl rfl dX5_refusesPairs_98
def f5_refusesPairs_35 (fu : Nat) : Nat → Int32 → Int32 → Mem → Option (Mem × Int32)
  | 0 => fun _ _ _ => none
  | f + 1 => fun x1 x2 M =>
    (rd M 2 6 x1).bind fun v1 =>
    if v1 ≤ x2 then ((some (M, (0 : Int32))))
    else ((rd M 1 240 (((40 : Int32) * x1) + x2)).bind fun v3 =>
    (f5_in v3.toInt64 (0 : Int64) (9 : Int64)).bind fun r5 =>
    if r5 = 0 then ((f5_refusesPairs_93 fu M))
    else ((rd M 1 240 ((((40 : Int32) * x1) + x2) + (1 : Int32))).bind fun v7 =>
    (f5_in v7.toInt64 (-20 : Int64) (60 : Int64)).bind fun r9 =>
    if r9 = 0 then ((f5_refusesPairs_93 fu M))
    else (nm (x2 + (2 : Int32)) fun v11 =>
    ((f5_refusesPairs_35 fu f) x1 v11 M))))
set_option maxHeartbeats 4000000 in
set_option maxRecDepth 10000 in
theorem w5_refusesPairsi_35 {ad : Nat → Nat} {X : XX} {R : Mem × Int32} {fu : Nat}  (h : Cx layM ad X cX5_refusesPairs RX5 3 2 (some .int) (R.1) (some (.int R.2)))  : ∀ (f : Nat) (x1 : Int32) (x2 : Int32) (M : Mem), f5_refusesPairs_35 fu f x1 x2 M = some R → Wp layM ad X M 35 [(0, .ref (ad 0)), (1, .int x1), (2, .int x2)] [] := by
  intro f
  induction f with
  | zero => intro x1 x2 M hF; exact absurd hF (by simp [f5_refusesPairs_35])
  | succ f ih =>
    intro x1 x2 M hF
    rw [f5_refusesPairs_35] at hF
    refine R_iload_n (pc := 35) h 2 rfl rfl dX5_refusesPairs_35 ?_
    refine R_aload_n (pc := 36) h 0 rfl rfl dX5_refusesPairs_36 ?_
    refine R_getR (pc := 37) (q1 := 2) h flX5_13 lm_0 rfl dX5_refusesPairs_37 ?_
    refine R_iload_n (pc := 40) h 1 rfl rfl dX5_refusesPairs_40 ?_
    obtain ⟨v1, hv1, hF⟩ := bd hF
    refine R_iald (pc := 41) h hv1 lm_2 dX5_refusesPairs_41 ?_
    refine R_icmp_ge (pc := 42) (tgt := 105) h dX5_refusesPairs_42 (by decide) (fun c2 => ?_) (fun c2 => ?_)
    · have hF := itp c2 hF
      refine R_iconst (pc := 105) (v := 0) h (by decide) dX5_refusesPairs_105 ?_
      cases hF
      exact R_ireturn (pc := 106) h rfl rfl rfl dX5_refusesPairs_106
    · have hF := ifn c2 hF
      refine R_aload_n (pc := 45) h 0 rfl rfl dX5_refusesPairs_45 ?_
      refine R_getR (pc := 46) (q1 := 1) h flX5_7 lm_0 rfl dX5_refusesPairs_46 ?_
      refine R_bipush (pc := 49) (v := 40) h (by decide) dX5_refusesPairs_49 ?_
      refine R_iload_n (pc := 51) h 1 rfl rfl dX5_refusesPairs_51 ?_
      refine R_imul (pc := 52) h dX5_refusesPairs_52 ?_
      refine R_iload_n (pc := 53) h 2 rfl rfl dX5_refusesPairs_53 ?_
      refine R_iadd (pc := 54) h dX5_refusesPairs_54 ?_
      obtain ⟨v3, hv3, hF⟩ := bd hF
      refine R_iald (pc := 55) h hv3 lm_1 dX5_refusesPairs_55 ?_
      refine R_i2l (pc := 56) h dX5_refusesPairs_56 ?_
      refine R_lconst (pc := 57) (v := 0) h (by decide) dX5_refusesPairs_57 ?_
      refine R_ldc2 (pc := 58) h klX5_161 dX5_refusesPairs_58 ?_
      obtain ⟨r5, hc4, hF⟩ := bd hF
      refine R_callS (pc := 61) (st := []) h [.long v3.toInt64, .long (0 : Int64), .long (9 : Int64)] csX5_71 (c5_in (ad := ad) (z := X.1) (M := M) hc4) rfl rfl (by decide) (by decide) (Nat.le_of_ble_eq_true rfl) dX5_refusesPairs_61 (st1 := [.int r5]) rfl ?_
      refine R_if_eq (pc := 64) (tgt := 93) h dX5_refusesPairs_64 (by decide) (fun c6 => ?_) (fun c6 => ?_)
      · have hF := itp c6 hF
        exact Wp_sub (nX := 0) (lv' := [(0, .ref (ad 0))]) [0] rfl (w5_refusesPairs_93 h  (hF := hF))
      · have hF := ifn c6 hF
        refine R_aload_n (pc := 67) h 0 rfl rfl dX5_refusesPairs_67 ?_
        refine R_getR (pc := 68) (q1 := 1) h flX5_7 lm_0 rfl dX5_refusesPairs_68 ?_
        refine R_bipush (pc := 71) (v := 40) h (by decide) dX5_refusesPairs_71 ?_
        refine R_iload_n (pc := 73) h 1 rfl rfl dX5_refusesPairs_73 ?_
        refine R_imul (pc := 74) h dX5_refusesPairs_74 ?_
        refine R_iload_n (pc := 75) h 2 rfl rfl dX5_refusesPairs_75 ?_
        refine R_iadd (pc := 76) h dX5_refusesPairs_76 ?_
        refine R_iconst (pc := 77) (v := 1) h (by decide) dX5_refusesPairs_77 ?_
        refine R_iadd (pc := 78) h dX5_refusesPairs_78 ?_
        obtain ⟨v7, hv7, hF⟩ := bd hF
        refine R_iald (pc := 79) h hv7 lm_1 dX5_refusesPairs_79 ?_
        refine R_i2l (pc := 80) h dX5_refusesPairs_80 ?_
        refine R_ldc2 (pc := 81) h klX5_208 dX5_refusesPairs_81 ?_
        refine R_ldc2 (pc := 84) h klX5_210 dX5_refusesPairs_84 ?_
        obtain ⟨r9, hc8, hF⟩ := bd hF
        refine R_callS (pc := 87) (st := []) h [.long v7.toInt64, .long (-20 : Int64), .long (60 : Int64)] csX5_71 (c5_in (ad := ad) (z := X.1) (M := M) hc8) rfl rfl (by decide) (by decide) (Nat.le_of_ble_eq_true rfl) dX5_refusesPairs_87 (st1 := [.int r9]) rfl ?_
        refine R_if_ne (pc := 90) (tgt := 99) h dX5_refusesPairs_90 (by decide) (fun c10 => ?_) (fun c10 => ?_)
        · have hF := ifn c10 hF
          obtain ⟨v11, hv11, hF⟩ := nm_e2 hF
          refine R_iinc (pc := 99) (lv' := [(2, .int v11), (0, .ref (ad 0)), (1, .int x1)]) h 2 rfl (by decide) hv11 (by decide) rfl dX5_refusesPairs_99 ?_
          refine R_goto (pc := 102) (tgt := 35) h dX5_refusesPairs_102 (by decide) ?_
          exact Wp_sub (nX := 0) (lv' := [(0, .ref (ad 0)), (1, .int x1), (2, .int v11)]) [1, 2, 0] rfl (ih _ _ _ hF)
        · have hF := itp c10 hF
          exact Wp_sub (nX := 0) (lv' := [(0, .ref (ad 0))]) [0] rfl (w5_refusesPairs_93 h  (hF := hF))
theorem w5_refusesPairs_35 {ad : Nat → Nat} {X : XX} {R : Mem × Int32} {fu : Nat}  (h : Cx layM ad X cX5_refusesPairs RX5 3 2 (some .int) (R.1) (some (.int R.2)))  {f : Nat} {x1 : Int32} {x2 : Int32} {M : Mem} (hF : f5_refusesPairs_35 fu f x1 x2 M = some R) : Wp layM ad X M 35 [(0, .ref (ad 0)), (1, .int x1), (2, .int x2)] [] := w5_refusesPairsi_35 h  f _ _ _ hF
def f5_refusesPairs (fu : Nat) (x1 : Int32) (M : Mem) : Option (Mem × Int32) :=
    (rd M 2 6 x1).bind fun v1 =>
    if 0 ≤ v1 then ((rd M 2 6 x1).bind fun v3 =>
    (rmI v3 (2 : Int32)).bind fun v4 =>
    if v4 = (1 : Int32) then ((f5_found (5 : Int32) M).bind fun ⟨M7, r8⟩ =>
    (some (M7, r8)))
    else ((f5_refusesPairs_35 fu fu x1 (0 : Int32) M)))
    else ((f5_found (1 : Int32) M).bind fun ⟨M10, r11⟩ =>
    (some (M10, r11)))
set_option maxHeartbeats 4000000 in
set_option maxRecDepth 10000 in
theorem w5_refusesPairs {ad : Nat → Nat} {X : XX} {R : Mem × Int32} {fu : Nat} (h : Cx layM ad X cX5_refusesPairs RX5 3 2 (some .int) (R.1) (some (.int R.2))) {x1 : Int32} {M : Mem} (hF : f5_refusesPairs fu x1 M = some R) : Wp layM ad X M 0 [(0, .ref (ad 0)), (1, .int x1)] [] := by
  unfold f5_refusesPairs at hF
  refine R_aload_n (pc := 0) h 0 rfl rfl dX5_refusesPairs_0 ?_
  refine R_getR (pc := 1) (q1 := 2) h flX5_13 lm_0 rfl dX5_refusesPairs_1 ?_
  refine R_iload_n (pc := 4) h 1 rfl rfl dX5_refusesPairs_4 ?_
  obtain ⟨v1, hv1, hF⟩ := bd hF
  refine R_iald (pc := 5) h hv1 lm_2 dX5_refusesPairs_5 ?_
  refine R_if_ge (pc := 6) (tgt := 15) h dX5_refusesPairs_6 (by decide) (fun c2 => ?_) (fun c2 => ?_)
  · have hF := itp c2 hF
    refine R_aload_n (pc := 15) h 0 rfl rfl dX5_refusesPairs_15 ?_
    refine R_getR (pc := 16) (q1 := 2) h flX5_13 lm_0 rfl dX5_refusesPairs_16 ?_
    refine R_iload_n (pc := 19) h 1 rfl rfl dX5_refusesPairs_19 ?_
    obtain ⟨v3, hv3, hF⟩ := bd hF
    refine R_iald (pc := 20) h hv3 lm_2 dX5_refusesPairs_20 ?_
    refine R_iconst (pc := 21) (v := 2) h (by decide) dX5_refusesPairs_21 ?_
    obtain ⟨v4, hv4, hF⟩ := bd hF
    refine R_irem (pc := 22) h hv4 dX5_refusesPairs_22 ?_
    refine R_iconst (pc := 23) (v := 1) h (by decide) dX5_refusesPairs_23 ?_
    refine R_icmp_ne (pc := 24) (tgt := 33) h dX5_refusesPairs_24 (by decide) (fun c5 => ?_) (fun c5 => ?_)
    · have hF := ifn c5 hF
      refine R_iconst (pc := 33) (v := 0) h (by decide) dX5_refusesPairs_33 ?_
      refine R_istore_n (pc := 34) (lv' := [(2, .int (0 : Int32)), (0, .ref (ad 0)), (1, .int x1)]) h rfl rfl (by decide) rfl dX5_refusesPairs_34 ?_
      exact Wp_sub (nX := 0) (lv' := [(0, .ref (ad 0)), (1, .int x1), (2, .int (0 : Int32))]) [1, 2, 0] rfl (w5_refusesPairs_35 h  (hF := hF))
    · have hF := itp c5 hF
      refine R_aload_n (pc := 27) h 0 rfl rfl dX5_refusesPairs_27 ?_
      refine R_iconst (pc := 28) (v := 5) h (by decide) dX5_refusesPairs_28 ?_
      obtain ⟨⟨M7, r8⟩, hc6, hF⟩ := bd hF
      refine R_callV (pc := 29) (st := []) h [.int (5 : Int32)] cvX5_81 (c5_found (ad := ad) (z := X.1) hc6) rfl rfl lm_0 (by decide) (by decide) (Nat.le_of_ble_eq_true rfl) dX5_refusesPairs_29 (st1 := [.int r8]) rfl ?_
      cases hF
      exact R_ireturn (pc := 32) h rfl rfl rfl dX5_refusesPairs_32
  · have hF := ifn c2 hF
    refine R_aload_n (pc := 9) h 0 rfl rfl dX5_refusesPairs_9 ?_
    refine R_iconst (pc := 10) (v := 1) h (by decide) dX5_refusesPairs_10 ?_
    obtain ⟨⟨M10, r11⟩, hc9, hF⟩ := bd hF
    refine R_callV (pc := 11) (st := []) h [.int (1 : Int32)] cvX5_81 (c5_found (ad := ad) (z := X.1) hc9) rfl rfl lm_0 (by decide) (by decide) (Nat.le_of_ble_eq_true rfl) dX5_refusesPairs_11 (st1 := [.int r11]) rfl ?_
    cases hF
    exact R_ireturn (pc := 14) h rfl rfl rfl dX5_refusesPairs_14
theorem c5_refusesPairs {ad : Nat → Nat} {z : ZZ} {R : Mem × Int32} {fu : Nat} {x1 : Int32} {M : Mem} (hF : f5_refusesPairs fu x1 M = some R) : Con layM ad z yX5_refusesPairs cX5_refusesPairs 3 (some .int) 2 M [.ref (ad 0), .int x1] (R.1) (some (.int R.2)) := con_of (own := RX5) (lv := [(0, .ref (ad 0)), (1, .int x1)]) (by decide +kernel) rfl (Nat.le_of_ble_eq_true rfl) rfl (fun X hz h => w5_refusesPairs h hF)
def f5_kindsOf_18 (M : Mem) (fu : Nat) (k5 : Int32 → Int32 → Int32 → Int32 → Option (Int32)) : Nat → Int32 → Int32 → Int32 → Int32 → Int32 → Int32 → Option (Int32)
  | 0 => fun _ _ _ _ _ _ => none
  | f + 1 => fun x1 x2 x3 x4 x5 x6 =>
    (rd M 2 6 x2).bind fun v1 =>
    if v1 ≤ x6 then (if x5 = 0 then (nm (x3 ||| (0 : Int32)) fun v4 =>
    nm (x4 + (1 : Int32)) fun v5 =>
    (k5 x1 x2 v4 v5))
    else (nm (x3 ||| ((1 : Int32) <<< (x4 &&& 31))) fun v6 =>
    nm (x4 + (1 : Int32)) fun v7 =>
    (k5 x1 x2 v6 v7)))
    else (if x5 = 0 then (nm (x6 + (2 : Int32)) fun v9 =>
    ((f5_kindsOf_18 M fu k5 f) x1 x2 x3 x4 (0 : Int32) v9))
    else ((rd M 1 240 (((40 : Int32) * x2) + x6)).bind fun v10 =>
    (f5_worthBy M x4 x1 v10).bind fun r12 =>
    (rd M 1 240 ((((40 : Int32) * x2) + x6) + (1 : Int32))).bind fun v13 =>
    if r12 = v13 then (nm (x6 + (2 : Int32)) fun v15 =>
    ((f5_kindsOf_18 M fu k5 f) x1 x2 x3 x4 (1 : Int32) v15))
    else (nm (x6 + (2 : Int32)) fun v16 =>
    ((f5_kindsOf_18 M fu k5 f) x1 x2 x3 x4 (0 : Int32) v16))))
set_option maxHeartbeats 4000000 in
set_option maxRecDepth 10000 in
theorem w5_kindsOfi_18 {ad : Nat → Nat} {X : XX} {R : Int32} {M : Mem} {fu : Nat} {k5 : Int32 → Int32 → Int32 → Int32 → Option (Int32)} (h : Cx layM ad X cX5_kindsOf RX5 7 3 (some .int) M (some (.int R))) (hk5 : ∀ (x1 : Int32) (x2 : Int32) (x3 : Int32) (x4 : Int32), k5 x1 x2 x3 x4 = some R → Wp layM ad X M 5 [(0, .ref (ad 0)), (1, .int x1), (2, .int x2), (3, .int x3), (4, .int x4)] []) : ∀ (f : Nat) (x1 : Int32) (x2 : Int32) (x3 : Int32) (x4 : Int32) (x5 : Int32) (x6 : Int32), f5_kindsOf_18 M fu k5 f x1 x2 x3 x4 x5 x6 = some R → Wp layM ad X M 18 [(0, .ref (ad 0)), (1, .int x1), (2, .int x2), (3, .int x3), (4, .int x4), (5, .int x5), (6, .int x6)] [] := by
  intro f
  induction f with
  | zero => intro x1 x2 x3 x4 x5 x6 hF; exact absurd hF (by simp [f5_kindsOf_18])
  | succ f ih =>
    intro x1 x2 x3 x4 x5 x6 hF
    rw [f5_kindsOf_18] at hF
    refine R_iload (pc := 18) h 6 rfl dX5_kindsOf_18 ?_
    refine R_aload_n (pc := 20) h 0 rfl rfl dX5_kindsOf_20 ?_
    refine R_getR (pc := 21) (q1 := 2) h flX5_13 lm_0 rfl dX5_kindsOf_21 ?_
    refine R_iload_n (pc := 24) h 2 rfl rfl dX5_kindsOf_24 ?_
    obtain ⟨v1, hv1, hF⟩ := bd hF
    refine R_iald (pc := 25) h hv1 lm_2 dX5_kindsOf_25 ?_
    refine R_icmp_ge (pc := 26) (tgt := 83) h dX5_kindsOf_26 (by decide) (fun c2 => ?_) (fun c2 => ?_)
    · have hF := itp c2 hF
      refine R_iload_n (pc := 83) h 3 rfl rfl dX5_kindsOf_83 ?_
      refine R_iload (pc := 84) h 5 rfl dX5_kindsOf_84 ?_
      refine R_if_eq (pc := 86) (tgt := 96) h dX5_kindsOf_86 (by decide) (fun c3 => ?_) (fun c3 => ?_)
      · have hF := itp c3 hF
        refine R_iconst (pc := 96) (v := 0) h (by decide) dX5_kindsOf_96 ?_
        refine R_ior (pc := 97) h dX5_kindsOf_97 ?_
        obtain ⟨v4, hv4, hF⟩ := nm_e2 hF
        refine R_istore_n (pc := 98) (lv' := [(3, .int v4), (0, .ref (ad 0)), (1, .int x1), (2, .int x2), (4, .int x4), (5, .int x5), (6, .int x6)]) h hv4 rfl (by decide) rfl dX5_kindsOf_98 ?_
        obtain ⟨v5, hv5, hF⟩ := nm_e2 hF
        refine R_iinc (pc := 99) (lv' := [(4, .int v5), (3, .int v4), (0, .ref (ad 0)), (1, .int x1), (2, .int x2), (5, .int x5), (6, .int x6)]) h 4 rfl (by decide) hv5 (by decide) rfl dX5_kindsOf_99 ?_
        refine R_goto (pc := 102) (tgt := 5) h dX5_kindsOf_102 (by decide) ?_
        exact Wp_sub (nX := 0) (lv' := [(0, .ref (ad 0)), (1, .int x1), (2, .int x2), (3, .int v4), (4, .int v5)]) [2, 3, 4, 1, 0] rfl (hk5 _ _ _ _ hF)
      · have hF := ifn c3 hF
        refine R_iconst (pc := 89) (v := 1) h (by decide) dX5_kindsOf_89 ?_
        refine R_iload (pc := 90) h 4 rfl dX5_kindsOf_90 ?_
        refine R_ishl (pc := 92) h dX5_kindsOf_92 ?_
        refine R_goto (pc := 93) (tgt := 97) h dX5_kindsOf_93 (by decide) ?_
        refine R_ior (pc := 97) h dX5_kindsOf_97 ?_
        obtain ⟨v6, hv6, hF⟩ := nm_e2 hF
        refine R_istore_n (pc := 98) (lv' := [(3, .int v6), (0, .ref (ad 0)), (1, .int x1), (2, .int x2), (4, .int x4), (5, .int x5), (6, .int x6)]) h hv6 rfl (by decide) rfl dX5_kindsOf_98 ?_
        obtain ⟨v7, hv7, hF⟩ := nm_e2 hF
        refine R_iinc (pc := 99) (lv' := [(4, .int v7), (3, .int v6), (0, .ref (ad 0)), (1, .int x1), (2, .int x2), (5, .int x5), (6, .int x6)]) h 4 rfl (by decide) hv7 (by decide) rfl dX5_kindsOf_99 ?_
        refine R_goto (pc := 102) (tgt := 5) h dX5_kindsOf_102 (by decide) ?_
        exact Wp_sub (nX := 0) (lv' := [(0, .ref (ad 0)), (1, .int x1), (2, .int x2), (3, .int v6), (4, .int v7)]) [2, 3, 4, 1, 0] rfl (hk5 _ _ _ _ hF)
    · have hF := ifn c2 hF
      refine R_iload (pc := 29) h 5 rfl dX5_kindsOf_29 ?_
      refine R_if_eq (pc := 31) (tgt := 74) h dX5_kindsOf_31 (by decide) (fun c8 => ?_) (fun c8 => ?_)
      · have hF := itp c8 hF
        refine R_iconst (pc := 74) (v := 0) h (by decide) dX5_kindsOf_74 ?_
        refine R_istore (pc := 75) (lv' := [(5, .int (0 : Int32)), (0, .ref (ad 0)), (1, .int x1), (2, .int x2), (3, .int x3), (4, .int x4), (6, .int x6)]) h rfl (by decide) rfl dX5_kindsOf_75 ?_
        obtain ⟨v9, hv9, hF⟩ := nm_e2 hF
        refine R_iinc (pc := 77) (lv' := [(6, .int v9), (5, .int (0 : Int32)), (0, .ref (ad 0)), (1, .int x1), (2, .int x2), (3, .int x3), (4, .int x4)]) h 6 rfl (by decide) hv9 (by decide) rfl dX5_kindsOf_77 ?_
        refine R_goto (pc := 80) (tgt := 18) h dX5_kindsOf_80 (by decide) ?_
        exact Wp_sub (nX := 0) (lv' := [(0, .ref (ad 0)), (1, .int x1), (2, .int x2), (3, .int x3), (4, .int x4), (5, .int (0 : Int32)), (6, .int v9)]) [2, 3, 4, 5, 6, 1, 0] rfl (ih _ _ _ _ _ _ hF)
      · have hF := ifn c8 hF
        refine R_aload_n (pc := 34) h 0 rfl rfl dX5_kindsOf_34 ?_
        refine R_iload (pc := 35) h 4 rfl dX5_kindsOf_35 ?_
        refine R_iload_n (pc := 37) h 1 rfl rfl dX5_kindsOf_37 ?_
        refine R_aload_n (pc := 38) h 0 rfl rfl dX5_kindsOf_38 ?_
        refine R_getR (pc := 39) (q1 := 1) h flX5_7 lm_0 rfl dX5_kindsOf_39 ?_
        refine R_bipush (pc := 42) (v := 40) h (by decide) dX5_kindsOf_42 ?_
        refine R_iload_n (pc := 44) h 2 rfl rfl dX5_kindsOf_44 ?_
        refine R_imul (pc := 45) h dX5_kindsOf_45 ?_
        refine R_iload (pc := 46) h 6 rfl dX5_kindsOf_46 ?_
        refine R_iadd (pc := 48) h dX5_kindsOf_48 ?_
        obtain ⟨v10, hv10, hF⟩ := bd hF
        refine R_iald (pc := 49) h hv10 lm_1 dX5_kindsOf_49 ?_
        obtain ⟨r12, hc11, hF⟩ := bd hF
        refine R_callV (pc := 50) (st := []) h [.int x4, .int x1, .int v10] cvX5_142 (c5_worthBy (ad := ad) (z := X.1) hc11) rfl rfl lm_0 (by decide) (by decide) (Nat.le_of_ble_eq_true rfl) dX5_kindsOf_50 (st1 := [.int r12]) rfl ?_
        refine R_aload_n (pc := 53) h 0 rfl rfl dX5_kindsOf_53 ?_
        refine R_getR (pc := 54) (q1 := 1) h flX5_7 lm_0 rfl dX5_kindsOf_54 ?_
        refine R_bipush (pc := 57) (v := 40) h (by decide) dX5_kindsOf_57 ?_
        refine R_iload_n (pc := 59) h 2 rfl rfl dX5_kindsOf_59 ?_
        refine R_imul (pc := 60) h dX5_kindsOf_60 ?_
        refine R_iload (pc := 61) h 6 rfl dX5_kindsOf_61 ?_
        refine R_iadd (pc := 63) h dX5_kindsOf_63 ?_
        refine R_iconst (pc := 64) (v := 1) h (by decide) dX5_kindsOf_64 ?_
        refine R_iadd (pc := 65) h dX5_kindsOf_65 ?_
        obtain ⟨v13, hv13, hF⟩ := bd hF
        refine R_iald (pc := 66) h hv13 lm_1 dX5_kindsOf_66 ?_
        refine R_icmp_ne (pc := 67) (tgt := 74) h dX5_kindsOf_67 (by decide) (fun c14 => ?_) (fun c14 => ?_)
        · have hF := ifn c14 hF
          refine R_iconst (pc := 74) (v := 0) h (by decide) dX5_kindsOf_74 ?_
          refine R_istore (pc := 75) (lv' := [(5, .int (0 : Int32)), (0, .ref (ad 0)), (1, .int x1), (2, .int x2), (3, .int x3), (4, .int x4), (6, .int x6)]) h rfl (by decide) rfl dX5_kindsOf_75 ?_
          obtain ⟨v16, hv16, hF⟩ := nm_e2 hF
          refine R_iinc (pc := 77) (lv' := [(6, .int v16), (5, .int (0 : Int32)), (0, .ref (ad 0)), (1, .int x1), (2, .int x2), (3, .int x3), (4, .int x4)]) h 6 rfl (by decide) hv16 (by decide) rfl dX5_kindsOf_77 ?_
          refine R_goto (pc := 80) (tgt := 18) h dX5_kindsOf_80 (by decide) ?_
          exact Wp_sub (nX := 0) (lv' := [(0, .ref (ad 0)), (1, .int x1), (2, .int x2), (3, .int x3), (4, .int x4), (5, .int (0 : Int32)), (6, .int v16)]) [2, 3, 4, 5, 6, 1, 0] rfl (ih _ _ _ _ _ _ hF)
        · have hF := itp c14 hF
          refine R_iconst (pc := 70) (v := 1) h (by decide) dX5_kindsOf_70 ?_
          refine R_goto (pc := 71) (tgt := 75) h dX5_kindsOf_71 (by decide) ?_
          refine R_istore (pc := 75) (lv' := [(5, .int (1 : Int32)), (0, .ref (ad 0)), (1, .int x1), (2, .int x2), (3, .int x3), (4, .int x4), (6, .int x6)]) h rfl (by decide) rfl dX5_kindsOf_75 ?_
          obtain ⟨v15, hv15, hF⟩ := nm_e2 hF
          refine R_iinc (pc := 77) (lv' := [(6, .int v15), (5, .int (1 : Int32)), (0, .ref (ad 0)), (1, .int x1), (2, .int x2), (3, .int x3), (4, .int x4)]) h 6 rfl (by decide) hv15 (by decide) rfl dX5_kindsOf_77 ?_
          refine R_goto (pc := 80) (tgt := 18) h dX5_kindsOf_80 (by decide) ?_
          exact Wp_sub (nX := 0) (lv' := [(0, .ref (ad 0)), (1, .int x1), (2, .int x2), (3, .int x3), (4, .int x4), (5, .int (1 : Int32)), (6, .int v15)]) [2, 3, 4, 5, 6, 1, 0] rfl (ih _ _ _ _ _ _ hF)
theorem w5_kindsOf_18 {ad : Nat → Nat} {X : XX} {R : Int32} {M : Mem} {fu : Nat} {k5 : Int32 → Int32 → Int32 → Int32 → Option (Int32)} (h : Cx layM ad X cX5_kindsOf RX5 7 3 (some .int) M (some (.int R))) (hk5 : ∀ (x1 : Int32) (x2 : Int32) (x3 : Int32) (x4 : Int32), k5 x1 x2 x3 x4 = some R → Wp layM ad X M 5 [(0, .ref (ad 0)), (1, .int x1), (2, .int x2), (3, .int x3), (4, .int x4)] []) {f : Nat} {x1 : Int32} {x2 : Int32} {x3 : Int32} {x4 : Int32} {x5 : Int32} {x6 : Int32} (hF : f5_kindsOf_18 M fu k5 f x1 x2 x3 x4 x5 x6 = some R) : Wp layM ad X M 18 [(0, .ref (ad 0)), (1, .int x1), (2, .int x2), (3, .int x3), (4, .int x4), (5, .int x5), (6, .int x6)] [] := w5_kindsOfi_18 h hk5 f _ _ _ _ _ _ hF
def f5_kindsOf_5 (M : Mem) (fu : Nat) : Nat → Int32 → Int32 → Int32 → Int32 → Option (Int32)
  | 0 => fun _ _ _ _ => none
  | f + 1 => fun x1 x2 x3 x4 =>
    if (6 : Int32) ≤ x4 then ((some x3))
    else ((f5_kindsOf_18 M fu (f5_kindsOf_5 M fu f) fu x1 x2 x3 x4 (1 : Int32) (0 : Int32)))
set_option maxHeartbeats 4000000 in
set_option maxRecDepth 10000 in
theorem w5_kindsOfi_5 {ad : Nat → Nat} {X : XX} {R : Int32} {M : Mem} {fu : Nat}  (h : Cx layM ad X cX5_kindsOf RX5 7 3 (some .int) M (some (.int R)))  : ∀ (f : Nat) (x1 : Int32) (x2 : Int32) (x3 : Int32) (x4 : Int32), f5_kindsOf_5 M fu f x1 x2 x3 x4 = some R → Wp layM ad X M 5 [(0, .ref (ad 0)), (1, .int x1), (2, .int x2), (3, .int x3), (4, .int x4)] [] := by
  intro f
  induction f with
  | zero => intro x1 x2 x3 x4 hF; exact absurd hF (by simp [f5_kindsOf_5])
  | succ f ih =>
    intro x1 x2 x3 x4 hF
    rw [f5_kindsOf_5] at hF
    refine R_iload (pc := 5) h 4 rfl dX5_kindsOf_5 ?_
    refine R_bipush (pc := 7) (v := 6) h (by decide) dX5_kindsOf_7 ?_
    refine R_icmp_ge (pc := 9) (tgt := 105) h dX5_kindsOf_9 (by decide) (fun c1 => ?_) (fun c1 => ?_)
    · have hF := itp c1 hF
      refine R_iload_n (pc := 105) h 3 rfl rfl dX5_kindsOf_105 ?_
      cases hF
      exact R_ireturn (pc := 106) h rfl rfl rfl dX5_kindsOf_106
    · have hF := ifn c1 hF
      refine R_iconst (pc := 12) (v := 1) h (by decide) dX5_kindsOf_12 ?_
      refine R_istore (pc := 13) (lv' := [(5, .int (1 : Int32)), (0, .ref (ad 0)), (1, .int x1), (2, .int x2), (3, .int x3), (4, .int x4)]) h rfl (by decide) rfl dX5_kindsOf_13 ?_
      refine R_iconst (pc := 15) (v := 0) h (by decide) dX5_kindsOf_15 ?_
      refine R_istore (pc := 16) (lv' := [(6, .int (0 : Int32)), (5, .int (1 : Int32)), (0, .ref (ad 0)), (1, .int x1), (2, .int x2), (3, .int x3), (4, .int x4)]) h rfl (by decide) rfl dX5_kindsOf_16 ?_
      exact Wp_sub (nX := 0) (lv' := [(0, .ref (ad 0)), (1, .int x1), (2, .int x2), (3, .int x3), (4, .int x4), (5, .int (1 : Int32)), (6, .int (0 : Int32))]) [2, 3, 4, 5, 6, 1, 0] rfl (w5_kindsOf_18 h (hk5 := fun a0 a1 a2 a3 hF => ih a0 a1 a2 a3 hF) (hF := hF))
theorem w5_kindsOf_5 {ad : Nat → Nat} {X : XX} {R : Int32} {M : Mem} {fu : Nat}  (h : Cx layM ad X cX5_kindsOf RX5 7 3 (some .int) M (some (.int R)))  {f : Nat} {x1 : Int32} {x2 : Int32} {x3 : Int32} {x4 : Int32} (hF : f5_kindsOf_5 M fu f x1 x2 x3 x4 = some R) : Wp layM ad X M 5 [(0, .ref (ad 0)), (1, .int x1), (2, .int x2), (3, .int x3), (4, .int x4)] [] := w5_kindsOfi_5 h  f _ _ _ _ hF
def f5_kindsOf (M : Mem) (fu : Nat) (x1 : Int32) (x2 : Int32) : Option (Int32) :=
    (f5_kindsOf_5 M fu fu x1 x2 (0 : Int32) (0 : Int32))
set_option maxHeartbeats 4000000 in
set_option maxRecDepth 10000 in
theorem w5_kindsOf {ad : Nat → Nat} {X : XX} {R : Int32} {M : Mem} {fu : Nat} (h : Cx layM ad X cX5_kindsOf RX5 7 3 (some .int) M (some (.int R))) {x1 : Int32} {x2 : Int32} (hF : f5_kindsOf M fu x1 x2 = some R) : Wp layM ad X M 0 [(0, .ref (ad 0)), (1, .int x1), (2, .int x2)] [] := by
  unfold f5_kindsOf at hF
  refine R_iconst (pc := 0) (v := 0) h (by decide) dX5_kindsOf_0 ?_
  refine R_istore_n (pc := 1) (lv' := [(3, .int (0 : Int32)), (0, .ref (ad 0)), (1, .int x1), (2, .int x2)]) h rfl rfl (by decide) rfl dX5_kindsOf_1 ?_
  refine R_iconst (pc := 2) (v := 0) h (by decide) dX5_kindsOf_2 ?_
  refine R_istore (pc := 3) (lv' := [(4, .int (0 : Int32)), (3, .int (0 : Int32)), (0, .ref (ad 0)), (1, .int x1), (2, .int x2)]) h rfl (by decide) rfl dX5_kindsOf_3 ?_
  exact Wp_sub (nX := 0) (lv' := [(0, .ref (ad 0)), (1, .int x1), (2, .int x2), (3, .int (0 : Int32)), (4, .int (0 : Int32))]) [2, 3, 4, 1, 0] rfl (w5_kindsOf_5 h  (hF := hF))
theorem c5_kindsOf {ad : Nat → Nat} {z : ZZ} {R : Int32} {M : Mem} {fu : Nat} {x1 : Int32} {x2 : Int32} (hF : f5_kindsOf M fu x1 x2 = some R) : Con layM ad z yX5_kindsOf cX5_kindsOf 7 (some .int) 3 M [.ref (ad 0), .int x1, .int x2] (M) (some (.int R)) := con_of (own := RX5) (lv := [(0, .ref (ad 0)), (1, .int x1), (2, .int x2)]) (by decide +kernel) rfl (Nat.le_of_ble_eq_true rfl) rfl (fun X hz h => w5_kindsOf h hF)
def f5_kinds (fu : Nat) (x1 : Int32) (x2 : Int32) (M : Mem) : Option (Mem × Int32) :=
    (f5_isPin M x1).bind fun r2 =>
    if r2 = 0 then ((some (M, (-1 : Int32))))
    else ((f5_isRow x2).bind fun r5 =>
    if r5 = 0 then ((some (M, (-1 : Int32))))
    else ((f5_refusesPairs fu x2 M).bind fun ⟨M8, r9⟩ =>
    if r9 = 0 then ((f5_kindsOf M8 fu x1 x2).bind fun r12 =>
    (some (M8, r12)))
    else ((some (M8, r9)))))
set_option maxHeartbeats 4000000 in
set_option maxRecDepth 10000 in
theorem w5_kinds {ad : Nat → Nat} {X : XX} {R : Mem × Int32} {fu : Nat} (h : Cx layM ad X cX5_kinds RX5 4 4 (some .int) (R.1) (some (.int R.2))) {x1 : Int32} {x2 : Int32} {M : Mem} (hF : f5_kinds fu x1 x2 M = some R) : Wp layM ad X M 0 [(0, .ref (ad 0)), (1, .int x1), (2, .int x2)] [] := by
  unfold f5_kinds at hF
  refine R_aload_n (pc := 0) h 0 rfl rfl dX5_kinds_0 ?_
  refine R_iload_n (pc := 1) h 1 rfl rfl dX5_kinds_1 ?_
  obtain ⟨r2, hc1, hF⟩ := bd hF
  refine R_callV (pc := 2) (st := []) h [.int x1] cvX5_153 (c5_isPin (ad := ad) (z := X.1) hc1) rfl rfl lm_0 (by decide) (by decide) (Nat.le_of_ble_eq_true rfl) dX5_kinds_2 (st1 := [.int r2]) rfl ?_
  refine R_if_eq (pc := 5) (tgt := 15) h dX5_kinds_5 (by decide) (fun c3 => ?_) (fun c3 => ?_)
  · have hF := itp c3 hF
    refine R_iconst (pc := 15) (v := (-1)) h (by decide) dX5_kinds_15 ?_
    cases hF
    exact R_ireturn (pc := 16) h rfl rfl rfl dX5_kinds_16
  · have hF := ifn c3 hF
    refine R_iload_n (pc := 8) h 2 rfl rfl dX5_kinds_8 ?_
    obtain ⟨r5, hc4, hF⟩ := bd hF
    refine R_callS (pc := 9) (st := []) h [.int x2] csX5_77 (c5_isRow (ad := ad) (z := X.1) (M := M) hc4) rfl rfl (by decide) (by decide) (Nat.le_of_ble_eq_true rfl) dX5_kinds_9 (st1 := [.int r5]) rfl ?_
    refine R_if_ne (pc := 12) (tgt := 17) h dX5_kinds_12 (by decide) (fun c6 => ?_) (fun c6 => ?_)
    · have hF := ifn c6 hF
      refine R_aload_n (pc := 17) h 0 rfl rfl dX5_kinds_17 ?_
      refine R_iload_n (pc := 18) h 2 rfl rfl dX5_kinds_18 ?_
      obtain ⟨⟨M8, r9⟩, hc7, hF⟩ := bd hF
      refine R_callV (pc := 19) (st := []) h [.int x2] cvX5_212 (c5_refusesPairs (ad := ad) (z := X.1) hc7) rfl rfl lm_0 (by decide) (by decide) (Nat.le_of_ble_eq_true rfl) dX5_kinds_19 (st1 := [.int r9]) rfl ?_
      refine R_istore_n (pc := 22) (lv' := [(3, .int r9), (0, .ref (ad 0)), (1, .int x1), (2, .int x2)]) h rfl rfl (by decide) rfl dX5_kinds_22 ?_
      refine R_iload_n (pc := 23) h 0 rfl rfl dX5_kinds_23 ?_
      refine R_if_eq (pc := 24) (tgt := 31) h dX5_kinds_24 (by decide) (fun c10 => ?_) (fun c10 => ?_)
      · have hF := itp c10 hF
        refine R_aload_n (pc := 31) h 1 rfl rfl dX5_kinds_31 ?_
        refine R_iload_n (pc := 32) h 2 rfl rfl dX5_kinds_32 ?_
        refine R_iload_n (pc := 33) h 3 rfl rfl dX5_kinds_33 ?_
        obtain ⟨r12, hc11, hF⟩ := bd hF
        refine R_callV (pc := 34) (st := []) h [.int x1, .int x2] cvX5_215 (c5_kindsOf (ad := ad) (z := X.1) hc11) rfl rfl lm_0 (by decide) (by decide) (Nat.le_of_ble_eq_true rfl) dX5_kinds_34 (st1 := [.int r12]) rfl ?_
        cases hF
        exact R_ireturn (pc := 37) h rfl rfl rfl dX5_kinds_37
      · have hF := ifn c10 hF
        refine R_iload_n (pc := 27) h 0 rfl rfl dX5_kinds_27 ?_
        refine R_goto (pc := 28) (tgt := 37) h dX5_kinds_28 (by decide) ?_
        cases hF
        exact R_ireturn (pc := 37) h rfl rfl rfl dX5_kinds_37
    · have hF := itp c6 hF
      refine R_iconst (pc := 15) (v := (-1)) h (by decide) dX5_kinds_15 ?_
      cases hF
      exact R_ireturn (pc := 16) h rfl rfl rfl dX5_kinds_16
theorem c5_kinds {ad : Nat → Nat} {z : ZZ} {R : Mem × Int32} {fu : Nat} {x1 : Int32} {x2 : Int32} {M : Mem} (hF : f5_kinds fu x1 x2 M = some R) : Con layM ad z yX5_kinds cX5_kinds 4 (some .int) 4 M [.ref (ad 0), .int x1, .int x2] (R.1) (some (.int R.2)) := con_of (own := RX5) (lv := [(0, .ref (ad 0)), (1, .int x1), (2, .int x2)]) (by decide +kernel) rfl (Nat.le_of_ble_eq_true rfl) rfl (fun X hz h => w5_kinds h hF)
def f5_test_79 (fu : Nat) (k48 : Int32 → Int32 → Int32 → Int32 → Int32 → Mem → Option (Mem × Int32)) (k66 : Int32 → Int32 → Int32 → Int32 → Int32 → Int32 → Int32 → Mem → Option (Mem × Int32)) : Nat → Int32 → Int32 → Int32 → Int32 → Int32 → Int32 → Int32 → Int32 → Int32 → Mem → Option (Mem × Int32)
  | 0 => fun _ _ _ _ _ _ _ _ _ _ => none
  | f + 1 => fun x1 x4 x5 x6 x7 x8 x9 x10 x11 M =>
    if (6 : Int32) ≤ x11 then (if x10 ≤ x8 then (nm (x9 + (1 : Int32)) fun v3 =>
    (k66 x1 x4 x5 x6 x7 x8 v3 M))
    else (nm (x9 + (1 : Int32)) fun v4 =>
    (k66 x1 x4 x5 x6 x7 x10 v4 M)))
    else ((f5_has x4 x9).bind fun r6 =>
    if r6 = 0 then (nm (x10 + (0 : Int32)) fun v8 =>
    nm (x11 + (1 : Int32)) fun v9 =>
    ((f5_test_79 fu k48 k66 f) x1 x4 x5 x6 x7 x8 x9 v8 v9 M))
    else ((f5_has x4 x11).bind fun r11 =>
    if r11 = 0 then (nm (x10 + (0 : Int32)) fun v13 =>
    nm (x11 + (1 : Int32)) fun v14 =>
    ((f5_test_79 fu k48 k66 f) x1 x4 x5 x6 x7 x8 x9 v13 v14 M))
    else ((f5_worthBy M x9 x1 x7).bind fun r16 =>
    (f5_worthBy M x11 x1 x7).bind fun r18 =>
    if r16 = r18 then (nm (x10 + (1 : Int32)) fun v20 =>
    nm (x11 + (1 : Int32)) fun v21 =>
    ((f5_test_79 fu k48 k66 f) x1 x4 x5 x6 x7 x8 x9 v20 v21 M))
    else (nm (x10 + (0 : Int32)) fun v22 =>
    nm (x11 + (1 : Int32)) fun v23 =>
    ((f5_test_79 fu k48 k66 f) x1 x4 x5 x6 x7 x8 x9 v22 v23 M)))))
set_option maxHeartbeats 4000000 in
set_option maxRecDepth 10000 in
theorem w5_testi_79 {ad : Nat → Nat} {X : XX} {R : Mem × Int32} {fu : Nat} {k48 : Int32 → Int32 → Int32 → Int32 → Int32 → Mem → Option (Mem × Int32)} {k66 : Int32 → Int32 → Int32 → Int32 → Int32 → Int32 → Int32 → Mem → Option (Mem × Int32)} (h : Cx layM ad X cX5_test RX5 12 4 (some .int) (R.1) (some (.int R.2))) (hk48 : ∀ (x1 : Int32) (x4 : Int32) (x5 : Int32) (x6 : Int32) (x7 : Int32) (M : Mem), k48 x1 x4 x5 x6 x7 M = some R → Wp layM ad X M 48 [(0, .ref (ad 0)), (1, .int x1), (4, .int x4), (5, .int x5), (6, .int x6), (7, .int x7)] []) (hk66 : ∀ (x1 : Int32) (x4 : Int32) (x5 : Int32) (x6 : Int32) (x7 : Int32) (x8 : Int32) (x9 : Int32) (M : Mem), k66 x1 x4 x5 x6 x7 x8 x9 M = some R → Wp layM ad X M 66 [(0, .ref (ad 0)), (1, .int x1), (4, .int x4), (5, .int x5), (6, .int x6), (7, .int x7), (8, .int x8), (9, .int x9)] []) : ∀ (f : Nat) (x1 : Int32) (x4 : Int32) (x5 : Int32) (x6 : Int32) (x7 : Int32) (x8 : Int32) (x9 : Int32) (x10 : Int32) (x11 : Int32) (M : Mem), f5_test_79 fu k48 k66 f x1 x4 x5 x6 x7 x8 x9 x10 x11 M = some R → Wp layM ad X M 79 [(0, .ref (ad 0)), (1, .int x1), (4, .int x4), (5, .int x5), (6, .int x6), (7, .int x7), (8, .int x8), (9, .int x9), (10, .int x10), (11, .int x11)] [] := by
  intro f
  induction f with
  | zero => intro x1 x4 x5 x6 x7 x8 x9 x10 x11 M hF; exact absurd hF (by simp [f5_test_79])
  | succ f ih =>
    intro x1 x4 x5 x6 x7 x8 x9 x10 x11 M hF
    rw [f5_test_79] at hF
    refine R_iload (pc := 79) h 9 rfl dX5_test_79 ?_
    refine R_bipush (pc := 81) (v := 6) h (by decide) dX5_test_81 ?_
    refine R_icmp_ge (pc := 83) (tgt := 143) h dX5_test_83 (by decide) (fun c1 => ?_) (fun c1 => ?_)
    · have hF := itp c1 hF
      refine R_iload (pc := 143) h 8 rfl dX5_test_143 ?_
      refine R_iload (pc := 145) h 6 rfl dX5_test_145 ?_
      refine R_icmp_le (pc := 147) (tgt := 155) h dX5_test_147 (by decide) (fun c2 => ?_) (fun c2 => ?_)
      · have hF := itp c2 hF
        refine R_iload (pc := 155) h 6 rfl dX5_test_155 ?_
        refine R_istore (pc := 157) (lv' := [(8, .int x8), (0, .ref (ad 0)), (1, .int x1), (4, .int x4), (5, .int x5), (6, .int x6), (7, .int x7), (9, .int x9), (10, .int x10), (11, .int x11)]) h rfl (by decide) rfl dX5_test_157 ?_
        obtain ⟨v3, hv3, hF⟩ := nm_e2 hF
        refine R_iinc (pc := 159) (lv' := [(9, .int v3), (8, .int x8), (0, .ref (ad 0)), (1, .int x1), (4, .int x4), (5, .int x5), (6, .int x6), (7, .int x7), (10, .int x10), (11, .int x11)]) h 7 rfl (by decide) hv3 (by decide) rfl dX5_test_159 ?_
        refine R_goto (pc := 162) (tgt := 66) h dX5_test_162 (by decide) ?_
        exact Wp_sub (nX := 0) (lv' := [(0, .ref (ad 0)), (1, .int x1), (4, .int x4), (5, .int x5), (6, .int x6), (7, .int x7), (8, .int x8), (9, .int v3)]) [2, 3, 4, 5, 6, 7, 1, 0] rfl (hk66 _ _ _ _ _ _ _ _ hF)
      · have hF := ifn c2 hF
        refine R_iload (pc := 150) h 8 rfl dX5_test_150 ?_
        refine R_goto (pc := 152) (tgt := 157) h dX5_test_152 (by decide) ?_
        refine R_istore (pc := 157) (lv' := [(8, .int x10), (0, .ref (ad 0)), (1, .int x1), (4, .int x4), (5, .int x5), (6, .int x6), (7, .int x7), (9, .int x9), (10, .int x10), (11, .int x11)]) h rfl (by decide) rfl dX5_test_157 ?_
        obtain ⟨v4, hv4, hF⟩ := nm_e2 hF
        refine R_iinc (pc := 159) (lv' := [(9, .int v4), (8, .int x10), (0, .ref (ad 0)), (1, .int x1), (4, .int x4), (5, .int x5), (6, .int x6), (7, .int x7), (10, .int x10), (11, .int x11)]) h 7 rfl (by decide) hv4 (by decide) rfl dX5_test_159 ?_
        refine R_goto (pc := 162) (tgt := 66) h dX5_test_162 (by decide) ?_
        exact Wp_sub (nX := 0) (lv' := [(0, .ref (ad 0)), (1, .int x1), (4, .int x4), (5, .int x5), (6, .int x6), (7, .int x7), (8, .int x10), (9, .int v4)]) [2, 3, 4, 5, 6, 7, 1, 0] rfl (hk66 _ _ _ _ _ _ _ _ hF)
    · have hF := ifn c1 hF
      refine R_iload (pc := 86) h 8 rfl dX5_test_86 ?_
      refine R_iload (pc := 88) h 2 rfl dX5_test_88 ?_
      refine R_iload (pc := 90) h 7 rfl dX5_test_90 ?_
      obtain ⟨r6, hc5, hF⟩ := bd hF
      refine R_callS (pc := 92) (st := [.int x10]) h [.int x4, .int x9] csX5_139 (c5_has (ad := ad) (z := X.1) (M := M) hc5) rfl rfl (by decide) (by decide) (Nat.le_of_ble_eq_true rfl) dX5_test_92 (st1 := [.int r6, .int x10]) rfl ?_
      refine R_if_eq (pc := 95) (tgt := 133) h dX5_test_95 (by decide) (fun c7 => ?_) (fun c7 => ?_)
      · have hF := itp c7 hF
        refine R_iconst (pc := 133) (v := 0) h (by decide) dX5_test_133 ?_
        refine R_iadd (pc := 134) h dX5_test_134 ?_
        obtain ⟨v8, hv8, hF⟩ := nm_e2 hF
        refine R_istore (pc := 135) (lv' := [(10, .int v8), (0, .ref (ad 0)), (1, .int x1), (4, .int x4), (5, .int x5), (6, .int x6), (7, .int x7), (8, .int x8), (9, .int x9), (11, .int x11)]) h hv8 (by decide) rfl dX5_test_135 ?_
        obtain ⟨v9, hv9, hF⟩ := nm_e2 hF
        refine R_iinc (pc := 137) (lv' := [(11, .int v9), (10, .int v8), (0, .ref (ad 0)), (1, .int x1), (4, .int x4), (5, .int x5), (6, .int x6), (7, .int x7), (8, .int x8), (9, .int x9)]) h 9 rfl (by decide) hv9 (by decide) rfl dX5_test_137 ?_
        refine R_goto (pc := 140) (tgt := 79) h dX5_test_140 (by decide) ?_
        exact Wp_sub (nX := 0) (lv' := [(0, .ref (ad 0)), (1, .int x1), (4, .int x4), (5, .int x5), (6, .int x6), (7, .int x7), (8, .int x8), (9, .int x9), (10, .int v8), (11, .int v9)]) [2, 3, 4, 5, 6, 7, 8, 9, 1, 0] rfl (ih _ _ _ _ _ _ _ _ _ _ hF)
      · have hF := ifn c7 hF
        refine R_iload (pc := 98) h 2 rfl dX5_test_98 ?_
        refine R_iload (pc := 100) h 9 rfl dX5_test_100 ?_
        obtain ⟨r11, hc10, hF⟩ := bd hF
        refine R_callS (pc := 102) (st := [.int x10]) h [.int x4, .int x11] csX5_139 (c5_has (ad := ad) (z := X.1) (M := M) hc10) rfl rfl (by decide) (by decide) (Nat.le_of_ble_eq_true rfl) dX5_test_102 (st1 := [.int r11, .int x10]) rfl ?_
        refine R_if_eq (pc := 105) (tgt := 133) h dX5_test_105 (by decide) (fun c12 => ?_) (fun c12 => ?_)
        · have hF := itp c12 hF
          refine R_iconst (pc := 133) (v := 0) h (by decide) dX5_test_133 ?_
          refine R_iadd (pc := 134) h dX5_test_134 ?_
          obtain ⟨v13, hv13, hF⟩ := nm_e2 hF
          refine R_istore (pc := 135) (lv' := [(10, .int v13), (0, .ref (ad 0)), (1, .int x1), (4, .int x4), (5, .int x5), (6, .int x6), (7, .int x7), (8, .int x8), (9, .int x9), (11, .int x11)]) h hv13 (by decide) rfl dX5_test_135 ?_
          obtain ⟨v14, hv14, hF⟩ := nm_e2 hF
          refine R_iinc (pc := 137) (lv' := [(11, .int v14), (10, .int v13), (0, .ref (ad 0)), (1, .int x1), (4, .int x4), (5, .int x5), (6, .int x6), (7, .int x7), (8, .int x8), (9, .int x9)]) h 9 rfl (by decide) hv14 (by decide) rfl dX5_test_137 ?_
          refine R_goto (pc := 140) (tgt := 79) h dX5_test_140 (by decide) ?_
          exact Wp_sub (nX := 0) (lv' := [(0, .ref (ad 0)), (1, .int x1), (4, .int x4), (5, .int x5), (6, .int x6), (7, .int x7), (8, .int x8), (9, .int x9), (10, .int v13), (11, .int v14)]) [2, 3, 4, 5, 6, 7, 8, 9, 1, 0] rfl (ih _ _ _ _ _ _ _ _ _ _ hF)
        · have hF := ifn c12 hF
          refine R_aload_n (pc := 108) h 0 rfl rfl dX5_test_108 ?_
          refine R_iload (pc := 109) h 7 rfl dX5_test_109 ?_
          refine R_iload_n (pc := 111) h 1 rfl rfl dX5_test_111 ?_
          refine R_iload (pc := 112) h 5 rfl dX5_test_112 ?_
          obtain ⟨r16, hc15, hF⟩ := bd hF
          refine R_callV (pc := 114) (st := [.int x10]) h [.int x9, .int x1, .int x7] cvX5_142 (c5_worthBy (ad := ad) (z := X.1) hc15) rfl rfl lm_0 (by decide) (by decide) (Nat.le_of_ble_eq_true rfl) dX5_test_114 (st1 := [.int r16, .int x10]) rfl ?_
          refine R_aload_n (pc := 117) h 0 rfl rfl dX5_test_117 ?_
          refine R_iload (pc := 118) h 9 rfl dX5_test_118 ?_
          refine R_iload_n (pc := 120) h 1 rfl rfl dX5_test_120 ?_
          refine R_iload (pc := 121) h 5 rfl dX5_test_121 ?_
          obtain ⟨r18, hc17, hF⟩ := bd hF
          refine R_callV (pc := 123) (st := [.int r16, .int x10]) h [.int x11, .int x1, .int x7] cvX5_142 (c5_worthBy (ad := ad) (z := X.1) hc17) rfl rfl lm_0 (by decide) (by decide) (Nat.le_of_ble_eq_true rfl) dX5_test_123 (st1 := [.int r18, .int r16, .int x10]) rfl ?_
          refine R_icmp_ne (pc := 126) (tgt := 133) h dX5_test_126 (by decide) (fun c19 => ?_) (fun c19 => ?_)
          · have hF := ifn c19 hF
            refine R_iconst (pc := 133) (v := 0) h (by decide) dX5_test_133 ?_
            refine R_iadd (pc := 134) h dX5_test_134 ?_
            obtain ⟨v22, hv22, hF⟩ := nm_e2 hF
            refine R_istore (pc := 135) (lv' := [(10, .int v22), (0, .ref (ad 0)), (1, .int x1), (4, .int x4), (5, .int x5), (6, .int x6), (7, .int x7), (8, .int x8), (9, .int x9), (11, .int x11)]) h hv22 (by decide) rfl dX5_test_135 ?_
            obtain ⟨v23, hv23, hF⟩ := nm_e2 hF
            refine R_iinc (pc := 137) (lv' := [(11, .int v23), (10, .int v22), (0, .ref (ad 0)), (1, .int x1), (4, .int x4), (5, .int x5), (6, .int x6), (7, .int x7), (8, .int x8), (9, .int x9)]) h 9 rfl (by decide) hv23 (by decide) rfl dX5_test_137 ?_
            refine R_goto (pc := 140) (tgt := 79) h dX5_test_140 (by decide) ?_
            exact Wp_sub (nX := 0) (lv' := [(0, .ref (ad 0)), (1, .int x1), (4, .int x4), (5, .int x5), (6, .int x6), (7, .int x7), (8, .int x8), (9, .int x9), (10, .int v22), (11, .int v23)]) [2, 3, 4, 5, 6, 7, 8, 9, 1, 0] rfl (ih _ _ _ _ _ _ _ _ _ _ hF)
          · have hF := itp c19 hF
            refine R_iconst (pc := 129) (v := 1) h (by decide) dX5_test_129 ?_
            refine R_goto (pc := 130) (tgt := 134) h dX5_test_130 (by decide) ?_
            refine R_iadd (pc := 134) h dX5_test_134 ?_
            obtain ⟨v20, hv20, hF⟩ := nm_e2 hF
            refine R_istore (pc := 135) (lv' := [(10, .int v20), (0, .ref (ad 0)), (1, .int x1), (4, .int x4), (5, .int x5), (6, .int x6), (7, .int x7), (8, .int x8), (9, .int x9), (11, .int x11)]) h hv20 (by decide) rfl dX5_test_135 ?_
            obtain ⟨v21, hv21, hF⟩ := nm_e2 hF
            refine R_iinc (pc := 137) (lv' := [(11, .int v21), (10, .int v20), (0, .ref (ad 0)), (1, .int x1), (4, .int x4), (5, .int x5), (6, .int x6), (7, .int x7), (8, .int x8), (9, .int x9)]) h 9 rfl (by decide) hv21 (by decide) rfl dX5_test_137 ?_
            refine R_goto (pc := 140) (tgt := 79) h dX5_test_140 (by decide) ?_
            exact Wp_sub (nX := 0) (lv' := [(0, .ref (ad 0)), (1, .int x1), (4, .int x4), (5, .int x5), (6, .int x6), (7, .int x7), (8, .int x8), (9, .int x9), (10, .int v20), (11, .int v21)]) [2, 3, 4, 5, 6, 7, 8, 9, 1, 0] rfl (ih _ _ _ _ _ _ _ _ _ _ hF)
theorem w5_test_79 {ad : Nat → Nat} {X : XX} {R : Mem × Int32} {fu : Nat} {k48 : Int32 → Int32 → Int32 → Int32 → Int32 → Mem → Option (Mem × Int32)} {k66 : Int32 → Int32 → Int32 → Int32 → Int32 → Int32 → Int32 → Mem → Option (Mem × Int32)} (h : Cx layM ad X cX5_test RX5 12 4 (some .int) (R.1) (some (.int R.2))) (hk48 : ∀ (x1 : Int32) (x4 : Int32) (x5 : Int32) (x6 : Int32) (x7 : Int32) (M : Mem), k48 x1 x4 x5 x6 x7 M = some R → Wp layM ad X M 48 [(0, .ref (ad 0)), (1, .int x1), (4, .int x4), (5, .int x5), (6, .int x6), (7, .int x7)] []) (hk66 : ∀ (x1 : Int32) (x4 : Int32) (x5 : Int32) (x6 : Int32) (x7 : Int32) (x8 : Int32) (x9 : Int32) (M : Mem), k66 x1 x4 x5 x6 x7 x8 x9 M = some R → Wp layM ad X M 66 [(0, .ref (ad 0)), (1, .int x1), (4, .int x4), (5, .int x5), (6, .int x6), (7, .int x7), (8, .int x8), (9, .int x9)] []) {f : Nat} {x1 : Int32} {x4 : Int32} {x5 : Int32} {x6 : Int32} {x7 : Int32} {x8 : Int32} {x9 : Int32} {x10 : Int32} {x11 : Int32} {M : Mem} (hF : f5_test_79 fu k48 k66 f x1 x4 x5 x6 x7 x8 x9 x10 x11 M = some R) : Wp layM ad X M 79 [(0, .ref (ad 0)), (1, .int x1), (4, .int x4), (5, .int x5), (6, .int x6), (7, .int x7), (8, .int x8), (9, .int x9), (10, .int x10), (11, .int x11)] [] := w5_testi_79 h hk48 hk66 f _ _ _ _ _ _ _ _ _ _ hF
def f5_test_179 (fu : Nat) (k48 : Int32 → Int32 → Int32 → Int32 → Int32 → Mem → Option (Mem × Int32)) (x1 : Int32) (x4 : Int32) (x6 : Int32) (x7 : Int32) (x8 : Int32) (s0 : Int32) (M : Mem) : Option (Mem × Int32) :=
    if x6 ≤ x8 then (nm (x7 + (1 : Int32)) fun v2 =>
    (k48 x1 x4 s0 x6 v2 M))
    else (nm (x7 + (1 : Int32)) fun v3 =>
    (k48 x1 x4 s0 x8 v3 M))
set_option maxHeartbeats 4000000 in
set_option maxRecDepth 10000 in
theorem w5_test_179 {ad : Nat → Nat} {X : XX} {R : Mem × Int32} {fu : Nat} {k48 : Int32 → Int32 → Int32 → Int32 → Int32 → Mem → Option (Mem × Int32)} (h : Cx layM ad X cX5_test RX5 12 4 (some .int) (R.1) (some (.int R.2))) (hk48 : ∀ (x1 : Int32) (x4 : Int32) (x5 : Int32) (x6 : Int32) (x7 : Int32) (M : Mem), k48 x1 x4 x5 x6 x7 M = some R → Wp layM ad X M 48 [(0, .ref (ad 0)), (1, .int x1), (4, .int x4), (5, .int x5), (6, .int x6), (7, .int x7)] []) {x1 : Int32} {x4 : Int32} {x6 : Int32} {x7 : Int32} {x8 : Int32} {s0 : Int32} {M : Mem} (hF : f5_test_179 fu k48 x1 x4 x6 x7 x8 s0 M = some R) : Wp layM ad X M 179 [(0, .ref (ad 0)), (1, .int x1), (4, .int x4), (6, .int x6), (7, .int x7), (8, .int x8)] [.int s0] := by
  unfold f5_test_179 at hF
  refine R_istore (pc := 179) (lv' := [(5, .int s0), (0, .ref (ad 0)), (1, .int x1), (4, .int x4), (6, .int x6), (7, .int x7), (8, .int x8)]) h rfl (by decide) rfl dX5_test_179 ?_
  refine R_iload (pc := 181) h 6 rfl dX5_test_181 ?_
  refine R_iload (pc := 183) h 4 rfl dX5_test_183 ?_
  refine R_icmp_ge (pc := 185) (tgt := 193) h dX5_test_185 (by decide) (fun c1 => ?_) (fun c1 => ?_)
  · have hF := itp c1 hF
    refine R_iload (pc := 193) h 4 rfl dX5_test_193 ?_
    refine R_istore (pc := 195) (lv' := [(6, .int x6), (5, .int s0), (0, .ref (ad 0)), (1, .int x1), (4, .int x4), (7, .int x7), (8, .int x8)]) h rfl (by decide) rfl dX5_test_195 ?_
    obtain ⟨v2, hv2, hF⟩ := nm_e2 hF
    refine R_iinc (pc := 197) (lv' := [(7, .int v2), (6, .int x6), (5, .int s0), (0, .ref (ad 0)), (1, .int x1), (4, .int x4), (8, .int x8)]) h 5 rfl (by decide) hv2 (by decide) rfl dX5_test_197 ?_
    refine R_goto (pc := 200) (tgt := 48) h dX5_test_200 (by decide) ?_
    exact Wp_sub (nX := 0) (lv' := [(0, .ref (ad 0)), (1, .int x1), (4, .int x4), (5, .int s0), (6, .int x6), (7, .int v2)]) [3, 4, 5, 2, 1, 0] rfl (hk48 _ _ _ _ _ _ hF)
  · have hF := ifn c1 hF
    refine R_iload (pc := 188) h 6 rfl dX5_test_188 ?_
    refine R_goto (pc := 190) (tgt := 195) h dX5_test_190 (by decide) ?_
    refine R_istore (pc := 195) (lv' := [(6, .int x8), (5, .int s0), (0, .ref (ad 0)), (1, .int x1), (4, .int x4), (7, .int x7), (8, .int x8)]) h rfl (by decide) rfl dX5_test_195 ?_
    obtain ⟨v3, hv3, hF⟩ := nm_e2 hF
    refine R_iinc (pc := 197) (lv' := [(7, .int v3), (6, .int x8), (5, .int s0), (0, .ref (ad 0)), (1, .int x1), (4, .int x4), (8, .int x8)]) h 5 rfl (by decide) hv3 (by decide) rfl dX5_test_197 ?_
    refine R_goto (pc := 200) (tgt := 48) h dX5_test_200 (by decide) ?_
    exact Wp_sub (nX := 0) (lv' := [(0, .ref (ad 0)), (1, .int x1), (4, .int x4), (5, .int s0), (6, .int x8), (7, .int v3)]) [3, 4, 5, 2, 1, 0] rfl (hk48 _ _ _ _ _ _ hF)
def f5_test_66 (fu : Nat) (k48 : Int32 → Int32 → Int32 → Int32 → Int32 → Mem → Option (Mem × Int32)) : Nat → Int32 → Int32 → Int32 → Int32 → Int32 → Int32 → Int32 → Mem → Option (Mem × Int32)
  | 0 => fun _ _ _ _ _ _ _ _ => none
  | f + 1 => fun x1 x4 x5 x6 x7 x8 x9 M =>
    if (6 : Int32) ≤ x9 then (if x6 ≤ x8 then ((f5_test_179 fu k48 x1 x4 x6 x7 x8 x5 M))
    else ((f5_test_179 fu k48 x1 x4 x6 x7 x8 x7 M)))
    else ((f5_test_79 fu k48 (f5_test_66 fu k48 f) fu x1 x4 x5 x6 x7 x8 x9 (0 : Int32) (0 : Int32) M))
set_option maxHeartbeats 4000000 in
set_option maxRecDepth 10000 in
theorem w5_testi_66 {ad : Nat → Nat} {X : XX} {R : Mem × Int32} {fu : Nat} {k48 : Int32 → Int32 → Int32 → Int32 → Int32 → Mem → Option (Mem × Int32)} (h : Cx layM ad X cX5_test RX5 12 4 (some .int) (R.1) (some (.int R.2))) (hk48 : ∀ (x1 : Int32) (x4 : Int32) (x5 : Int32) (x6 : Int32) (x7 : Int32) (M : Mem), k48 x1 x4 x5 x6 x7 M = some R → Wp layM ad X M 48 [(0, .ref (ad 0)), (1, .int x1), (4, .int x4), (5, .int x5), (6, .int x6), (7, .int x7)] []) : ∀ (f : Nat) (x1 : Int32) (x4 : Int32) (x5 : Int32) (x6 : Int32) (x7 : Int32) (x8 : Int32) (x9 : Int32) (M : Mem), f5_test_66 fu k48 f x1 x4 x5 x6 x7 x8 x9 M = some R → Wp layM ad X M 66 [(0, .ref (ad 0)), (1, .int x1), (4, .int x4), (5, .int x5), (6, .int x6), (7, .int x7), (8, .int x8), (9, .int x9)] [] := by
  intro f
  induction f with
  | zero => intro x1 x4 x5 x6 x7 x8 x9 M hF; exact absurd hF (by simp [f5_test_66])
  | succ f ih =>
    intro x1 x4 x5 x6 x7 x8 x9 M hF
    rw [f5_test_66] at hF
    refine R_iload (pc := 66) h 7 rfl dX5_test_66 ?_
    refine R_bipush (pc := 68) (v := 6) h (by decide) dX5_test_68 ?_
    refine R_icmp_ge (pc := 70) (tgt := 165) h dX5_test_70 (by decide) (fun c1 => ?_) (fun c1 => ?_)
    · have hF := itp c1 hF
      refine R_iload (pc := 165) h 6 rfl dX5_test_165 ?_
      refine R_iload (pc := 167) h 4 rfl dX5_test_167 ?_
      refine R_icmp_ge (pc := 169) (tgt := 177) h dX5_test_169 (by decide) (fun c2 => ?_) (fun c2 => ?_)
      · have hF := itp c2 hF
        refine R_iload (pc := 177) h 3 rfl dX5_test_177 ?_
        exact Wp_sub (nX := 0) (lv' := [(0, .ref (ad 0)), (1, .int x1), (4, .int x4), (6, .int x6), (7, .int x7), (8, .int x8)]) [0, 1, 2, 4, 5, 6] rfl (w5_test_179 h (hk48 := hk48) (hF := hF))
      · have hF := ifn c2 hF
        refine R_iload (pc := 172) h 5 rfl dX5_test_172 ?_
        refine R_goto (pc := 174) (tgt := 179) h dX5_test_174 (by decide) ?_
        exact Wp_sub (nX := 0) (lv' := [(0, .ref (ad 0)), (1, .int x1), (4, .int x4), (6, .int x6), (7, .int x7), (8, .int x8)]) [0, 1, 2, 4, 5, 6] rfl (w5_test_179 h (hk48 := hk48) (hF := hF))
    · have hF := ifn c1 hF
      refine R_iconst (pc := 73) (v := 0) h (by decide) dX5_test_73 ?_
      refine R_istore (pc := 74) (lv' := [(10, .int (0 : Int32)), (0, .ref (ad 0)), (1, .int x1), (4, .int x4), (5, .int x5), (6, .int x6), (7, .int x7), (8, .int x8), (9, .int x9)]) h rfl (by decide) rfl dX5_test_74 ?_
      refine R_iconst (pc := 76) (v := 0) h (by decide) dX5_test_76 ?_
      refine R_istore (pc := 77) (lv' := [(11, .int (0 : Int32)), (10, .int (0 : Int32)), (0, .ref (ad 0)), (1, .int x1), (4, .int x4), (5, .int x5), (6, .int x6), (7, .int x7), (8, .int x8), (9, .int x9)]) h rfl (by decide) rfl dX5_test_77 ?_
      exact Wp_sub (nX := 0) (lv' := [(0, .ref (ad 0)), (1, .int x1), (4, .int x4), (5, .int x5), (6, .int x6), (7, .int x7), (8, .int x8), (9, .int x9), (10, .int (0 : Int32)), (11, .int (0 : Int32))]) [2, 3, 4, 5, 6, 7, 8, 9, 1, 0] rfl (w5_test_79 h (hk48 := hk48) (hk66 := fun a0 a1 a2 a3 a4 a5 a6 a7 hF => ih a0 a1 a2 a3 a4 a5 a6 a7 hF) (hF := hF))
theorem w5_test_66 {ad : Nat → Nat} {X : XX} {R : Mem × Int32} {fu : Nat} {k48 : Int32 → Int32 → Int32 → Int32 → Int32 → Mem → Option (Mem × Int32)} (h : Cx layM ad X cX5_test RX5 12 4 (some .int) (R.1) (some (.int R.2))) (hk48 : ∀ (x1 : Int32) (x4 : Int32) (x5 : Int32) (x6 : Int32) (x7 : Int32) (M : Mem), k48 x1 x4 x5 x6 x7 M = some R → Wp layM ad X M 48 [(0, .ref (ad 0)), (1, .int x1), (4, .int x4), (5, .int x5), (6, .int x6), (7, .int x7)] []) {f : Nat} {x1 : Int32} {x4 : Int32} {x5 : Int32} {x6 : Int32} {x7 : Int32} {x8 : Int32} {x9 : Int32} {M : Mem} (hF : f5_test_66 fu k48 f x1 x4 x5 x6 x7 x8 x9 M = some R) : Wp layM ad X M 66 [(0, .ref (ad 0)), (1, .int x1), (4, .int x4), (5, .int x5), (6, .int x6), (7, .int x7), (8, .int x8), (9, .int x9)] [] := w5_testi_66 h hk48 f _ _ _ _ _ _ _ _ hF
def f5_test_203 (fu : Nat) (x5 : Int32) (x6 : Int32) (M : Mem) : Option (Mem × Int32) :=
    if x5 = (-9 : Int32) then ((some (M, (-9 : Int32))))
    else ((f5_answer x5 x6 M).bind fun ⟨M3, r4⟩ =>
    (some (M3, r4)))
set_option maxHeartbeats 4000000 in
set_option maxRecDepth 10000 in
theorem w5_test_203 {ad : Nat → Nat} {X : XX} {R : Mem × Int32} {fu : Nat}  (h : Cx layM ad X cX5_test RX5 12 4 (some .int) (R.1) (some (.int R.2)))  {x5 : Int32} {x6 : Int32} {M : Mem} (hF : f5_test_203 fu x5 x6 M = some R) : Wp layM ad X M 203 [(0, .ref (ad 0)), (5, .int x5), (6, .int x6)] [] := by
  unfold f5_test_203 at hF
  refine R_iload (pc := 203) h 1 rfl dX5_test_203 ?_
  refine R_bipush (pc := 205) (v := (-9)) h (by decide) dX5_test_205 ?_
  refine R_icmp_ne (pc := 207) (tgt := 215) h dX5_test_207 (by decide) (fun c1 => ?_) (fun c1 => ?_)
  · have hF := ifn c1 hF
    refine R_aload_n (pc := 215) h 0 rfl rfl dX5_test_215 ?_
    refine R_iload (pc := 216) h 1 rfl dX5_test_216 ?_
    refine R_iload (pc := 218) h 2 rfl dX5_test_218 ?_
    obtain ⟨⟨M3, r4⟩, hc2, hF⟩ := bd hF
    refine R_callV (pc := 220) (st := []) h [.int x5, .int x6] cvX5_181 (c5_answer (ad := ad) (z := X.1) hc2) rfl rfl lm_0 (by decide) (by decide) (Nat.le_of_ble_eq_true rfl) dX5_test_220 (st1 := [.int r4]) rfl ?_
    cases hF
    exact R_ireturn (pc := 223) h rfl rfl rfl dX5_test_223
  · have hF := itp c1 hF
    refine R_bipush (pc := 210) (v := (-9)) h (by decide) dX5_test_210 ?_
    refine R_goto (pc := 212) (tgt := 223) h dX5_test_212 (by decide) ?_
    cases hF
    exact R_ireturn (pc := 223) h rfl rfl rfl dX5_test_223
def f5_test_48 (fu : Nat) : Nat → Int32 → Int32 → Int32 → Int32 → Int32 → Mem → Option (Mem × Int32)
  | 0 => fun _ _ _ _ _ _ => none
  | f + 1 => fun x1 x4 x5 x6 x7 M =>
    if (10 : Int32) ≤ x7 then ((f5_test_203 fu x5 x6 M))
    else (if x4 = 0 then ((f5_test_203 fu x5 x6 M))
    else ((f5_test_66 fu (f5_test_48 fu f) fu x1 x4 x5 x6 x7 (0 : Int32) (0 : Int32) M)))
set_option maxHeartbeats 4000000 in
set_option maxRecDepth 10000 in
theorem w5_testi_48 {ad : Nat → Nat} {X : XX} {R : Mem × Int32} {fu : Nat}  (h : Cx layM ad X cX5_test RX5 12 4 (some .int) (R.1) (some (.int R.2)))  : ∀ (f : Nat) (x1 : Int32) (x4 : Int32) (x5 : Int32) (x6 : Int32) (x7 : Int32) (M : Mem), f5_test_48 fu f x1 x4 x5 x6 x7 M = some R → Wp layM ad X M 48 [(0, .ref (ad 0)), (1, .int x1), (4, .int x4), (5, .int x5), (6, .int x6), (7, .int x7)] [] := by
  intro f
  induction f with
  | zero => intro x1 x4 x5 x6 x7 M hF; exact absurd hF (by simp [f5_test_48])
  | succ f ih =>
    intro x1 x4 x5 x6 x7 M hF
    rw [f5_test_48] at hF
    refine R_iload (pc := 48) h 5 rfl dX5_test_48 ?_
    refine R_bipush (pc := 50) (v := 10) h (by decide) dX5_test_50 ?_
    refine R_icmp_ge (pc := 52) (tgt := 203) h dX5_test_52 (by decide) (fun c1 => ?_) (fun c1 => ?_)
    · have hF := itp c1 hF
      exact Wp_sub (nX := 0) (lv' := [(0, .ref (ad 0)), (5, .int x5), (6, .int x6)]) [0, 3, 4] rfl (w5_test_203 h  (hF := hF))
    · have hF := ifn c1 hF
      refine R_iload (pc := 55) h 2 rfl dX5_test_55 ?_
      refine R_if_eq (pc := 57) (tgt := 203) h dX5_test_57 (by decide) (fun c2 => ?_) (fun c2 => ?_)
      · have hF := itp c2 hF
        exact Wp_sub (nX := 0) (lv' := [(0, .ref (ad 0)), (5, .int x5), (6, .int x6)]) [0, 3, 4] rfl (w5_test_203 h  (hF := hF))
      · have hF := ifn c2 hF
        refine R_iconst (pc := 60) (v := 0) h (by decide) dX5_test_60 ?_
        refine R_istore (pc := 61) (lv' := [(8, .int (0 : Int32)), (0, .ref (ad 0)), (1, .int x1), (4, .int x4), (5, .int x5), (6, .int x6), (7, .int x7)]) h rfl (by decide) rfl dX5_test_61 ?_
        refine R_iconst (pc := 63) (v := 0) h (by decide) dX5_test_63 ?_
        refine R_istore (pc := 64) (lv' := [(9, .int (0 : Int32)), (8, .int (0 : Int32)), (0, .ref (ad 0)), (1, .int x1), (4, .int x4), (5, .int x5), (6, .int x6), (7, .int x7)]) h rfl (by decide) rfl dX5_test_64 ?_
        exact Wp_sub (nX := 0) (lv' := [(0, .ref (ad 0)), (1, .int x1), (4, .int x4), (5, .int x5), (6, .int x6), (7, .int x7), (8, .int (0 : Int32)), (9, .int (0 : Int32))]) [2, 3, 4, 5, 6, 7, 1, 0] rfl (w5_test_66 h (hk48 := fun a0 a1 a2 a3 a4 a5 hF => ih a0 a1 a2 a3 a4 a5 hF) (hF := hF))
theorem w5_test_48 {ad : Nat → Nat} {X : XX} {R : Mem × Int32} {fu : Nat}  (h : Cx layM ad X cX5_test RX5 12 4 (some .int) (R.1) (some (.int R.2)))  {f : Nat} {x1 : Int32} {x4 : Int32} {x5 : Int32} {x6 : Int32} {x7 : Int32} {M : Mem} (hF : f5_test_48 fu f x1 x4 x5 x6 x7 M = some R) : Wp layM ad X M 48 [(0, .ref (ad 0)), (1, .int x1), (4, .int x4), (5, .int x5), (6, .int x6), (7, .int x7)] [] := w5_testi_48 h  f _ _ _ _ _ _ hF
def f5_test (fu : Nat) (x1 : Int32) (x2 : Int32) (M : Mem) : Option (Mem × Int32) :=
    (f5_isPin M x1).bind fun r2 =>
    if r2 = 0 then ((some (M, (-1 : Int32))))
    else ((f5_isRow x2).bind fun r5 =>
    if r5 = 0 then ((some (M, (-1 : Int32))))
    else ((f5_refusesPairs fu x2 M).bind fun ⟨M8, r9⟩ =>
    if r9 = 0 then ((f5_kindsOf M8 fu x1 x2).bind fun r12 =>
    (f5_test_48 fu fu x1 r12 (-9 : Int32) (7 : Int32) (0 : Int32) M8))
    else ((some (M8, r9)))))
set_option maxHeartbeats 4000000 in
set_option maxRecDepth 10000 in
theorem w5_test {ad : Nat → Nat} {X : XX} {R : Mem × Int32} {fu : Nat} (h : Cx layM ad X cX5_test RX5 12 4 (some .int) (R.1) (some (.int R.2))) {x1 : Int32} {x2 : Int32} {M : Mem} (hF : f5_test fu x1 x2 M = some R) : Wp layM ad X M 0 [(0, .ref (ad 0)), (1, .int x1), (2, .int x2)] [] := by
  unfold f5_test at hF
  refine R_aload_n (pc := 0) h 0 rfl rfl dX5_test_0 ?_
  refine R_iload_n (pc := 1) h 1 rfl rfl dX5_test_1 ?_
  obtain ⟨r2, hc1, hF⟩ := bd hF
  refine R_callV (pc := 2) (st := []) h [.int x1] cvX5_153 (c5_isPin (ad := ad) (z := X.1) hc1) rfl rfl lm_0 (by decide) (by decide) (Nat.le_of_ble_eq_true rfl) dX5_test_2 (st1 := [.int r2]) rfl ?_
  refine R_if_eq (pc := 5) (tgt := 15) h dX5_test_5 (by decide) (fun c3 => ?_) (fun c3 => ?_)
  · have hF := itp c3 hF
    refine R_iconst (pc := 15) (v := (-1)) h (by decide) dX5_test_15 ?_
    cases hF
    exact R_ireturn (pc := 16) h rfl rfl rfl dX5_test_16
  · have hF := ifn c3 hF
    refine R_iload_n (pc := 8) h 2 rfl rfl dX5_test_8 ?_
    obtain ⟨r5, hc4, hF⟩ := bd hF
    refine R_callS (pc := 9) (st := []) h [.int x2] csX5_77 (c5_isRow (ad := ad) (z := X.1) (M := M) hc4) rfl rfl (by decide) (by decide) (Nat.le_of_ble_eq_true rfl) dX5_test_9 (st1 := [.int r5]) rfl ?_
    refine R_if_ne (pc := 12) (tgt := 17) h dX5_test_12 (by decide) (fun c6 => ?_) (fun c6 => ?_)
    · have hF := ifn c6 hF
      refine R_aload_n (pc := 17) h 0 rfl rfl dX5_test_17 ?_
      refine R_iload_n (pc := 18) h 2 rfl rfl dX5_test_18 ?_
      obtain ⟨⟨M8, r9⟩, hc7, hF⟩ := bd hF
      refine R_callV (pc := 19) (st := []) h [.int x2] cvX5_212 (c5_refusesPairs (ad := ad) (z := X.1) hc7) rfl rfl lm_0 (by decide) (by decide) (Nat.le_of_ble_eq_true rfl) dX5_test_19 (st1 := [.int r9]) rfl ?_
      refine R_istore_n (pc := 22) (lv' := [(3, .int r9), (0, .ref (ad 0)), (1, .int x1), (2, .int x2)]) h rfl rfl (by decide) rfl dX5_test_22 ?_
      refine R_iload_n (pc := 23) h 0 rfl rfl dX5_test_23 ?_
      refine R_if_eq (pc := 24) (tgt := 29) h dX5_test_24 (by decide) (fun c10 => ?_) (fun c10 => ?_)
      · have hF := itp c10 hF
        refine R_aload_n (pc := 29) h 1 rfl rfl dX5_test_29 ?_
        refine R_iload_n (pc := 30) h 2 rfl rfl dX5_test_30 ?_
        refine R_iload_n (pc := 31) h 3 rfl rfl dX5_test_31 ?_
        obtain ⟨r12, hc11, hF⟩ := bd hF
        refine R_callV (pc := 32) (st := []) h [.int x1, .int x2] cvX5_215 (c5_kindsOf (ad := ad) (z := X.1) hc11) rfl rfl lm_0 (by decide) (by decide) (Nat.le_of_ble_eq_true rfl) dX5_test_32 (st1 := [.int r12]) rfl ?_
        refine R_istore (pc := 35) (lv' := [(4, .int r12), (3, .int r9), (0, .ref (ad 0)), (1, .int x1), (2, .int x2)]) h rfl (by decide) rfl dX5_test_35 ?_
        refine R_bipush (pc := 37) (v := (-9)) h (by decide) dX5_test_37 ?_
        refine R_istore (pc := 39) (lv' := [(5, .int (-9 : Int32)), (4, .int r12), (3, .int r9), (0, .ref (ad 0)), (1, .int x1), (2, .int x2)]) h rfl (by decide) rfl dX5_test_39 ?_
        refine R_bipush (pc := 41) (v := 7) h (by decide) dX5_test_41 ?_
        refine R_istore (pc := 43) (lv' := [(6, .int (7 : Int32)), (5, .int (-9 : Int32)), (4, .int r12), (3, .int r9), (0, .ref (ad 0)), (1, .int x1), (2, .int x2)]) h rfl (by decide) rfl dX5_test_43 ?_
        refine R_iconst (pc := 45) (v := 0) h (by decide) dX5_test_45 ?_
        refine R_istore (pc := 46) (lv' := [(7, .int (0 : Int32)), (6, .int (7 : Int32)), (5, .int (-9 : Int32)), (4, .int r12), (3, .int r9), (0, .ref (ad 0)), (1, .int x1), (2, .int x2)]) h rfl (by decide) rfl dX5_test_46 ?_
        exact Wp_sub (nX := 0) (lv' := [(0, .ref (ad 0)), (1, .int x1), (4, .int r12), (5, .int (-9 : Int32)), (6, .int (7 : Int32)), (7, .int (0 : Int32))]) [5, 6, 3, 2, 1, 0] rfl (w5_test_48 h  (hF := hF))
      · have hF := ifn c10 hF
        refine R_iload_n (pc := 27) h 0 rfl rfl dX5_test_27 ?_
        cases hF
        exact R_ireturn (pc := 28) h rfl rfl rfl dX5_test_28
    · have hF := itp c6 hF
      refine R_iconst (pc := 15) (v := (-1)) h (by decide) dX5_test_15 ?_
      cases hF
      exact R_ireturn (pc := 16) h rfl rfl rfl dX5_test_16
theorem c5_test {ad : Nat → Nat} {z : ZZ} {R : Mem × Int32} {fu : Nat} {x1 : Int32} {x2 : Int32} {M : Mem} (hF : f5_test fu x1 x2 M = some R) : Con layM ad z yX5_test cX5_test 12 (some .int) 4 M [.ref (ad 0), .int x1, .int x2] (R.1) (some (.int R.2)) := con_of (own := RX5) (lv := [(0, .ref (ad 0)), (1, .int x1), (2, .int x2)]) (by decide +kernel) rfl (Nat.le_of_ble_eq_true rfl) rfl (fun X hz h => w5_test h hF)
def f5_lucks_29 (M : Mem) (fu : Nat) : Nat → Int32 → Int32 → Int32 → Int32 → Option (Int32)
  | 0 => fun _ _ _ _ => none
  | f + 1 => fun x1 x2 x3 x4 =>
    if (10 : Int32) ≤ x4 then ((some x3))
    else ((rd M 6 8 x1).bind fun v2 =>
    (f5_worthBy M v2 x1 x4).bind fun r4 =>
    if r4 = x2 then (nm (x3 ||| ((1 : Int32) <<< (x4 &&& 31))) fun v6 =>
    nm (x4 + (1 : Int32)) fun v7 =>
    ((f5_lucks_29 M fu f) x1 x2 v6 v7))
    else (nm (x3 ||| (0 : Int32)) fun v8 =>
    nm (x4 + (1 : Int32)) fun v9 =>
    ((f5_lucks_29 M fu f) x1 x2 v8 v9)))
set_option maxHeartbeats 4000000 in
set_option maxRecDepth 10000 in
theorem w5_lucksi_29 {ad : Nat → Nat} {X : XX} {R : Int32} {M : Mem} {fu : Nat}  (h : Cx layM ad X cX5_lucks RX5 5 3 (some .int) M (some (.int R)))  : ∀ (f : Nat) (x1 : Int32) (x2 : Int32) (x3 : Int32) (x4 : Int32), f5_lucks_29 M fu f x1 x2 x3 x4 = some R → Wp layM ad X M 29 [(0, .ref (ad 0)), (1, .int x1), (2, .int x2), (3, .int x3), (4, .int x4)] [] := by
  intro f
  induction f with
  | zero => intro x1 x2 x3 x4 hF; exact absurd hF (by simp [f5_lucks_29])
  | succ f ih =>
    intro x1 x2 x3 x4 hF
    rw [f5_lucks_29] at hF
    refine R_iload (pc := 29) h 4 rfl dX5_lucks_29 ?_
    refine R_bipush (pc := 31) (v := 10) h (by decide) dX5_lucks_31 ?_
    refine R_icmp_ge (pc := 33) (tgt := 70) h dX5_lucks_33 (by decide) (fun c1 => ?_) (fun c1 => ?_)
    · have hF := itp c1 hF
      refine R_iload_n (pc := 70) h 3 rfl rfl dX5_lucks_70 ?_
      cases hF
      exact R_ireturn (pc := 71) h rfl rfl rfl dX5_lucks_71
    · have hF := ifn c1 hF
      refine R_iload_n (pc := 36) h 3 rfl rfl dX5_lucks_36 ?_
      refine R_aload_n (pc := 37) h 0 rfl rfl dX5_lucks_37 ?_
      refine R_aload_n (pc := 38) h 0 rfl rfl dX5_lucks_38 ?_
      refine R_getR (pc := 39) (q1 := 6) h flX5_29 lm_0 rfl dX5_lucks_39 ?_
      refine R_iload_n (pc := 42) h 1 rfl rfl dX5_lucks_42 ?_
      obtain ⟨v2, hv2, hF⟩ := bd hF
      refine R_iald (pc := 43) h hv2 lm_6 dX5_lucks_43 ?_
      refine R_iload_n (pc := 44) h 1 rfl rfl dX5_lucks_44 ?_
      refine R_iload (pc := 45) h 4 rfl dX5_lucks_45 ?_
      obtain ⟨r4, hc3, hF⟩ := bd hF
      refine R_callV (pc := 47) (st := [.int x3]) h [.int v2, .int x1, .int x4] cvX5_142 (c5_worthBy (ad := ad) (z := X.1) hc3) rfl rfl lm_0 (by decide) (by decide) (Nat.le_of_ble_eq_true rfl) dX5_lucks_47 (st1 := [.int r4, .int x3]) rfl ?_
      refine R_iload_n (pc := 50) h 2 rfl rfl dX5_lucks_50 ?_
      refine R_icmp_ne (pc := 51) (tgt := 61) h dX5_lucks_51 (by decide) (fun c5 => ?_) (fun c5 => ?_)
      · have hF := ifn c5 hF
        refine R_iconst (pc := 61) (v := 0) h (by decide) dX5_lucks_61 ?_
        refine R_ior (pc := 62) h dX5_lucks_62 ?_
        obtain ⟨v8, hv8, hF⟩ := nm_e2 hF
        refine R_istore_n (pc := 63) (lv' := [(3, .int v8), (0, .ref (ad 0)), (1, .int x1), (2, .int x2), (4, .int x4)]) h hv8 rfl (by decide) rfl dX5_lucks_63 ?_
        obtain ⟨v9, hv9, hF⟩ := nm_e2 hF
        refine R_iinc (pc := 64) (lv' := [(4, .int v9), (3, .int v8), (0, .ref (ad 0)), (1, .int x1), (2, .int x2)]) h 4 rfl (by decide) hv9 (by decide) rfl dX5_lucks_64 ?_
        refine R_goto (pc := 67) (tgt := 29) h dX5_lucks_67 (by decide) ?_
        exact Wp_sub (nX := 0) (lv' := [(0, .ref (ad 0)), (1, .int x1), (2, .int x2), (3, .int v8), (4, .int v9)]) [2, 3, 4, 1, 0] rfl (ih _ _ _ _ hF)
      · have hF := itp c5 hF
        refine R_iconst (pc := 54) (v := 1) h (by decide) dX5_lucks_54 ?_
        refine R_iload (pc := 55) h 4 rfl dX5_lucks_55 ?_
        refine R_ishl (pc := 57) h dX5_lucks_57 ?_
        refine R_goto (pc := 58) (tgt := 62) h dX5_lucks_58 (by decide) ?_
        refine R_ior (pc := 62) h dX5_lucks_62 ?_
        obtain ⟨v6, hv6, hF⟩ := nm_e2 hF
        refine R_istore_n (pc := 63) (lv' := [(3, .int v6), (0, .ref (ad 0)), (1, .int x1), (2, .int x2), (4, .int x4)]) h hv6 rfl (by decide) rfl dX5_lucks_63 ?_
        obtain ⟨v7, hv7, hF⟩ := nm_e2 hF
        refine R_iinc (pc := 64) (lv' := [(4, .int v7), (3, .int v6), (0, .ref (ad 0)), (1, .int x1), (2, .int x2)]) h 4 rfl (by decide) hv7 (by decide) rfl dX5_lucks_64 ?_
        refine R_goto (pc := 67) (tgt := 29) h dX5_lucks_67 (by decide) ?_
        exact Wp_sub (nX := 0) (lv' := [(0, .ref (ad 0)), (1, .int x1), (2, .int x2), (3, .int v6), (4, .int v7)]) [2, 3, 4, 1, 0] rfl (ih _ _ _ _ hF)
theorem w5_lucks_29 {ad : Nat → Nat} {X : XX} {R : Int32} {M : Mem} {fu : Nat}  (h : Cx layM ad X cX5_lucks RX5 5 3 (some .int) M (some (.int R)))  {f : Nat} {x1 : Int32} {x2 : Int32} {x3 : Int32} {x4 : Int32} (hF : f5_lucks_29 M fu f x1 x2 x3 x4 = some R) : Wp layM ad X M 29 [(0, .ref (ad 0)), (1, .int x1), (2, .int x2), (3, .int x3), (4, .int x4)] [] := w5_lucksi_29 h  f _ _ _ _ hF
def f5_lucks (M : Mem) (fu : Nat) (x1 : Int32) (x2 : Int32) : Option (Int32) :=
    (f5_isPin M x1).bind fun r2 =>
    if r2 = 0 then ((some (-1 : Int32)))
    else ((f5_in x2.toInt64 (-20 : Int64) (60 : Int64)).bind fun r5 =>
    if r5 = 0 then ((some (-1 : Int32)))
    else ((f5_lucks_29 M fu fu x1 x2 (0 : Int32) (0 : Int32))))
set_option maxHeartbeats 4000000 in
set_option maxRecDepth 10000 in
theorem w5_lucks {ad : Nat → Nat} {X : XX} {R : Int32} {M : Mem} {fu : Nat} (h : Cx layM ad X cX5_lucks RX5 5 3 (some .int) M (some (.int R))) {x1 : Int32} {x2 : Int32} (hF : f5_lucks M fu x1 x2 = some R) : Wp layM ad X M 0 [(0, .ref (ad 0)), (1, .int x1), (2, .int x2)] [] := by
  unfold f5_lucks at hF
  refine R_aload_n (pc := 0) h 0 rfl rfl dX5_lucks_0 ?_
  refine R_iload_n (pc := 1) h 1 rfl rfl dX5_lucks_1 ?_
  obtain ⟨r2, hc1, hF⟩ := bd hF
  refine R_callV (pc := 2) (st := []) h [.int x1] cvX5_153 (c5_isPin (ad := ad) (z := X.1) hc1) rfl rfl lm_0 (by decide) (by decide) (Nat.le_of_ble_eq_true rfl) dX5_lucks_2 (st1 := [.int r2]) rfl ?_
  refine R_if_eq (pc := 5) (tgt := 22) h dX5_lucks_5 (by decide) (fun c3 => ?_) (fun c3 => ?_)
  · have hF := itp c3 hF
    refine R_iconst (pc := 22) (v := (-1)) h (by decide) dX5_lucks_22 ?_
    cases hF
    exact R_ireturn (pc := 23) h rfl rfl rfl dX5_lucks_23
  · have hF := ifn c3 hF
    refine R_iload_n (pc := 8) h 2 rfl rfl dX5_lucks_8 ?_
    refine R_i2l (pc := 9) h dX5_lucks_9 ?_
    refine R_ldc2 (pc := 10) h klX5_208 dX5_lucks_10 ?_
    refine R_ldc2 (pc := 13) h klX5_210 dX5_lucks_13 ?_
    obtain ⟨r5, hc4, hF⟩ := bd hF
    refine R_callS (pc := 16) (st := []) h [.long x2.toInt64, .long (-20 : Int64), .long (60 : Int64)] csX5_71 (c5_in (ad := ad) (z := X.1) (M := M) hc4) rfl rfl (by decide) (by decide) (Nat.le_of_ble_eq_true rfl) dX5_lucks_16 (st1 := [.int r5]) rfl ?_
    refine R_if_ne (pc := 19) (tgt := 24) h dX5_lucks_19 (by decide) (fun c6 => ?_) (fun c6 => ?_)
    · have hF := ifn c6 hF
      refine R_iconst (pc := 24) (v := 0) h (by decide) dX5_lucks_24 ?_
      refine R_istore_n (pc := 25) (lv' := [(3, .int (0 : Int32)), (0, .ref (ad 0)), (1, .int x1), (2, .int x2)]) h rfl rfl (by decide) rfl dX5_lucks_25 ?_
      refine R_iconst (pc := 26) (v := 0) h (by decide) dX5_lucks_26 ?_
      refine R_istore (pc := 27) (lv' := [(4, .int (0 : Int32)), (3, .int (0 : Int32)), (0, .ref (ad 0)), (1, .int x1), (2, .int x2)]) h rfl (by decide) rfl dX5_lucks_27 ?_
      exact Wp_sub (nX := 0) (lv' := [(0, .ref (ad 0)), (1, .int x1), (2, .int x2), (3, .int (0 : Int32)), (4, .int (0 : Int32))]) [2, 3, 4, 1, 0] rfl (w5_lucks_29 h  (hF := hF))
    · have hF := itp c6 hF
      refine R_iconst (pc := 22) (v := (-1)) h (by decide) dX5_lucks_22 ?_
      cases hF
      exact R_ireturn (pc := 23) h rfl rfl rfl dX5_lucks_23
theorem c5_lucks {ad : Nat → Nat} {z : ZZ} {R : Int32} {M : Mem} {fu : Nat} {x1 : Int32} {x2 : Int32} (hF : f5_lucks M fu x1 x2 = some R) : Con layM ad z yX5_lucks cX5_lucks 5 (some .int) 3 M [.ref (ad 0), .int x1, .int x2] (M) (some (.int R)) := con_of (own := RX5) (lv := [(0, .ref (ad 0)), (1, .int x1), (2, .int x2)]) (by decide +kernel) rfl (Nat.le_of_ble_eq_true rfl) rfl (fun X hz h => w5_lucks h hF)
def f5_played_175 (M : Mem) (fu : Nat) (k39 : Int32 → Int32 → Int32 → Int32 → Int32 → Int32 → Int32 → Int32 → Option (Int32)) (x1 : Int32) (x2 : Int32) (x3 : Int32) (x4 : Int32) (x6 : Int32) (x7 : Int32) (x8 : Int32) (x9 : Int32) (s0 : Int32) (s1 : Int32) : Option (Int32) :=
    nm (s1 ||| s0) fun v1 =>
    (rmI x8 (2 : Int32)).bind fun v2 =>
    if v2 = 0 then ((f5_worthOf M x9).bind fun r5 =>
    nm (x6 + r5) fun v6 =>
    nm (x8 + (1 : Int32)) fun v7 =>
    (k39 x1 x2 x3 x4 v1 v6 x7 v7))
    else ((f5_worthOf M x9).bind fun r9 =>
    nm (x6 + (-r9)) fun v10 =>
    nm (x8 + (1 : Int32)) fun v11 =>
    (k39 x1 x2 x3 x4 v1 v10 x7 v11))
set_option maxHeartbeats 4000000 in
set_option maxRecDepth 10000 in
theorem w5_played_175 {ad : Nat → Nat} {X : XX} {R : Int32} {M : Mem} {fu : Nat} {k39 : Int32 → Int32 → Int32 → Int32 → Int32 → Int32 → Int32 → Int32 → Option (Int32)} (h : Cx layM ad X cX5_played RX5 11 4 (some .int) M (some (.int R))) (hk39 : ∀ (x1 : Int32) (x2 : Int32) (x3 : Int32) (x4 : Int32) (x5 : Int32) (x6 : Int32) (x7 : Int32) (x8 : Int32), k39 x1 x2 x3 x4 x5 x6 x7 x8 = some R → Wp layM ad X M 39 [(0, .ref (ad 0)), (1, .int x1), (2, .int x2), (3, .int x3), (4, .int x4), (5, .int x5), (6, .int x6), (7, .int x7), (8, .int x8)] []) {x1 : Int32} {x2 : Int32} {x3 : Int32} {x4 : Int32} {x6 : Int32} {x7 : Int32} {x8 : Int32} {x9 : Int32} {s0 : Int32} {s1 : Int32} (hF : f5_played_175 M fu k39 x1 x2 x3 x4 x6 x7 x8 x9 s0 s1 = some R) : Wp layM ad X M 175 [(0, .ref (ad 0)), (1, .int x1), (2, .int x2), (3, .int x3), (4, .int x4), (6, .int x6), (7, .int x7), (8, .int x8), (9, .int x9)] [.int s0, .int s1] := by
  unfold f5_played_175 at hF
  refine R_ior (pc := 175) h dX5_played_175 ?_
  obtain ⟨v1, hv1, hF⟩ := nm_e2 hF
  refine R_istore (pc := 176) (lv' := [(5, .int v1), (0, .ref (ad 0)), (1, .int x1), (2, .int x2), (3, .int x3), (4, .int x4), (6, .int x6), (7, .int x7), (8, .int x8), (9, .int x9)]) h hv1 (by decide) rfl dX5_played_176 ?_
  refine R_iload (pc := 178) h 6 rfl dX5_played_178 ?_
  refine R_iload (pc := 180) h 8 rfl dX5_played_180 ?_
  refine R_iconst (pc := 182) (v := 2) h (by decide) dX5_played_182 ?_
  obtain ⟨v2, hv2, hF⟩ := bd hF
  refine R_irem (pc := 183) h hv2 dX5_played_183 ?_
  refine R_if_ne (pc := 184) (tgt := 196) h dX5_played_184 (by decide) (fun c3 => ?_) (fun c3 => ?_)
  · have hF := ifn c3 hF
    refine R_aload_n (pc := 196) h 1 rfl rfl dX5_played_196 ?_
    refine R_iload (pc := 197) h 9 rfl dX5_played_197 ?_
    obtain ⟨r9, hc8, hF⟩ := bd hF
    refine R_callV (pc := 199) (st := [.int x6]) h [.int x9] cvX5_146 (c5_worthOf (ad := ad) (z := X.1) hc8) rfl rfl lm_0 (by decide) (by decide) (Nat.le_of_ble_eq_true rfl) dX5_played_199 (st1 := [.int r9, .int x6]) rfl ?_
    refine R_ineg (pc := 202) h dX5_played_202 ?_
    refine R_iadd (pc := 203) h dX5_played_203 ?_
    obtain ⟨v10, hv10, hF⟩ := nm_e2 hF
    refine R_istore (pc := 204) (lv' := [(6, .int v10), (5, .int v1), (0, .ref (ad 0)), (1, .int x1), (2, .int x2), (3, .int x3), (4, .int x4), (7, .int x7), (8, .int x8), (9, .int x9)]) h hv10 (by decide) rfl dX5_played_204 ?_
    obtain ⟨v11, hv11, hF⟩ := nm_e2 hF
    refine R_iinc (pc := 206) (lv' := [(8, .int v11), (6, .int v10), (5, .int v1), (0, .ref (ad 0)), (1, .int x1), (2, .int x2), (3, .int x3), (4, .int x4), (7, .int x7), (9, .int x9)]) h 8 rfl (by decide) hv11 (by decide) rfl dX5_played_206 ?_
    refine R_goto (pc := 209) (tgt := 39) h dX5_played_209 (by decide) ?_
    exact Wp_sub (nX := 0) (lv' := [(0, .ref (ad 0)), (1, .int x1), (2, .int x2), (3, .int x3), (4, .int x4), (5, .int v1), (6, .int v10), (7, .int x7), (8, .int v11)]) [3, 4, 5, 6, 7, 2, 1, 8, 0] rfl (hk39 _ _ _ _ _ _ _ _ hF)
  · have hF := itp c3 hF
    refine R_aload_n (pc := 187) h 1 rfl rfl dX5_played_187 ?_
    refine R_iload (pc := 188) h 9 rfl dX5_played_188 ?_
    obtain ⟨r5, hc4, hF⟩ := bd hF
    refine R_callV (pc := 190) (st := [.int x6]) h [.int x9] cvX5_146 (c5_worthOf (ad := ad) (z := X.1) hc4) rfl rfl lm_0 (by decide) (by decide) (Nat.le_of_ble_eq_true rfl) dX5_played_190 (st1 := [.int r5, .int x6]) rfl ?_
    refine R_goto (pc := 193) (tgt := 203) h dX5_played_193 (by decide) ?_
    refine R_iadd (pc := 203) h dX5_played_203 ?_
    obtain ⟨v6, hv6, hF⟩ := nm_e2 hF
    refine R_istore (pc := 204) (lv' := [(6, .int v6), (5, .int v1), (0, .ref (ad 0)), (1, .int x1), (2, .int x2), (3, .int x3), (4, .int x4), (7, .int x7), (8, .int x8), (9, .int x9)]) h hv6 (by decide) rfl dX5_played_204 ?_
    obtain ⟨v7, hv7, hF⟩ := nm_e2 hF
    refine R_iinc (pc := 206) (lv' := [(8, .int v7), (6, .int v6), (5, .int v1), (0, .ref (ad 0)), (1, .int x1), (2, .int x2), (3, .int x3), (4, .int x4), (7, .int x7), (9, .int x9)]) h 8 rfl (by decide) hv7 (by decide) rfl dX5_played_206 ?_
    refine R_goto (pc := 209) (tgt := 39) h dX5_played_209 (by decide) ?_
    exact Wp_sub (nX := 0) (lv' := [(0, .ref (ad 0)), (1, .int x1), (2, .int x2), (3, .int x3), (4, .int x4), (5, .int v1), (6, .int v6), (7, .int x7), (8, .int v7)]) [3, 4, 5, 6, 7, 2, 1, 8, 0] rfl (hk39 _ _ _ _ _ _ _ _ hF)
def f5_played_152 (M : Mem) (fu : Nat) (k39 : Int32 → Int32 → Int32 → Int32 → Int32 → Int32 → Int32 → Int32 → Option (Int32)) (x1 : Int32) (x2 : Int32) (x3 : Int32) (x5 : Int32) (x6 : Int32) (x7 : Int32) (x8 : Int32) (x9 : Int32) (s0 : Int32) (s1 : Int32) : Option (Int32) :=
    nm (s1 ||| s0) fun v1 =>
    (rmI x8 (2 : Int32)).bind fun v2 =>
    if v2 = (1 : Int32) then ((f5_hoursOf M x9).bind fun r5 =>
    (f5_played_175 M fu k39 x1 x2 x3 v1 x6 x7 x8 x9 r5 x5))
    else ((f5_played_175 M fu k39 x1 x2 x3 v1 x6 x7 x8 x9 (0 : Int32) x5))
set_option maxHeartbeats 4000000 in
set_option maxRecDepth 10000 in
theorem w5_played_152 {ad : Nat → Nat} {X : XX} {R : Int32} {M : Mem} {fu : Nat} {k39 : Int32 → Int32 → Int32 → Int32 → Int32 → Int32 → Int32 → Int32 → Option (Int32)} (h : Cx layM ad X cX5_played RX5 11 4 (some .int) M (some (.int R))) (hk39 : ∀ (x1 : Int32) (x2 : Int32) (x3 : Int32) (x4 : Int32) (x5 : Int32) (x6 : Int32) (x7 : Int32) (x8 : Int32), k39 x1 x2 x3 x4 x5 x6 x7 x8 = some R → Wp layM ad X M 39 [(0, .ref (ad 0)), (1, .int x1), (2, .int x2), (3, .int x3), (4, .int x4), (5, .int x5), (6, .int x6), (7, .int x7), (8, .int x8)] []) {x1 : Int32} {x2 : Int32} {x3 : Int32} {x5 : Int32} {x6 : Int32} {x7 : Int32} {x8 : Int32} {x9 : Int32} {s0 : Int32} {s1 : Int32} (hF : f5_played_152 M fu k39 x1 x2 x3 x5 x6 x7 x8 x9 s0 s1 = some R) : Wp layM ad X M 152 [(0, .ref (ad 0)), (1, .int x1), (2, .int x2), (3, .int x3), (5, .int x5), (6, .int x6), (7, .int x7), (8, .int x8), (9, .int x9)] [.int s0, .int s1] := by
  unfold f5_played_152 at hF
  refine R_ior (pc := 152) h dX5_played_152 ?_
  obtain ⟨v1, hv1, hF⟩ := nm_e2 hF
  refine R_istore (pc := 153) (lv' := [(4, .int v1), (0, .ref (ad 0)), (1, .int x1), (2, .int x2), (3, .int x3), (5, .int x5), (6, .int x6), (7, .int x7), (8, .int x8), (9, .int x9)]) h hv1 (by decide) rfl dX5_played_153 ?_
  refine R_iload (pc := 155) h 5 rfl dX5_played_155 ?_
  refine R_iload (pc := 157) h 8 rfl dX5_played_157 ?_
  refine R_iconst (pc := 159) (v := 2) h (by decide) dX5_played_159 ?_
  obtain ⟨v2, hv2, hF⟩ := bd hF
  refine R_irem (pc := 160) h hv2 dX5_played_160 ?_
  refine R_iconst (pc := 161) (v := 1) h (by decide) dX5_played_161 ?_
  refine R_icmp_ne (pc := 162) (tgt := 174) h dX5_played_162 (by decide) (fun c3 => ?_) (fun c3 => ?_)
  · have hF := ifn c3 hF
    refine R_iconst (pc := 174) (v := 0) h (by decide) dX5_played_174 ?_
    exact Wp_sub (nX := 0) (lv' := [(0, .ref (ad 0)), (1, .int x1), (2, .int x2), (3, .int x3), (4, .int v1), (6, .int x6), (7, .int x7), (8, .int x8), (9, .int x9)]) [1, 2, 3, 4, 0, 6, 7, 8, 9] rfl (w5_played_175 h (hk39 := hk39) (hF := hF))
  · have hF := itp c3 hF
    refine R_aload_n (pc := 165) h 1 rfl rfl dX5_played_165 ?_
    refine R_iload (pc := 166) h 9 rfl dX5_played_166 ?_
    obtain ⟨r5, hc4, hF⟩ := bd hF
    refine R_callV (pc := 168) (st := [.int x5]) h [.int x9] cvX5_136 (c5_hoursOf (ad := ad) (z := X.1) hc4) rfl rfl lm_0 (by decide) (by decide) (Nat.le_of_ble_eq_true rfl) dX5_played_168 (st1 := [.int r5, .int x5]) rfl ?_
    refine R_goto (pc := 171) (tgt := 175) h dX5_played_171 (by decide) ?_
    exact Wp_sub (nX := 0) (lv' := [(0, .ref (ad 0)), (1, .int x1), (2, .int x2), (3, .int x3), (4, .int v1), (6, .int x6), (7, .int x7), (8, .int x8), (9, .int x9)]) [1, 2, 3, 4, 0, 6, 7, 8, 9] rfl (w5_played_175 h (hk39 := hk39) (hF := hF))
def f5_played_82 (M : Mem) (fu : Nat) (k39 : Int32 → Int32 → Int32 → Int32 → Int32 → Int32 → Int32 → Int32 → Option (Int32)) (x1 : Int32) (x2 : Int32) (x3 : Int32) (x4 : Int32) (x5 : Int32) (x6 : Int32) (x7 : Int32) (x8 : Int32) (x9 : Int32) (s0 : Int32) : Option (Int32) :=
    if (M.1 0 9) ≤ x9 then ((some (-1000000 : Int32)))
    else ((f5_lies M x9).bind fun r3 =>
    if r3 = 0 then ((some (-1000000 : Int32)))
    else ((f5_has x3 x9).bind fun r6 =>
    if r6 = 0 then ((f5_hoursOf M x9).bind fun r9 =>
    if (s0 &&& r9) = 0 then (nm (x3 ||| ((1 : Int32) <<< (x9 &&& 31))) fun v11 =>
    (rmI x8 (2 : Int32)).bind fun v12 =>
    if v12 = 0 then ((f5_hoursOf M x9).bind fun r15 =>
    (f5_played_152 M fu k39 x1 x2 v11 x5 x6 x7 x8 x9 r15 x4))
    else ((f5_played_152 M fu k39 x1 x2 v11 x5 x6 x7 x8 x9 (0 : Int32) x4)))
    else ((some (-1000000 : Int32))))
    else ((some (-1000000 : Int32)))))
set_option maxHeartbeats 4000000 in
set_option maxRecDepth 10000 in
theorem w5_played_82 {ad : Nat → Nat} {X : XX} {R : Int32} {M : Mem} {fu : Nat} {k39 : Int32 → Int32 → Int32 → Int32 → Int32 → Int32 → Int32 → Int32 → Option (Int32)} (h : Cx layM ad X cX5_played RX5 11 4 (some .int) M (some (.int R))) (hk39 : ∀ (x1 : Int32) (x2 : Int32) (x3 : Int32) (x4 : Int32) (x5 : Int32) (x6 : Int32) (x7 : Int32) (x8 : Int32), k39 x1 x2 x3 x4 x5 x6 x7 x8 = some R → Wp layM ad X M 39 [(0, .ref (ad 0)), (1, .int x1), (2, .int x2), (3, .int x3), (4, .int x4), (5, .int x5), (6, .int x6), (7, .int x7), (8, .int x8)] []) {x1 : Int32} {x2 : Int32} {x3 : Int32} {x4 : Int32} {x5 : Int32} {x6 : Int32} {x7 : Int32} {x8 : Int32} {x9 : Int32} {s0 : Int32} (hF : f5_played_82 M fu k39 x1 x2 x3 x4 x5 x6 x7 x8 x9 s0 = some R) : Wp layM ad X M 82 [(0, .ref (ad 0)), (1, .int x1), (2, .int x2), (3, .int x3), (4, .int x4), (5, .int x5), (6, .int x6), (7, .int x7), (8, .int x8), (9, .int x9)] [.int s0] := by
  unfold f5_played_82 at hF
  refine R_istore (pc := 82) (lv' := [(10, .int s0), (0, .ref (ad 0)), (1, .int x1), (2, .int x2), (3, .int x3), (4, .int x4), (5, .int x5), (6, .int x6), (7, .int x7), (8, .int x8), (9, .int x9)]) h rfl (by decide) rfl dX5_played_82 ?_
  refine R_iload (pc := 84) h 10 rfl dX5_played_84 ?_
  refine R_aload_n (pc := 86) h 1 rfl rfl dX5_played_86 ?_
  refine R_getI (pc := 87) h flX5_130 lm_0 rfl dX5_played_87 ?_
  refine R_icmp_ge (pc := 90) (tgt := 123) h dX5_played_90 (by decide) (fun c1 => ?_) (fun c1 => ?_)
  · have hF := itp c1 hF
    refine R_ldc (pc := 123) h kiX5_218 dX5_played_123 ?_
    cases hF
    exact R_ireturn (pc := 125) h rfl rfl rfl dX5_played_125
  · have hF := ifn c1 hF
    refine R_aload_n (pc := 93) h 1 rfl rfl dX5_played_93 ?_
    refine R_iload (pc := 94) h 10 rfl dX5_played_94 ?_
    obtain ⟨r3, hc2, hF⟩ := bd hF
    refine R_callV (pc := 96) (st := []) h [.int x9] cvX5_133 (c5_lies (ad := ad) (z := X.1) hc2) rfl rfl lm_0 (by decide) (by decide) (Nat.le_of_ble_eq_true rfl) dX5_played_96 (st1 := [.int r3]) rfl ?_
    refine R_if_eq (pc := 99) (tgt := 123) h dX5_played_99 (by decide) (fun c4 => ?_) (fun c4 => ?_)
    · have hF := itp c4 hF
      refine R_ldc (pc := 123) h kiX5_218 dX5_played_123 ?_
      cases hF
      exact R_ireturn (pc := 125) h rfl rfl rfl dX5_played_125
    · have hF := ifn c4 hF
      refine R_iload_n (pc := 102) h 4 rfl rfl dX5_played_102 ?_
      refine R_iload (pc := 103) h 10 rfl dX5_played_103 ?_
      obtain ⟨r6, hc5, hF⟩ := bd hF
      refine R_callS (pc := 105) (st := []) h [.int x3, .int x9] csX5_139 (c5_has (ad := ad) (z := X.1) (M := M) hc5) rfl rfl (by decide) (by decide) (Nat.le_of_ble_eq_true rfl) dX5_played_105 (st1 := [.int r6]) rfl ?_
      refine R_if_ne (pc := 108) (tgt := 123) h dX5_played_108 (by decide) (fun c7 => ?_) (fun c7 => ?_)
      · have hF := ifn c7 hF
        refine R_ldc (pc := 123) h kiX5_218 dX5_played_123 ?_
        cases hF
        exact R_ireturn (pc := 125) h rfl rfl rfl dX5_played_125
      · have hF := itp c7 hF
        refine R_iload (pc := 111) h 0 rfl dX5_played_111 ?_
        refine R_aload_n (pc := 113) h 1 rfl rfl dX5_played_113 ?_
        refine R_iload (pc := 114) h 10 rfl dX5_played_114 ?_
        obtain ⟨r9, hc8, hF⟩ := bd hF
        refine R_callV (pc := 116) (st := [.int s0]) h [.int x9] cvX5_136 (c5_hoursOf (ad := ad) (z := X.1) hc8) rfl rfl lm_0 (by decide) (by decide) (Nat.le_of_ble_eq_true rfl) dX5_played_116 (st1 := [.int r9, .int s0]) rfl ?_
        refine R_iand (pc := 119) h dX5_played_119 ?_
        refine R_if_eq (pc := 120) (tgt := 126) h dX5_played_120 (by decide) (fun c10 => ?_) (fun c10 => ?_)
        · have hF := itp c10 hF
          refine R_iload_n (pc := 126) h 4 rfl rfl dX5_played_126 ?_
          refine R_iconst (pc := 127) (v := 1) h (by decide) dX5_played_127 ?_
          refine R_iload (pc := 128) h 10 rfl dX5_played_128 ?_
          refine R_ishl (pc := 130) h dX5_played_130 ?_
          refine R_ior (pc := 131) h dX5_played_131 ?_
          obtain ⟨v11, hv11, hF⟩ := nm_e2 hF
          refine R_istore_n (pc := 132) (lv' := [(3, .int v11), (10, .int s0), (0, .ref (ad 0)), (1, .int x1), (2, .int x2), (4, .int x4), (5, .int x5), (6, .int x6), (7, .int x7), (8, .int x8), (9, .int x9)]) h hv11 rfl (by decide) rfl dX5_played_132 ?_
          refine R_iload (pc := 133) h 5 rfl dX5_played_133 ?_
          refine R_iload (pc := 135) h 9 rfl dX5_played_135 ?_
          refine R_iconst (pc := 137) (v := 2) h (by decide) dX5_played_137 ?_
          obtain ⟨v12, hv12, hF⟩ := bd hF
          refine R_irem (pc := 138) h hv12 dX5_played_138 ?_
          refine R_if_ne (pc := 139) (tgt := 151) h dX5_played_139 (by decide) (fun c13 => ?_) (fun c13 => ?_)
          · have hF := ifn c13 hF
            refine R_iconst (pc := 151) (v := 0) h (by decide) dX5_played_151 ?_
            exact Wp_sub (nX := 0) (lv' := [(0, .ref (ad 0)), (1, .int x1), (2, .int x2), (3, .int v11), (5, .int x5), (6, .int x6), (7, .int x7), (8, .int x8), (9, .int x9)]) [2, 3, 4, 0, 6, 7, 8, 9, 10] rfl (w5_played_152 h (hk39 := hk39) (hF := hF))
          · have hF := itp c13 hF
            refine R_aload_n (pc := 142) h 2 rfl rfl dX5_played_142 ?_
            refine R_iload (pc := 143) h 10 rfl dX5_played_143 ?_
            obtain ⟨r15, hc14, hF⟩ := bd hF
            refine R_callV (pc := 145) (st := [.int x4]) h [.int x9] cvX5_136 (c5_hoursOf (ad := ad) (z := X.1) hc14) rfl rfl lm_0 (by decide) (by decide) (Nat.le_of_ble_eq_true rfl) dX5_played_145 (st1 := [.int r15, .int x4]) rfl ?_
            refine R_goto (pc := 148) (tgt := 152) h dX5_played_148 (by decide) ?_
            exact Wp_sub (nX := 0) (lv' := [(0, .ref (ad 0)), (1, .int x1), (2, .int x2), (3, .int v11), (5, .int x5), (6, .int x6), (7, .int x7), (8, .int x8), (9, .int x9)]) [2, 3, 4, 0, 6, 7, 8, 9, 10] rfl (w5_played_152 h (hk39 := hk39) (hF := hF))
        · have hF := ifn c10 hF
          refine R_ldc (pc := 123) h kiX5_218 dX5_played_123 ?_
          cases hF
          exact R_ireturn (pc := 125) h rfl rfl rfl dX5_played_125
def f5_played_39 (M : Mem) (fu : Nat) : Nat → Int32 → Int32 → Int32 → Int32 → Int32 → Int32 → Int32 → Int32 → Option (Int32)
  | 0 => fun _ _ _ _ _ _ _ _ => none
  | f + 1 => fun x1 x2 x3 x4 x5 x6 x7 x8 =>
    if x2 ≤ x8 then ((some x6))
    else ((dvI x1 x7).bind fun v2 =>
    (rmI v2 (9 : Int32)).bind fun v3 =>
    (dvI x7 (9 : Int32)).bind fun v4 =>
    if (8 : Int32) ≤ v3 then (nm (x8 + (1 : Int32)) fun v6 =>
    ((f5_played_39 M fu f) x1 x2 x3 x4 x5 x6 v4 v6))
    else ((rmI x8 (2 : Int32)).bind fun v7 =>
    if v7 = 0 then ((f5_played_82 M fu (f5_played_39 M fu f) x1 x2 x3 x4 x5 x6 v4 x8 v3 x4))
    else ((f5_played_82 M fu (f5_played_39 M fu f) x1 x2 x3 x4 x5 x6 v4 x8 v3 x5))))
set_option maxHeartbeats 4000000 in
set_option maxRecDepth 10000 in
theorem w5_playedi_39 {ad : Nat → Nat} {X : XX} {R : Int32} {M : Mem} {fu : Nat}  (h : Cx layM ad X cX5_played RX5 11 4 (some .int) M (some (.int R)))  : ∀ (f : Nat) (x1 : Int32) (x2 : Int32) (x3 : Int32) (x4 : Int32) (x5 : Int32) (x6 : Int32) (x7 : Int32) (x8 : Int32), f5_played_39 M fu f x1 x2 x3 x4 x5 x6 x7 x8 = some R → Wp layM ad X M 39 [(0, .ref (ad 0)), (1, .int x1), (2, .int x2), (3, .int x3), (4, .int x4), (5, .int x5), (6, .int x6), (7, .int x7), (8, .int x8)] [] := by
  intro f
  induction f with
  | zero => intro x1 x2 x3 x4 x5 x6 x7 x8 hF; exact absurd hF (by simp [f5_played_39])
  | succ f ih =>
    intro x1 x2 x3 x4 x5 x6 x7 x8 hF
    rw [f5_played_39] at hF
    refine R_iload (pc := 39) h 8 rfl dX5_played_39 ?_
    refine R_iload_n (pc := 41) h 2 rfl rfl dX5_played_41 ?_
    refine R_icmp_ge (pc := 42) (tgt := 212) h dX5_played_42 (by decide) (fun c1 => ?_) (fun c1 => ?_)
    · have hF := itp c1 hF
      refine R_iload (pc := 212) h 6 rfl dX5_played_212 ?_
      cases hF
      exact R_ireturn (pc := 214) h rfl rfl rfl dX5_played_214
    · have hF := ifn c1 hF
      refine R_iload_n (pc := 45) h 1 rfl rfl dX5_played_45 ?_
      refine R_iload (pc := 46) h 7 rfl dX5_played_46 ?_
      obtain ⟨v2, hv2, hF⟩ := bd hF
      refine R_idiv (pc := 48) h hv2 dX5_played_48 ?_
      refine R_bipush (pc := 49) (v := 9) h (by decide) dX5_played_49 ?_
      obtain ⟨v3, hv3, hF⟩ := bd hF
      refine R_irem (pc := 51) h hv3 dX5_played_51 ?_
      refine R_istore (pc := 52) (lv' := [(9, .int v3), (0, .ref (ad 0)), (1, .int x1), (2, .int x2), (3, .int x3), (4, .int x4), (5, .int x5), (6, .int x6), (7, .int x7), (8, .int x8)]) h rfl (by decide) rfl dX5_played_52 ?_
      refine R_iload (pc := 54) h 8 rfl dX5_played_54 ?_
      refine R_bipush (pc := 56) (v := 9) h (by decide) dX5_played_56 ?_
      obtain ⟨v4, hv4, hF⟩ := bd hF
      refine R_idiv (pc := 58) h hv4 dX5_played_58 ?_
      refine R_istore (pc := 59) (lv' := [(7, .int v4), (9, .int v3), (0, .ref (ad 0)), (1, .int x1), (2, .int x2), (3, .int x3), (4, .int x4), (5, .int x5), (6, .int x6), (8, .int x8)]) h rfl (by decide) rfl dX5_played_59 ?_
      refine R_iload (pc := 61) h 1 rfl dX5_played_61 ?_
      refine R_bipush (pc := 63) (v := 8) h (by decide) dX5_played_63 ?_
      refine R_icmp_ge (pc := 65) (tgt := 206) h dX5_played_65 (by decide) (fun c5 => ?_) (fun c5 => ?_)
      · have hF := itp c5 hF
        obtain ⟨v6, hv6, hF⟩ := nm_e2 hF
        refine R_iinc (pc := 206) (lv' := [(8, .int v6), (7, .int v4), (9, .int v3), (0, .ref (ad 0)), (1, .int x1), (2, .int x2), (3, .int x3), (4, .int x4), (5, .int x5), (6, .int x6)]) h 9 rfl (by decide) hv6 (by decide) rfl dX5_played_206 ?_
        refine R_goto (pc := 209) (tgt := 39) h dX5_played_209 (by decide) ?_
        exact Wp_sub (nX := 0) (lv' := [(0, .ref (ad 0)), (1, .int x1), (2, .int x2), (3, .int x3), (4, .int x4), (5, .int x5), (6, .int x6), (7, .int v4), (8, .int v6)]) [3, 4, 5, 6, 7, 8, 9, 1, 0] rfl (ih _ _ _ _ _ _ _ _ hF)
      · have hF := ifn c5 hF
        refine R_iload (pc := 68) h 9 rfl dX5_played_68 ?_
        refine R_iconst (pc := 70) (v := 2) h (by decide) dX5_played_70 ?_
        obtain ⟨v7, hv7, hF⟩ := bd hF
        refine R_irem (pc := 71) h hv7 dX5_played_71 ?_
        refine R_if_ne (pc := 72) (tgt := 80) h dX5_played_72 (by decide) (fun c8 => ?_) (fun c8 => ?_)
        · have hF := ifn c8 hF
          refine R_iload (pc := 80) h 7 rfl dX5_played_80 ?_
          exact Wp_sub (nX := 0) (lv' := [(0, .ref (ad 0)), (1, .int x1), (2, .int x2), (3, .int x3), (4, .int x4), (5, .int x5), (6, .int x6), (7, .int v4), (8, .int x8), (9, .int v3)]) [2, 3, 4, 5, 6, 7, 8, 0, 9, 1] rfl (w5_played_82 h (hk39 := fun a0 a1 a2 a3 a4 a5 a6 a7 hF => ih a0 a1 a2 a3 a4 a5 a6 a7 hF) (hF := hF))
        · have hF := itp c8 hF
          refine R_iload (pc := 75) h 6 rfl dX5_played_75 ?_
          refine R_goto (pc := 77) (tgt := 82) h dX5_played_77 (by decide) ?_
          exact Wp_sub (nX := 0) (lv' := [(0, .ref (ad 0)), (1, .int x1), (2, .int x2), (3, .int x3), (4, .int x4), (5, .int x5), (6, .int x6), (7, .int v4), (8, .int x8), (9, .int v3)]) [2, 3, 4, 5, 6, 7, 8, 0, 9, 1] rfl (w5_played_82 h (hk39 := fun a0 a1 a2 a3 a4 a5 a6 a7 hF => ih a0 a1 a2 a3 a4 a5 a6 a7 hF) (hF := hF))
theorem w5_played_39 {ad : Nat → Nat} {X : XX} {R : Int32} {M : Mem} {fu : Nat}  (h : Cx layM ad X cX5_played RX5 11 4 (some .int) M (some (.int R)))  {f : Nat} {x1 : Int32} {x2 : Int32} {x3 : Int32} {x4 : Int32} {x5 : Int32} {x6 : Int32} {x7 : Int32} {x8 : Int32} (hF : f5_played_39 M fu f x1 x2 x3 x4 x5 x6 x7 x8 = some R) : Wp layM ad X M 39 [(0, .ref (ad 0)), (1, .int x1), (2, .int x2), (3, .int x3), (4, .int x4), (5, .int x5), (6, .int x6), (7, .int x7), (8, .int x8)] [] := w5_playedi_39 h  f _ _ _ _ _ _ _ _ hF
def f5_played_17 (M : Mem) (fu : Nat) : Nat → Int32 → Int32 → Int32 → Int32 → Int32 → Int32 → Int32 → Int32 → Option (Int32)
  | 0 => fun _ _ _ _ _ _ _ _ => none
  | f + 1 => fun x1 x2 x3 x4 x5 x6 x7 x8 =>
    if x2 ≤ x8 then ((f5_played_39 M fu fu x1 x2 x3 x4 x5 x6 x7 (0 : Int32)))
    else (nm (x7 * (9 : Int32)) fun v2 =>
    nm (x8 + (1 : Int32)) fun v3 =>
    ((f5_played_17 M fu f) x1 x2 x3 x4 x5 x6 v2 v3))
set_option maxHeartbeats 4000000 in
set_option maxRecDepth 10000 in
theorem w5_playedi_17 {ad : Nat → Nat} {X : XX} {R : Int32} {M : Mem} {fu : Nat}  (h : Cx layM ad X cX5_played RX5 11 4 (some .int) M (some (.int R)))  : ∀ (f : Nat) (x1 : Int32) (x2 : Int32) (x3 : Int32) (x4 : Int32) (x5 : Int32) (x6 : Int32) (x7 : Int32) (x8 : Int32), f5_played_17 M fu f x1 x2 x3 x4 x5 x6 x7 x8 = some R → Wp layM ad X M 17 [(0, .ref (ad 0)), (1, .int x1), (2, .int x2), (3, .int x3), (4, .int x4), (5, .int x5), (6, .int x6), (7, .int x7), (8, .int x8)] [] := by
  intro f
  induction f with
  | zero => intro x1 x2 x3 x4 x5 x6 x7 x8 hF; exact absurd hF (by simp [f5_played_17])
  | succ f ih =>
    intro x1 x2 x3 x4 x5 x6 x7 x8 hF
    rw [f5_played_17] at hF
    refine R_iload (pc := 17) h 8 rfl dX5_played_17 ?_
    refine R_iload_n (pc := 19) h 2 rfl rfl dX5_played_19 ?_
    refine R_icmp_ge (pc := 20) (tgt := 36) h dX5_played_20 (by decide) (fun c1 => ?_) (fun c1 => ?_)
    · have hF := itp c1 hF
      refine R_iconst (pc := 36) (v := 0) h (by decide) dX5_played_36 ?_
      refine R_istore (pc := 37) (lv' := [(8, .int (0 : Int32)), (0, .ref (ad 0)), (1, .int x1), (2, .int x2), (3, .int x3), (4, .int x4), (5, .int x5), (6, .int x6), (7, .int x7)]) h rfl (by decide) rfl dX5_played_37 ?_
      exact Wp_sub (nX := 0) (lv' := [(0, .ref (ad 0)), (1, .int x1), (2, .int x2), (3, .int x3), (4, .int x4), (5, .int x5), (6, .int x6), (7, .int x7), (8, .int (0 : Int32))]) [1, 2, 3, 4, 5, 6, 7, 8, 0] rfl (w5_played_39 h  (hF := hF))
    · have hF := ifn c1 hF
      refine R_iload (pc := 23) h 7 rfl dX5_played_23 ?_
      refine R_bipush (pc := 25) (v := 9) h (by decide) dX5_played_25 ?_
      refine R_imul (pc := 27) h dX5_played_27 ?_
      obtain ⟨v2, hv2, hF⟩ := nm_e2 hF
      refine R_istore (pc := 28) (lv' := [(7, .int v2), (0, .ref (ad 0)), (1, .int x1), (2, .int x2), (3, .int x3), (4, .int x4), (5, .int x5), (6, .int x6), (8, .int x8)]) h hv2 (by decide) rfl dX5_played_28 ?_
      obtain ⟨v3, hv3, hF⟩ := nm_e2 hF
      refine R_iinc (pc := 30) (lv' := [(8, .int v3), (7, .int v2), (0, .ref (ad 0)), (1, .int x1), (2, .int x2), (3, .int x3), (4, .int x4), (5, .int x5), (6, .int x6)]) h 8 rfl (by decide) hv3 (by decide) rfl dX5_played_30 ?_
      refine R_goto (pc := 33) (tgt := 17) h dX5_played_33 (by decide) ?_
      exact Wp_sub (nX := 0) (lv' := [(0, .ref (ad 0)), (1, .int x1), (2, .int x2), (3, .int x3), (4, .int x4), (5, .int x5), (6, .int x6), (7, .int v2), (8, .int v3)]) [2, 3, 4, 5, 6, 7, 8, 1, 0] rfl (ih _ _ _ _ _ _ _ _ hF)
theorem w5_played_17 {ad : Nat → Nat} {X : XX} {R : Int32} {M : Mem} {fu : Nat}  (h : Cx layM ad X cX5_played RX5 11 4 (some .int) M (some (.int R)))  {f : Nat} {x1 : Int32} {x2 : Int32} {x3 : Int32} {x4 : Int32} {x5 : Int32} {x6 : Int32} {x7 : Int32} {x8 : Int32} (hF : f5_played_17 M fu f x1 x2 x3 x4 x5 x6 x7 x8 = some R) : Wp layM ad X M 17 [(0, .ref (ad 0)), (1, .int x1), (2, .int x2), (3, .int x3), (4, .int x4), (5, .int x5), (6, .int x6), (7, .int x7), (8, .int x8)] [] := w5_playedi_17 h  f _ _ _ _ _ _ _ _ hF
def f5_played (M : Mem) (fu : Nat) (x1 : Int32) (x2 : Int32) : Option (Int32) :=
    (f5_played_17 M fu fu x1 x2 (0 : Int32) (0 : Int32) (0 : Int32) (0 : Int32) (1 : Int32) (1 : Int32))
set_option maxHeartbeats 4000000 in
set_option maxRecDepth 10000 in
theorem w5_played {ad : Nat → Nat} {X : XX} {R : Int32} {M : Mem} {fu : Nat} (h : Cx layM ad X cX5_played RX5 11 4 (some .int) M (some (.int R))) {x1 : Int32} {x2 : Int32} (hF : f5_played M fu x1 x2 = some R) : Wp layM ad X M 0 [(0, .ref (ad 0)), (1, .int x1), (2, .int x2)] [] := by
  unfold f5_played at hF
  refine R_iconst (pc := 0) (v := 0) h (by decide) dX5_played_0 ?_
  refine R_istore_n (pc := 1) (lv' := [(3, .int (0 : Int32)), (0, .ref (ad 0)), (1, .int x1), (2, .int x2)]) h rfl rfl (by decide) rfl dX5_played_1 ?_
  refine R_iconst (pc := 2) (v := 0) h (by decide) dX5_played_2 ?_
  refine R_istore (pc := 3) (lv' := [(4, .int (0 : Int32)), (3, .int (0 : Int32)), (0, .ref (ad 0)), (1, .int x1), (2, .int x2)]) h rfl (by decide) rfl dX5_played_3 ?_
  refine R_iconst (pc := 5) (v := 0) h (by decide) dX5_played_5 ?_
  refine R_istore (pc := 6) (lv' := [(5, .int (0 : Int32)), (4, .int (0 : Int32)), (3, .int (0 : Int32)), (0, .ref (ad 0)), (1, .int x1), (2, .int x2)]) h rfl (by decide) rfl dX5_played_6 ?_
  refine R_iconst (pc := 8) (v := 0) h (by decide) dX5_played_8 ?_
  refine R_istore (pc := 9) (lv' := [(6, .int (0 : Int32)), (5, .int (0 : Int32)), (4, .int (0 : Int32)), (3, .int (0 : Int32)), (0, .ref (ad 0)), (1, .int x1), (2, .int x2)]) h rfl (by decide) rfl dX5_played_9 ?_
  refine R_iconst (pc := 11) (v := 1) h (by decide) dX5_played_11 ?_
  refine R_istore (pc := 12) (lv' := [(7, .int (1 : Int32)), (6, .int (0 : Int32)), (5, .int (0 : Int32)), (4, .int (0 : Int32)), (3, .int (0 : Int32)), (0, .ref (ad 0)), (1, .int x1), (2, .int x2)]) h rfl (by decide) rfl dX5_played_12 ?_
  refine R_iconst (pc := 14) (v := 1) h (by decide) dX5_played_14 ?_
  refine R_istore (pc := 15) (lv' := [(8, .int (1 : Int32)), (7, .int (1 : Int32)), (6, .int (0 : Int32)), (5, .int (0 : Int32)), (4, .int (0 : Int32)), (3, .int (0 : Int32)), (0, .ref (ad 0)), (1, .int x1), (2, .int x2)]) h rfl (by decide) rfl dX5_played_15 ?_
  exact Wp_sub (nX := 0) (lv' := [(0, .ref (ad 0)), (1, .int x1), (2, .int x2), (3, .int (0 : Int32)), (4, .int (0 : Int32)), (5, .int (0 : Int32)), (6, .int (0 : Int32)), (7, .int (1 : Int32)), (8, .int (1 : Int32))]) [6, 7, 8, 5, 4, 3, 2, 1, 0] rfl (w5_played_17 h  (hF := hF))
theorem c5_played {ad : Nat → Nat} {z : ZZ} {R : Int32} {M : Mem} {fu : Nat} {x1 : Int32} {x2 : Int32} (hF : f5_played M fu x1 x2 = some R) : Con layM ad z yX5_played cX5_played 11 (some .int) 4 M [.ref (ad 0), .int x1, .int x2] (M) (some (.int R)) := con_of (own := RX5) (lv := [(0, .ref (ad 0)), (1, .int x1), (2, .int x2)]) (by decide +kernel) rfl (Nat.le_of_ble_eq_true rfl) rfl (fun X hz h => w5_played h hF)
