theorem dX3_lowest_0 : decode cX3_lowest 0 = .ok (.bipush 9, 2) := by decide +kernel
theorem dX3_lowest_2 : decode cX3_lowest 2 = .ok (.istore_n 2, 1) := by decide +kernel
theorem dX3_lowest_3 : decode cX3_lowest 3 = .ok (.iconst 0, 1) := by decide +kernel
theorem dX3_lowest_4 : decode cX3_lowest 4 = .ok (.istore_n 3, 1) := by decide +kernel
theorem dX3_lowest_5 : decode cX3_lowest 5 = .ok (.iload_n 3, 1) := by decide +kernel
theorem dX3_lowest_6 : decode cX3_lowest 6 = .ok (.aload_n 0, 1) := by decide +kernel
theorem dX3_lowest_7 : decode cX3_lowest 7 = .ok (.getfield 12, 3) := by decide +kernel
theorem dX3_lowest_10 : decode cX3_lowest 10 = .ok (.getfield 46, 3) := by decide +kernel
theorem dX3_lowest_13 : decode cX3_lowest 13 = .ok (.if_icmp .ge 28, 3) := by decide +kernel
theorem dX3_lowest_16 : decode cX3_lowest 16 = .ok (.iload_n 1, 1) := by decide +kernel
theorem dX3_lowest_17 : decode cX3_lowest 17 = .ok (.iload_n 3, 1) := by decide +kernel
theorem dX3_lowest_18 : decode cX3_lowest 18 = .ok (.ishr, 1) := by decide +kernel
theorem dX3_lowest_19 : decode cX3_lowest 19 = .ok (.iconst 1, 1) := by decide +kernel
theorem dX3_lowest_20 : decode cX3_lowest 20 = .ok (.iand, 1) := by decide +kernel
theorem dX3_lowest_21 : decode cX3_lowest 21 = .ok (.ifCond .eq 14, 3) := by decide +kernel
theorem dX3_lowest_24 : decode cX3_lowest 24 = .ok (.iload_n 2, 1) := by decide +kernel
theorem dX3_lowest_25 : decode cX3_lowest 25 = .ok (.aload_n 0, 1) := by decide +kernel
theorem dX3_lowest_26 : decode cX3_lowest 26 = .ok (.getfield 35, 3) := by decide +kernel
theorem dX3_lowest_29 : decode cX3_lowest 29 = .ok (.iload_n 3, 1) := by decide +kernel
theorem dX3_lowest_30 : decode cX3_lowest 30 = .ok (.iaload, 1) := by decide +kernel
theorem dX3_lowest_31 : decode cX3_lowest 31 = .ok (.invokestatic 72, 3) := by decide +kernel
theorem dX3_lowest_34 : decode cX3_lowest 34 = .ok (.istore_n 2, 1) := by decide +kernel
theorem dX3_lowest_35 : decode cX3_lowest 35 = .ok (.iinc 3 1, 3) := by decide +kernel
theorem dX3_lowest_38 : decode cX3_lowest 38 = .ok (.goto (-33), 3) := by decide +kernel
theorem dX3_lowest_41 : decode cX3_lowest 41 = .ok (.iload_n 2, 1) := by decide +kernel
theorem dX3_lowest_42 : decode cX3_lowest 42 = .ok (.ireturn, 1) := by decide +kernel
theorem dX3_highest_0 : decode cX3_highest 0 = .ok (.iconst 0, 1) := by decide +kernel
theorem dX3_highest_1 : decode cX3_highest 1 = .ok (.istore_n 2, 1) := by decide +kernel
theorem dX3_highest_2 : decode cX3_highest 2 = .ok (.iconst 0, 1) := by decide +kernel
theorem dX3_highest_3 : decode cX3_highest 3 = .ok (.istore_n 3, 1) := by decide +kernel
theorem dX3_highest_4 : decode cX3_highest 4 = .ok (.iload_n 3, 1) := by decide +kernel
theorem dX3_highest_5 : decode cX3_highest 5 = .ok (.aload_n 0, 1) := by decide +kernel
theorem dX3_highest_6 : decode cX3_highest 6 = .ok (.getfield 12, 3) := by decide +kernel
theorem dX3_highest_9 : decode cX3_highest 9 = .ok (.getfield 46, 3) := by decide +kernel
theorem dX3_highest_12 : decode cX3_highest 12 = .ok (.if_icmp .ge 28, 3) := by decide +kernel
theorem dX3_highest_15 : decode cX3_highest 15 = .ok (.iload_n 1, 1) := by decide +kernel
theorem dX3_highest_16 : decode cX3_highest 16 = .ok (.iload_n 3, 1) := by decide +kernel
theorem dX3_highest_17 : decode cX3_highest 17 = .ok (.ishr, 1) := by decide +kernel
theorem dX3_highest_18 : decode cX3_highest 18 = .ok (.iconst 1, 1) := by decide +kernel
theorem dX3_highest_19 : decode cX3_highest 19 = .ok (.iand, 1) := by decide +kernel
theorem dX3_highest_20 : decode cX3_highest 20 = .ok (.ifCond .eq 14, 3) := by decide +kernel
theorem dX3_highest_23 : decode cX3_highest 23 = .ok (.iload_n 2, 1) := by decide +kernel
theorem dX3_highest_24 : decode cX3_highest 24 = .ok (.aload_n 0, 1) := by decide +kernel
theorem dX3_highest_25 : decode cX3_highest 25 = .ok (.getfield 35, 3) := by decide +kernel
theorem dX3_highest_28 : decode cX3_highest 28 = .ok (.iload_n 3, 1) := by decide +kernel
theorem dX3_highest_29 : decode cX3_highest 29 = .ok (.iaload, 1) := by decide +kernel
theorem dX3_highest_30 : decode cX3_highest 30 = .ok (.invokestatic 78, 3) := by decide +kernel
theorem dX3_highest_33 : decode cX3_highest 33 = .ok (.istore_n 2, 1) := by decide +kernel
theorem dX3_highest_34 : decode cX3_highest 34 = .ok (.iinc 3 1, 3) := by decide +kernel
theorem dX3_highest_37 : decode cX3_highest 37 = .ok (.goto (-33), 3) := by decide +kernel
theorem dX3_highest_40 : decode cX3_highest 40 = .ok (.iload_n 2, 1) := by decide +kernel
theorem dX3_highest_41 : decode cX3_highest 41 = .ok (.ireturn, 1) := by decide +kernel
theorem dX3_stepsBy_0 : decode cX3_stepsBy 0 = .ok (.iload_n 1, 1) := by decide +kernel
theorem dX3_stepsBy_1 : decode cX3_stepsBy 1 = .ok (.aload_n 0, 1) := by decide +kernel
theorem dX3_stepsBy_2 : decode cX3_stepsBy 2 = .ok (.getfield 25, 3) := by decide +kernel
theorem dX3_stepsBy_5 : decode cX3_stepsBy 5 = .ok (.isub, 1) := by decide +kernel
theorem dX3_stepsBy_6 : decode cX3_stepsBy 6 = .ok (.invokestatic 81, 3) := by decide +kernel
theorem dX3_stepsBy_9 : decode cX3_stepsBy 9 = .ok (.iload_n 2, 1) := by decide +kernel
theorem dX3_stepsBy_10 : decode cX3_stepsBy 10 = .ok (.iload_n 1, 1) := by decide +kernel
theorem dX3_stepsBy_11 : decode cX3_stepsBy 11 = .ok (.isub, 1) := by decide +kernel
theorem dX3_stepsBy_12 : decode cX3_stepsBy 12 = .ok (.invokestatic 81, 3) := by decide +kernel
theorem dX3_stepsBy_15 : decode cX3_stepsBy 15 = .ok (.iadd, 1) := by decide +kernel
theorem dX3_stepsBy_16 : decode cX3_stepsBy 16 = .ok (.ireturn, 1) := by decide +kernel
theorem dX3_stepsFor_0 : decode cX3_stepsFor 0 = .ok (.iload_n 1, 1) := by decide +kernel
theorem dX3_stepsFor_1 : decode cX3_stepsFor 1 = .ok (.ifCond .ne 5, 3) := by decide +kernel
theorem dX3_stepsFor_4 : decode cX3_stepsFor 4 = .ok (.iconst 0, 1) := by decide +kernel
theorem dX3_stepsFor_5 : decode cX3_stepsFor 5 = .ok (.ireturn, 1) := by decide +kernel
theorem dX3_stepsFor_6 : decode cX3_stepsFor 6 = .ok (.aload_n 0, 1) := by decide +kernel
theorem dX3_stepsFor_7 : decode cX3_stepsFor 7 = .ok (.iload_n 1, 1) := by decide +kernel
theorem dX3_stepsFor_8 : decode cX3_stepsFor 8 = .ok (.invokevirtual 85, 3) := by decide +kernel
theorem dX3_stepsFor_11 : decode cX3_stepsFor 11 = .ok (.istore_n 2, 1) := by decide +kernel
theorem dX3_stepsFor_12 : decode cX3_stepsFor 12 = .ok (.aload_n 0, 1) := by decide +kernel
theorem dX3_stepsFor_13 : decode cX3_stepsFor 13 = .ok (.iload_n 1, 1) := by decide +kernel
theorem dX3_stepsFor_14 : decode cX3_stepsFor 14 = .ok (.invokevirtual 88, 3) := by decide +kernel
theorem dX3_stepsFor_17 : decode cX3_stepsFor 17 = .ok (.istore_n 3, 1) := by decide +kernel
theorem dX3_stepsFor_18 : decode cX3_stepsFor 18 = .ok (.aload_n 0, 1) := by decide +kernel
theorem dX3_stepsFor_19 : decode cX3_stepsFor 19 = .ok (.iload_n 2, 1) := by decide +kernel
theorem dX3_stepsFor_20 : decode cX3_stepsFor 20 = .ok (.iload_n 3, 1) := by decide +kernel
theorem dX3_stepsFor_21 : decode cX3_stepsFor 21 = .ok (.invokevirtual 91, 3) := by decide +kernel
theorem dX3_stepsFor_24 : decode cX3_stepsFor 24 = .ok (.aload_n 0, 1) := by decide +kernel
theorem dX3_stepsFor_25 : decode cX3_stepsFor 25 = .ok (.iload_n 3, 1) := by decide +kernel
theorem dX3_stepsFor_26 : decode cX3_stepsFor 26 = .ok (.iload_n 2, 1) := by decide +kernel
theorem dX3_stepsFor_27 : decode cX3_stepsFor 27 = .ok (.invokevirtual 91, 3) := by decide +kernel
theorem dX3_stepsFor_30 : decode cX3_stepsFor 30 = .ok (.invokestatic 72, 3) := by decide +kernel
theorem dX3_stepsFor_33 : decode cX3_stepsFor 33 = .ok (.ireturn, 1) := by decide +kernel
theorem dX4_within_0 : decode cX4_within 0 = .ok (.iload_n 1, 1) := by decide +kernel
theorem dX4_within_1 : decode cX4_within 1 = .ok (.ifCond .lt 9, 3) := by decide +kernel
theorem dX4_within_4 : decode cX4_within 4 = .ok (.iload_n 1, 1) := by decide +kernel
theorem dX4_within_5 : decode cX4_within 5 = .ok (.bipush 20, 2) := by decide +kernel
theorem dX4_within_7 : decode cX4_within 7 = .ok (.if_icmp .le 5, 3) := by decide +kernel
theorem dX4_within_10 : decode cX4_within 10 = .ok (.iconst (-1), 1) := by decide +kernel
theorem dX4_within_11 : decode cX4_within 11 = .ok (.ireturn, 1) := by decide +kernel
theorem dX4_within_12 : decode cX4_within 12 = .ok (.aload_n 0, 1) := by decide +kernel
theorem dX4_within_13 : decode cX4_within 13 = .ok (.getfield 27, 3) := by decide +kernel
theorem dX4_within_16 : decode cX4_within 16 = .ok (.getfield 104, 3) := by decide +kernel
theorem dX4_within_19 : decode cX4_within 19 = .ok (.astore_n 2, 1) := by decide +kernel
theorem dX4_within_20 : decode cX4_within 20 = .ok (.aload_n 2, 1) := by decide +kernel
theorem dX4_within_21 : decode cX4_within 21 = .ok (.getfield 121, 3) := by decide +kernel
theorem dX4_within_24 : decode cX4_within 24 = .ok (.ifCond .ne 6, 3) := by decide +kernel
theorem dX4_within_27 : decode cX4_within 27 = .ok (.bipush (-4), 2) := by decide +kernel
theorem dX4_within_29 : decode cX4_within 29 = .ok (.ireturn, 1) := by decide +kernel
theorem dX4_within_30 : decode cX4_within 30 = .ok (.aload_n 0, 1) := by decide +kernel
theorem dX4_within_31 : decode cX4_within 31 = .ok (.getfield 27, 3) := by decide +kernel
theorem dX4_within_34 : decode cX4_within 34 = .ok (.invokevirtual 212, 3) := by decide +kernel
theorem dX4_within_37 : decode cX4_within 37 = .ok (.aload_n 2, 1) := by decide +kernel
theorem dX4_within_38 : decode cX4_within 38 = .ok (.aload_n 2, 1) := by decide +kernel
theorem dX4_within_39 : decode cX4_within 39 = .ok (.aload_n 0, 1) := by decide +kernel
theorem dX4_within_40 : decode cX4_within 40 = .ok (.getfield 27, 3) := by decide +kernel
theorem dX4_within_43 : decode cX4_within 43 = .ok (.getfield 164, 3) := by decide +kernel
theorem dX4_within_46 : decode cX4_within 46 = .ok (.invokevirtual 227, 3) := by decide +kernel
theorem dX4_within_49 : decode cX4_within 49 = .ok (.invokevirtual 187, 3) := by decide +kernel
theorem dX4_within_52 : decode cX4_within 52 = .ok (.iand, 1) := by decide +kernel
theorem dX4_within_53 : decode cX4_within 53 = .ok (.istore_n 3, 1) := by decide +kernel
theorem dX4_within_54 : decode cX4_within 54 = .ok (.iconst 0, 1) := by decide +kernel
theorem dX4_within_55 : decode cX4_within 55 = .ok (.istore 4, 2) := by decide +kernel
theorem dX4_within_57 : decode cX4_within 57 = .ok (.iconst 0, 1) := by decide +kernel
theorem dX4_within_58 : decode cX4_within 58 = .ok (.istore 5, 2) := by decide +kernel
theorem dX4_within_60 : decode cX4_within 60 = .ok (.iconst 1, 1) := by decide +kernel
theorem dX4_within_61 : decode cX4_within 61 = .ok (.istore 6, 2) := by decide +kernel
theorem dX4_within_63 : decode cX4_within 63 = .ok (.iload 6, 2) := by decide +kernel
theorem dX4_within_65 : decode cX4_within 65 = .ok (.iload_n 3, 1) := by decide +kernel
theorem dX4_within_66 : decode cX4_within 66 = .ok (.if_icmp .gt 75, 3) := by decide +kernel
theorem dX4_within_69 : decode cX4_within 69 = .ok (.iload 6, 2) := by decide +kernel
theorem dX4_within_71 : decode cX4_within 71 = .ok (.iload_n 3, 1) := by decide +kernel
theorem dX4_within_72 : decode cX4_within 72 = .ok (.iconst (-1), 1) := by decide +kernel
theorem dX4_within_73 : decode cX4_within 73 = .ok (.ixor, 1) := by decide +kernel
theorem dX4_within_74 : decode cX4_within 74 = .ok (.iand, 1) := by decide +kernel
theorem dX4_within_75 : decode cX4_within 75 = .ok (.ifCond .ne 27, 3) := by decide +kernel
theorem dX4_within_78 : decode cX4_within 78 = .ok (.aload_n 2, 1) := by decide +kernel
theorem dX4_within_79 : decode cX4_within 79 = .ok (.iload 6, 2) := by decide +kernel
theorem dX4_within_81 : decode cX4_within 81 = .ok (.invokevirtual 193, 3) := by decide +kernel
theorem dX4_within_84 : decode cX4_within 84 = .ok (.ifCond .eq 18, 3) := by decide +kernel
theorem dX4_within_87 : decode cX4_within 87 = .ok (.aload_n 2, 1) := by decide +kernel
theorem dX4_within_88 : decode cX4_within 88 = .ok (.iload 6, 2) := by decide +kernel
theorem dX4_within_90 : decode cX4_within 90 = .ok (.invokevirtual 190, 3) := by decide +kernel
theorem dX4_within_93 : decode cX4_within 93 = .ok (.iload 4, 2) := by decide +kernel
theorem dX4_within_95 : decode cX4_within 95 = .ok (.if_icmp .le 7, 3) := by decide +kernel
theorem dX4_within_98 : decode cX4_within 98 = .ok (.iconst 1, 1) := by decide +kernel
theorem dX4_within_99 : decode cX4_within 99 = .ok (.goto 4, 3) := by decide +kernel
theorem dX4_within_102 : decode cX4_within 102 = .ok (.iconst 0, 1) := by decide +kernel
theorem dX4_within_103 : decode cX4_within 103 = .ok (.istore 7, 2) := by decide +kernel
theorem dX4_within_105 : decode cX4_within 105 = .ok (.iload 7, 2) := by decide +kernel
theorem dX4_within_107 : decode cX4_within 107 = .ok (.ifCond .eq 28, 3) := by decide +kernel
theorem dX4_within_110 : decode cX4_within 110 = .ok (.aload_n 0, 1) := by decide +kernel
theorem dX4_within_111 : decode cX4_within 111 = .ok (.getfield 27, 3) := by decide +kernel
theorem dX4_within_114 : decode cX4_within 114 = .ok (.iload 6, 2) := by decide +kernel
theorem dX4_within_116 : decode cX4_within 116 = .ok (.invokevirtual 224, 3) := by decide +kernel
theorem dX4_within_119 : decode cX4_within 119 = .ok (.iload_n 1, 1) := by decide +kernel
theorem dX4_within_120 : decode cX4_within 120 = .ok (.if_icmp .gt 15, 3) := by decide +kernel
theorem dX4_within_123 : decode cX4_within 123 = .ok (.aload_n 2, 1) := by decide +kernel
theorem dX4_within_124 : decode cX4_within 124 = .ok (.iload 6, 2) := by decide +kernel
theorem dX4_within_126 : decode cX4_within 126 = .ok (.invokevirtual 190, 3) := by decide +kernel
theorem dX4_within_129 : decode cX4_within 129 = .ok (.istore 4, 2) := by decide +kernel
theorem dX4_within_131 : decode cX4_within 131 = .ok (.iload 6, 2) := by decide +kernel
theorem dX4_within_133 : decode cX4_within 133 = .ok (.istore 5, 2) := by decide +kernel
theorem dX4_within_135 : decode cX4_within 135 = .ok (.iinc 6 1, 3) := by decide +kernel
theorem dX4_within_138 : decode cX4_within 138 = .ok (.goto (-75), 3) := by decide +kernel
theorem dX4_within_141 : decode cX4_within 141 = .ok (.aload_n 0, 1) := by decide +kernel
theorem dX4_within_142 : decode cX4_within 142 = .ok (.iload 5, 2) := by decide +kernel
theorem dX4_within_144 : decode cX4_within 144 = .ok (.putfield 39, 3) := by decide +kernel
theorem dX4_within_147 : decode cX4_within 147 = .ok (.iload 4, 2) := by decide +kernel
theorem dX4_within_149 : decode cX4_within 149 = .ok (.ireturn, 1) := by decide +kernel
theorem dX4_walk_0 : decode cX4_walk 0 = .ok (.iload_n 1, 1) := by decide +kernel
theorem dX4_walk_1 : decode cX4_walk 1 = .ok (.ifCond .lt 17, 3) := by decide +kernel
theorem dX4_walk_4 : decode cX4_walk 4 = .ok (.iload_n 1, 1) := by decide +kernel
theorem dX4_walk_5 : decode cX4_walk 5 = .ok (.aload_n 0, 1) := by decide +kernel
theorem dX4_walk_6 : decode cX4_walk 6 = .ok (.getfield 27, 3) := by decide +kernel
theorem dX4_walk_9 : decode cX4_walk 9 = .ok (.getfield 104, 3) := by decide +kernel
theorem dX4_walk_12 : decode cX4_walk 12 = .ok (.invokevirtual 196, 3) := by decide +kernel
theorem dX4_walk_15 : decode cX4_walk 15 = .ok (.if_icmp .le 5, 3) := by decide +kernel
theorem dX4_walk_18 : decode cX4_walk 18 = .ok (.iconst (-1), 1) := by decide +kernel
theorem dX4_walk_19 : decode cX4_walk 19 = .ok (.ireturn, 1) := by decide +kernel
theorem dX4_walk_20 : decode cX4_walk 20 = .ok (.iload_n 1, 1) := by decide +kernel
theorem dX4_walk_21 : decode cX4_walk 21 = .ok (.aload_n 0, 1) := by decide +kernel
theorem dX4_walk_22 : decode cX4_walk 22 = .ok (.getfield 27, 3) := by decide +kernel
theorem dX4_walk_25 : decode cX4_walk 25 = .ok (.invokevirtual 212, 3) := by decide +kernel
theorem dX4_walk_28 : decode cX4_walk 28 = .ok (.iconst (-1), 1) := by decide +kernel
theorem dX4_walk_29 : decode cX4_walk 29 = .ok (.ixor, 1) := by decide +kernel
theorem dX4_walk_30 : decode cX4_walk 30 = .ok (.iand, 1) := by decide +kernel
theorem dX4_walk_31 : decode cX4_walk 31 = .ok (.ifCond .eq 6, 3) := by decide +kernel
theorem dX4_walk_34 : decode cX4_walk 34 = .ok (.bipush (-4), 2) := by decide +kernel
theorem dX4_walk_36 : decode cX4_walk 36 = .ok (.ireturn, 1) := by decide +kernel
theorem dX4_walk_37 : decode cX4_walk 37 = .ok (.iload_n 1, 1) := by decide +kernel
theorem dX4_walk_38 : decode cX4_walk 38 = .ok (.ifCond .ne 16, 3) := by decide +kernel
theorem dX4_walk_41 : decode cX4_walk 41 = .ok (.aload_n 0, 1) := by decide +kernel
theorem dX4_walk_42 : decode cX4_walk 42 = .ok (.aload_n 0, 1) := by decide +kernel
theorem dX4_walk_43 : decode cX4_walk 43 = .ok (.getfield 27, 3) := by decide +kernel
theorem dX4_walk_46 : decode cX4_walk 46 = .ok (.getfield 151, 3) := by decide +kernel
theorem dX4_walk_49 : decode cX4_walk 49 = .ok (.putfield 39, 3) := by decide +kernel
theorem dX4_walk_52 : decode cX4_walk 52 = .ok (.iconst 0, 1) := by decide +kernel
theorem dX4_walk_53 : decode cX4_walk 53 = .ok (.ireturn, 1) := by decide +kernel
theorem dX4_walk_54 : decode cX4_walk 54 = .ok (.aload_n 0, 1) := by decide +kernel
theorem dX4_walk_55 : decode cX4_walk 55 = .ok (.getfield 27, 3) := by decide +kernel
theorem dX4_walk_58 : decode cX4_walk 58 = .ok (.iload_n 1, 1) := by decide +kernel
theorem dX4_walk_59 : decode cX4_walk 59 = .ok (.invokevirtual 215, 3) := by decide +kernel
theorem dX4_walk_62 : decode cX4_walk 62 = .ok (.istore_n 2, 1) := by decide +kernel
theorem dX4_walk_63 : decode cX4_walk 63 = .ok (.aload_n 0, 1) := by decide +kernel
theorem dX4_walk_64 : decode cX4_walk 64 = .ok (.getfield 27, 3) := by decide +kernel
theorem dX4_walk_67 : decode cX4_walk 67 = .ok (.iload_n 1, 1) := by decide +kernel
theorem dX4_walk_68 : decode cX4_walk 68 = .ok (.invokevirtual 218, 3) := by decide +kernel
theorem dX4_walk_71 : decode cX4_walk 71 = .ok (.istore_n 3, 1) := by decide +kernel
theorem dX4_walk_72 : decode cX4_walk 72 = .ok (.aload_n 0, 1) := by decide +kernel
theorem dX4_walk_73 : decode cX4_walk 73 = .ok (.getfield 27, 3) := by decide +kernel
theorem dX4_walk_76 : decode cX4_walk 76 = .ok (.iload_n 3, 1) := by decide +kernel
theorem dX4_walk_77 : decode cX4_walk 77 = .ok (.iload_n 2, 1) := by decide +kernel
theorem dX4_walk_78 : decode cX4_walk 78 = .ok (.invokevirtual 221, 3) := by decide +kernel
theorem dX4_walk_81 : decode cX4_walk 81 = .ok (.aload_n 0, 1) := by decide +kernel
theorem dX4_walk_82 : decode cX4_walk 82 = .ok (.getfield 27, 3) := by decide +kernel
theorem dX4_walk_85 : decode cX4_walk 85 = .ok (.iload_n 2, 1) := by decide +kernel
theorem dX4_walk_86 : decode cX4_walk 86 = .ok (.iload_n 3, 1) := by decide +kernel
theorem dX4_walk_87 : decode cX4_walk 87 = .ok (.invokevirtual 221, 3) := by decide +kernel
theorem dX4_walk_90 : decode cX4_walk 90 = .ok (.if_icmp .gt 7, 3) := by decide +kernel
theorem dX4_walk_93 : decode cX4_walk 93 = .ok (.iconst 1, 1) := by decide +kernel
theorem dX4_walk_94 : decode cX4_walk 94 = .ok (.goto 4, 3) := by decide +kernel
theorem dX4_walk_97 : decode cX4_walk 97 = .ok (.iconst 0, 1) := by decide +kernel
theorem dX4_walk_98 : decode cX4_walk 98 = .ok (.istore 4, 2) := by decide +kernel
theorem dX4_walk_100 : decode cX4_walk 100 = .ok (.aload_n 0, 1) := by decide +kernel
theorem dX4_walk_101 : decode cX4_walk 101 = .ok (.iload 4, 2) := by decide +kernel
theorem dX4_walk_103 : decode cX4_walk 103 = .ok (.ifCond .eq 7, 3) := by decide +kernel
theorem dX4_walk_106 : decode cX4_walk 106 = .ok (.iload_n 2, 1) := by decide +kernel
theorem dX4_walk_107 : decode cX4_walk 107 = .ok (.goto 4, 3) := by decide +kernel
theorem dX4_walk_110 : decode cX4_walk 110 = .ok (.iload_n 3, 1) := by decide +kernel
theorem dX4_walk_111 : decode cX4_walk 111 = .ok (.putfield 39, 3) := by decide +kernel
theorem dX4_walk_114 : decode cX4_walk 114 = .ok (.aload_n 0, 1) := by decide +kernel
theorem dX4_walk_115 : decode cX4_walk 115 = .ok (.getfield 27, 3) := by decide +kernel
theorem dX4_walk_118 : decode cX4_walk 118 = .ok (.iload_n 1, 1) := by decide +kernel
theorem dX4_walk_119 : decode cX4_walk 119 = .ok (.invokevirtual 224, 3) := by decide +kernel
theorem dX4_walk_122 : decode cX4_walk 122 = .ok (.ireturn, 1) := by decide +kernel
theorem dX4_busy_0 : decode cX4_busy 0 = .ok (.aload_n 0, 1) := by decide +kernel
theorem dX4_busy_1 : decode cX4_busy 1 = .ok (.getfield 27, 3) := by decide +kernel
theorem dX4_busy_4 : decode cX4_busy 4 = .ok (.getfield 104, 3) := by decide +kernel
theorem dX4_busy_7 : decode cX4_busy 7 = .ok (.astore_n 1, 1) := by decide +kernel
theorem dX4_busy_8 : decode cX4_busy 8 = .ok (.iconst 0, 1) := by decide +kernel
theorem dX4_busy_9 : decode cX4_busy 9 = .ok (.istore_n 2, 1) := by decide +kernel
theorem dX4_busy_10 : decode cX4_busy 10 = .ok (.iconst 0, 1) := by decide +kernel
theorem dX4_busy_11 : decode cX4_busy 11 = .ok (.istore_n 3, 1) := by decide +kernel
theorem dX4_busy_12 : decode cX4_busy 12 = .ok (.iconst 0, 1) := by decide +kernel
theorem dX4_busy_13 : decode cX4_busy 13 = .ok (.istore 4, 2) := by decide +kernel
theorem dX4_busy_15 : decode cX4_busy 15 = .ok (.iload 4, 2) := by decide +kernel
theorem dX4_busy_17 : decode cX4_busy 17 = .ok (.aload_n 1, 1) := by decide +kernel
theorem dX4_busy_18 : decode cX4_busy 18 = .ok (.getfield 121, 3) := by decide +kernel
theorem dX4_busy_21 : decode cX4_busy 21 = .ok (.if_icmp .ge 46, 3) := by decide +kernel
theorem dX4_busy_24 : decode cX4_busy 24 = .ok (.aload_n 0, 1) := by decide +kernel
theorem dX4_busy_25 : decode cX4_busy 25 = .ok (.getfield 27, 3) := by decide +kernel
theorem dX4_busy_28 : decode cX4_busy 28 = .ok (.getfield 164, 3) := by decide +kernel
theorem dX4_busy_31 : decode cX4_busy 31 = .ok (.iload 4, 2) := by decide +kernel
theorem dX4_busy_33 : decode cX4_busy 33 = .ok (.ishr, 1) := by decide +kernel
theorem dX4_busy_34 : decode cX4_busy 34 = .ok (.iconst 1, 1) := by decide +kernel
theorem dX4_busy_35 : decode cX4_busy 35 = .ok (.iand, 1) := by decide +kernel
theorem dX4_busy_36 : decode cX4_busy 36 = .ok (.ifCond .eq 25, 3) := by decide +kernel
theorem dX4_busy_39 : decode cX4_busy 39 = .ok (.iload_n 3, 1) := by decide +kernel
theorem dX4_busy_40 : decode cX4_busy 40 = .ok (.iload_n 2, 1) := by decide +kernel
theorem dX4_busy_41 : decode cX4_busy 41 = .ok (.aload_n 1, 1) := by decide +kernel
theorem dX4_busy_42 : decode cX4_busy 42 = .ok (.getfield 184, 3) := by decide +kernel
theorem dX4_busy_45 : decode cX4_busy 45 = .ok (.iload 4, 2) := by decide +kernel
theorem dX4_busy_47 : decode cX4_busy 47 = .ok (.iaload, 1) := by decide +kernel
theorem dX4_busy_48 : decode cX4_busy 48 = .ok (.iand, 1) := by decide +kernel
theorem dX4_busy_49 : decode cX4_busy 49 = .ok (.ior, 1) := by decide +kernel
theorem dX4_busy_50 : decode cX4_busy 50 = .ok (.istore_n 3, 1) := by decide +kernel
theorem dX4_busy_51 : decode cX4_busy 51 = .ok (.iload_n 2, 1) := by decide +kernel
theorem dX4_busy_52 : decode cX4_busy 52 = .ok (.aload_n 1, 1) := by decide +kernel
theorem dX4_busy_53 : decode cX4_busy 53 = .ok (.getfield 184, 3) := by decide +kernel
theorem dX4_busy_56 : decode cX4_busy 56 = .ok (.iload 4, 2) := by decide +kernel
theorem dX4_busy_58 : decode cX4_busy 58 = .ok (.iaload, 1) := by decide +kernel
theorem dX4_busy_59 : decode cX4_busy 59 = .ok (.ior, 1) := by decide +kernel
theorem dX4_busy_60 : decode cX4_busy 60 = .ok (.istore_n 2, 1) := by decide +kernel
theorem dX4_busy_61 : decode cX4_busy 61 = .ok (.iinc 4 1, 3) := by decide +kernel
theorem dX4_busy_64 : decode cX4_busy 64 = .ok (.goto (-49), 3) := by decide +kernel
theorem dX4_busy_67 : decode cX4_busy 67 = .ok (.aload_n 0, 1) := by decide +kernel
theorem dX4_busy_68 : decode cX4_busy 68 = .ok (.iload_n 3, 1) := by decide +kernel
theorem dX4_busy_69 : decode cX4_busy 69 = .ok (.putfield 39, 3) := by decide +kernel
theorem dX4_busy_72 : decode cX4_busy 72 = .ok (.iload_n 2, 1) := by decide +kernel
theorem dX4_busy_73 : decode cX4_busy 73 = .ok (.ireturn, 1) := by decide +kernel
theorem dX4_row_0 : decode cX4_row 0 = .ok (.aload_n 0, 1) := by decide +kernel
theorem dX4_row_1 : decode cX4_row 1 = .ok (.aload_n 0, 1) := by decide +kernel
theorem dX4_row_2 : decode cX4_row 2 = .ok (.iload_n 1, 1) := by decide +kernel
theorem dX4_row_3 : decode cX4_row 3 = .ok (.invokevirtual 51, 3) := by decide +kernel
theorem dX4_row_6 : decode cX4_row 6 = .ok (.iload_n 2, 1) := by decide +kernel
theorem dX4_row_7 : decode cX4_row 7 = .ok (.bipush 40, 2) := by decide +kernel
theorem dX4_row_9 : decode cX4_row 9 = .ok (.iconst 0, 1) := by decide +kernel
theorem dX4_row_10 : decode cX4_row 10 = .ok (.invokevirtual 55, 3) := by decide +kernel
theorem dX4_row_13 : decode cX4_row 13 = .ok (.ireturn, 1) := by decide +kernel
theorem dX4_undo_0 : decode cX4_undo 0 = .ok (.aload_n 0, 1) := by decide +kernel
theorem dX4_undo_1 : decode cX4_undo 1 = .ok (.getfield 27, 3) := by decide +kernel
theorem dX4_undo_4 : decode cX4_undo 4 = .ok (.getfield 172, 3) := by decide +kernel
theorem dX4_undo_7 : decode cX4_undo 7 = .ok (.getfield 118, 3) := by decide +kernel
theorem dX4_undo_10 : decode cX4_undo 10 = .ok (.istore_n 2, 1) := by decide +kernel
theorem dX4_undo_11 : decode cX4_undo 11 = .ok (.iload_n 1, 1) := by decide +kernel
theorem dX4_undo_12 : decode cX4_undo 12 = .ok (.ifCond .lt 8, 3) := by decide +kernel
theorem dX4_undo_15 : decode cX4_undo 15 = .ok (.iload_n 1, 1) := by decide +kernel
theorem dX4_undo_16 : decode cX4_undo 16 = .ok (.iload_n 2, 1) := by decide +kernel
theorem dX4_undo_17 : decode cX4_undo 17 = .ok (.if_icmp .le 5, 3) := by decide +kernel
theorem dX4_undo_20 : decode cX4_undo 20 = .ok (.iconst (-1), 1) := by decide +kernel
theorem dX4_undo_21 : decode cX4_undo 21 = .ok (.ireturn, 1) := by decide +kernel
theorem dX4_undo_22 : decode cX4_undo 22 = .ok (.aload_n 0, 1) := by decide +kernel
theorem dX4_undo_23 : decode cX4_undo 23 = .ok (.getfield 27, 3) := by decide +kernel
theorem dX4_undo_26 : decode cX4_undo 26 = .ok (.iload_n 1, 1) := by decide +kernel
theorem dX4_undo_27 : decode cX4_undo 27 = .ok (.invokevirtual 114, 3) := by decide +kernel
theorem dX4_undo_30 : decode cX4_undo 30 = .ok (.iload_n 2, 1) := by decide +kernel
theorem dX4_undo_31 : decode cX4_undo 31 = .ok (.iload_n 1, 1) := by decide +kernel
theorem dX4_undo_32 : decode cX4_undo 32 = .ok (.isub, 1) := by decide +kernel
theorem dX4_undo_33 : decode cX4_undo 33 = .ok (.ireturn, 1) := by decide +kernel
theorem dX0_placesOf_0 : decode cX0_placesOf 0 = .ok (.iconst 0, 1) := by decide +kernel
theorem dX0_placesOf_1 : decode cX0_placesOf 1 = .ok (.istore_n 2, 1) := by decide +kernel
theorem dX0_placesOf_2 : decode cX0_placesOf 2 = .ok (.iconst 0, 1) := by decide +kernel
theorem dX0_placesOf_3 : decode cX0_placesOf 3 = .ok (.istore_n 3, 1) := by decide +kernel
theorem dX0_placesOf_4 : decode cX0_placesOf 4 = .ok (.iload_n 3, 1) := by decide +kernel
theorem dX0_placesOf_5 : decode cX0_placesOf 5 = .ok (.aload_n 0, 1) := by decide +kernel
theorem dX0_placesOf_6 : decode cX0_placesOf 6 = .ok (.getfield 9, 3) := by decide +kernel
theorem dX0_placesOf_9 : decode cX0_placesOf 9 = .ok (.if_icmp .ge 31, 3) := by decide +kernel
theorem dX0_placesOf_12 : decode cX0_placesOf 12 = .ok (.iload_n 3, 1) := by decide +kernel
theorem dX0_placesOf_13 : decode cX0_placesOf 13 = .ok (.bipush 13, 2) := by decide +kernel
theorem dX0_placesOf_15 : decode cX0_placesOf 15 = .ok (.if_icmp .ge 25, 3) := by decide +kernel
theorem dX0_placesOf_18 : decode cX0_placesOf 18 = .ok (.aload_n 0, 1) := by decide +kernel
theorem dX0_placesOf_19 : decode cX0_placesOf 19 = .ok (.getfield 15, 3) := by decide +kernel
theorem dX0_placesOf_22 : decode cX0_placesOf 22 = .ok (.iload_n 3, 1) := by decide +kernel
theorem dX0_placesOf_23 : decode cX0_placesOf 23 = .ok (.iaload, 1) := by decide +kernel
theorem dX0_placesOf_24 : decode cX0_placesOf 24 = .ok (.iload_n 1, 1) := by decide +kernel
theorem dX0_placesOf_25 : decode cX0_placesOf 25 = .ok (.if_icmp .ne 9, 3) := by decide +kernel
theorem dX0_placesOf_28 : decode cX0_placesOf 28 = .ok (.iload_n 2, 1) := by decide +kernel
theorem dX0_placesOf_29 : decode cX0_placesOf 29 = .ok (.iconst 1, 1) := by decide +kernel
theorem dX0_placesOf_30 : decode cX0_placesOf 30 = .ok (.iload_n 3, 1) := by decide +kernel
theorem dX0_placesOf_31 : decode cX0_placesOf 31 = .ok (.ishl, 1) := by decide +kernel
theorem dX0_placesOf_32 : decode cX0_placesOf 32 = .ok (.ior, 1) := by decide +kernel
theorem dX0_placesOf_33 : decode cX0_placesOf 33 = .ok (.istore_n 2, 1) := by decide +kernel
theorem dX0_placesOf_34 : decode cX0_placesOf 34 = .ok (.iinc 3 1, 3) := by decide +kernel
theorem dX0_placesOf_37 : decode cX0_placesOf 37 = .ok (.goto (-33), 3) := by decide +kernel
theorem dX0_placesOf_40 : decode cX0_placesOf 40 = .ok (.iload_n 2, 1) := by decide +kernel
theorem dX0_placesOf_41 : decode cX0_placesOf 41 = .ok (.ireturn, 1) := by decide +kernel
theorem dX4_countWhose_0 : decode cX4_countWhose 0 = .ok (.aload_n 0, 1) := by decide +kernel
theorem dX4_countWhose_1 : decode cX4_countWhose 1 = .ok (.getfield 27, 3) := by decide +kernel
theorem dX4_countWhose_4 : decode cX4_countWhose 4 = .ok (.getfield 104, 3) := by decide +kernel
theorem dX4_countWhose_7 : decode cX4_countWhose 7 = .ok (.astore_n 3, 1) := by decide +kernel
theorem dX4_countWhose_8 : decode cX4_countWhose 8 = .ok (.iconst 0, 1) := by decide +kernel
theorem dX4_countWhose_9 : decode cX4_countWhose 9 = .ok (.istore 4, 2) := by decide +kernel
theorem dX4_countWhose_11 : decode cX4_countWhose 11 = .ok (.iconst 0, 1) := by decide +kernel
theorem dX4_countWhose_12 : decode cX4_countWhose 12 = .ok (.istore 5, 2) := by decide +kernel
theorem dX4_countWhose_14 : decode cX4_countWhose 14 = .ok (.iconst 0, 1) := by decide +kernel
theorem dX4_countWhose_15 : decode cX4_countWhose 15 = .ok (.istore 6, 2) := by decide +kernel
theorem dX4_countWhose_17 : decode cX4_countWhose 17 = .ok (.iload 6, 2) := by decide +kernel
theorem dX4_countWhose_19 : decode cX4_countWhose 19 = .ok (.aload_n 3, 1) := by decide +kernel
theorem dX4_countWhose_20 : decode cX4_countWhose 20 = .ok (.invokevirtual 196, 3) := by decide +kernel
theorem dX4_countWhose_23 : decode cX4_countWhose 23 = .ok (.if_icmp .gt 46, 3) := by decide +kernel
theorem dX4_countWhose_26 : decode cX4_countWhose 26 = .ok (.iload 6, 2) := by decide +kernel
theorem dX4_countWhose_28 : decode cX4_countWhose 28 = .ok (.aload_n 0, 1) := by decide +kernel
theorem dX4_countWhose_29 : decode cX4_countWhose 29 = .ok (.getfield 27, 3) := by decide +kernel
theorem dX4_countWhose_32 : decode cX4_countWhose 32 = .ok (.getfield 199, 3) := by decide +kernel
theorem dX4_countWhose_35 : decode cX4_countWhose 35 = .ok (.iand, 1) := by decide +kernel
theorem dX4_countWhose_36 : decode cX4_countWhose 36 = .ok (.ifCond .ne 27, 3) := by decide +kernel
theorem dX4_countWhose_39 : decode cX4_countWhose 39 = .ok (.aload_n 3, 1) := by decide +kernel
theorem dX4_countWhose_40 : decode cX4_countWhose 40 = .ok (.iload 6, 2) := by decide +kernel
theorem dX4_countWhose_42 : decode cX4_countWhose 42 = .ok (.invokevirtual 227, 3) := by decide +kernel
theorem dX4_countWhose_45 : decode cX4_countWhose 45 = .ok (.iload_n 2, 1) := by decide +kernel
theorem dX4_countWhose_46 : decode cX4_countWhose 46 = .ok (.iand, 1) := by decide +kernel
theorem dX4_countWhose_47 : decode cX4_countWhose 47 = .ok (.iload_n 1, 1) := by decide +kernel
theorem dX4_countWhose_48 : decode cX4_countWhose 48 = .ok (.if_icmp .ne 15, 3) := by decide +kernel
theorem dX4_countWhose_51 : decode cX4_countWhose 51 = .ok (.iload 4, 2) := by decide +kernel
theorem dX4_countWhose_53 : decode cX4_countWhose 53 = .ok (.ifCond .ne 7, 3) := by decide +kernel
theorem dX4_countWhose_56 : decode cX4_countWhose 56 = .ok (.iload 6, 2) := by decide +kernel
theorem dX4_countWhose_58 : decode cX4_countWhose 58 = .ok (.istore 5, 2) := by decide +kernel
theorem dX4_countWhose_60 : decode cX4_countWhose 60 = .ok (.iinc 4 1, 3) := by decide +kernel
theorem dX4_countWhose_63 : decode cX4_countWhose 63 = .ok (.iinc 6 1, 3) := by decide +kernel
theorem dX4_countWhose_66 : decode cX4_countWhose 66 = .ok (.goto (-49), 3) := by decide +kernel
theorem dX4_countWhose_69 : decode cX4_countWhose 69 = .ok (.iload 4, 2) := by decide +kernel
theorem dX4_countWhose_71 : decode cX4_countWhose 71 = .ok (.ifCond .ne 6, 3) := by decide +kernel
theorem dX4_countWhose_74 : decode cX4_countWhose 74 = .ok (.bipush (-9), 2) := by decide +kernel
theorem dX4_countWhose_76 : decode cX4_countWhose 76 = .ok (.ireturn, 1) := by decide +kernel
theorem dX4_countWhose_77 : decode cX4_countWhose 77 = .ok (.aload_n 0, 1) := by decide +kernel
theorem dX4_countWhose_78 : decode cX4_countWhose 78 = .ok (.iload 5, 2) := by decide +kernel
theorem dX4_countWhose_80 : decode cX4_countWhose 80 = .ok (.putfield 39, 3) := by decide +kernel
theorem dX4_countWhose_83 : decode cX4_countWhose 83 = .ok (.iload 4, 2) := by decide +kernel
theorem dX4_countWhose_85 : decode cX4_countWhose 85 = .ok (.ireturn, 1) := by decide +kernel
theorem dX4_whose_0 : decode cX4_whose 0 = .ok (.aload_n 0, 1) := by decide +kernel
theorem dX4_whose_1 : decode cX4_whose 1 = .ok (.iload_n 1, 1) := by decide +kernel
theorem dX4_whose_2 : decode cX4_whose 2 = .ok (.invokevirtual 51, 3) := by decide +kernel
theorem dX4_whose_5 : decode cX4_whose 5 = .ok (.astore_n 2, 1) := by decide +kernel
theorem dX4_whose_6 : decode cX4_whose 6 = .ok (.aload_n 2, 1) := by decide +kernel
theorem dX4_whose_7 : decode cX4_whose 7 = .ok (.ifnonnull 5, 3) := by decide +kernel
theorem dX4_whose_10 : decode cX4_whose 10 = .ok (.iconst (-1), 1) := by decide +kernel
theorem dX4_whose_11 : decode cX4_whose 11 = .ok (.ireturn, 1) := by decide +kernel
theorem dX4_whose_12 : decode cX4_whose 12 = .ok (.aload_n 0, 1) := by decide +kernel
theorem dX4_whose_13 : decode cX4_whose 13 = .ok (.getfield 27, 3) := by decide +kernel
theorem dX4_whose_16 : decode cX4_whose 16 = .ok (.getfield 104, 3) := by decide +kernel
theorem dX4_whose_19 : decode cX4_whose 19 = .ok (.getfield 121, 3) := by decide +kernel
theorem dX4_whose_22 : decode cX4_whose 22 = .ok (.ifCond .ne 6, 3) := by decide +kernel
theorem dX4_whose_25 : decode cX4_whose 25 = .ok (.bipush (-4), 2) := by decide +kernel
theorem dX4_whose_27 : decode cX4_whose 27 = .ok (.ireturn, 1) := by decide +kernel
theorem dX4_whose_28 : decode cX4_whose 28 = .ok (.aload_n 2, 1) := by decide +kernel
theorem dX4_whose_29 : decode cX4_whose 29 = .ok (.invokevirtual 81, 3) := by decide +kernel
theorem dX4_whose_32 : decode cX4_whose 32 = .ok (.ifCond .eq 9, 3) := by decide +kernel
theorem dX4_whose_35 : decode cX4_whose 35 = .ok (.aload_n 0, 1) := by decide +kernel
theorem dX4_whose_36 : decode cX4_whose 36 = .ok (.iconst 1, 1) := by decide +kernel
theorem dX4_whose_37 : decode cX4_whose 37 = .ok (.invokevirtual 78, 3) := by decide +kernel
theorem dX4_whose_40 : decode cX4_whose 40 = .ok (.ireturn, 1) := by decide +kernel
theorem dX4_whose_41 : decode cX4_whose 41 = .ok (.aload_n 2, 1) := by decide +kernel
theorem dX4_whose_42 : decode cX4_whose 42 = .ok (.getfield 75, 3) := by decide +kernel
theorem dX4_whose_45 : decode cX4_whose 45 = .ok (.bipush 13, 2) := by decide +kernel
theorem dX4_whose_47 : decode cX4_whose 47 = .ok (.if_icmp .eq 9, 3) := by decide +kernel
theorem dX4_whose_50 : decode cX4_whose 50 = .ok (.aload_n 0, 1) := by decide +kernel
theorem dX4_whose_51 : decode cX4_whose 51 = .ok (.iconst 5, 1) := by decide +kernel
theorem dX4_whose_52 : decode cX4_whose 52 = .ok (.invokevirtual 78, 3) := by decide +kernel
theorem dX4_whose_55 : decode cX4_whose 55 = .ok (.ireturn, 1) := by decide +kernel
theorem dX4_whose_56 : decode cX4_whose 56 = .ok (.aload_n 2, 1) := by decide +kernel
theorem dX4_whose_57 : decode cX4_whose 57 = .ok (.iconst 1, 1) := by decide +kernel
theorem dX4_whose_58 : decode cX4_whose 58 = .ok (.invokevirtual 230, 3) := by decide +kernel
theorem dX4_whose_61 : decode cX4_whose 61 = .ok (.istore_n 3, 1) := by decide +kernel
theorem dX4_whose_62 : decode cX4_whose 62 = .ok (.iload_n 3, 1) := by decide +kernel
theorem dX4_whose_63 : decode cX4_whose 63 = .ok (.aload_n 2, 1) := by decide +kernel
theorem dX4_whose_64 : decode cX4_whose 64 = .ok (.iconst 0, 1) := by decide +kernel
theorem dX4_whose_65 : decode cX4_whose 65 = .ok (.invokevirtual 230, 3) := by decide +kernel
theorem dX4_whose_68 : decode cX4_whose 68 = .ok (.ior, 1) := by decide +kernel
theorem dX4_whose_69 : decode cX4_whose 69 = .ok (.istore 4, 2) := by decide +kernel
theorem dX4_whose_71 : decode cX4_whose 71 = .ok (.iload 4, 2) := by decide +kernel
theorem dX4_whose_73 : decode cX4_whose 73 = .ok (.aload_n 2, 1) := by decide +kernel
theorem dX4_whose_74 : decode cX4_whose 74 = .ok (.bipush (-9), 2) := by decide +kernel
theorem dX4_whose_76 : decode cX4_whose 76 = .ok (.invokevirtual 230, 3) := by decide +kernel
theorem dX4_whose_79 : decode cX4_whose 79 = .ok (.ior, 1) := by decide +kernel
theorem dX4_whose_80 : decode cX4_whose 80 = .ok (.sipush 8191, 3) := by decide +kernel
theorem dX4_whose_83 : decode cX4_whose 83 = .ok (.if_icmp .eq 9, 3) := by decide +kernel
theorem dX4_whose_86 : decode cX4_whose 86 = .ok (.aload_n 0, 1) := by decide +kernel
theorem dX4_whose_87 : decode cX4_whose 87 = .ok (.iconst 3, 1) := by decide +kernel
theorem dX4_whose_88 : decode cX4_whose 88 = .ok (.invokevirtual 78, 3) := by decide +kernel
theorem dX4_whose_91 : decode cX4_whose 91 = .ok (.ireturn, 1) := by decide +kernel
theorem dX4_whose_92 : decode cX4_whose 92 = .ok (.aload_n 0, 1) := by decide +kernel
theorem dX4_whose_93 : decode cX4_whose 93 = .ok (.iload_n 3, 1) := by decide +kernel
theorem dX4_whose_94 : decode cX4_whose 94 = .ok (.iload 4, 2) := by decide +kernel
theorem dX4_whose_96 : decode cX4_whose 96 = .ok (.invokevirtual 233, 3) := by decide +kernel
theorem dX4_whose_99 : decode cX4_whose 99 = .ok (.ireturn, 1) := by decide +kernel
theorem dX4_lay_0 : decode cX4_lay 0 = .ok (.aload_n 0, 1) := by decide +kernel
theorem dX4_lay_1 : decode cX4_lay 1 = .ok (.iload_n 1, 1) := by decide +kernel
theorem dX4_lay_2 : decode cX4_lay 2 = .ok (.invokevirtual 51, 3) := by decide +kernel
theorem dX4_lay_5 : decode cX4_lay 5 = .ok (.astore 4, 2) := by decide +kernel
theorem dX4_lay_7 : decode cX4_lay 7 = .ok (.aload_n 0, 1) := by decide +kernel
theorem dX4_lay_8 : decode cX4_lay 8 = .ok (.aload 4, 2) := by decide +kernel
theorem dX4_lay_10 : decode cX4_lay 10 = .ok (.iload_n 2, 1) := by decide +kernel
theorem dX4_lay_11 : decode cX4_lay 11 = .ok (.invokevirtual 59, 3) := by decide +kernel
theorem dX4_lay_14 : decode cX4_lay 14 = .ok (.istore 5, 2) := by decide +kernel
theorem dX4_lay_16 : decode cX4_lay 16 = .ok (.aload 4, 2) := by decide +kernel
theorem dX4_lay_18 : decode cX4_lay 18 = .ok (.ifnull 8, 3) := by decide +kernel
theorem dX4_lay_21 : decode cX4_lay 21 = .ok (.iload 5, 2) := by decide +kernel
theorem dX4_lay_23 : decode cX4_lay 23 = .ok (.ifCond .eq 6, 3) := by decide +kernel
theorem dX4_lay_26 : decode cX4_lay 26 = .ok (.iload 5, 2) := by decide +kernel
theorem dX4_lay_28 : decode cX4_lay 28 = .ok (.ireturn, 1) := by decide +kernel
theorem dX4_lay_29 : decode cX4_lay 29 = .ok (.aload_n 0, 1) := by decide +kernel
theorem dX4_lay_30 : decode cX4_lay 30 = .ok (.aload 4, 2) := by decide +kernel
theorem dX4_lay_32 : decode cX4_lay 32 = .ok (.iload_n 2, 1) := by decide +kernel
theorem dX4_lay_33 : decode cX4_lay 33 = .ok (.invokevirtual 63, 3) := by decide +kernel
theorem dX4_lay_36 : decode cX4_lay 36 = .ok (.putfield 39, 3) := by decide +kernel
theorem dX4_lay_39 : decode cX4_lay 39 = .ok (.aload 4, 2) := by decide +kernel
theorem dX4_lay_41 : decode cX4_lay 41 = .ok (.iload_n 2, 1) := by decide +kernel
theorem dX4_lay_42 : decode cX4_lay 42 = .ok (.iload_n 3, 1) := by decide +kernel
theorem dX4_lay_43 : decode cX4_lay 43 = .ok (.invokevirtual 67, 3) := by decide +kernel
theorem dX4_lay_46 : decode cX4_lay 46 = .ok (.iconst 1, 1) := by decide +kernel
theorem dX4_lay_47 : decode cX4_lay 47 = .ok (.ireturn, 1) := by decide +kernel
theorem dX4_gainByTurns_0 : decode cX4_gainByTurns 0 = .ok (.iload_n 1, 1) := by decide +kernel
theorem dX4_gainByTurns_1 : decode cX4_gainByTurns 1 = .ok (.ifCond .gt 5, 3) := by decide +kernel
theorem dX4_gainByTurns_4 : decode cX4_gainByTurns 4 = .ok (.iconst 0, 1) := by decide +kernel
theorem dX4_gainByTurns_5 : decode cX4_gainByTurns 5 = .ok (.ireturn, 1) := by decide +kernel
theorem dX4_gainByTurns_6 : decode cX4_gainByTurns 6 = .ok (.aload_n 0, 1) := by decide +kernel
theorem dX4_gainByTurns_7 : decode cX4_gainByTurns 7 = .ok (.iload_n 1, 1) := by decide +kernel
theorem dX4_gainByTurns_8 : decode cX4_gainByTurns 8 = .ok (.iconst 1, 1) := by decide +kernel
theorem dX4_gainByTurns_9 : decode cX4_gainByTurns 9 = .ok (.isub, 1) := by decide +kernel
theorem dX4_gainByTurns_10 : decode cX4_gainByTurns 10 = .ok (.iload_n 2, 1) := by decide +kernel
theorem dX4_gainByTurns_11 : decode cX4_gainByTurns 11 = .ok (.iload 4, 2) := by decide +kernel
theorem dX4_gainByTurns_13 : decode cX4_gainByTurns 13 = .ok (.iload_n 3, 1) := by decide +kernel
theorem dX4_gainByTurns_14 : decode cX4_gainByTurns 14 = .ok (.invokestatic 249, 3) := by decide +kernel
theorem dX4_gainByTurns_17 : decode cX4_gainByTurns 17 = .ok (.ineg, 1) := by decide +kernel
theorem dX4_gainByTurns_18 : decode cX4_gainByTurns 18 = .ok (.istore 5, 2) := by decide +kernel
theorem dX4_gainByTurns_20 : decode cX4_gainByTurns 20 = .ok (.iconst 0, 1) := by decide +kernel
theorem dX4_gainByTurns_21 : decode cX4_gainByTurns 21 = .ok (.istore 6, 2) := by decide +kernel
theorem dX4_gainByTurns_23 : decode cX4_gainByTurns 23 = .ok (.iload 6, 2) := by decide +kernel
theorem dX4_gainByTurns_25 : decode cX4_gainByTurns 25 = .ok (.aload_n 0, 1) := by decide +kernel
theorem dX4_gainByTurns_26 : decode cX4_gainByTurns 26 = .ok (.getfield 121, 3) := by decide +kernel
theorem dX4_gainByTurns_29 : decode cX4_gainByTurns 29 = .ok (.if_icmp .ge 87, 3) := by decide +kernel
theorem dX4_gainByTurns_32 : decode cX4_gainByTurns 32 = .ok (.iload_n 2, 1) := by decide +kernel
theorem dX4_gainByTurns_33 : decode cX4_gainByTurns 33 = .ok (.iload 6, 2) := by decide +kernel
theorem dX4_gainByTurns_35 : decode cX4_gainByTurns 35 = .ok (.ishr, 1) := by decide +kernel
theorem dX4_gainByTurns_36 : decode cX4_gainByTurns 36 = .ok (.iconst 1, 1) := by decide +kernel
theorem dX4_gainByTurns_37 : decode cX4_gainByTurns 37 = .ok (.iand, 1) := by decide +kernel
theorem dX4_gainByTurns_38 : decode cX4_gainByTurns 38 = .ok (.ifCond .eq 19, 3) := by decide +kernel
theorem dX4_gainByTurns_41 : decode cX4_gainByTurns 41 = .ok (.aload_n 0, 1) := by decide +kernel
theorem dX4_gainByTurns_42 : decode cX4_gainByTurns 42 = .ok (.getfield 184, 3) := by decide +kernel
theorem dX4_gainByTurns_45 : decode cX4_gainByTurns 45 = .ok (.iload 6, 2) := by decide +kernel
theorem dX4_gainByTurns_47 : decode cX4_gainByTurns 47 = .ok (.iaload, 1) := by decide +kernel
theorem dX4_gainByTurns_48 : decode cX4_gainByTurns 48 = .ok (.iload_n 3, 1) := by decide +kernel
theorem dX4_gainByTurns_49 : decode cX4_gainByTurns 49 = .ok (.iand, 1) := by decide +kernel
theorem dX4_gainByTurns_50 : decode cX4_gainByTurns 50 = .ok (.ifCond .ne 7, 3) := by decide +kernel
theorem dX4_gainByTurns_53 : decode cX4_gainByTurns 53 = .ok (.iconst 1, 1) := by decide +kernel
theorem dX4_gainByTurns_54 : decode cX4_gainByTurns 54 = .ok (.goto 4, 3) := by decide +kernel
theorem dX4_gainByTurns_57 : decode cX4_gainByTurns 57 = .ok (.iconst 0, 1) := by decide +kernel
theorem dX4_gainByTurns_58 : decode cX4_gainByTurns 58 = .ok (.istore 7, 2) := by decide +kernel
theorem dX4_gainByTurns_60 : decode cX4_gainByTurns 60 = .ok (.iload 7, 2) := by decide +kernel
theorem dX4_gainByTurns_62 : decode cX4_gainByTurns 62 = .ok (.ifCond .eq 48, 3) := by decide +kernel
theorem dX4_gainByTurns_65 : decode cX4_gainByTurns 65 = .ok (.aload_n 0, 1) := by decide +kernel
theorem dX4_gainByTurns_66 : decode cX4_gainByTurns 66 = .ok (.iload_n 1, 1) := by decide +kernel
theorem dX4_gainByTurns_67 : decode cX4_gainByTurns 67 = .ok (.iconst 1, 1) := by decide +kernel
theorem dX4_gainByTurns_68 : decode cX4_gainByTurns 68 = .ok (.isub, 1) := by decide +kernel
theorem dX4_gainByTurns_69 : decode cX4_gainByTurns 69 = .ok (.iload_n 2, 1) := by decide +kernel
theorem dX4_gainByTurns_70 : decode cX4_gainByTurns 70 = .ok (.iconst 1, 1) := by decide +kernel
theorem dX4_gainByTurns_71 : decode cX4_gainByTurns 71 = .ok (.iload 6, 2) := by decide +kernel
theorem dX4_gainByTurns_73 : decode cX4_gainByTurns 73 = .ok (.ishl, 1) := by decide +kernel
theorem dX4_gainByTurns_74 : decode cX4_gainByTurns 74 = .ok (.iconst (-1), 1) := by decide +kernel
theorem dX4_gainByTurns_75 : decode cX4_gainByTurns 75 = .ok (.ixor, 1) := by decide +kernel
theorem dX4_gainByTurns_76 : decode cX4_gainByTurns 76 = .ok (.iand, 1) := by decide +kernel
theorem dX4_gainByTurns_77 : decode cX4_gainByTurns 77 = .ok (.iload 4, 2) := by decide +kernel
theorem dX4_gainByTurns_79 : decode cX4_gainByTurns 79 = .ok (.iload_n 3, 1) := by decide +kernel
theorem dX4_gainByTurns_80 : decode cX4_gainByTurns 80 = .ok (.aload_n 0, 1) := by decide +kernel
theorem dX4_gainByTurns_81 : decode cX4_gainByTurns 81 = .ok (.getfield 184, 3) := by decide +kernel
theorem dX4_gainByTurns_84 : decode cX4_gainByTurns 84 = .ok (.iload 6, 2) := by decide +kernel
theorem dX4_gainByTurns_86 : decode cX4_gainByTurns 86 = .ok (.iaload, 1) := by decide +kernel
theorem dX4_gainByTurns_87 : decode cX4_gainByTurns 87 = .ok (.ior, 1) := by decide +kernel
theorem dX4_gainByTurns_88 : decode cX4_gainByTurns 88 = .ok (.invokestatic 249, 3) := by decide +kernel
theorem dX4_gainByTurns_91 : decode cX4_gainByTurns 91 = .ok (.istore 8, 2) := by decide +kernel
theorem dX4_gainByTurns_93 : decode cX4_gainByTurns 93 = .ok (.iload 5, 2) := by decide +kernel
theorem dX4_gainByTurns_95 : decode cX4_gainByTurns 95 = .ok (.aload_n 0, 1) := by decide +kernel
theorem dX4_gainByTurns_96 : decode cX4_gainByTurns 96 = .ok (.getfield 138, 3) := by decide +kernel
theorem dX4_gainByTurns_99 : decode cX4_gainByTurns 99 = .ok (.iload 6, 2) := by decide +kernel
theorem dX4_gainByTurns_101 : decode cX4_gainByTurns 101 = .ok (.iaload, 1) := by decide +kernel
theorem dX4_gainByTurns_102 : decode cX4_gainByTurns 102 = .ok (.iload 8, 2) := by decide +kernel
theorem dX4_gainByTurns_104 : decode cX4_gainByTurns 104 = .ok (.isub, 1) := by decide +kernel
theorem dX4_gainByTurns_105 : decode cX4_gainByTurns 105 = .ok (.invokestatic 303, 3) := by decide +kernel
theorem dX4_gainByTurns_108 : decode cX4_gainByTurns 108 = .ok (.istore 5, 2) := by decide +kernel
theorem dX4_gainByTurns_110 : decode cX4_gainByTurns 110 = .ok (.iinc 6 1, 3) := by decide +kernel
theorem dX4_gainByTurns_113 : decode cX4_gainByTurns 113 = .ok (.goto (-90), 3) := by decide +kernel
theorem dX4_gainByTurns_116 : decode cX4_gainByTurns 116 = .ok (.iload 5, 2) := by decide +kernel
theorem dX4_gainByTurns_118 : decode cX4_gainByTurns 118 = .ok (.ireturn, 1) := by decide +kernel
theorem dX4_duel_0 : decode cX4_duel 0 = .ok (.iload_n 1, 1) := by decide +kernel
theorem dX4_duel_1 : decode cX4_duel 1 = .ok (.ifCond .lt 8, 3) := by decide +kernel
theorem dX4_duel_4 : decode cX4_duel 4 = .ok (.iload_n 1, 1) := by decide +kernel
theorem dX4_duel_5 : decode cX4_duel 5 = .ok (.iconst 4, 1) := by decide +kernel
theorem dX4_duel_6 : decode cX4_duel 6 = .ok (.if_icmp .le 5, 3) := by decide +kernel
theorem dX4_duel_9 : decode cX4_duel 9 = .ok (.iconst (-1), 1) := by decide +kernel
theorem dX4_duel_10 : decode cX4_duel 10 = .ok (.ireturn, 1) := by decide +kernel
theorem dX4_duel_11 : decode cX4_duel 11 = .ok (.aload_n 0, 1) := by decide +kernel
theorem dX4_duel_12 : decode cX4_duel 12 = .ok (.getfield 27, 3) := by decide +kernel
theorem dX4_duel_15 : decode cX4_duel 15 = .ok (.getfield 104, 3) := by decide +kernel
theorem dX4_duel_18 : decode cX4_duel 18 = .ok (.getfield 121, 3) := by decide +kernel
theorem dX4_duel_21 : decode cX4_duel 21 = .ok (.ifCond .ne 6, 3) := by decide +kernel
theorem dX4_duel_24 : decode cX4_duel 24 = .ok (.bipush (-4), 2) := by decide +kernel
theorem dX4_duel_26 : decode cX4_duel 26 = .ok (.ireturn, 1) := by decide +kernel
theorem dX4_duel_27 : decode cX4_duel 27 = .ok (.sipush 500, 3) := by decide +kernel
theorem dX4_duel_30 : decode cX4_duel 30 = .ok (.aload_n 0, 1) := by decide +kernel
theorem dX4_duel_31 : decode cX4_duel 31 = .ok (.getfield 27, 3) := by decide +kernel
theorem dX4_duel_34 : decode cX4_duel 34 = .ok (.getfield 104, 3) := by decide +kernel
theorem dX4_duel_37 : decode cX4_duel 37 = .ok (.iload_n 1, 1) := by decide +kernel
theorem dX4_duel_38 : decode cX4_duel 38 = .ok (.aload_n 0, 1) := by decide +kernel
theorem dX4_duel_39 : decode cX4_duel 39 = .ok (.getfield 27, 3) := by decide +kernel
theorem dX4_duel_42 : decode cX4_duel 42 = .ok (.invokevirtual 212, 3) := by decide +kernel
theorem dX4_duel_45 : decode cX4_duel 45 = .ok (.iconst 0, 1) := by decide +kernel
theorem dX4_duel_46 : decode cX4_duel 46 = .ok (.iconst 0, 1) := by decide +kernel
theorem dX4_duel_47 : decode cX4_duel 47 = .ok (.invokestatic 249, 3) := by decide +kernel
theorem dX4_duel_50 : decode cX4_duel 50 = .ok (.iadd, 1) := by decide +kernel
theorem dX4_duel_51 : decode cX4_duel 51 = .ok (.ireturn, 1) := by decide +kernel
theorem dX4_isLuck_0 : decode cX4_isLuck 0 = .ok (.iload_n 0, 1) := by decide +kernel
theorem dX4_isLuck_1 : decode cX4_isLuck 1 = .ok (.ifCond .lt 13, 3) := by decide +kernel
theorem dX4_isLuck_4 : decode cX4_isLuck 4 = .ok (.iload_n 0, 1) := by decide +kernel
theorem dX4_isLuck_5 : decode cX4_isLuck 5 = .ok (.bipush 10, 2) := by decide +kernel
theorem dX4_isLuck_7 : decode cX4_isLuck 7 = .ok (.if_icmp .ge 7, 3) := by decide +kernel
theorem dX4_isLuck_10 : decode cX4_isLuck 10 = .ok (.iconst 1, 1) := by decide +kernel
theorem dX4_isLuck_11 : decode cX4_isLuck 11 = .ok (.goto 4, 3) := by decide +kernel
theorem dX4_isLuck_14 : decode cX4_isLuck 14 = .ok (.iconst 0, 1) := by decide +kernel
theorem dX4_isLuck_15 : decode cX4_isLuck 15 = .ok (.ireturn, 1) := by decide +kernel
theorem dX4_worth_0 : decode cX4_worth 0 = .ok (.aload_n 0, 1) := by decide +kernel
theorem dX4_worth_1 : decode cX4_worth 1 = .ok (.getfield 27, 3) := by decide +kernel
theorem dX4_worth_4 : decode cX4_worth 4 = .ok (.getfield 104, 3) := by decide +kernel
theorem dX4_worth_7 : decode cX4_worth 7 = .ok (.astore_n 3, 1) := by decide +kernel
theorem dX4_worth_8 : decode cX4_worth 8 = .ok (.aload_n 3, 1) := by decide +kernel
theorem dX4_worth_9 : decode cX4_worth 9 = .ok (.iload_n 1, 1) := by decide +kernel
theorem dX4_worth_10 : decode cX4_worth 10 = .ok (.invokevirtual 124, 3) := by decide +kernel
theorem dX4_worth_13 : decode cX4_worth 13 = .ok (.ifCond .eq 10, 3) := by decide +kernel
theorem dX4_worth_16 : decode cX4_worth 16 = .ok (.iload_n 2, 1) := by decide +kernel
theorem dX4_worth_17 : decode cX4_worth 17 = .ok (.invokestatic 148, 3) := by decide +kernel
theorem dX4_worth_20 : decode cX4_worth 20 = .ok (.ifCond .ne 5, 3) := by decide +kernel
theorem dX4_worth_23 : decode cX4_worth 23 = .ok (.iconst (-1), 1) := by decide +kernel
theorem dX4_worth_24 : decode cX4_worth 24 = .ok (.ireturn, 1) := by decide +kernel
theorem dX4_worth_25 : decode cX4_worth 25 = .ok (.aload_n 0, 1) := by decide +kernel
theorem dX4_worth_26 : decode cX4_worth 26 = .ok (.aload_n 3, 1) := by decide +kernel
theorem dX4_worth_27 : decode cX4_worth 27 = .ok (.iload_n 1, 1) := by decide +kernel
theorem dX4_worth_28 : decode cX4_worth 28 = .ok (.aload_n 3, 1) := by decide +kernel
theorem dX4_worth_29 : decode cX4_worth 29 = .ok (.getfield 132, 3) := by decide +kernel
theorem dX4_worth_32 : decode cX4_worth 32 = .ok (.iload_n 1, 1) := by decide +kernel
theorem dX4_worth_33 : decode cX4_worth 33 = .ok (.iaload, 1) := by decide +kernel
theorem dX4_worth_34 : decode cX4_worth 34 = .ok (.iload_n 2, 1) := by decide +kernel
theorem dX4_worth_35 : decode cX4_worth 35 = .ok (.invokevirtual 144, 3) := by decide +kernel
theorem dX4_worth_38 : decode cX4_worth 38 = .ok (.putfield 39, 3) := by decide +kernel
theorem dX4_worth_41 : decode cX4_worth 41 = .ok (.iconst 1, 1) := by decide +kernel
theorem dX4_worth_42 : decode cX4_worth 42 = .ok (.ireturn, 1) := by decide +kernel
theorem dX4_isWorth_0 : decode cX4_isWorth 0 = .ok (.iload_n 0, 1) := by decide +kernel
theorem dX4_isWorth_1 : decode cX4_isWorth 1 = .ok (.bipush (-20), 2) := by decide +kernel
theorem dX4_isWorth_3 : decode cX4_isWorth 3 = .ok (.if_icmp .lt 13, 3) := by decide +kernel
theorem dX4_isWorth_6 : decode cX4_isWorth 6 = .ok (.iload_n 0, 1) := by decide +kernel
theorem dX4_isWorth_7 : decode cX4_isWorth 7 = .ok (.bipush 60, 2) := by decide +kernel
theorem dX4_isWorth_9 : decode cX4_isWorth 9 = .ok (.if_icmp .gt 7, 3) := by decide +kernel
theorem dX4_isWorth_12 : decode cX4_isWorth 12 = .ok (.iconst 1, 1) := by decide +kernel
theorem dX4_isWorth_13 : decode cX4_isWorth 13 = .ok (.goto 4, 3) := by decide +kernel
theorem dX4_isWorth_16 : decode cX4_isWorth 16 = .ok (.iconst 0, 1) := by decide +kernel
theorem dX4_isWorth_17 : decode cX4_isWorth 17 = .ok (.ireturn, 1) := by decide +kernel
theorem dX4_refusePairs_0 : decode cX4_refusePairs 0 = .ok (.aload_n 0, 1) := by decide +kernel
theorem dX4_refusePairs_1 : decode cX4_refusePairs 1 = .ok (.iload_n 2, 1) := by decide +kernel
theorem dX4_refusePairs_2 : decode cX4_refusePairs 2 = .ok (.invokevirtual 51, 3) := by decide +kernel
theorem dX4_refusePairs_5 : decode cX4_refusePairs 5 = .ok (.astore_n 3, 1) := by decide +kernel
theorem dX4_refusePairs_6 : decode cX4_refusePairs 6 = .ok (.aload_n 3, 1) := by decide +kernel
theorem dX4_refusePairs_7 : decode cX4_refusePairs 7 = .ok (.ifnull 17, 3) := by decide +kernel
theorem dX4_refusePairs_10 : decode cX4_refusePairs 10 = .ok (.aload_n 0, 1) := by decide +kernel
theorem dX4_refusePairs_11 : decode cX4_refusePairs 11 = .ok (.getfield 27, 3) := by decide +kernel
theorem dX4_refusePairs_14 : decode cX4_refusePairs 14 = .ok (.getfield 104, 3) := by decide +kernel
theorem dX4_refusePairs_17 : decode cX4_refusePairs 17 = .ok (.iload_n 1, 1) := by decide +kernel
theorem dX4_refusePairs_18 : decode cX4_refusePairs 18 = .ok (.invokevirtual 124, 3) := by decide +kernel
theorem dX4_refusePairs_21 : decode cX4_refusePairs 21 = .ok (.ifCond .ne 5, 3) := by decide +kernel
theorem dX4_refusePairs_24 : decode cX4_refusePairs 24 = .ok (.iconst (-1), 1) := by decide +kernel
theorem dX4_refusePairs_25 : decode cX4_refusePairs 25 = .ok (.ireturn, 1) := by decide +kernel
theorem dX4_refusePairs_26 : decode cX4_refusePairs 26 = .ok (.aload_n 3, 1) := by decide +kernel
theorem dX4_refusePairs_27 : decode cX4_refusePairs 27 = .ok (.invokevirtual 81, 3) := by decide +kernel
theorem dX4_refusePairs_30 : decode cX4_refusePairs 30 = .ok (.ifCond .eq 9, 3) := by decide +kernel
theorem dX4_refusePairs_33 : decode cX4_refusePairs 33 = .ok (.aload_n 0, 1) := by decide +kernel
theorem dX4_refusePairs_34 : decode cX4_refusePairs 34 = .ok (.iconst 1, 1) := by decide +kernel
theorem dX4_refusePairs_35 : decode cX4_refusePairs 35 = .ok (.invokevirtual 78, 3) := by decide +kernel
theorem dX4_refusePairs_38 : decode cX4_refusePairs 38 = .ok (.ireturn, 1) := by decide +kernel
theorem dX4_refusePairs_39 : decode cX4_refusePairs 39 = .ok (.aload_n 3, 1) := by decide +kernel
theorem dX4_refusePairs_40 : decode cX4_refusePairs 40 = .ok (.getfield 75, 3) := by decide +kernel
theorem dX4_refusePairs_43 : decode cX4_refusePairs 43 = .ok (.iconst 2, 1) := by decide +kernel
theorem dX4_refusePairs_44 : decode cX4_refusePairs 44 = .ok (.irem, 1) := by decide +kernel
theorem dX4_refusePairs_45 : decode cX4_refusePairs 45 = .ok (.ifCond .eq 9, 3) := by decide +kernel
theorem dX4_refusePairs_48 : decode cX4_refusePairs 48 = .ok (.aload_n 0, 1) := by decide +kernel
theorem dX4_refusePairs_49 : decode cX4_refusePairs 49 = .ok (.iconst 5, 1) := by decide +kernel
theorem dX4_refusePairs_50 : decode cX4_refusePairs 50 = .ok (.invokevirtual 78, 3) := by decide +kernel
theorem dX4_refusePairs_53 : decode cX4_refusePairs 53 = .ok (.ireturn, 1) := by decide +kernel
theorem dX4_refusePairs_54 : decode cX4_refusePairs 54 = .ok (.iconst 0, 1) := by decide +kernel
theorem dX4_refusePairs_55 : decode cX4_refusePairs 55 = .ok (.istore 4, 2) := by decide +kernel
theorem dX4_refusePairs_57 : decode cX4_refusePairs 57 = .ok (.iload 4, 2) := by decide +kernel
theorem dX4_refusePairs_59 : decode cX4_refusePairs 59 = .ok (.aload_n 3, 1) := by decide +kernel
theorem dX4_refusePairs_60 : decode cX4_refusePairs 60 = .ok (.getfield 75, 3) := by decide +kernel
theorem dX4_refusePairs_63 : decode cX4_refusePairs 63 = .ok (.if_icmp .ge 41, 3) := by decide +kernel
theorem dX4_refusePairs_66 : decode cX4_refusePairs 66 = .ok (.aload_n 3, 1) := by decide +kernel
theorem dX4_refusePairs_67 : decode cX4_refusePairs 67 = .ok (.iload 4, 2) := by decide +kernel
theorem dX4_refusePairs_69 : decode cX4_refusePairs 69 = .ok (.invokevirtual 63, 3) := by decide +kernel
theorem dX4_refusePairs_72 : decode cX4_refusePairs 72 = .ok (.invokestatic 148, 3) := by decide +kernel
theorem dX4_refusePairs_75 : decode cX4_refusePairs 75 = .ok (.ifCond .eq 17, 3) := by decide +kernel
theorem dX4_refusePairs_78 : decode cX4_refusePairs 78 = .ok (.aload_n 3, 1) := by decide +kernel
theorem dX4_refusePairs_79 : decode cX4_refusePairs 79 = .ok (.iload 4, 2) := by decide +kernel
theorem dX4_refusePairs_81 : decode cX4_refusePairs 81 = .ok (.iconst 1, 1) := by decide +kernel
theorem dX4_refusePairs_82 : decode cX4_refusePairs 82 = .ok (.iadd, 1) := by decide +kernel
theorem dX4_refusePairs_83 : decode cX4_refusePairs 83 = .ok (.invokevirtual 63, 3) := by decide +kernel
theorem dX4_refusePairs_86 : decode cX4_refusePairs 86 = .ok (.invokestatic 246, 3) := by decide +kernel
theorem dX4_refusePairs_89 : decode cX4_refusePairs 89 = .ok (.ifCond .ne 9, 3) := by decide +kernel
theorem dX4_refusePairs_92 : decode cX4_refusePairs 92 = .ok (.aload_n 0, 1) := by decide +kernel
theorem dX4_refusePairs_93 : decode cX4_refusePairs 93 = .ok (.iconst 3, 1) := by decide +kernel
theorem dX4_refusePairs_94 : decode cX4_refusePairs 94 = .ok (.invokevirtual 78, 3) := by decide +kernel
theorem dX4_refusePairs_97 : decode cX4_refusePairs 97 = .ok (.ireturn, 1) := by decide +kernel
theorem dX4_refusePairs_98 : decode cX4_refusePairs 98 = .ok (.iinc 4 2, 3) := by decide +kernel
theorem dX4_refusePairs_101 : decode cX4_refusePairs 101 = .ok (.goto (-44), 3) := by decide +kernel
theorem dX4_refusePairs_104 : decode cX4_refusePairs 104 = .ok (.iconst 0, 1) := by decide +kernel
theorem dX4_refusePairs_105 : decode cX4_refusePairs 105 = .ok (.ireturn, 1) := by decide +kernel
theorem dX4_kindsBy_0 : decode cX4_kindsBy 0 = .ok (.iconst 0, 1) := by decide +kernel
theorem dX4_kindsBy_1 : decode cX4_kindsBy 1 = .ok (.istore_n 3, 1) := by decide +kernel
theorem dX4_kindsBy_2 : decode cX4_kindsBy 2 = .ok (.iconst 0, 1) := by decide +kernel
theorem dX4_kindsBy_3 : decode cX4_kindsBy 3 = .ok (.istore 4, 2) := by decide +kernel
theorem dX4_kindsBy_5 : decode cX4_kindsBy 5 = .ok (.iload 4, 2) := by decide +kernel
theorem dX4_kindsBy_7 : decode cX4_kindsBy 7 = .ok (.bipush 6, 2) := by decide +kernel
theorem dX4_kindsBy_9 : decode cX4_kindsBy 9 = .ok (.if_icmp .ge 92, 3) := by decide +kernel
theorem dX4_kindsBy_12 : decode cX4_kindsBy 12 = .ok (.aload_n 2, 1) := by decide +kernel
theorem dX4_kindsBy_13 : decode cX4_kindsBy 13 = .ok (.ifnull 7, 3) := by decide +kernel
theorem dX4_kindsBy_16 : decode cX4_kindsBy 16 = .ok (.iconst 1, 1) := by decide +kernel
theorem dX4_kindsBy_17 : decode cX4_kindsBy 17 = .ok (.goto 4, 3) := by decide +kernel
theorem dX4_kindsBy_20 : decode cX4_kindsBy 20 = .ok (.iconst 0, 1) := by decide +kernel
theorem dX4_kindsBy_21 : decode cX4_kindsBy 21 = .ok (.istore 5, 2) := by decide +kernel
theorem dX4_kindsBy_23 : decode cX4_kindsBy 23 = .ok (.iconst 0, 1) := by decide +kernel
theorem dX4_kindsBy_24 : decode cX4_kindsBy 24 = .ok (.istore 6, 2) := by decide +kernel
theorem dX4_kindsBy_26 : decode cX4_kindsBy 26 = .ok (.iload 5, 2) := by decide +kernel
theorem dX4_kindsBy_28 : decode cX4_kindsBy 28 = .ok (.ifCond .eq 55, 3) := by decide +kernel
theorem dX4_kindsBy_31 : decode cX4_kindsBy 31 = .ok (.iload 6, 2) := by decide +kernel
theorem dX4_kindsBy_33 : decode cX4_kindsBy 33 = .ok (.aload_n 2, 1) := by decide +kernel
theorem dX4_kindsBy_34 : decode cX4_kindsBy 34 = .ok (.getfield 75, 3) := by decide +kernel
theorem dX4_kindsBy_37 : decode cX4_kindsBy 37 = .ok (.if_icmp .ge 46, 3) := by decide +kernel
theorem dX4_kindsBy_40 : decode cX4_kindsBy 40 = .ok (.aload_n 0, 1) := by decide +kernel
theorem dX4_kindsBy_41 : decode cX4_kindsBy 41 = .ok (.getfield 27, 3) := by decide +kernel
theorem dX4_kindsBy_44 : decode cX4_kindsBy 44 = .ok (.getfield 104, 3) := by decide +kernel
theorem dX4_kindsBy_47 : decode cX4_kindsBy 47 = .ok (.iload_n 1, 1) := by decide +kernel
theorem dX4_kindsBy_48 : decode cX4_kindsBy 48 = .ok (.iload 4, 2) := by decide +kernel
theorem dX4_kindsBy_50 : decode cX4_kindsBy 50 = .ok (.aload_n 2, 1) := by decide +kernel
theorem dX4_kindsBy_51 : decode cX4_kindsBy 51 = .ok (.iload 6, 2) := by decide +kernel
theorem dX4_kindsBy_53 : decode cX4_kindsBy 53 = .ok (.invokevirtual 63, 3) := by decide +kernel
theorem dX4_kindsBy_56 : decode cX4_kindsBy 56 = .ok (.invokevirtual 144, 3) := by decide +kernel
theorem dX4_kindsBy_59 : decode cX4_kindsBy 59 = .ok (.aload_n 2, 1) := by decide +kernel
theorem dX4_kindsBy_60 : decode cX4_kindsBy 60 = .ok (.iload 6, 2) := by decide +kernel
theorem dX4_kindsBy_62 : decode cX4_kindsBy 62 = .ok (.iconst 1, 1) := by decide +kernel
theorem dX4_kindsBy_63 : decode cX4_kindsBy 63 = .ok (.iadd, 1) := by decide +kernel
theorem dX4_kindsBy_64 : decode cX4_kindsBy 64 = .ok (.invokevirtual 63, 3) := by decide +kernel
theorem dX4_kindsBy_67 : decode cX4_kindsBy 67 = .ok (.if_icmp .ne 7, 3) := by decide +kernel
theorem dX4_kindsBy_70 : decode cX4_kindsBy 70 = .ok (.iconst 1, 1) := by decide +kernel
theorem dX4_kindsBy_71 : decode cX4_kindsBy 71 = .ok (.goto 4, 3) := by decide +kernel
theorem dX4_kindsBy_74 : decode cX4_kindsBy 74 = .ok (.iconst 0, 1) := by decide +kernel
theorem dX4_kindsBy_75 : decode cX4_kindsBy 75 = .ok (.istore 5, 2) := by decide +kernel
theorem dX4_kindsBy_77 : decode cX4_kindsBy 77 = .ok (.iinc 6 2, 3) := by decide +kernel
theorem dX4_kindsBy_80 : decode cX4_kindsBy 80 = .ok (.goto (-54), 3) := by decide +kernel
theorem dX4_kindsBy_83 : decode cX4_kindsBy 83 = .ok (.iload 5, 2) := by decide +kernel
theorem dX4_kindsBy_85 : decode cX4_kindsBy 85 = .ok (.ifCond .eq 10, 3) := by decide +kernel
theorem dX4_kindsBy_88 : decode cX4_kindsBy 88 = .ok (.iload_n 3, 1) := by decide +kernel
theorem dX4_kindsBy_89 : decode cX4_kindsBy 89 = .ok (.iconst 1, 1) := by decide +kernel
theorem dX4_kindsBy_90 : decode cX4_kindsBy 90 = .ok (.iload 4, 2) := by decide +kernel
theorem dX4_kindsBy_92 : decode cX4_kindsBy 92 = .ok (.ishl, 1) := by decide +kernel
theorem dX4_kindsBy_93 : decode cX4_kindsBy 93 = .ok (.ior, 1) := by decide +kernel
theorem dX4_kindsBy_94 : decode cX4_kindsBy 94 = .ok (.istore_n 3, 1) := by decide +kernel
theorem dX4_kindsBy_95 : decode cX4_kindsBy 95 = .ok (.iinc 4 1, 3) := by decide +kernel
theorem dX4_kindsBy_98 : decode cX4_kindsBy 98 = .ok (.goto (-93), 3) := by decide +kernel
theorem dX4_kindsBy_101 : decode cX4_kindsBy 101 = .ok (.iload_n 3, 1) := by decide +kernel
theorem dX4_kindsBy_102 : decode cX4_kindsBy 102 = .ok (.ireturn, 1) := by decide +kernel
theorem dX4_kinds_0 : decode cX4_kinds 0 = .ok (.aload_n 0, 1) := by decide +kernel
theorem dX4_kinds_1 : decode cX4_kinds 1 = .ok (.iload_n 1, 1) := by decide +kernel
theorem dX4_kinds_2 : decode cX4_kinds 2 = .ok (.iload_n 2, 1) := by decide +kernel
theorem dX4_kinds_3 : decode cX4_kinds 3 = .ok (.invokevirtual 236, 3) := by decide +kernel
theorem dX4_kinds_6 : decode cX4_kinds 6 = .ok (.istore_n 3, 1) := by decide +kernel
theorem dX4_kinds_7 : decode cX4_kinds 7 = .ok (.iload_n 3, 1) := by decide +kernel
theorem dX4_kinds_8 : decode cX4_kinds 8 = .ok (.ifCond .eq 7, 3) := by decide +kernel
theorem dX4_kinds_11 : decode cX4_kinds 11 = .ok (.iload_n 3, 1) := by decide +kernel
theorem dX4_kinds_12 : decode cX4_kinds 12 = .ok (.goto 13, 3) := by decide +kernel
theorem dX4_kinds_15 : decode cX4_kinds 15 = .ok (.aload_n 0, 1) := by decide +kernel
theorem dX4_kinds_16 : decode cX4_kinds 16 = .ok (.iload_n 1, 1) := by decide +kernel
theorem dX4_kinds_17 : decode cX4_kinds 17 = .ok (.aload_n 0, 1) := by decide +kernel
theorem dX4_kinds_18 : decode cX4_kinds 18 = .ok (.iload_n 2, 1) := by decide +kernel
theorem dX4_kinds_19 : decode cX4_kinds 19 = .ok (.invokevirtual 51, 3) := by decide +kernel
theorem dX4_kinds_22 : decode cX4_kinds 22 = .ok (.invokevirtual 239, 3) := by decide +kernel
theorem dX4_kinds_25 : decode cX4_kinds 25 = .ok (.ireturn, 1) := by decide +kernel
theorem dX2_greatestPart_0 : decode cX2_greatestPart 0 = .ok (.iconst 0, 1) := by decide +kernel
theorem dX2_greatestPart_1 : decode cX2_greatestPart 1 = .ok (.istore 4, 2) := by decide +kernel
theorem dX2_greatestPart_3 : decode cX2_greatestPart 3 = .ok (.iconst 0, 1) := by decide +kernel
theorem dX2_greatestPart_4 : decode cX2_greatestPart 4 = .ok (.istore 5, 2) := by decide +kernel
theorem dX2_greatestPart_6 : decode cX2_greatestPart 6 = .ok (.iload 5, 2) := by decide +kernel
theorem dX2_greatestPart_8 : decode cX2_greatestPart 8 = .ok (.bipush 6, 2) := by decide +kernel
theorem dX2_greatestPart_10 : decode cX2_greatestPart 10 = .ok (.if_icmp .ge 89, 3) := by decide +kernel
theorem dX2_greatestPart_13 : decode cX2_greatestPart 13 = .ok (.iconst 0, 1) := by decide +kernel
theorem dX2_greatestPart_14 : decode cX2_greatestPart 14 = .ok (.istore 6, 2) := by decide +kernel
theorem dX2_greatestPart_16 : decode cX2_greatestPart 16 = .ok (.iconst 0, 1) := by decide +kernel
theorem dX2_greatestPart_17 : decode cX2_greatestPart 17 = .ok (.istore 7, 2) := by decide +kernel
theorem dX2_greatestPart_19 : decode cX2_greatestPart 19 = .ok (.iload 7, 2) := by decide +kernel
theorem dX2_greatestPart_21 : decode cX2_greatestPart 21 = .ok (.bipush 6, 2) := by decide +kernel
theorem dX2_greatestPart_23 : decode cX2_greatestPart 23 = .ok (.if_icmp .ge 61, 3) := by decide +kernel
theorem dX2_greatestPart_26 : decode cX2_greatestPart 26 = .ok (.iload_n 2, 1) := by decide +kernel
theorem dX2_greatestPart_27 : decode cX2_greatestPart 27 = .ok (.iload 5, 2) := by decide +kernel
theorem dX2_greatestPart_29 : decode cX2_greatestPart 29 = .ok (.ishr, 1) := by decide +kernel
theorem dX2_greatestPart_30 : decode cX2_greatestPart 30 = .ok (.iconst 1, 1) := by decide +kernel
theorem dX2_greatestPart_31 : decode cX2_greatestPart 31 = .ok (.iand, 1) := by decide +kernel
theorem dX2_greatestPart_32 : decode cX2_greatestPart 32 = .ok (.ifCond .eq 16, 3) := by decide +kernel
theorem dX2_greatestPart_35 : decode cX2_greatestPart 35 = .ok (.iload_n 2, 1) := by decide +kernel
theorem dX2_greatestPart_36 : decode cX2_greatestPart 36 = .ok (.iload 7, 2) := by decide +kernel
theorem dX2_greatestPart_38 : decode cX2_greatestPart 38 = .ok (.ishr, 1) := by decide +kernel
theorem dX2_greatestPart_39 : decode cX2_greatestPart 39 = .ok (.iconst 1, 1) := by decide +kernel
theorem dX2_greatestPart_40 : decode cX2_greatestPart 40 = .ok (.iand, 1) := by decide +kernel
theorem dX2_greatestPart_41 : decode cX2_greatestPart 41 = .ok (.ifCond .eq 7, 3) := by decide +kernel
theorem dX2_greatestPart_44 : decode cX2_greatestPart 44 = .ok (.iconst 1, 1) := by decide +kernel
theorem dX2_greatestPart_45 : decode cX2_greatestPart 45 = .ok (.goto 4, 3) := by decide +kernel
theorem dX2_greatestPart_48 : decode cX2_greatestPart 48 = .ok (.iconst 0, 1) := by decide +kernel
theorem dX2_greatestPart_49 : decode cX2_greatestPart 49 = .ok (.istore 8, 2) := by decide +kernel
theorem dX2_greatestPart_51 : decode cX2_greatestPart 51 = .ok (.iload 8, 2) := by decide +kernel
theorem dX2_greatestPart_53 : decode cX2_greatestPart 53 = .ok (.ifCond .eq 25, 3) := by decide +kernel
theorem dX2_greatestPart_56 : decode cX2_greatestPart 56 = .ok (.aload_n 0, 1) := by decide +kernel
theorem dX2_greatestPart_57 : decode cX2_greatestPart 57 = .ok (.iload_n 1, 1) := by decide +kernel
theorem dX2_greatestPart_58 : decode cX2_greatestPart 58 = .ok (.iload 5, 2) := by decide +kernel
theorem dX2_greatestPart_60 : decode cX2_greatestPart 60 = .ok (.iload_n 3, 1) := by decide +kernel
theorem dX2_greatestPart_61 : decode cX2_greatestPart 61 = .ok (.invokevirtual 67, 3) := by decide +kernel
theorem dX2_greatestPart_64 : decode cX2_greatestPart 64 = .ok (.aload_n 0, 1) := by decide +kernel
theorem dX2_greatestPart_65 : decode cX2_greatestPart 65 = .ok (.iload_n 1, 1) := by decide +kernel
theorem dX2_greatestPart_66 : decode cX2_greatestPart 66 = .ok (.iload 7, 2) := by decide +kernel
theorem dX2_greatestPart_68 : decode cX2_greatestPart 68 = .ok (.iload_n 3, 1) := by decide +kernel
theorem dX2_greatestPart_69 : decode cX2_greatestPart 69 = .ok (.invokevirtual 67, 3) := by decide +kernel
theorem dX2_greatestPart_72 : decode cX2_greatestPart 72 = .ok (.if_icmp .ne 6, 3) := by decide +kernel
theorem dX2_greatestPart_75 : decode cX2_greatestPart 75 = .ok (.iinc 6 1, 3) := by decide +kernel
theorem dX2_greatestPart_78 : decode cX2_greatestPart 78 = .ok (.iinc 7 1, 3) := by decide +kernel
theorem dX2_greatestPart_81 : decode cX2_greatestPart 81 = .ok (.goto (-62), 3) := by decide +kernel
theorem dX2_greatestPart_84 : decode cX2_greatestPart 84 = .ok (.iload 4, 2) := by decide +kernel
theorem dX2_greatestPart_86 : decode cX2_greatestPart 86 = .ok (.iload 6, 2) := by decide +kernel
theorem dX2_greatestPart_88 : decode cX2_greatestPart 88 = .ok (.invokestatic 81, 3) := by decide +kernel
theorem dX2_greatestPart_91 : decode cX2_greatestPart 91 = .ok (.istore 4, 2) := by decide +kernel
theorem dX2_greatestPart_93 : decode cX2_greatestPart 93 = .ok (.iinc 5 1, 3) := by decide +kernel
theorem dX2_greatestPart_96 : decode cX2_greatestPart 96 = .ok (.goto (-90), 3) := by decide +kernel
theorem dX2_greatestPart_99 : decode cX2_greatestPart 99 = .ok (.iload 4, 2) := by decide +kernel
theorem dX2_greatestPart_101 : decode cX2_greatestPart 101 = .ok (.ireturn, 1) := by decide +kernel
theorem dX4_test_0 : decode cX4_test 0 = .ok (.aload_n 0, 1) := by decide +kernel
theorem dX4_test_1 : decode cX4_test 1 = .ok (.iload_n 1, 1) := by decide +kernel
theorem dX4_test_2 : decode cX4_test 2 = .ok (.iload_n 2, 1) := by decide +kernel
theorem dX4_test_3 : decode cX4_test 3 = .ok (.invokevirtual 236, 3) := by decide +kernel
theorem dX4_test_6 : decode cX4_test 6 = .ok (.istore_n 3, 1) := by decide +kernel
theorem dX4_test_7 : decode cX4_test 7 = .ok (.iload_n 3, 1) := by decide +kernel
theorem dX4_test_8 : decode cX4_test 8 = .ok (.ifCond .eq 5, 3) := by decide +kernel
theorem dX4_test_11 : decode cX4_test 11 = .ok (.iload_n 3, 1) := by decide +kernel
theorem dX4_test_12 : decode cX4_test 12 = .ok (.ireturn, 1) := by decide +kernel
theorem dX4_test_13 : decode cX4_test 13 = .ok (.aload_n 0, 1) := by decide +kernel
theorem dX4_test_14 : decode cX4_test 14 = .ok (.iload_n 1, 1) := by decide +kernel
theorem dX4_test_15 : decode cX4_test 15 = .ok (.aload_n 0, 1) := by decide +kernel
theorem dX4_test_16 : decode cX4_test 16 = .ok (.iload_n 2, 1) := by decide +kernel
theorem dX4_test_17 : decode cX4_test 17 = .ok (.invokevirtual 51, 3) := by decide +kernel
theorem dX4_test_20 : decode cX4_test 20 = .ok (.invokevirtual 239, 3) := by decide +kernel
theorem dX4_test_23 : decode cX4_test 23 = .ok (.istore 4, 2) := by decide +kernel
theorem dX4_test_25 : decode cX4_test 25 = .ok (.iload 4, 2) := by decide +kernel
theorem dX4_test_27 : decode cX4_test 27 = .ok (.ifCond .ne 6, 3) := by decide +kernel
theorem dX4_test_30 : decode cX4_test 30 = .ok (.bipush (-9), 2) := by decide +kernel
theorem dX4_test_32 : decode cX4_test 32 = .ok (.ireturn, 1) := by decide +kernel
theorem dX4_test_33 : decode cX4_test 33 = .ok (.bipush 7, 2) := by decide +kernel
theorem dX4_test_35 : decode cX4_test 35 = .ok (.istore 5, 2) := by decide +kernel
theorem dX4_test_37 : decode cX4_test 37 = .ok (.iconst 0, 1) := by decide +kernel
theorem dX4_test_38 : decode cX4_test 38 = .ok (.istore 6, 2) := by decide +kernel
theorem dX4_test_40 : decode cX4_test 40 = .ok (.iconst 0, 1) := by decide +kernel
theorem dX4_test_41 : decode cX4_test 41 = .ok (.istore 7, 2) := by decide +kernel
theorem dX4_test_43 : decode cX4_test 43 = .ok (.iload 7, 2) := by decide +kernel
theorem dX4_test_45 : decode cX4_test 45 = .ok (.bipush 10, 2) := by decide +kernel
theorem dX4_test_47 : decode cX4_test 47 = .ok (.if_icmp .ge 41, 3) := by decide +kernel
theorem dX4_test_50 : decode cX4_test 50 = .ok (.aload_n 0, 1) := by decide +kernel
theorem dX4_test_51 : decode cX4_test 51 = .ok (.getfield 27, 3) := by decide +kernel
theorem dX4_test_54 : decode cX4_test 54 = .ok (.getfield 104, 3) := by decide +kernel
theorem dX4_test_57 : decode cX4_test 57 = .ok (.iload_n 1, 1) := by decide +kernel
theorem dX4_test_58 : decode cX4_test 58 = .ok (.iload 4, 2) := by decide +kernel
theorem dX4_test_60 : decode cX4_test 60 = .ok (.iload 7, 2) := by decide +kernel
theorem dX4_test_62 : decode cX4_test 62 = .ok (.invokevirtual 243, 3) := by decide +kernel
theorem dX4_test_65 : decode cX4_test 65 = .ok (.istore 8, 2) := by decide +kernel
theorem dX4_test_67 : decode cX4_test 67 = .ok (.iload 8, 2) := by decide +kernel
theorem dX4_test_69 : decode cX4_test 69 = .ok (.iload 5, 2) := by decide +kernel
theorem dX4_test_71 : decode cX4_test 71 = .ok (.if_icmp .ge 11, 3) := by decide +kernel
theorem dX4_test_74 : decode cX4_test 74 = .ok (.iload 8, 2) := by decide +kernel
theorem dX4_test_76 : decode cX4_test 76 = .ok (.istore 5, 2) := by decide +kernel
theorem dX4_test_78 : decode cX4_test 78 = .ok (.iload 7, 2) := by decide +kernel
theorem dX4_test_80 : decode cX4_test 80 = .ok (.istore 6, 2) := by decide +kernel
theorem dX4_test_82 : decode cX4_test 82 = .ok (.iinc 7 1, 3) := by decide +kernel
theorem dX4_test_85 : decode cX4_test 85 = .ok (.goto (-42), 3) := by decide +kernel
theorem dX4_test_88 : decode cX4_test 88 = .ok (.aload_n 0, 1) := by decide +kernel
theorem dX4_test_89 : decode cX4_test 89 = .ok (.iload 5, 2) := by decide +kernel
theorem dX4_test_91 : decode cX4_test 91 = .ok (.putfield 39, 3) := by decide +kernel
theorem dX4_test_94 : decode cX4_test 94 = .ok (.iload 6, 2) := by decide +kernel
theorem dX4_test_96 : decode cX4_test 96 = .ok (.ireturn, 1) := by decide +kernel
theorem dX4_lucks_0 : decode cX4_lucks 0 = .ok (.aload_n 0, 1) := by decide +kernel
theorem dX4_lucks_1 : decode cX4_lucks 1 = .ok (.getfield 27, 3) := by decide +kernel
theorem dX4_lucks_4 : decode cX4_lucks 4 = .ok (.getfield 104, 3) := by decide +kernel
theorem dX4_lucks_7 : decode cX4_lucks 7 = .ok (.astore_n 3, 1) := by decide +kernel
theorem dX4_lucks_8 : decode cX4_lucks 8 = .ok (.aload_n 3, 1) := by decide +kernel
theorem dX4_lucks_9 : decode cX4_lucks 9 = .ok (.iload_n 1, 1) := by decide +kernel
theorem dX4_lucks_10 : decode cX4_lucks 10 = .ok (.invokevirtual 124, 3) := by decide +kernel
theorem dX4_lucks_13 : decode cX4_lucks 13 = .ok (.ifCond .eq 10, 3) := by decide +kernel
theorem dX4_lucks_16 : decode cX4_lucks 16 = .ok (.iload_n 2, 1) := by decide +kernel
theorem dX4_lucks_17 : decode cX4_lucks 17 = .ok (.invokestatic 246, 3) := by decide +kernel
theorem dX4_lucks_20 : decode cX4_lucks 20 = .ok (.ifCond .ne 5, 3) := by decide +kernel
theorem dX4_lucks_23 : decode cX4_lucks 23 = .ok (.iconst (-1), 1) := by decide +kernel
theorem dX4_lucks_24 : decode cX4_lucks 24 = .ok (.ireturn, 1) := by decide +kernel
theorem dX4_lucks_25 : decode cX4_lucks 25 = .ok (.iconst 0, 1) := by decide +kernel
theorem dX4_lucks_26 : decode cX4_lucks 26 = .ok (.istore 4, 2) := by decide +kernel
theorem dX4_lucks_28 : decode cX4_lucks 28 = .ok (.iconst 0, 1) := by decide +kernel
theorem dX4_lucks_29 : decode cX4_lucks 29 = .ok (.istore 5, 2) := by decide +kernel
theorem dX4_lucks_31 : decode cX4_lucks 31 = .ok (.iload 5, 2) := by decide +kernel
theorem dX4_lucks_33 : decode cX4_lucks 33 = .ok (.bipush 10, 2) := by decide +kernel
theorem dX4_lucks_35 : decode cX4_lucks 35 = .ok (.if_icmp .ge 35, 3) := by decide +kernel
theorem dX4_lucks_38 : decode cX4_lucks 38 = .ok (.aload_n 3, 1) := by decide +kernel
theorem dX4_lucks_39 : decode cX4_lucks 39 = .ok (.iload_n 1, 1) := by decide +kernel
theorem dX4_lucks_40 : decode cX4_lucks 40 = .ok (.aload_n 3, 1) := by decide +kernel
theorem dX4_lucks_41 : decode cX4_lucks 41 = .ok (.getfield 132, 3) := by decide +kernel
theorem dX4_lucks_44 : decode cX4_lucks 44 = .ok (.iload_n 1, 1) := by decide +kernel
theorem dX4_lucks_45 : decode cX4_lucks 45 = .ok (.iaload, 1) := by decide +kernel
theorem dX4_lucks_46 : decode cX4_lucks 46 = .ok (.iload 5, 2) := by decide +kernel
theorem dX4_lucks_48 : decode cX4_lucks 48 = .ok (.invokevirtual 144, 3) := by decide +kernel
theorem dX4_lucks_51 : decode cX4_lucks 51 = .ok (.iload_n 2, 1) := by decide +kernel
theorem dX4_lucks_52 : decode cX4_lucks 52 = .ok (.if_icmp .ne 12, 3) := by decide +kernel
theorem dX4_lucks_55 : decode cX4_lucks 55 = .ok (.iload 4, 2) := by decide +kernel
theorem dX4_lucks_57 : decode cX4_lucks 57 = .ok (.iconst 1, 1) := by decide +kernel
theorem dX4_lucks_58 : decode cX4_lucks 58 = .ok (.iload 5, 2) := by decide +kernel
theorem dX4_lucks_60 : decode cX4_lucks 60 = .ok (.ishl, 1) := by decide +kernel
theorem dX4_lucks_61 : decode cX4_lucks 61 = .ok (.ior, 1) := by decide +kernel
theorem dX4_lucks_62 : decode cX4_lucks 62 = .ok (.istore 4, 2) := by decide +kernel
theorem dX4_lucks_64 : decode cX4_lucks 64 = .ok (.iinc 5 1, 3) := by decide +kernel
theorem dX4_lucks_67 : decode cX4_lucks 67 = .ok (.goto (-36), 3) := by decide +kernel
theorem dX4_lucks_70 : decode cX4_lucks 70 = .ok (.iload 4, 2) := by decide +kernel
theorem dX4_lucks_72 : decode cX4_lucks 72 = .ok (.ireturn, 1) := by decide +kernel
theorem dX4_power_0 : decode cX4_power 0 = .ok (.lconst 1, 1) := by decide +kernel
theorem dX4_power_1 : decode cX4_power 1 = .ok (.lstore_n 3, 1) := by decide +kernel
theorem dX4_power_2 : decode cX4_power 2 = .ok (.iconst 0, 1) := by decide +kernel
theorem dX4_power_3 : decode cX4_power 3 = .ok (.istore 5, 2) := by decide +kernel
theorem dX4_power_5 : decode cX4_power 5 = .ok (.iload 5, 2) := by decide +kernel
theorem dX4_power_7 : decode cX4_power 7 = .ok (.iload_n 2, 1) := by decide +kernel
theorem dX4_power_8 : decode cX4_power 8 = .ok (.if_icmp .ge 13, 3) := by decide +kernel
theorem dX4_power_11 : decode cX4_power 11 = .ok (.lload_n 3, 1) := by decide +kernel
theorem dX4_power_12 : decode cX4_power 12 = .ok (.lload_n 0, 1) := by decide +kernel
theorem dX4_power_13 : decode cX4_power 13 = .ok (.lmul, 1) := by decide +kernel
theorem dX4_power_14 : decode cX4_power 14 = .ok (.lstore_n 3, 1) := by decide +kernel
theorem dX4_power_15 : decode cX4_power 15 = .ok (.iinc 5 1, 3) := by decide +kernel
theorem dX4_power_18 : decode cX4_power 18 = .ok (.goto (-13), 3) := by decide +kernel
theorem dX4_power_21 : decode cX4_power 21 = .ok (.lload_n 3, 1) := by decide +kernel
theorem dX4_power_22 : decode cX4_power 22 = .ok (.lreturn, 1) := by decide +kernel
def f3_lowest_5 (M : Mem) (fu : Nat) : Nat → Int32 → Int32 → Int32 → Option (Int32)
  | 0 => fun _ _ _ => none
  | f + 1 => fun x1 x2 x3 =>
    if (M.1 35 0) ≤ x3 then ((some x2))
    else (if ((x1 >>> (x3 &&& 31)) &&& (1 : Int32)) = 0 then (nm (x3 + (1 : Int32)) fun v3 =>
    ((f3_lowest_5 M fu f) x1 x2 v3))
    else ((rd M 34 8 x3).bind fun v4 =>
    nm (if v4 < x2 then v4 else x2) fun v5 =>
    nm (x3 + (1 : Int32)) fun v6 =>
    ((f3_lowest_5 M fu f) x1 v5 v6)))
set_option maxHeartbeats 4000000 in
set_option maxRecDepth 10000 in
theorem w3_lowesti_5 {ad : Nat → Nat} {X : XX} {R : Int32} {M : Mem} {fu : Nat}  (h : Cx layC ad X cX3_lowest RX3 4 1 (some .int) M (some (.int R)))  : ∀ (f : Nat) (x1 : Int32) (x2 : Int32) (x3 : Int32), f3_lowest_5 M fu f x1 x2 x3 = some R → Wp layC ad X M 5 [(0, .ref (ad 33)), (1, .int x1), (2, .int x2), (3, .int x3)] [] := by
  intro f
  induction f with
  | zero => intro x1 x2 x3 hF; exact absurd hF (by simp [f3_lowest_5])
  | succ f ih =>
    intro x1 x2 x3 hF
    rw [f3_lowest_5] at hF
    refine R_iload_n (pc := 5) h 3 rfl rfl dX3_lowest_5 ?_
    refine R_aload_n (pc := 6) h 0 rfl rfl dX3_lowest_6 ?_
    refine R_getR (pc := 7) (q1 := 35) h flX3_12 lc_33 rfl dX3_lowest_7 ?_
    refine R_getI (pc := 10) h flX3_46 lc_35 rfl dX3_lowest_10 ?_
    refine R_icmp_ge (pc := 13) (tgt := 41) h dX3_lowest_13 (by decide) (fun c1 => ?_) (fun c1 => ?_)
    · have hF := itp c1 hF
      refine R_iload_n (pc := 41) h 2 rfl rfl dX3_lowest_41 ?_
      cases hF
      exact R_ireturn (pc := 42) h rfl rfl rfl dX3_lowest_42
    · have hF := ifn c1 hF
      refine R_iload_n (pc := 16) h 1 rfl rfl dX3_lowest_16 ?_
      refine R_iload_n (pc := 17) h 3 rfl rfl dX3_lowest_17 ?_
      refine R_ishr (pc := 18) h dX3_lowest_18 ?_
      refine R_iconst (pc := 19) (v := 1) h (by decide) dX3_lowest_19 ?_
      refine R_iand (pc := 20) h dX3_lowest_20 ?_
      refine R_if_eq (pc := 21) (tgt := 35) h dX3_lowest_21 (by decide) (fun c2 => ?_) (fun c2 => ?_)
      · have hF := itp c2 hF
        obtain ⟨v3, hv3, hF⟩ := nm_e2 hF
        refine R_iinc (pc := 35) (lv' := [(3, .int v3), (0, .ref (ad 33)), (1, .int x1), (2, .int x2)]) h 3 rfl (by decide) hv3 (by decide) rfl dX3_lowest_35 ?_
        refine R_goto (pc := 38) (tgt := 5) h dX3_lowest_38 (by decide) ?_
        exact Wp_sub (nX := 0) (lv' := [(0, .ref (ad 33)), (1, .int x1), (2, .int x2), (3, .int v3)]) [1, 2, 3, 0] rfl (ih _ _ _ hF)
      · have hF := ifn c2 hF
        refine R_iload_n (pc := 24) h 2 rfl rfl dX3_lowest_24 ?_
        refine R_aload_n (pc := 25) h 0 rfl rfl dX3_lowest_25 ?_
        refine R_getR (pc := 26) (q1 := 34) h flX3_35 lc_33 rfl dX3_lowest_26 ?_
        refine R_iload_n (pc := 29) h 3 rfl rfl dX3_lowest_29 ?_
        obtain ⟨v4, hv4, hF⟩ := bd hF
        refine R_iald (pc := 30) h hv4 lc_34 dX3_lowest_30 ?_
        refine R_mmin (pc := 31) h mlX3_72 (by decide) (Nat.le_of_ble_eq_true rfl) dX3_lowest_31 ?_
        obtain ⟨v5, hv5, hF⟩ := nm_e2 hF
        refine R_istore_n (pc := 34) (lv' := [(2, .int v5), (0, .ref (ad 33)), (1, .int x1), (3, .int x3)]) h hv5 rfl (by decide) rfl dX3_lowest_34 ?_
        obtain ⟨v6, hv6, hF⟩ := nm_e2 hF
        refine R_iinc (pc := 35) (lv' := [(3, .int v6), (2, .int v5), (0, .ref (ad 33)), (1, .int x1)]) h 3 rfl (by decide) hv6 (by decide) rfl dX3_lowest_35 ?_
        refine R_goto (pc := 38) (tgt := 5) h dX3_lowest_38 (by decide) ?_
        exact Wp_sub (nX := 0) (lv' := [(0, .ref (ad 33)), (1, .int x1), (2, .int v5), (3, .int v6)]) [2, 3, 1, 0] rfl (ih _ _ _ hF)
theorem w3_lowest_5 {ad : Nat → Nat} {X : XX} {R : Int32} {M : Mem} {fu : Nat}  (h : Cx layC ad X cX3_lowest RX3 4 1 (some .int) M (some (.int R)))  {f : Nat} {x1 : Int32} {x2 : Int32} {x3 : Int32} (hF : f3_lowest_5 M fu f x1 x2 x3 = some R) : Wp layC ad X M 5 [(0, .ref (ad 33)), (1, .int x1), (2, .int x2), (3, .int x3)] [] := w3_lowesti_5 h  f _ _ _ hF
def f3_lowest (M : Mem) (fu : Nat) (x1 : Int32) : Option (Int32) :=
    (f3_lowest_5 M fu fu x1 (9 : Int32) (0 : Int32))
set_option maxHeartbeats 4000000 in
set_option maxRecDepth 10000 in
theorem w3_lowest {ad : Nat → Nat} {X : XX} {R : Int32} {M : Mem} {fu : Nat} (h : Cx layC ad X cX3_lowest RX3 4 1 (some .int) M (some (.int R))) {x1 : Int32} (hF : f3_lowest M fu x1 = some R) : Wp layC ad X M 0 [(0, .ref (ad 33)), (1, .int x1)] [] := by
  unfold f3_lowest at hF
  refine R_bipush (pc := 0) (v := 9) h (by decide) dX3_lowest_0 ?_
  refine R_istore_n (pc := 2) (lv' := [(2, .int (9 : Int32)), (0, .ref (ad 33)), (1, .int x1)]) h rfl rfl (by decide) rfl dX3_lowest_2 ?_
  refine R_iconst (pc := 3) (v := 0) h (by decide) dX3_lowest_3 ?_
  refine R_istore_n (pc := 4) (lv' := [(3, .int (0 : Int32)), (2, .int (9 : Int32)), (0, .ref (ad 33)), (1, .int x1)]) h rfl rfl (by decide) rfl dX3_lowest_4 ?_
  exact Wp_sub (nX := 0) (lv' := [(0, .ref (ad 33)), (1, .int x1), (2, .int (9 : Int32)), (3, .int (0 : Int32))]) [2, 3, 1, 0] rfl (w3_lowest_5 h  (hF := hF))
theorem c3_lowest {ad : Nat → Nat} {z : ZZ} {R : Int32} {M : Mem} {fu : Nat} {x1 : Int32} (hF : f3_lowest M fu x1 = some R) : Con layC ad z yX3_lowest cX3_lowest 4 (some .int) 1 M [.ref (ad 33), .int x1] (M) (some (.int R)) := con_of (own := RX3) (lv := [(0, .ref (ad 33)), (1, .int x1)]) (by decide +kernel) rfl (Nat.le_of_ble_eq_true rfl) rfl (fun X hz h => w3_lowest h hF)
def f3_highest_4 (M : Mem) (fu : Nat) : Nat → Int32 → Int32 → Int32 → Option (Int32)
  | 0 => fun _ _ _ => none
  | f + 1 => fun x1 x2 x3 =>
    if (M.1 35 0) ≤ x3 then ((some x2))
    else (if ((x1 >>> (x3 &&& 31)) &&& (1 : Int32)) = 0 then (nm (x3 + (1 : Int32)) fun v3 =>
    ((f3_highest_4 M fu f) x1 x2 v3))
    else ((rd M 34 8 x3).bind fun v4 =>
    nm (if x2 < v4 then v4 else x2) fun v5 =>
    nm (x3 + (1 : Int32)) fun v6 =>
    ((f3_highest_4 M fu f) x1 v5 v6)))
set_option maxHeartbeats 4000000 in
set_option maxRecDepth 10000 in
theorem w3_highesti_4 {ad : Nat → Nat} {X : XX} {R : Int32} {M : Mem} {fu : Nat}  (h : Cx layC ad X cX3_highest RX3 4 1 (some .int) M (some (.int R)))  : ∀ (f : Nat) (x1 : Int32) (x2 : Int32) (x3 : Int32), f3_highest_4 M fu f x1 x2 x3 = some R → Wp layC ad X M 4 [(0, .ref (ad 33)), (1, .int x1), (2, .int x2), (3, .int x3)] [] := by
  intro f
  induction f with
  | zero => intro x1 x2 x3 hF; exact absurd hF (by simp [f3_highest_4])
  | succ f ih =>
    intro x1 x2 x3 hF
    rw [f3_highest_4] at hF
    refine R_iload_n (pc := 4) h 3 rfl rfl dX3_highest_4 ?_
    refine R_aload_n (pc := 5) h 0 rfl rfl dX3_highest_5 ?_
    refine R_getR (pc := 6) (q1 := 35) h flX3_12 lc_33 rfl dX3_highest_6 ?_
    refine R_getI (pc := 9) h flX3_46 lc_35 rfl dX3_highest_9 ?_
    refine R_icmp_ge (pc := 12) (tgt := 40) h dX3_highest_12 (by decide) (fun c1 => ?_) (fun c1 => ?_)
    · have hF := itp c1 hF
      refine R_iload_n (pc := 40) h 2 rfl rfl dX3_highest_40 ?_
      cases hF
      exact R_ireturn (pc := 41) h rfl rfl rfl dX3_highest_41
    · have hF := ifn c1 hF
      refine R_iload_n (pc := 15) h 1 rfl rfl dX3_highest_15 ?_
      refine R_iload_n (pc := 16) h 3 rfl rfl dX3_highest_16 ?_
      refine R_ishr (pc := 17) h dX3_highest_17 ?_
      refine R_iconst (pc := 18) (v := 1) h (by decide) dX3_highest_18 ?_
      refine R_iand (pc := 19) h dX3_highest_19 ?_
      refine R_if_eq (pc := 20) (tgt := 34) h dX3_highest_20 (by decide) (fun c2 => ?_) (fun c2 => ?_)
      · have hF := itp c2 hF
        obtain ⟨v3, hv3, hF⟩ := nm_e2 hF
        refine R_iinc (pc := 34) (lv' := [(3, .int v3), (0, .ref (ad 33)), (1, .int x1), (2, .int x2)]) h 3 rfl (by decide) hv3 (by decide) rfl dX3_highest_34 ?_
        refine R_goto (pc := 37) (tgt := 4) h dX3_highest_37 (by decide) ?_
        exact Wp_sub (nX := 0) (lv' := [(0, .ref (ad 33)), (1, .int x1), (2, .int x2), (3, .int v3)]) [1, 2, 3, 0] rfl (ih _ _ _ hF)
      · have hF := ifn c2 hF
        refine R_iload_n (pc := 23) h 2 rfl rfl dX3_highest_23 ?_
        refine R_aload_n (pc := 24) h 0 rfl rfl dX3_highest_24 ?_
        refine R_getR (pc := 25) (q1 := 34) h flX3_35 lc_33 rfl dX3_highest_25 ?_
        refine R_iload_n (pc := 28) h 3 rfl rfl dX3_highest_28 ?_
        obtain ⟨v4, hv4, hF⟩ := bd hF
        refine R_iald (pc := 29) h hv4 lc_34 dX3_highest_29 ?_
        refine R_mmax (pc := 30) h mlX3_78 (by decide) (Nat.le_of_ble_eq_true rfl) dX3_highest_30 ?_
        obtain ⟨v5, hv5, hF⟩ := nm_e2 hF
        refine R_istore_n (pc := 33) (lv' := [(2, .int v5), (0, .ref (ad 33)), (1, .int x1), (3, .int x3)]) h hv5 rfl (by decide) rfl dX3_highest_33 ?_
        obtain ⟨v6, hv6, hF⟩ := nm_e2 hF
        refine R_iinc (pc := 34) (lv' := [(3, .int v6), (2, .int v5), (0, .ref (ad 33)), (1, .int x1)]) h 3 rfl (by decide) hv6 (by decide) rfl dX3_highest_34 ?_
        refine R_goto (pc := 37) (tgt := 4) h dX3_highest_37 (by decide) ?_
        exact Wp_sub (nX := 0) (lv' := [(0, .ref (ad 33)), (1, .int x1), (2, .int v5), (3, .int v6)]) [2, 3, 1, 0] rfl (ih _ _ _ hF)
theorem w3_highest_4 {ad : Nat → Nat} {X : XX} {R : Int32} {M : Mem} {fu : Nat}  (h : Cx layC ad X cX3_highest RX3 4 1 (some .int) M (some (.int R)))  {f : Nat} {x1 : Int32} {x2 : Int32} {x3 : Int32} (hF : f3_highest_4 M fu f x1 x2 x3 = some R) : Wp layC ad X M 4 [(0, .ref (ad 33)), (1, .int x1), (2, .int x2), (3, .int x3)] [] := w3_highesti_4 h  f _ _ _ hF
def f3_highest (M : Mem) (fu : Nat) (x1 : Int32) : Option (Int32) :=
    (f3_highest_4 M fu fu x1 (0 : Int32) (0 : Int32))
set_option maxHeartbeats 4000000 in
set_option maxRecDepth 10000 in
theorem w3_highest {ad : Nat → Nat} {X : XX} {R : Int32} {M : Mem} {fu : Nat} (h : Cx layC ad X cX3_highest RX3 4 1 (some .int) M (some (.int R))) {x1 : Int32} (hF : f3_highest M fu x1 = some R) : Wp layC ad X M 0 [(0, .ref (ad 33)), (1, .int x1)] [] := by
  unfold f3_highest at hF
  refine R_iconst (pc := 0) (v := 0) h (by decide) dX3_highest_0 ?_
  refine R_istore_n (pc := 1) (lv' := [(2, .int (0 : Int32)), (0, .ref (ad 33)), (1, .int x1)]) h rfl rfl (by decide) rfl dX3_highest_1 ?_
  refine R_iconst (pc := 2) (v := 0) h (by decide) dX3_highest_2 ?_
  refine R_istore_n (pc := 3) (lv' := [(3, .int (0 : Int32)), (2, .int (0 : Int32)), (0, .ref (ad 33)), (1, .int x1)]) h rfl rfl (by decide) rfl dX3_highest_3 ?_
  exact Wp_sub (nX := 0) (lv' := [(0, .ref (ad 33)), (1, .int x1), (2, .int (0 : Int32)), (3, .int (0 : Int32))]) [2, 3, 1, 0] rfl (w3_highest_4 h  (hF := hF))
theorem c3_highest {ad : Nat → Nat} {z : ZZ} {R : Int32} {M : Mem} {fu : Nat} {x1 : Int32} (hF : f3_highest M fu x1 = some R) : Con layC ad z yX3_highest cX3_highest 4 (some .int) 1 M [.ref (ad 33), .int x1] (M) (some (.int R)) := con_of (own := RX3) (lv := [(0, .ref (ad 33)), (1, .int x1)]) (by decide +kernel) rfl (Nat.le_of_ble_eq_true rfl) rfl (fun X hz h => w3_highest h hF)
def f3_stepsBy (M : Mem) (x1 : Int32) (x2 : Int32) : Option (Int32) :=
    (some ((if 0 ≤ (x1 - (M.1 33 2)) then (x1 - (M.1 33 2)) else 0 - (x1 - (M.1 33 2))) + (if 0 ≤ (x2 - x1) then (x2 - x1) else 0 - (x2 - x1))))
set_option maxHeartbeats 4000000 in
set_option maxRecDepth 10000 in
theorem w3_stepsBy {ad : Nat → Nat} {X : XX} {R : Int32} {M : Mem} (h : Cx layC ad X cX3_stepsBy RX3 3 1 (some .int) M (some (.int R))) {x1 : Int32} {x2 : Int32} (hF : f3_stepsBy M x1 x2 = some R) : Wp layC ad X M 0 [(0, .ref (ad 33)), (1, .int x1), (2, .int x2)] [] := by
  unfold f3_stepsBy at hF
  refine R_iload_n (pc := 0) h 1 rfl rfl dX3_stepsBy_0 ?_
  refine R_aload_n (pc := 1) h 0 rfl rfl dX3_stepsBy_1 ?_
  refine R_getI (pc := 2) h flX3_25 lc_33 rfl dX3_stepsBy_2 ?_
  refine R_isub (pc := 5) h dX3_stepsBy_5 ?_
  refine R_mabs (pc := 6) (y := 0) h mlX3_81 (by decide) (Nat.le_of_ble_eq_true rfl) dX3_stepsBy_6 ?_
  refine R_iload_n (pc := 9) h 2 rfl rfl dX3_stepsBy_9 ?_
  refine R_iload_n (pc := 10) h 1 rfl rfl dX3_stepsBy_10 ?_
  refine R_isub (pc := 11) h dX3_stepsBy_11 ?_
  refine R_mabs (pc := 12) (y := 0) h mlX3_81 (by decide) (Nat.le_of_ble_eq_true rfl) dX3_stepsBy_12 ?_
  refine R_iadd (pc := 15) h dX3_stepsBy_15 ?_
  cases hF
  exact R_ireturn (pc := 16) h rfl rfl rfl dX3_stepsBy_16
theorem c3_stepsBy {ad : Nat → Nat} {z : ZZ} {R : Int32} {M : Mem} {x1 : Int32} {x2 : Int32} (hF : f3_stepsBy M x1 x2 = some R) : Con layC ad z yX3_stepsBy cX3_stepsBy 3 (some .int) 1 M [.ref (ad 33), .int x1, .int x2] (M) (some (.int R)) := con_of (own := RX3) (lv := [(0, .ref (ad 33)), (1, .int x1), (2, .int x2)]) (by decide +kernel) rfl (Nat.le_of_ble_eq_true rfl) rfl (fun X hz h => w3_stepsBy h hF)
def f3_stepsFor (M : Mem) (fu : Nat) (x1 : Int32) : Option (Int32) :=
    if x1 = 0 then ((some (0 : Int32)))
    else ((f3_lowest M fu x1).bind fun r3 =>
    (f3_highest M fu x1).bind fun r5 =>
    (f3_stepsBy M r3 r5).bind fun r7 =>
    (f3_stepsBy M r5 r3).bind fun r9 =>
    (some (if r9 < r7 then r9 else r7)))
set_option maxHeartbeats 4000000 in
set_option maxRecDepth 10000 in
theorem w3_stepsFor {ad : Nat → Nat} {X : XX} {R : Int32} {M : Mem} {fu : Nat} (h : Cx layC ad X cX3_stepsFor RX3 4 2 (some .int) M (some (.int R))) {x1 : Int32} (hF : f3_stepsFor M fu x1 = some R) : Wp layC ad X M 0 [(0, .ref (ad 33)), (1, .int x1)] [] := by
  unfold f3_stepsFor at hF
  refine R_iload_n (pc := 0) h 1 rfl rfl dX3_stepsFor_0 ?_
  refine R_if_ne (pc := 1) (tgt := 6) h dX3_stepsFor_1 (by decide) (fun c1 => ?_) (fun c1 => ?_)
  · have hF := ifn c1 hF
    refine R_aload_n (pc := 6) h 0 rfl rfl dX3_stepsFor_6 ?_
    refine R_iload_n (pc := 7) h 1 rfl rfl dX3_stepsFor_7 ?_
    obtain ⟨r3, hc2, hF⟩ := bd hF
    refine R_callV (pc := 8) (st := []) h [.int x1] cvX3_85 (c3_lowest (ad := ad) (z := X.1) hc2) rfl rfl lc_33 (by decide) (by decide) (Nat.le_of_ble_eq_true rfl) dX3_stepsFor_8 (st1 := [.int r3]) rfl ?_
    refine R_istore_n (pc := 11) (lv' := [(2, .int r3), (0, .ref (ad 33)), (1, .int x1)]) h rfl rfl (by decide) rfl dX3_stepsFor_11 ?_
    refine R_aload_n (pc := 12) h 1 rfl rfl dX3_stepsFor_12 ?_
    refine R_iload_n (pc := 13) h 2 rfl rfl dX3_stepsFor_13 ?_
    obtain ⟨r5, hc4, hF⟩ := bd hF
    refine R_callV (pc := 14) (st := []) h [.int x1] cvX3_88 (c3_highest (ad := ad) (z := X.1) hc4) rfl rfl lc_33 (by decide) (by decide) (Nat.le_of_ble_eq_true rfl) dX3_stepsFor_14 (st1 := [.int r5]) rfl ?_
    refine R_istore_n (pc := 17) (lv' := [(3, .int r5), (2, .int r3), (0, .ref (ad 33)), (1, .int x1)]) h rfl rfl (by decide) rfl dX3_stepsFor_17 ?_
    refine R_aload_n (pc := 18) h 2 rfl rfl dX3_stepsFor_18 ?_
    refine R_iload_n (pc := 19) h 1 rfl rfl dX3_stepsFor_19 ?_
    refine R_iload_n (pc := 20) h 0 rfl rfl dX3_stepsFor_20 ?_
    obtain ⟨r7, hc6, hF⟩ := bd hF
    refine R_callV (pc := 21) (st := []) h [.int r3, .int r5] cvX3_91 (c3_stepsBy (ad := ad) (z := X.1) hc6) rfl rfl lc_33 (by decide) (by decide) (Nat.le_of_ble_eq_true rfl) dX3_stepsFor_21 (st1 := [.int r7]) rfl ?_
    refine R_aload_n (pc := 24) h 2 rfl rfl dX3_stepsFor_24 ?_
    refine R_iload_n (pc := 25) h 0 rfl rfl dX3_stepsFor_25 ?_
    refine R_iload_n (pc := 26) h 1 rfl rfl dX3_stepsFor_26 ?_
    obtain ⟨r9, hc8, hF⟩ := bd hF
    refine R_callV (pc := 27) (st := [.int r7]) h [.int r5, .int r3] cvX3_91 (c3_stepsBy (ad := ad) (z := X.1) hc8) rfl rfl lc_33 (by decide) (by decide) (Nat.le_of_ble_eq_true rfl) dX3_stepsFor_27 (st1 := [.int r9, .int r7]) rfl ?_
    refine R_mmin (pc := 30) h mlX3_72 (by decide) (Nat.le_of_ble_eq_true rfl) dX3_stepsFor_30 ?_
    cases hF
    exact R_ireturn (pc := 33) h rfl rfl rfl dX3_stepsFor_33
  · have hF := itp c1 hF
    refine R_iconst (pc := 4) (v := 0) h (by decide) dX3_stepsFor_4 ?_
    cases hF
    exact R_ireturn (pc := 5) h rfl rfl rfl dX3_stepsFor_5
theorem c3_stepsFor {ad : Nat → Nat} {z : ZZ} {R : Int32} {M : Mem} {fu : Nat} {x1 : Int32} (hF : f3_stepsFor M fu x1 = some R) : Con layC ad z yX3_stepsFor cX3_stepsFor 4 (some .int) 2 M [.ref (ad 33), .int x1] (M) (some (.int R)) := con_of (own := RX3) (lv := [(0, .ref (ad 33)), (1, .int x1)]) (by decide +kernel) rfl (Nat.le_of_ble_eq_true rfl) rfl (fun X hz h => w3_stepsFor h hF)
def f4_within_103 (fu : Nat) (k63 : Int32 → Int32 → Int32 → Int32 → Int32 → Mem → Option (Mem × Int32)) (x1 : Int32) (x3 : Int32) (x4 : Int32) (x5 : Int32) (x6 : Int32) (s0 : Int32) (M : Mem) : Option (Mem × Int32) :=
    if s0 = 0 then (nm (x6 + (1 : Int32)) fun v2 =>
    (k63 x1 x3 x4 x5 v2 M))
    else ((f3_stepsFor M fu x6).bind fun r4 =>
    if x1 < r4 then (nm (x6 + (1 : Int32)) fun v6 =>
    (k63 x1 x3 x4 x5 v6 M))
    else ((f2_sumOf M x6).bind fun r8 =>
    nm (x6 + (1 : Int32)) fun v9 =>
    (k63 x1 x3 r8 x6 v9 M)))
set_option maxHeartbeats 4000000 in
set_option maxRecDepth 10000 in
theorem w4_within_103 {ad : Nat → Nat} {X : XX} {R : Mem × Int32} {fu : Nat} {k63 : Int32 → Int32 → Int32 → Int32 → Int32 → Mem → Option (Mem × Int32)} (h : Cx layC ad X cX4_within RX4 8 3 (some .int) (R.1) (some (.int R.2))) (hk63 : ∀ (x1 : Int32) (x3 : Int32) (x4 : Int32) (x5 : Int32) (x6 : Int32) (M : Mem), k63 x1 x3 x4 x5 x6 M = some R → Wp layC ad X M 63 [(0, .ref (ad 28)), (1, .int x1), (2, .ref (ad 35)), (3, .int x3), (4, .int x4), (5, .int x5), (6, .int x6)] []) {x1 : Int32} {x3 : Int32} {x4 : Int32} {x5 : Int32} {x6 : Int32} {s0 : Int32} {M : Mem} (hF : f4_within_103 fu k63 x1 x3 x4 x5 x6 s0 M = some R) : Wp layC ad X M 103 [(0, .ref (ad 28)), (1, .int x1), (2, .ref (ad 35)), (3, .int x3), (4, .int x4), (5, .int x5), (6, .int x6)] [.int s0] := by
  unfold f4_within_103 at hF
  refine R_istore (pc := 103) (lv' := [(7, .int s0), (0, .ref (ad 28)), (1, .int x1), (2, .ref (ad 35)), (3, .int x3), (4, .int x4), (5, .int x5), (6, .int x6)]) h rfl (by decide) rfl dX4_within_103 ?_
  refine R_iload (pc := 105) h 0 rfl dX4_within_105 ?_
  refine R_if_eq (pc := 107) (tgt := 135) h dX4_within_107 (by decide) (fun c1 => ?_) (fun c1 => ?_)
  · have hF := itp c1 hF
    obtain ⟨v2, hv2, hF⟩ := nm_e2 hF
    refine R_iinc (pc := 135) (lv' := [(6, .int v2), (7, .int s0), (0, .ref (ad 28)), (1, .int x1), (2, .ref (ad 35)), (3, .int x3), (4, .int x4), (5, .int x5)]) h 7 rfl (by decide) hv2 (by decide) rfl dX4_within_135 ?_
    refine R_goto (pc := 138) (tgt := 63) h dX4_within_138 (by decide) ?_
    exact Wp_sub (nX := 0) (lv' := [(0, .ref (ad 28)), (1, .int x1), (2, .ref (ad 35)), (3, .int x3), (4, .int x4), (5, .int x5), (6, .int v2)]) [2, 3, 4, 5, 6, 7, 0] rfl (hk63 _ _ _ _ _ _ hF)
  · have hF := ifn c1 hF
    refine R_aload_n (pc := 110) h 1 rfl rfl dX4_within_110 ?_
    refine R_getR (pc := 111) (q1 := 33) h flX4_27 lc_28 rfl dX4_within_111 ?_
    refine R_iload (pc := 114) h 7 rfl dX4_within_114 ?_
    obtain ⟨r4, hc3, hF⟩ := bd hF
    refine R_callV (pc := 116) (st := []) h [.int x6] cvX4_224 (c3_stepsFor (ad := ad) (z := X.1) hc3) rfl rfl lc_33 (by decide) (by decide) (Nat.le_of_ble_eq_true rfl) dX4_within_116 (st1 := [.int r4]) rfl ?_
    refine R_iload_n (pc := 119) h 2 rfl rfl dX4_within_119 ?_
    refine R_icmp_gt (pc := 120) (tgt := 135) h dX4_within_120 (by decide) (fun c5 => ?_) (fun c5 => ?_)
    · have hF := itp c5 hF
      obtain ⟨v6, hv6, hF⟩ := nm_e2 hF
      refine R_iinc (pc := 135) (lv' := [(6, .int v6), (7, .int s0), (0, .ref (ad 28)), (1, .int x1), (2, .ref (ad 35)), (3, .int x3), (4, .int x4), (5, .int x5)]) h 7 rfl (by decide) hv6 (by decide) rfl dX4_within_135 ?_
      refine R_goto (pc := 138) (tgt := 63) h dX4_within_138 (by decide) ?_
      exact Wp_sub (nX := 0) (lv' := [(0, .ref (ad 28)), (1, .int x1), (2, .ref (ad 35)), (3, .int x3), (4, .int x4), (5, .int x5), (6, .int v6)]) [2, 3, 4, 5, 6, 7, 0] rfl (hk63 _ _ _ _ _ _ hF)
    · have hF := ifn c5 hF
      refine R_aload_n (pc := 123) h 3 rfl rfl dX4_within_123 ?_
      refine R_iload (pc := 124) h 7 rfl dX4_within_124 ?_
      obtain ⟨r8, hc7, hF⟩ := bd hF
      refine R_callV (pc := 126) (st := []) h [.int x6] cvX4_190 (c2_sumOf (ad := ad) (z := X.1) hc7) rfl rfl lc_35 (by decide) (by decide) (Nat.le_of_ble_eq_true rfl) dX4_within_126 (st1 := [.int r8]) rfl ?_
      refine R_istore (pc := 129) (lv' := [(4, .int r8), (7, .int s0), (0, .ref (ad 28)), (1, .int x1), (2, .ref (ad 35)), (3, .int x3), (5, .int x5), (6, .int x6)]) h rfl (by decide) rfl dX4_within_129 ?_
      refine R_iload (pc := 131) h 7 rfl dX4_within_131 ?_
      refine R_istore (pc := 133) (lv' := [(5, .int x6), (4, .int r8), (7, .int s0), (0, .ref (ad 28)), (1, .int x1), (2, .ref (ad 35)), (3, .int x3), (6, .int x6)]) h rfl (by decide) rfl dX4_within_133 ?_
      obtain ⟨v9, hv9, hF⟩ := nm_e2 hF
      refine R_iinc (pc := 135) (lv' := [(6, .int v9), (5, .int x6), (4, .int r8), (7, .int s0), (0, .ref (ad 28)), (1, .int x1), (2, .ref (ad 35)), (3, .int x3)]) h 7 rfl (by decide) hv9 (by decide) rfl dX4_within_135 ?_
      refine R_goto (pc := 138) (tgt := 63) h dX4_within_138 (by decide) ?_
      exact Wp_sub (nX := 0) (lv' := [(0, .ref (ad 28)), (1, .int x1), (2, .ref (ad 35)), (3, .int x3), (4, .int r8), (5, .int x6), (6, .int v9)]) [4, 5, 6, 7, 2, 1, 0] rfl (hk63 _ _ _ _ _ _ hF)
def f4_within_63 (fu : Nat) : Nat → Int32 → Int32 → Int32 → Int32 → Int32 → Mem → Option (Mem × Int32)
  | 0 => fun _ _ _ _ _ _ => none
  | f + 1 => fun x1 x3 x4 x5 x6 M =>
    if x3 < x6 then (nm (sI M 28 6 x5) fun M2 =>
    (some (M2, x4)))
    else (if (x6 &&& (x3 ^^^ (-1 : Int32))) = 0 then ((f2_isApart M x6).bind fun r5 =>
    if r5 = 0 then ((f4_within_103 fu (f4_within_63 fu f) x1 x3 x4 x5 x6 (0 : Int32) M))
    else ((f2_sumOf M x6).bind fun r8 =>
    if r8 ≤ x4 then ((f4_within_103 fu (f4_within_63 fu f) x1 x3 x4 x5 x6 (0 : Int32) M))
    else ((f4_within_103 fu (f4_within_63 fu f) x1 x3 x4 x5 x6 (1 : Int32) M))))
    else ((f4_within_103 fu (f4_within_63 fu f) x1 x3 x4 x5 x6 (0 : Int32) M)))
set_option maxHeartbeats 4000000 in
set_option maxRecDepth 10000 in
theorem w4_withini_63 {ad : Nat → Nat} {X : XX} {R : Mem × Int32} {fu : Nat}  (h : Cx layC ad X cX4_within RX4 8 3 (some .int) (R.1) (some (.int R.2)))  : ∀ (f : Nat) (x1 : Int32) (x3 : Int32) (x4 : Int32) (x5 : Int32) (x6 : Int32) (M : Mem), f4_within_63 fu f x1 x3 x4 x5 x6 M = some R → Wp layC ad X M 63 [(0, .ref (ad 28)), (1, .int x1), (2, .ref (ad 35)), (3, .int x3), (4, .int x4), (5, .int x5), (6, .int x6)] [] := by
  intro f
  induction f with
  | zero => intro x1 x3 x4 x5 x6 M hF; exact absurd hF (by simp [f4_within_63])
  | succ f ih =>
    intro x1 x3 x4 x5 x6 M hF
    rw [f4_within_63] at hF
    refine R_iload (pc := 63) h 6 rfl dX4_within_63 ?_
    refine R_iload_n (pc := 65) h 3 rfl rfl dX4_within_65 ?_
    refine R_icmp_gt (pc := 66) (tgt := 141) h dX4_within_66 (by decide) (fun c1 => ?_) (fun c1 => ?_)
    · have hF := itp c1 hF
      refine R_aload_n (pc := 141) h 0 rfl rfl dX4_within_141 ?_
      refine R_iload (pc := 142) h 5 rfl dX4_within_142 ?_
      obtain ⟨M2, hM2, hF⟩ := nm_e2 hF
      refine R_putI (pc := 144) h hM2 fpX4_39 lc_28 rfl dX4_within_144 ?_
      refine R_iload (pc := 147) h 4 rfl dX4_within_147 ?_
      cases hF
      exact R_ireturn (pc := 149) h rfl rfl rfl dX4_within_149
    · have hF := ifn c1 hF
      refine R_iload (pc := 69) h 6 rfl dX4_within_69 ?_
      refine R_iload_n (pc := 71) h 3 rfl rfl dX4_within_71 ?_
      refine R_iconst (pc := 72) (v := (-1)) h (by decide) dX4_within_72 ?_
      refine R_ixor (pc := 73) h dX4_within_73 ?_
      refine R_iand (pc := 74) h dX4_within_74 ?_
      refine R_if_ne (pc := 75) (tgt := 102) h dX4_within_75 (by decide) (fun c3 => ?_) (fun c3 => ?_)
      · have hF := ifn c3 hF
        refine R_iconst (pc := 102) (v := 0) h (by decide) dX4_within_102 ?_
        exact Wp_sub (nX := 0) (lv' := [(0, .ref (ad 28)), (1, .int x1), (2, .ref (ad 35)), (3, .int x3), (4, .int x4), (5, .int x5), (6, .int x6)]) [0, 1, 2, 3, 4, 5, 6] rfl (w4_within_103 h (hk63 := fun a0 a1 a2 a3 a4 a5 hF => ih a0 a1 a2 a3 a4 a5 hF) (hF := hF))
      · have hF := itp c3 hF
        refine R_aload_n (pc := 78) h 2 rfl rfl dX4_within_78 ?_
        refine R_iload (pc := 79) h 6 rfl dX4_within_79 ?_
        obtain ⟨r5, hc4, hF⟩ := bd hF
        refine R_callV (pc := 81) (st := []) h [.int x6] cvX4_193 (c2_isApart (ad := ad) (z := X.1) hc4) rfl rfl lc_35 (by decide) (by decide) (Nat.le_of_ble_eq_true rfl) dX4_within_81 (st1 := [.int r5]) rfl ?_
        refine R_if_eq (pc := 84) (tgt := 102) h dX4_within_84 (by decide) (fun c6 => ?_) (fun c6 => ?_)
        · have hF := itp c6 hF
          refine R_iconst (pc := 102) (v := 0) h (by decide) dX4_within_102 ?_
          exact Wp_sub (nX := 0) (lv' := [(0, .ref (ad 28)), (1, .int x1), (2, .ref (ad 35)), (3, .int x3), (4, .int x4), (5, .int x5), (6, .int x6)]) [0, 1, 2, 3, 4, 5, 6] rfl (w4_within_103 h (hk63 := fun a0 a1 a2 a3 a4 a5 hF => ih a0 a1 a2 a3 a4 a5 hF) (hF := hF))
        · have hF := ifn c6 hF
          refine R_aload_n (pc := 87) h 2 rfl rfl dX4_within_87 ?_
          refine R_iload (pc := 88) h 6 rfl dX4_within_88 ?_
          obtain ⟨r8, hc7, hF⟩ := bd hF
          refine R_callV (pc := 90) (st := []) h [.int x6] cvX4_190 (c2_sumOf (ad := ad) (z := X.1) hc7) rfl rfl lc_35 (by decide) (by decide) (Nat.le_of_ble_eq_true rfl) dX4_within_90 (st1 := [.int r8]) rfl ?_
          refine R_iload (pc := 93) h 4 rfl dX4_within_93 ?_
          refine R_icmp_le (pc := 95) (tgt := 102) h dX4_within_95 (by decide) (fun c9 => ?_) (fun c9 => ?_)
          · have hF := itp c9 hF
            refine R_iconst (pc := 102) (v := 0) h (by decide) dX4_within_102 ?_
            exact Wp_sub (nX := 0) (lv' := [(0, .ref (ad 28)), (1, .int x1), (2, .ref (ad 35)), (3, .int x3), (4, .int x4), (5, .int x5), (6, .int x6)]) [0, 1, 2, 3, 4, 5, 6] rfl (w4_within_103 h (hk63 := fun a0 a1 a2 a3 a4 a5 hF => ih a0 a1 a2 a3 a4 a5 hF) (hF := hF))
          · have hF := ifn c9 hF
            refine R_iconst (pc := 98) (v := 1) h (by decide) dX4_within_98 ?_
            refine R_goto (pc := 99) (tgt := 103) h dX4_within_99 (by decide) ?_
            exact Wp_sub (nX := 0) (lv' := [(0, .ref (ad 28)), (1, .int x1), (2, .ref (ad 35)), (3, .int x3), (4, .int x4), (5, .int x5), (6, .int x6)]) [0, 1, 2, 3, 4, 5, 6] rfl (w4_within_103 h (hk63 := fun a0 a1 a2 a3 a4 a5 hF => ih a0 a1 a2 a3 a4 a5 hF) (hF := hF))
theorem w4_within_63 {ad : Nat → Nat} {X : XX} {R : Mem × Int32} {fu : Nat}  (h : Cx layC ad X cX4_within RX4 8 3 (some .int) (R.1) (some (.int R.2)))  {f : Nat} {x1 : Int32} {x3 : Int32} {x4 : Int32} {x5 : Int32} {x6 : Int32} {M : Mem} (hF : f4_within_63 fu f x1 x3 x4 x5 x6 M = some R) : Wp layC ad X M 63 [(0, .ref (ad 28)), (1, .int x1), (2, .ref (ad 35)), (3, .int x3), (4, .int x4), (5, .int x5), (6, .int x6)] [] := w4_withini_63 h  f _ _ _ _ _ _ hF
def f4_within (fu : Nat) (x1 : Int32) (M : Mem) : Option (Mem × Int32) :=
    if x1 < 0 then ((some (M, (-1 : Int32))))
    else (if x1 ≤ (20 : Int32) then (if (M.1 35 0) = 0 then ((some (M, (-4 : Int32))))
    else ((f3_lying M).bind fun r5 =>
    (f2_hoursOf M (M.1 33 3)).bind fun r7 =>
    (f2_apartFrom M fu r7).bind fun r9 =>
    nm (r5 &&& r9) fun v10 =>
    (f4_within_63 fu fu x1 v10 (0 : Int32) (0 : Int32) (1 : Int32) M)))
    else ((some (M, (-1 : Int32)))))
set_option maxHeartbeats 4000000 in
set_option maxRecDepth 10000 in
theorem w4_within {ad : Nat → Nat} {X : XX} {R : Mem × Int32} {fu : Nat} (h : Cx layC ad X cX4_within RX4 8 3 (some .int) (R.1) (some (.int R.2))) {x1 : Int32} {M : Mem} (hF : f4_within fu x1 M = some R) : Wp layC ad X M 0 [(0, .ref (ad 28)), (1, .int x1)] [] := by
  unfold f4_within at hF
  refine R_iload_n (pc := 0) h 1 rfl rfl dX4_within_0 ?_
  refine R_if_lt (pc := 1) (tgt := 10) h dX4_within_1 (by decide) (fun c1 => ?_) (fun c1 => ?_)
  · have hF := itp c1 hF
    refine R_iconst (pc := 10) (v := (-1)) h (by decide) dX4_within_10 ?_
    cases hF
    exact R_ireturn (pc := 11) h rfl rfl rfl dX4_within_11
  · have hF := ifn c1 hF
    refine R_iload_n (pc := 4) h 1 rfl rfl dX4_within_4 ?_
    refine R_bipush (pc := 5) (v := 20) h (by decide) dX4_within_5 ?_
    refine R_icmp_le (pc := 7) (tgt := 12) h dX4_within_7 (by decide) (fun c2 => ?_) (fun c2 => ?_)
    · have hF := itp c2 hF
      refine R_aload_n (pc := 12) h 0 rfl rfl dX4_within_12 ?_
      refine R_getR (pc := 13) (q1 := 33) h flX4_27 lc_28 rfl dX4_within_13 ?_
      refine R_getR (pc := 16) (q1 := 35) h flX4_104 lc_33 rfl dX4_within_16 ?_
      refine R_astore_n (pc := 19) (lv' := [(2, .ref (ad 35)), (0, .ref (ad 28)), (1, .int x1)]) h rfl rfl (by decide) rfl dX4_within_19 ?_
      refine R_aload_n (pc := 20) h 0 rfl rfl dX4_within_20 ?_
      refine R_getI (pc := 21) h flX4_121 lc_35 rfl dX4_within_21 ?_
      refine R_if_ne (pc := 24) (tgt := 30) h dX4_within_24 (by decide) (fun c3 => ?_) (fun c3 => ?_)
      · have hF := ifn c3 hF
        refine R_aload_n (pc := 30) h 1 rfl rfl dX4_within_30 ?_
        refine R_getR (pc := 31) (q1 := 33) h flX4_27 lc_28 rfl dX4_within_31 ?_
        obtain ⟨r5, hc4, hF⟩ := bd hF
        refine R_callV (pc := 34) (st := []) h [] cvX4_212 (c3_lying (ad := ad) (z := X.1) hc4) rfl rfl lc_33 (by decide) (by decide) (Nat.le_of_ble_eq_true rfl) dX4_within_34 (st1 := [.int r5]) rfl ?_
        refine R_aload_n (pc := 37) h 0 rfl rfl dX4_within_37 ?_
        refine R_aload_n (pc := 38) h 0 rfl rfl dX4_within_38 ?_
        refine R_aload_n (pc := 39) h 1 rfl rfl dX4_within_39 ?_
        refine R_getR (pc := 40) (q1 := 33) h flX4_27 lc_28 rfl dX4_within_40 ?_
        refine R_getI (pc := 43) h flX4_164 lc_33 rfl dX4_within_43 ?_
        obtain ⟨r7, hc6, hF⟩ := bd hF
        refine R_callV (pc := 46) (st := [.ref (ad 35), .int r5]) h [.int (M.1 33 3)] cvX4_227 (c2_hoursOf (ad := ad) (z := X.1) hc6) rfl rfl lc_35 (by decide) (by decide) (Nat.le_of_ble_eq_true rfl) dX4_within_46 (st1 := [.int r7, .ref (ad 35), .int r5]) rfl ?_
        obtain ⟨r9, hc8, hF⟩ := bd hF
        refine R_callV (pc := 49) (st := [.int r5]) h [.int r7] cvX4_187 (c2_apartFrom (ad := ad) (z := X.1) hc8) rfl rfl lc_35 (by decide) (by decide) (Nat.le_of_ble_eq_true rfl) dX4_within_49 (st1 := [.int r9, .int r5]) rfl ?_
        refine R_iand (pc := 52) h dX4_within_52 ?_
        obtain ⟨v10, hv10, hF⟩ := nm_e2 hF
        refine R_istore_n (pc := 53) (lv' := [(3, .int v10), (2, .ref (ad 35)), (0, .ref (ad 28)), (1, .int x1)]) h hv10 rfl (by decide) rfl dX4_within_53 ?_
        refine R_iconst (pc := 54) (v := 0) h (by decide) dX4_within_54 ?_
        refine R_istore (pc := 55) (lv' := [(4, .int (0 : Int32)), (3, .int v10), (2, .ref (ad 35)), (0, .ref (ad 28)), (1, .int x1)]) h rfl (by decide) rfl dX4_within_55 ?_
        refine R_iconst (pc := 57) (v := 0) h (by decide) dX4_within_57 ?_
        refine R_istore (pc := 58) (lv' := [(5, .int (0 : Int32)), (4, .int (0 : Int32)), (3, .int v10), (2, .ref (ad 35)), (0, .ref (ad 28)), (1, .int x1)]) h rfl (by decide) rfl dX4_within_58 ?_
        refine R_iconst (pc := 60) (v := 1) h (by decide) dX4_within_60 ?_
        refine R_istore (pc := 61) (lv' := [(6, .int (1 : Int32)), (5, .int (0 : Int32)), (4, .int (0 : Int32)), (3, .int v10), (2, .ref (ad 35)), (0, .ref (ad 28)), (1, .int x1)]) h rfl (by decide) rfl dX4_within_61 ?_
        exact Wp_sub (nX := 0) (lv' := [(0, .ref (ad 28)), (1, .int x1), (2, .ref (ad 35)), (3, .int v10), (4, .int (0 : Int32)), (5, .int (0 : Int32)), (6, .int (1 : Int32))]) [5, 6, 4, 3, 2, 1, 0] rfl (w4_within_63 h  (hF := hF))
      · have hF := itp c3 hF
        refine R_bipush (pc := 27) (v := (-4)) h (by decide) dX4_within_27 ?_
        cases hF
        exact R_ireturn (pc := 29) h rfl rfl rfl dX4_within_29
    · have hF := ifn c2 hF
      refine R_iconst (pc := 10) (v := (-1)) h (by decide) dX4_within_10 ?_
      cases hF
      exact R_ireturn (pc := 11) h rfl rfl rfl dX4_within_11
theorem c4_within {ad : Nat → Nat} {z : ZZ} {R : Mem × Int32} {fu : Nat} {x1 : Int32} {M : Mem} (hF : f4_within fu x1 M = some R) : Con layC ad z yX4_within cX4_within 8 (some .int) 3 M [.ref (ad 28), .int x1] (R.1) (some (.int R.2)) := con_of (own := RX4) (lv := [(0, .ref (ad 28)), (1, .int x1)]) (by decide +kernel) rfl (Nat.le_of_ble_eq_true rfl) rfl (fun X hz h => w4_within h hF)
def f4_walk_111 (fu : Nat) (x1 : Int32) (s0 : Int32) (M : Mem) : Option (Mem × Int32) :=
    nm (sI M 28 6 s0) fun M1 =>
    (f3_stepsFor M1 fu x1).bind fun r3 =>
    (some (M1, r3))
set_option maxHeartbeats 4000000 in
set_option maxRecDepth 10000 in
theorem w4_walk_111 {ad : Nat → Nat} {X : XX} {R : Mem × Int32} {fu : Nat}  (h : Cx layC ad X cX4_walk RX4 5 3 (some .int) (R.1) (some (.int R.2)))  {x1 : Int32} {s0 : Int32} {M : Mem} (hF : f4_walk_111 fu x1 s0 M = some R) : Wp layC ad X M 111 [(0, .ref (ad 28)), (1, .int x1)] [.int s0, .ref (ad 28)] := by
  unfold f4_walk_111 at hF
  obtain ⟨M1, hM1, hF⟩ := nm_e2 hF
  refine R_putI (pc := 111) h hM1 fpX4_39 lc_28 rfl dX4_walk_111 ?_
  refine R_aload_n (pc := 114) h 0 rfl rfl dX4_walk_114 ?_
  refine R_getR (pc := 115) (q1 := 33) h flX4_27 lc_28 rfl dX4_walk_115 ?_
  refine R_iload_n (pc := 118) h 1 rfl rfl dX4_walk_118 ?_
  obtain ⟨r3, hc2, hF⟩ := bd hF
  refine R_callV (pc := 119) (st := []) h [.int x1] cvX4_224 (c3_stepsFor (ad := ad) (z := X.1) hc2) rfl rfl lc_33 (by decide) (by decide) (Nat.le_of_ble_eq_true rfl) dX4_walk_119 (st1 := [.int r3]) rfl ?_
  cases hF
  exact R_ireturn (pc := 122) h rfl rfl rfl dX4_walk_122
def f4_walk_98 (fu : Nat) (x1 : Int32) (x2 : Int32) (x3 : Int32) (s0 : Int32) (M : Mem) : Option (Mem × Int32) :=
    if s0 = 0 then ((f4_walk_111 fu x1 x3 M))
    else ((f4_walk_111 fu x1 x2 M))
set_option maxHeartbeats 4000000 in
set_option maxRecDepth 10000 in
theorem w4_walk_98 {ad : Nat → Nat} {X : XX} {R : Mem × Int32} {fu : Nat}  (h : Cx layC ad X cX4_walk RX4 5 3 (some .int) (R.1) (some (.int R.2)))  {x1 : Int32} {x2 : Int32} {x3 : Int32} {s0 : Int32} {M : Mem} (hF : f4_walk_98 fu x1 x2 x3 s0 M = some R) : Wp layC ad X M 98 [(0, .ref (ad 28)), (1, .int x1), (2, .int x2), (3, .int x3)] [.int s0] := by
  unfold f4_walk_98 at hF
  refine R_istore (pc := 98) (lv' := [(4, .int s0), (0, .ref (ad 28)), (1, .int x1), (2, .int x2), (3, .int x3)]) h rfl (by decide) rfl dX4_walk_98 ?_
  refine R_aload_n (pc := 100) h 1 rfl rfl dX4_walk_100 ?_
  refine R_iload (pc := 101) h 0 rfl dX4_walk_101 ?_
  refine R_if_eq (pc := 103) (tgt := 110) h dX4_walk_103 (by decide) (fun c1 => ?_) (fun c1 => ?_)
  · have hF := itp c1 hF
    refine R_iload_n (pc := 110) h 4 rfl rfl dX4_walk_110 ?_
    exact Wp_sub (nX := 0) (lv' := [(0, .ref (ad 28)), (1, .int x1)]) [1, 2] rfl (w4_walk_111 h  (hF := hF))
  · have hF := ifn c1 hF
    refine R_iload_n (pc := 106) h 3 rfl rfl dX4_walk_106 ?_
    refine R_goto (pc := 107) (tgt := 111) h dX4_walk_107 (by decide) ?_
    exact Wp_sub (nX := 0) (lv' := [(0, .ref (ad 28)), (1, .int x1)]) [1, 2] rfl (w4_walk_111 h  (hF := hF))
def f4_walk (fu : Nat) (x1 : Int32) (M : Mem) : Option (Mem × Int32) :=
    if x1 < 0 then ((some (M, (-1 : Int32))))
    else ((f2_all M).bind fun r3 =>
    if x1 ≤ r3 then ((f3_lying M).bind fun r6 =>
    if (x1 &&& (r6 ^^^ (-1 : Int32))) = 0 then (if x1 = 0 then (nm (sI M 28 6 (M.1 33 2)) fun M9 =>
    (some (M9, (0 : Int32))))
    else ((f3_lowest M fu x1).bind fun r11 =>
    (f3_highest M fu x1).bind fun r13 =>
    (f3_stepsBy M r13 r11).bind fun r15 =>
    (f3_stepsBy M r11 r13).bind fun r17 =>
    if r17 < r15 then ((f4_walk_98 fu x1 r11 r13 (0 : Int32) M))
    else ((f4_walk_98 fu x1 r11 r13 (1 : Int32) M))))
    else ((some (M, (-4 : Int32)))))
    else ((some (M, (-1 : Int32)))))
set_option maxHeartbeats 4000000 in
set_option maxRecDepth 10000 in
theorem w4_walk {ad : Nat → Nat} {X : XX} {R : Mem × Int32} {fu : Nat} (h : Cx layC ad X cX4_walk RX4 5 3 (some .int) (R.1) (some (.int R.2))) {x1 : Int32} {M : Mem} (hF : f4_walk fu x1 M = some R) : Wp layC ad X M 0 [(0, .ref (ad 28)), (1, .int x1)] [] := by
  unfold f4_walk at hF
  refine R_iload_n (pc := 0) h 1 rfl rfl dX4_walk_0 ?_
  refine R_if_lt (pc := 1) (tgt := 18) h dX4_walk_1 (by decide) (fun c1 => ?_) (fun c1 => ?_)
  · have hF := itp c1 hF
    refine R_iconst (pc := 18) (v := (-1)) h (by decide) dX4_walk_18 ?_
    cases hF
    exact R_ireturn (pc := 19) h rfl rfl rfl dX4_walk_19
  · have hF := ifn c1 hF
    refine R_iload_n (pc := 4) h 1 rfl rfl dX4_walk_4 ?_
    refine R_aload_n (pc := 5) h 0 rfl rfl dX4_walk_5 ?_
    refine R_getR (pc := 6) (q1 := 33) h flX4_27 lc_28 rfl dX4_walk_6 ?_
    refine R_getR (pc := 9) (q1 := 35) h flX4_104 lc_33 rfl dX4_walk_9 ?_
    obtain ⟨r3, hc2, hF⟩ := bd hF
    refine R_callV (pc := 12) (st := [.int x1]) h [] cvX4_196 (c2_all (ad := ad) (z := X.1) hc2) rfl rfl lc_35 (by decide) (by decide) (Nat.le_of_ble_eq_true rfl) dX4_walk_12 (st1 := [.int r3, .int x1]) rfl ?_
    refine R_icmp_le (pc := 15) (tgt := 20) h dX4_walk_15 (by decide) (fun c4 => ?_) (fun c4 => ?_)
    · have hF := itp c4 hF
      refine R_iload_n (pc := 20) h 1 rfl rfl dX4_walk_20 ?_
      refine R_aload_n (pc := 21) h 0 rfl rfl dX4_walk_21 ?_
      refine R_getR (pc := 22) (q1 := 33) h flX4_27 lc_28 rfl dX4_walk_22 ?_
      obtain ⟨r6, hc5, hF⟩ := bd hF
      refine R_callV (pc := 25) (st := [.int x1]) h [] cvX4_212 (c3_lying (ad := ad) (z := X.1) hc5) rfl rfl lc_33 (by decide) (by decide) (Nat.le_of_ble_eq_true rfl) dX4_walk_25 (st1 := [.int r6, .int x1]) rfl ?_
      refine R_iconst (pc := 28) (v := (-1)) h (by decide) dX4_walk_28 ?_
      refine R_ixor (pc := 29) h dX4_walk_29 ?_
      refine R_iand (pc := 30) h dX4_walk_30 ?_
      refine R_if_eq (pc := 31) (tgt := 37) h dX4_walk_31 (by decide) (fun c7 => ?_) (fun c7 => ?_)
      · have hF := itp c7 hF
        refine R_iload_n (pc := 37) h 1 rfl rfl dX4_walk_37 ?_
        refine R_if_ne (pc := 38) (tgt := 54) h dX4_walk_38 (by decide) (fun c8 => ?_) (fun c8 => ?_)
        · have hF := ifn c8 hF
          refine R_aload_n (pc := 54) h 0 rfl rfl dX4_walk_54 ?_
          refine R_getR (pc := 55) (q1 := 33) h flX4_27 lc_28 rfl dX4_walk_55 ?_
          refine R_iload_n (pc := 58) h 1 rfl rfl dX4_walk_58 ?_
          obtain ⟨r11, hc10, hF⟩ := bd hF
          refine R_callV (pc := 59) (st := []) h [.int x1] cvX4_215 (c3_lowest (ad := ad) (z := X.1) hc10) rfl rfl lc_33 (by decide) (by decide) (Nat.le_of_ble_eq_true rfl) dX4_walk_59 (st1 := [.int r11]) rfl ?_
          refine R_istore_n (pc := 62) (lv' := [(2, .int r11), (0, .ref (ad 28)), (1, .int x1)]) h rfl rfl (by decide) rfl dX4_walk_62 ?_
          refine R_aload_n (pc := 63) h 1 rfl rfl dX4_walk_63 ?_
          refine R_getR (pc := 64) (q1 := 33) h flX4_27 lc_28 rfl dX4_walk_64 ?_
          refine R_iload_n (pc := 67) h 2 rfl rfl dX4_walk_67 ?_
          obtain ⟨r13, hc12, hF⟩ := bd hF
          refine R_callV (pc := 68) (st := []) h [.int x1] cvX4_218 (c3_highest (ad := ad) (z := X.1) hc12) rfl rfl lc_33 (by decide) (by decide) (Nat.le_of_ble_eq_true rfl) dX4_walk_68 (st1 := [.int r13]) rfl ?_
          refine R_istore_n (pc := 71) (lv' := [(3, .int r13), (2, .int r11), (0, .ref (ad 28)), (1, .int x1)]) h rfl rfl (by decide) rfl dX4_walk_71 ?_
          refine R_aload_n (pc := 72) h 2 rfl rfl dX4_walk_72 ?_
          refine R_getR (pc := 73) (q1 := 33) h flX4_27 lc_28 rfl dX4_walk_73 ?_
          refine R_iload_n (pc := 76) h 0 rfl rfl dX4_walk_76 ?_
          refine R_iload_n (pc := 77) h 1 rfl rfl dX4_walk_77 ?_
          obtain ⟨r15, hc14, hF⟩ := bd hF
          refine R_callV (pc := 78) (st := []) h [.int r13, .int r11] cvX4_221 (c3_stepsBy (ad := ad) (z := X.1) hc14) rfl rfl lc_33 (by decide) (by decide) (Nat.le_of_ble_eq_true rfl) dX4_walk_78 (st1 := [.int r15]) rfl ?_
          refine R_aload_n (pc := 81) h 2 rfl rfl dX4_walk_81 ?_
          refine R_getR (pc := 82) (q1 := 33) h flX4_27 lc_28 rfl dX4_walk_82 ?_
          refine R_iload_n (pc := 85) h 1 rfl rfl dX4_walk_85 ?_
          refine R_iload_n (pc := 86) h 0 rfl rfl dX4_walk_86 ?_
          obtain ⟨r17, hc16, hF⟩ := bd hF
          refine R_callV (pc := 87) (st := [.int r15]) h [.int r11, .int r13] cvX4_221 (c3_stepsBy (ad := ad) (z := X.1) hc16) rfl rfl lc_33 (by decide) (by decide) (Nat.le_of_ble_eq_true rfl) dX4_walk_87 (st1 := [.int r17, .int r15]) rfl ?_
          refine R_icmp_gt (pc := 90) (tgt := 97) h dX4_walk_90 (by decide) (fun c18 => ?_) (fun c18 => ?_)
          · have hF := itp c18 hF
            refine R_iconst (pc := 97) (v := 0) h (by decide) dX4_walk_97 ?_
            exact Wp_sub (nX := 0) (lv' := [(0, .ref (ad 28)), (1, .int x1), (2, .int r11), (3, .int r13)]) [2, 3, 1, 0] rfl (w4_walk_98 h  (hF := hF))
          · have hF := ifn c18 hF
            refine R_iconst (pc := 93) (v := 1) h (by decide) dX4_walk_93 ?_
            refine R_goto (pc := 94) (tgt := 98) h dX4_walk_94 (by decide) ?_
            exact Wp_sub (nX := 0) (lv' := [(0, .ref (ad 28)), (1, .int x1), (2, .int r11), (3, .int r13)]) [2, 3, 1, 0] rfl (w4_walk_98 h  (hF := hF))
        · have hF := itp c8 hF
          refine R_aload_n (pc := 41) h 0 rfl rfl dX4_walk_41 ?_
          refine R_aload_n (pc := 42) h 0 rfl rfl dX4_walk_42 ?_
          refine R_getR (pc := 43) (q1 := 33) h flX4_27 lc_28 rfl dX4_walk_43 ?_
          refine R_getI (pc := 46) h flX4_151 lc_33 rfl dX4_walk_46 ?_
          obtain ⟨M9, hM9, hF⟩ := nm_e2 hF
          refine R_putI (pc := 49) h hM9 fpX4_39 lc_28 rfl dX4_walk_49 ?_
          refine R_iconst (pc := 52) (v := 0) h (by decide) dX4_walk_52 ?_
          cases hF
          exact R_ireturn (pc := 53) h rfl rfl rfl dX4_walk_53
      · have hF := ifn c7 hF
        refine R_bipush (pc := 34) (v := (-4)) h (by decide) dX4_walk_34 ?_
        cases hF
        exact R_ireturn (pc := 36) h rfl rfl rfl dX4_walk_36
    · have hF := ifn c4 hF
      refine R_iconst (pc := 18) (v := (-1)) h (by decide) dX4_walk_18 ?_
      cases hF
      exact R_ireturn (pc := 19) h rfl rfl rfl dX4_walk_19
theorem c4_walk {ad : Nat → Nat} {z : ZZ} {R : Mem × Int32} {fu : Nat} {x1 : Int32} {M : Mem} (hF : f4_walk fu x1 M = some R) : Con layC ad z yX4_walk cX4_walk 5 (some .int) 3 M [.ref (ad 28), .int x1] (R.1) (some (.int R.2)) := con_of (own := RX4) (lv := [(0, .ref (ad 28)), (1, .int x1)]) (by decide +kernel) rfl (Nat.le_of_ble_eq_true rfl) rfl (fun X hz h => w4_walk h hF)
def f4_busy_15 (fu : Nat) : Nat → Int32 → Int32 → Int32 → Mem → Option (Mem × Int32)
  | 0 => fun _ _ _ _ => none
  | f + 1 => fun x2 x3 x4 M =>
    if (M.1 35 0) ≤ x4 then (nm (sI M 28 6 x3) fun M2 =>
    (some (M2, x2)))
    else (if (((M.1 33 3) >>> (x4 &&& 31)) &&& (1 : Int32)) = 0 then (nm (x4 + (1 : Int32)) fun v4 =>
    ((f4_busy_15 fu f) x2 x3 v4 M))
    else ((rd M 41 8 x4).bind fun v5 =>
    nm (x3 ||| (x2 &&& v5)) fun v6 =>
    (rd M 41 8 x4).bind fun v7 =>
    nm (x2 ||| v7) fun v8 =>
    nm (x4 + (1 : Int32)) fun v9 =>
    ((f4_busy_15 fu f) v8 v6 v9 M)))
set_option maxHeartbeats 4000000 in
set_option maxRecDepth 10000 in
theorem w4_busyi_15 {ad : Nat → Nat} {X : XX} {R : Mem × Int32} {fu : Nat}  (h : Cx layC ad X cX4_busy RX4 5 1 (some .int) (R.1) (some (.int R.2)))  : ∀ (f : Nat) (x2 : Int32) (x3 : Int32) (x4 : Int32) (M : Mem), f4_busy_15 fu f x2 x3 x4 M = some R → Wp layC ad X M 15 [(0, .ref (ad 28)), (1, .ref (ad 35)), (2, .int x2), (3, .int x3), (4, .int x4)] [] := by
  intro f
  induction f with
  | zero => intro x2 x3 x4 M hF; exact absurd hF (by simp [f4_busy_15])
  | succ f ih =>
    intro x2 x3 x4 M hF
    rw [f4_busy_15] at hF
    refine R_iload (pc := 15) h 4 rfl dX4_busy_15 ?_
    refine R_aload_n (pc := 17) h 1 rfl rfl dX4_busy_17 ?_
    refine R_getI (pc := 18) h flX4_121 lc_35 rfl dX4_busy_18 ?_
    refine R_icmp_ge (pc := 21) (tgt := 67) h dX4_busy_21 (by decide) (fun c1 => ?_) (fun c1 => ?_)
    · have hF := itp c1 hF
      refine R_aload_n (pc := 67) h 0 rfl rfl dX4_busy_67 ?_
      refine R_iload_n (pc := 68) h 3 rfl rfl dX4_busy_68 ?_
      obtain ⟨M2, hM2, hF⟩ := nm_e2 hF
      refine R_putI (pc := 69) h hM2 fpX4_39 lc_28 rfl dX4_busy_69 ?_
      refine R_iload_n (pc := 72) h 2 rfl rfl dX4_busy_72 ?_
      cases hF
      exact R_ireturn (pc := 73) h rfl rfl rfl dX4_busy_73
    · have hF := ifn c1 hF
      refine R_aload_n (pc := 24) h 0 rfl rfl dX4_busy_24 ?_
      refine R_getR (pc := 25) (q1 := 33) h flX4_27 lc_28 rfl dX4_busy_25 ?_
      refine R_getI (pc := 28) h flX4_164 lc_33 rfl dX4_busy_28 ?_
      refine R_iload (pc := 31) h 4 rfl dX4_busy_31 ?_
      refine R_ishr (pc := 33) h dX4_busy_33 ?_
      refine R_iconst (pc := 34) (v := 1) h (by decide) dX4_busy_34 ?_
      refine R_iand (pc := 35) h dX4_busy_35 ?_
      refine R_if_eq (pc := 36) (tgt := 61) h dX4_busy_36 (by decide) (fun c3 => ?_) (fun c3 => ?_)
      · have hF := itp c3 hF
        obtain ⟨v4, hv4, hF⟩ := nm_e2 hF
        refine R_iinc (pc := 61) (lv' := [(4, .int v4), (0, .ref (ad 28)), (1, .ref (ad 35)), (2, .int x2), (3, .int x3)]) h 4 rfl (by decide) hv4 (by decide) rfl dX4_busy_61 ?_
        refine R_goto (pc := 64) (tgt := 15) h dX4_busy_64 (by decide) ?_
        exact Wp_sub (nX := 0) (lv' := [(0, .ref (ad 28)), (1, .ref (ad 35)), (2, .int x2), (3, .int x3), (4, .int v4)]) [1, 2, 3, 4, 0] rfl (ih _ _ _ _ hF)
      · have hF := ifn c3 hF
        refine R_iload_n (pc := 39) h 3 rfl rfl dX4_busy_39 ?_
        refine R_iload_n (pc := 40) h 2 rfl rfl dX4_busy_40 ?_
        refine R_aload_n (pc := 41) h 1 rfl rfl dX4_busy_41 ?_
        refine R_getR (pc := 42) (q1 := 41) h flX4_184 lc_35 rfl dX4_busy_42 ?_
        refine R_iload (pc := 45) h 4 rfl dX4_busy_45 ?_
        obtain ⟨v5, hv5, hF⟩ := bd hF
        refine R_iald (pc := 47) h hv5 lc_41 dX4_busy_47 ?_
        refine R_iand (pc := 48) h dX4_busy_48 ?_
        refine R_ior (pc := 49) h dX4_busy_49 ?_
        obtain ⟨v6, hv6, hF⟩ := nm_e2 hF
        refine R_istore_n (pc := 50) (lv' := [(3, .int v6), (0, .ref (ad 28)), (1, .ref (ad 35)), (2, .int x2), (4, .int x4)]) h hv6 rfl (by decide) rfl dX4_busy_50 ?_
        refine R_iload_n (pc := 51) h 3 rfl rfl dX4_busy_51 ?_
        refine R_aload_n (pc := 52) h 2 rfl rfl dX4_busy_52 ?_
        refine R_getR (pc := 53) (q1 := 41) h flX4_184 lc_35 rfl dX4_busy_53 ?_
        refine R_iload (pc := 56) h 4 rfl dX4_busy_56 ?_
        obtain ⟨v7, hv7, hF⟩ := bd hF
        refine R_iald (pc := 58) h hv7 lc_41 dX4_busy_58 ?_
        refine R_ior (pc := 59) h dX4_busy_59 ?_
        obtain ⟨v8, hv8, hF⟩ := nm_e2 hF
        refine R_istore_n (pc := 60) (lv' := [(2, .int v8), (3, .int v6), (0, .ref (ad 28)), (1, .ref (ad 35)), (4, .int x4)]) h hv8 rfl (by decide) rfl dX4_busy_60 ?_
        obtain ⟨v9, hv9, hF⟩ := nm_e2 hF
        refine R_iinc (pc := 61) (lv' := [(4, .int v9), (2, .int v8), (3, .int v6), (0, .ref (ad 28)), (1, .ref (ad 35))]) h 4 rfl (by decide) hv9 (by decide) rfl dX4_busy_61 ?_
        refine R_goto (pc := 64) (tgt := 15) h dX4_busy_64 (by decide) ?_
        exact Wp_sub (nX := 0) (lv' := [(0, .ref (ad 28)), (1, .ref (ad 35)), (2, .int v8), (3, .int v6), (4, .int v9)]) [3, 4, 1, 2, 0] rfl (ih _ _ _ _ hF)
theorem w4_busy_15 {ad : Nat → Nat} {X : XX} {R : Mem × Int32} {fu : Nat}  (h : Cx layC ad X cX4_busy RX4 5 1 (some .int) (R.1) (some (.int R.2)))  {f : Nat} {x2 : Int32} {x3 : Int32} {x4 : Int32} {M : Mem} (hF : f4_busy_15 fu f x2 x3 x4 M = some R) : Wp layC ad X M 15 [(0, .ref (ad 28)), (1, .ref (ad 35)), (2, .int x2), (3, .int x3), (4, .int x4)] [] := w4_busyi_15 h  f _ _ _ _ hF
def f4_busy (fu : Nat) (M : Mem) : Option (Mem × Int32) :=
    (f4_busy_15 fu fu (0 : Int32) (0 : Int32) (0 : Int32) M)
set_option maxHeartbeats 4000000 in
set_option maxRecDepth 10000 in
theorem w4_busy {ad : Nat → Nat} {X : XX} {R : Mem × Int32} {fu : Nat} (h : Cx layC ad X cX4_busy RX4 5 1 (some .int) (R.1) (some (.int R.2))) {M : Mem} (hF : f4_busy fu M = some R) : Wp layC ad X M 0 [(0, .ref (ad 28))] [] := by
  unfold f4_busy at hF
  refine R_aload_n (pc := 0) h 0 rfl rfl dX4_busy_0 ?_
  refine R_getR (pc := 1) (q1 := 33) h flX4_27 lc_28 rfl dX4_busy_1 ?_
  refine R_getR (pc := 4) (q1 := 35) h flX4_104 lc_33 rfl dX4_busy_4 ?_
  refine R_astore_n (pc := 7) (lv' := [(1, .ref (ad 35)), (0, .ref (ad 28))]) h rfl rfl (by decide) rfl dX4_busy_7 ?_
  refine R_iconst (pc := 8) (v := 0) h (by decide) dX4_busy_8 ?_
  refine R_istore_n (pc := 9) (lv' := [(2, .int (0 : Int32)), (1, .ref (ad 35)), (0, .ref (ad 28))]) h rfl rfl (by decide) rfl dX4_busy_9 ?_
  refine R_iconst (pc := 10) (v := 0) h (by decide) dX4_busy_10 ?_
  refine R_istore_n (pc := 11) (lv' := [(3, .int (0 : Int32)), (2, .int (0 : Int32)), (1, .ref (ad 35)), (0, .ref (ad 28))]) h rfl rfl (by decide) rfl dX4_busy_11 ?_
  refine R_iconst (pc := 12) (v := 0) h (by decide) dX4_busy_12 ?_
  refine R_istore (pc := 13) (lv' := [(4, .int (0 : Int32)), (3, .int (0 : Int32)), (2, .int (0 : Int32)), (1, .ref (ad 35)), (0, .ref (ad 28))]) h rfl (by decide) rfl dX4_busy_13 ?_
  exact Wp_sub (nX := 0) (lv' := [(0, .ref (ad 28)), (1, .ref (ad 35)), (2, .int (0 : Int32)), (3, .int (0 : Int32)), (4, .int (0 : Int32))]) [4, 3, 2, 1, 0] rfl (w4_busy_15 h  (hF := hF))
theorem c4_busy {ad : Nat → Nat} {z : ZZ} {R : Mem × Int32} {fu : Nat} {M : Mem} (hF : f4_busy fu M = some R) : Con layC ad z yX4_busy cX4_busy 5 (some .int) 1 M [.ref (ad 28)] (R.1) (some (.int R.2)) := con_of (own := RX4) (lv := [(0, .ref (ad 28))]) (by decide +kernel) rfl (Nat.le_of_ble_eq_true rfl) rfl (fun X hz h => w4_busy h hF)
def f4_row (fu : Nat) (x1 : Int32) (x2 : Int32) (M : Mem) : Option (Mem × Int32) :=
    (f4_rowAt x1).bind fun r2 =>
    oc r2 ((f4_makeCells_N fu x2 (40 : Int32) (0 : Int32) M).bind fun ⟨M5, r6⟩ =>
    (some (M5, r6)))
    fun q3 => (f4_makeCells fu q3 x2 (40 : Int32) (0 : Int32) M).bind fun ⟨M8, r9⟩ =>
    (some (M8, r9))
set_option maxHeartbeats 4000000 in
set_option maxRecDepth 10000 in
theorem w4_row {ad : Nat → Nat} {X : XX} {R : Mem × Int32} {fu : Nat} (h : Cx layC ad X cX4_row RX4 3 3 (some .int) (R.1) (some (.int R.2))) {x1 : Int32} {x2 : Int32} {M : Mem} (hF : f4_row fu x1 x2 M = some R) : Wp layC ad X M 0 [(0, .ref (ad 28)), (1, .int x1), (2, .int x2)] [] := by
  unfold f4_row at hF
  refine R_aload_n (pc := 0) h 0 rfl rfl dX4_row_0 ?_
  refine R_aload_n (pc := 1) h 0 rfl rfl dX4_row_1 ?_
  refine R_iload_n (pc := 2) h 1 rfl rfl dX4_row_2 ?_
  obtain ⟨r2, hc1, hF⟩ := bd hF
  rcases r2 with _ | q3
  · have hF := oc_n hF
    refine R_callV (pc := 3) (st := [.ref (ad 28)]) h [.int x1] cvX4_51 (c4_rowAt (ad := ad) (z := X.1) (M := M) hc1) rfl rfl lc_28 (by decide) (by decide) (Nat.le_of_ble_eq_true rfl) dX4_row_3 (st1 := [.null, .ref (ad 28)]) rfl ?_
    refine R_iload_n (pc := 6) h 2 rfl rfl dX4_row_6 ?_
    refine R_bipush (pc := 7) (v := 40) h (by decide) dX4_row_7 ?_
    refine R_iconst (pc := 9) (v := 0) h (by decide) dX4_row_9 ?_
    obtain ⟨⟨M5, r6⟩, hc4, hF⟩ := bd hF
    refine R_callV (pc := 10) (st := []) h [.null, .int x2, .int (40 : Int32), .int (0 : Int32)] cvX4_55 (c4_makeCells_N (ad := ad) (z := X.1) hc4) rfl rfl lc_28 (by decide) (by decide) (Nat.le_of_ble_eq_true rfl) dX4_row_10 (st1 := [.int r6]) rfl ?_
    cases hF
    exact R_ireturn (pc := 13) h rfl rfl rfl dX4_row_13
  · have hF := oc_s hF
    refine R_callV (pc := 3) (st := [.ref (ad 28)]) h [.int x1] cvX4_51 (c4_rowAt (ad := ad) (z := X.1) (M := M) hc1) rfl rfl lc_28 (by decide) (by decide) (Nat.le_of_ble_eq_true rfl) dX4_row_3 (st1 := [.ref (ad q3), .ref (ad 28)]) rfl ?_
    refine R_iload_n (pc := 6) h 2 rfl rfl dX4_row_6 ?_
    refine R_bipush (pc := 7) (v := 40) h (by decide) dX4_row_7 ?_
    refine R_iconst (pc := 9) (v := 0) h (by decide) dX4_row_9 ?_
    obtain ⟨⟨M8, r9⟩, hc7, hF⟩ := bd hF
    refine R_callV (pc := 10) (st := []) h [.ref (ad q3), .int x2, .int (40 : Int32), .int (0 : Int32)] cvX4_55 (c4_makeCells (ad := ad) (z := X.1) hc7) rfl rfl lc_28 (by decide) (by decide) (Nat.le_of_ble_eq_true rfl) dX4_row_10 (st1 := [.int r9]) rfl ?_
    cases hF
    exact R_ireturn (pc := 13) h rfl rfl rfl dX4_row_13
theorem c4_row {ad : Nat → Nat} {z : ZZ} {R : Mem × Int32} {fu : Nat} {x1 : Int32} {x2 : Int32} {M : Mem} (hF : f4_row fu x1 x2 M = some R) : Con layC ad z yX4_row cX4_row 3 (some .int) 3 M [.ref (ad 28), .int x1, .int x2] (R.1) (some (.int R.2)) := con_of (own := RX4) (lv := [(0, .ref (ad 28)), (1, .int x1), (2, .int x2)]) (by decide +kernel) rfl (Nat.le_of_ble_eq_true rfl) rfl (fun X hz h => w4_row h hF)
def f4_undo (fu : Nat) (x1 : Int32) (M : Mem) : Option (Mem × Int32) :=
    nm (M.1 23 0) fun v1 =>
    if x1 < 0 then ((some (M, (-1 : Int32))))
    else (if x1 ≤ v1 then ((f3_goBackTo fu x1 M).bind fun M5 =>
    (some (M5, (v1 - x1))))
    else ((some (M, (-1 : Int32)))))
set_option maxHeartbeats 4000000 in
set_option maxRecDepth 10000 in
theorem w4_undo {ad : Nat → Nat} {X : XX} {R : Mem × Int32} {fu : Nat} (h : Cx layC ad X cX4_undo RX4 3 6 (some .int) (R.1) (some (.int R.2))) {x1 : Int32} {M : Mem} (hF : f4_undo fu x1 M = some R) : Wp layC ad X M 0 [(0, .ref (ad 28)), (1, .int x1)] [] := by
  unfold f4_undo at hF
  refine R_aload_n (pc := 0) h 0 rfl rfl dX4_undo_0 ?_
  refine R_getR (pc := 1) (q1 := 33) h flX4_27 lc_28 rfl dX4_undo_1 ?_
  refine R_getR (pc := 4) (q1 := 23) h flX4_172 lc_33 rfl dX4_undo_4 ?_
  refine R_getI (pc := 7) h flX4_118 lc_23 rfl dX4_undo_7 ?_
  obtain ⟨v1, hv1, hF⟩ := nm_e2 hF
  refine R_istore_n (pc := 10) (lv' := [(2, .int v1), (0, .ref (ad 28)), (1, .int x1)]) h hv1 rfl (by decide) rfl dX4_undo_10 ?_
  refine R_iload_n (pc := 11) h 2 rfl rfl dX4_undo_11 ?_
  refine R_if_lt (pc := 12) (tgt := 20) h dX4_undo_12 (by decide) (fun c2 => ?_) (fun c2 => ?_)
  · have hF := itp c2 hF
    refine R_iconst (pc := 20) (v := (-1)) h (by decide) dX4_undo_20 ?_
    cases hF
    exact R_ireturn (pc := 21) h rfl rfl rfl dX4_undo_21
  · have hF := ifn c2 hF
    refine R_iload_n (pc := 15) h 2 rfl rfl dX4_undo_15 ?_
    refine R_iload_n (pc := 16) h 0 rfl rfl dX4_undo_16 ?_
    refine R_icmp_le (pc := 17) (tgt := 22) h dX4_undo_17 (by decide) (fun c3 => ?_) (fun c3 => ?_)
    · have hF := itp c3 hF
      refine R_aload_n (pc := 22) h 1 rfl rfl dX4_undo_22 ?_
      refine R_getR (pc := 23) (q1 := 33) h flX4_27 lc_28 rfl dX4_undo_23 ?_
      refine R_iload_n (pc := 26) h 2 rfl rfl dX4_undo_26 ?_
      obtain ⟨M5, hc4, hF⟩ := bd hF
      refine R_callV (pc := 27) (st := []) h [.int x1] cvX4_114 (c3_goBackTo (ad := ad) (z := X.1) hc4) rfl rfl lc_33 (by decide) (by decide) (Nat.le_of_ble_eq_true rfl) dX4_undo_27 (st1 := []) rfl ?_
      refine R_iload_n (pc := 30) h 0 rfl rfl dX4_undo_30 ?_
      refine R_iload_n (pc := 31) h 2 rfl rfl dX4_undo_31 ?_
      refine R_isub (pc := 32) h dX4_undo_32 ?_
      cases hF
      exact R_ireturn (pc := 33) h rfl rfl rfl dX4_undo_33
    · have hF := ifn c3 hF
      refine R_iconst (pc := 20) (v := (-1)) h (by decide) dX4_undo_20 ?_
      cases hF
      exact R_ireturn (pc := 21) h rfl rfl rfl dX4_undo_21
theorem c4_undo {ad : Nat → Nat} {z : ZZ} {R : Mem × Int32} {fu : Nat} {x1 : Int32} {M : Mem} (hF : f4_undo fu x1 M = some R) : Con layC ad z yX4_undo cX4_undo 3 (some .int) 6 M [.ref (ad 28), .int x1] (R.1) (some (.int R.2)) := con_of (own := RX4) (lv := [(0, .ref (ad 28)), (1, .int x1)]) (by decide +kernel) rfl (Nat.le_of_ble_eq_true rfl) rfl (fun X hz h => w4_undo h hF)
def f0_placesOf_4 (M : Mem) (fu : Nat) : Nat → Nat → Int32 → Int32 → Int32 → Option (Int32)
  | 0 => fun _ _ _ _ => none
  | f + 1 => fun px0 x1 x2 x3 =>
    (gd (decide (px0 < 10))).bind fun _ =>
    if (M.1 px0 0) ≤ x3 then ((some x2))
    else (if (13 : Int32) ≤ x3 then ((some x2))
    else ((rd M (px0 + 10) 60 x3).bind fun v4 =>
    if v4 = x1 then (nm (x2 ||| ((1 : Int32) <<< (x3 &&& 31))) fun v6 =>
    nm (x3 + (1 : Int32)) fun v7 =>
    ((f0_placesOf_4 M fu f) px0 x1 v6 v7))
    else (nm (x3 + (1 : Int32)) fun v8 =>
    ((f0_placesOf_4 M fu f) px0 x1 x2 v8))))
set_option maxHeartbeats 4000000 in
set_option maxRecDepth 10000 in
theorem w0_placesOfi_4 {ad : Nat → Nat} {X : XX} {R : Int32} {M : Mem} {fu : Nat}  (h : Cx layC ad X cX0_placesOf RX0 4 1 (some .int) M (some (.int R)))  : ∀ (f : Nat) (px0 : Nat) (x1 : Int32) (x2 : Int32) (x3 : Int32), f0_placesOf_4 M fu f px0 x1 x2 x3 = some R → Wp layC ad X M 4 [(0, .ref (ad px0)), (1, .int x1), (2, .int x2), (3, .int x3)] [] := by
  intro f
  induction f with
  | zero => intro px0 x1 x2 x3 hF; exact absurd hF (by simp [f0_placesOf_4])
  | succ f ih =>
    intro px0 x1 x2 x3 hF
    rw [f0_placesOf_4] at hF
    refine R_iload_n (pc := 4) h 3 rfl rfl dX0_placesOf_4 ?_
    refine R_aload_n (pc := 5) h 0 rfl rfl dX0_placesOf_5 ?_
    obtain ⟨_, hg1, hF⟩ := bd hF
    have hg1 := of_decide_eq_true (gd_s hg1)
    refine R_getI (pc := 6) h flX0_9 (lyCells hg1) rfl dX0_placesOf_6 ?_
    refine R_icmp_ge (pc := 9) (tgt := 40) h dX0_placesOf_9 (by decide) (fun c2 => ?_) (fun c2 => ?_)
    · have hF := itp c2 hF
      refine R_iload_n (pc := 40) h 2 rfl rfl dX0_placesOf_40 ?_
      cases hF
      exact R_ireturn (pc := 41) h rfl rfl rfl dX0_placesOf_41
    · have hF := ifn c2 hF
      refine R_iload_n (pc := 12) h 3 rfl rfl dX0_placesOf_12 ?_
      refine R_bipush (pc := 13) (v := 13) h (by decide) dX0_placesOf_13 ?_
      refine R_icmp_ge (pc := 15) (tgt := 40) h dX0_placesOf_15 (by decide) (fun c3 => ?_) (fun c3 => ?_)
      · have hF := itp c3 hF
        refine R_iload_n (pc := 40) h 2 rfl rfl dX0_placesOf_40 ?_
        cases hF
        exact R_ireturn (pc := 41) h rfl rfl rfl dX0_placesOf_41
      · have hF := ifn c3 hF
        refine R_aload_n (pc := 18) h 0 rfl rfl dX0_placesOf_18 ?_
        refine R_getR (pc := 19) (q1 := px0 + 10) h flX0_15 (lyCells hg1) rfl dX0_placesOf_19 ?_
        refine R_iload_n (pc := 22) h 3 rfl rfl dX0_placesOf_22 ?_
        obtain ⟨v4, hv4, hF⟩ := bd hF
        refine R_iald (pc := 23) h hv4 (lyCellsA hg1) dX0_placesOf_23 ?_
        refine R_iload_n (pc := 24) h 1 rfl rfl dX0_placesOf_24 ?_
        refine R_icmp_ne (pc := 25) (tgt := 34) h dX0_placesOf_25 (by decide) (fun c5 => ?_) (fun c5 => ?_)
        · have hF := ifn c5 hF
          obtain ⟨v8, hv8, hF⟩ := nm_e2 hF
          refine R_iinc (pc := 34) (lv' := [(3, .int v8), (0, .ref (ad px0)), (1, .int x1), (2, .int x2)]) h 3 rfl (by decide) hv8 (by decide) rfl dX0_placesOf_34 ?_
          refine R_goto (pc := 37) (tgt := 4) h dX0_placesOf_37 (by decide) ?_
          exact Wp_sub (nX := 0) (lv' := [(0, .ref (ad px0)), (1, .int x1), (2, .int x2), (3, .int v8)]) [1, 2, 3, 0] rfl (ih _ _ _ _ hF)
        · have hF := itp c5 hF
          refine R_iload_n (pc := 28) h 2 rfl rfl dX0_placesOf_28 ?_
          refine R_iconst (pc := 29) (v := 1) h (by decide) dX0_placesOf_29 ?_
          refine R_iload_n (pc := 30) h 3 rfl rfl dX0_placesOf_30 ?_
          refine R_ishl (pc := 31) h dX0_placesOf_31 ?_
          refine R_ior (pc := 32) h dX0_placesOf_32 ?_
          obtain ⟨v6, hv6, hF⟩ := nm_e2 hF
          refine R_istore_n (pc := 33) (lv' := [(2, .int v6), (0, .ref (ad px0)), (1, .int x1), (3, .int x3)]) h hv6 rfl (by decide) rfl dX0_placesOf_33 ?_
          obtain ⟨v7, hv7, hF⟩ := nm_e2 hF
          refine R_iinc (pc := 34) (lv' := [(3, .int v7), (2, .int v6), (0, .ref (ad px0)), (1, .int x1)]) h 3 rfl (by decide) hv7 (by decide) rfl dX0_placesOf_34 ?_
          refine R_goto (pc := 37) (tgt := 4) h dX0_placesOf_37 (by decide) ?_
          exact Wp_sub (nX := 0) (lv' := [(0, .ref (ad px0)), (1, .int x1), (2, .int v6), (3, .int v7)]) [2, 3, 1, 0] rfl (ih _ _ _ _ hF)
theorem w0_placesOf_4 {ad : Nat → Nat} {X : XX} {R : Int32} {M : Mem} {fu : Nat}  (h : Cx layC ad X cX0_placesOf RX0 4 1 (some .int) M (some (.int R)))  {f : Nat} {px0 : Nat} {x1 : Int32} {x2 : Int32} {x3 : Int32} (hF : f0_placesOf_4 M fu f px0 x1 x2 x3 = some R) : Wp layC ad X M 4 [(0, .ref (ad px0)), (1, .int x1), (2, .int x2), (3, .int x3)] [] := w0_placesOfi_4 h  f _ _ _ _ hF
def f0_placesOf (M : Mem) (fu : Nat) (p0 : Nat) (x1 : Int32) : Option (Int32) :=
    (f0_placesOf_4 M fu fu p0 x1 (0 : Int32) (0 : Int32))
set_option maxHeartbeats 4000000 in
set_option maxRecDepth 10000 in
theorem w0_placesOf {ad : Nat → Nat} {X : XX} {R : Int32} {M : Mem} {fu : Nat} (h : Cx layC ad X cX0_placesOf RX0 4 1 (some .int) M (some (.int R))) {p0 : Nat} {x1 : Int32} (hF : f0_placesOf M fu p0 x1 = some R) : Wp layC ad X M 0 [(0, .ref (ad p0)), (1, .int x1)] [] := by
  unfold f0_placesOf at hF
  refine R_iconst (pc := 0) (v := 0) h (by decide) dX0_placesOf_0 ?_
  refine R_istore_n (pc := 1) (lv' := [(2, .int (0 : Int32)), (0, .ref (ad p0)), (1, .int x1)]) h rfl rfl (by decide) rfl dX0_placesOf_1 ?_
  refine R_iconst (pc := 2) (v := 0) h (by decide) dX0_placesOf_2 ?_
  refine R_istore_n (pc := 3) (lv' := [(3, .int (0 : Int32)), (2, .int (0 : Int32)), (0, .ref (ad p0)), (1, .int x1)]) h rfl rfl (by decide) rfl dX0_placesOf_3 ?_
  exact Wp_sub (nX := 0) (lv' := [(0, .ref (ad p0)), (1, .int x1), (2, .int (0 : Int32)), (3, .int (0 : Int32))]) [2, 3, 1, 0] rfl (w0_placesOf_4 h  (hF := hF))
theorem c0_placesOf {ad : Nat → Nat} {z : ZZ} {R : Int32} {M : Mem} {fu : Nat} {p0 : Nat} {x1 : Int32} (hF : f0_placesOf M fu p0 x1 = some R) : Con layC ad z yX0_placesOf cX0_placesOf 4 (some .int) 1 M [.ref (ad p0), .int x1] (M) (some (.int R)) := con_of (own := RX0) (lv := [(0, .ref (ad p0)), (1, .int x1)]) (by decide +kernel) rfl (Nat.le_of_ble_eq_true rfl) rfl (fun X hz h => w0_placesOf h hF)
def f4_countWhose_17 (fu : Nat) : Nat → Int32 → Int32 → Int32 → Int32 → Int32 → Mem → Option (Mem × Int32)
  | 0 => fun _ _ _ _ _ _ => none
  | f + 1 => fun x1 x2 x4 x5 x6 M =>
    (f2_all M).bind fun r2 =>
    if r2 < x6 then (if x4 = 0 then ((some (M, (-9 : Int32))))
    else (nm (sI M 28 6 x5) fun M5 =>
    (some (M5, x4))))
    else (if (x6 &&& (M.1 33 4)) = 0 then ((f2_hoursOf M x6).bind fun r8 =>
    if (r8 &&& x2) = x1 then (if x4 = 0 then (nm (x4 + (1 : Int32)) fun v11 =>
    nm (x6 + (1 : Int32)) fun v12 =>
    ((f4_countWhose_17 fu f) x1 x2 v11 x6 v12 M))
    else (nm (x4 + (1 : Int32)) fun v13 =>
    nm (x6 + (1 : Int32)) fun v14 =>
    ((f4_countWhose_17 fu f) x1 x2 v13 x5 v14 M)))
    else (nm (x6 + (1 : Int32)) fun v15 =>
    ((f4_countWhose_17 fu f) x1 x2 x4 x5 v15 M)))
    else (nm (x6 + (1 : Int32)) fun v16 =>
    ((f4_countWhose_17 fu f) x1 x2 x4 x5 v16 M)))
set_option maxHeartbeats 4000000 in
set_option maxRecDepth 10000 in
theorem w4_countWhosei_17 {ad : Nat → Nat} {X : XX} {R : Mem × Int32} {fu : Nat}  (h : Cx layC ad X cX4_countWhose RX4 7 3 (some .int) (R.1) (some (.int R.2)))  : ∀ (f : Nat) (x1 : Int32) (x2 : Int32) (x4 : Int32) (x5 : Int32) (x6 : Int32) (M : Mem), f4_countWhose_17 fu f x1 x2 x4 x5 x6 M = some R → Wp layC ad X M 17 [(0, .ref (ad 28)), (1, .int x1), (2, .int x2), (3, .ref (ad 35)), (4, .int x4), (5, .int x5), (6, .int x6)] [] := by
  intro f
  induction f with
  | zero => intro x1 x2 x4 x5 x6 M hF; exact absurd hF (by simp [f4_countWhose_17])
  | succ f ih =>
    intro x1 x2 x4 x5 x6 M hF
    rw [f4_countWhose_17] at hF
    refine R_iload (pc := 17) h 6 rfl dX4_countWhose_17 ?_
    refine R_aload_n (pc := 19) h 3 rfl rfl dX4_countWhose_19 ?_
    obtain ⟨r2, hc1, hF⟩ := bd hF
    refine R_callV (pc := 20) (st := [.int x6]) h [] cvX4_196 (c2_all (ad := ad) (z := X.1) hc1) rfl rfl lc_35 (by decide) (by decide) (Nat.le_of_ble_eq_true rfl) dX4_countWhose_20 (st1 := [.int r2, .int x6]) rfl ?_
    refine R_icmp_gt (pc := 23) (tgt := 69) h dX4_countWhose_23 (by decide) (fun c3 => ?_) (fun c3 => ?_)
    · have hF := itp c3 hF
      refine R_iload (pc := 69) h 4 rfl dX4_countWhose_69 ?_
      refine R_if_ne (pc := 71) (tgt := 77) h dX4_countWhose_71 (by decide) (fun c4 => ?_) (fun c4 => ?_)
      · have hF := ifn c4 hF
        refine R_aload_n (pc := 77) h 0 rfl rfl dX4_countWhose_77 ?_
        refine R_iload (pc := 78) h 5 rfl dX4_countWhose_78 ?_
        obtain ⟨M5, hM5, hF⟩ := nm_e2 hF
        refine R_putI (pc := 80) h hM5 fpX4_39 lc_28 rfl dX4_countWhose_80 ?_
        refine R_iload (pc := 83) h 4 rfl dX4_countWhose_83 ?_
        cases hF
        exact R_ireturn (pc := 85) h rfl rfl rfl dX4_countWhose_85
      · have hF := itp c4 hF
        refine R_bipush (pc := 74) (v := (-9)) h (by decide) dX4_countWhose_74 ?_
        cases hF
        exact R_ireturn (pc := 76) h rfl rfl rfl dX4_countWhose_76
    · have hF := ifn c3 hF
      refine R_iload (pc := 26) h 6 rfl dX4_countWhose_26 ?_
      refine R_aload_n (pc := 28) h 0 rfl rfl dX4_countWhose_28 ?_
      refine R_getR (pc := 29) (q1 := 33) h flX4_27 lc_28 rfl dX4_countWhose_29 ?_
      refine R_getI (pc := 32) h flX4_199 lc_33 rfl dX4_countWhose_32 ?_
      refine R_iand (pc := 35) h dX4_countWhose_35 ?_
      refine R_if_ne (pc := 36) (tgt := 63) h dX4_countWhose_36 (by decide) (fun c6 => ?_) (fun c6 => ?_)
      · have hF := ifn c6 hF
        obtain ⟨v16, hv16, hF⟩ := nm_e2 hF
        refine R_iinc (pc := 63) (lv' := [(6, .int v16), (0, .ref (ad 28)), (1, .int x1), (2, .int x2), (3, .ref (ad 35)), (4, .int x4), (5, .int x5)]) h 6 rfl (by decide) hv16 (by decide) rfl dX4_countWhose_63 ?_
        refine R_goto (pc := 66) (tgt := 17) h dX4_countWhose_66 (by decide) ?_
        exact Wp_sub (nX := 0) (lv' := [(0, .ref (ad 28)), (1, .int x1), (2, .int x2), (3, .ref (ad 35)), (4, .int x4), (5, .int x5), (6, .int v16)]) [1, 2, 3, 4, 5, 6, 0] rfl (ih _ _ _ _ _ _ hF)
      · have hF := itp c6 hF
        refine R_aload_n (pc := 39) h 3 rfl rfl dX4_countWhose_39 ?_
        refine R_iload (pc := 40) h 6 rfl dX4_countWhose_40 ?_
        obtain ⟨r8, hc7, hF⟩ := bd hF
        refine R_callV (pc := 42) (st := []) h [.int x6] cvX4_227 (c2_hoursOf (ad := ad) (z := X.1) hc7) rfl rfl lc_35 (by decide) (by decide) (Nat.le_of_ble_eq_true rfl) dX4_countWhose_42 (st1 := [.int r8]) rfl ?_
        refine R_iload_n (pc := 45) h 2 rfl rfl dX4_countWhose_45 ?_
        refine R_iand (pc := 46) h dX4_countWhose_46 ?_
        refine R_iload_n (pc := 47) h 1 rfl rfl dX4_countWhose_47 ?_
        refine R_icmp_ne (pc := 48) (tgt := 63) h dX4_countWhose_48 (by decide) (fun c9 => ?_) (fun c9 => ?_)
        · have hF := ifn c9 hF
          obtain ⟨v15, hv15, hF⟩ := nm_e2 hF
          refine R_iinc (pc := 63) (lv' := [(6, .int v15), (0, .ref (ad 28)), (1, .int x1), (2, .int x2), (3, .ref (ad 35)), (4, .int x4), (5, .int x5)]) h 6 rfl (by decide) hv15 (by decide) rfl dX4_countWhose_63 ?_
          refine R_goto (pc := 66) (tgt := 17) h dX4_countWhose_66 (by decide) ?_
          exact Wp_sub (nX := 0) (lv' := [(0, .ref (ad 28)), (1, .int x1), (2, .int x2), (3, .ref (ad 35)), (4, .int x4), (5, .int x5), (6, .int v15)]) [1, 2, 3, 4, 5, 6, 0] rfl (ih _ _ _ _ _ _ hF)
        · have hF := itp c9 hF
          refine R_iload (pc := 51) h 4 rfl dX4_countWhose_51 ?_
          refine R_if_ne (pc := 53) (tgt := 60) h dX4_countWhose_53 (by decide) (fun c10 => ?_) (fun c10 => ?_)
          · have hF := ifn c10 hF
            obtain ⟨v13, hv13, hF⟩ := nm_e2 hF
            refine R_iinc (pc := 60) (lv' := [(4, .int v13), (0, .ref (ad 28)), (1, .int x1), (2, .int x2), (3, .ref (ad 35)), (5, .int x5), (6, .int x6)]) h 4 rfl (by decide) hv13 (by decide) rfl dX4_countWhose_60 ?_
            obtain ⟨v14, hv14, hF⟩ := nm_e2 hF
            refine R_iinc (pc := 63) (lv' := [(6, .int v14), (4, .int v13), (0, .ref (ad 28)), (1, .int x1), (2, .int x2), (3, .ref (ad 35)), (5, .int x5)]) h 6 rfl (by decide) hv14 (by decide) rfl dX4_countWhose_63 ?_
            refine R_goto (pc := 66) (tgt := 17) h dX4_countWhose_66 (by decide) ?_
            exact Wp_sub (nX := 0) (lv' := [(0, .ref (ad 28)), (1, .int x1), (2, .int x2), (3, .ref (ad 35)), (4, .int v13), (5, .int x5), (6, .int v14)]) [2, 3, 4, 5, 1, 6, 0] rfl (ih _ _ _ _ _ _ hF)
          · have hF := itp c10 hF
            refine R_iload (pc := 56) h 6 rfl dX4_countWhose_56 ?_
            refine R_istore (pc := 58) (lv' := [(5, .int x6), (0, .ref (ad 28)), (1, .int x1), (2, .int x2), (3, .ref (ad 35)), (4, .int x4), (6, .int x6)]) h rfl (by decide) rfl dX4_countWhose_58 ?_
            obtain ⟨v11, hv11, hF⟩ := nm_e2 hF
            refine R_iinc (pc := 60) (lv' := [(4, .int v11), (5, .int x6), (0, .ref (ad 28)), (1, .int x1), (2, .int x2), (3, .ref (ad 35)), (6, .int x6)]) h 5 rfl (by decide) hv11 (by decide) rfl dX4_countWhose_60 ?_
            obtain ⟨v12, hv12, hF⟩ := nm_e2 hF
            refine R_iinc (pc := 63) (lv' := [(6, .int v12), (4, .int v11), (5, .int x6), (0, .ref (ad 28)), (1, .int x1), (2, .int x2), (3, .ref (ad 35))]) h 6 rfl (by decide) hv12 (by decide) rfl dX4_countWhose_63 ?_
            refine R_goto (pc := 66) (tgt := 17) h dX4_countWhose_66 (by decide) ?_
            exact Wp_sub (nX := 0) (lv' := [(0, .ref (ad 28)), (1, .int x1), (2, .int x2), (3, .ref (ad 35)), (4, .int v11), (5, .int x6), (6, .int v12)]) [3, 4, 5, 6, 1, 2, 0] rfl (ih _ _ _ _ _ _ hF)
theorem w4_countWhose_17 {ad : Nat → Nat} {X : XX} {R : Mem × Int32} {fu : Nat}  (h : Cx layC ad X cX4_countWhose RX4 7 3 (some .int) (R.1) (some (.int R.2)))  {f : Nat} {x1 : Int32} {x2 : Int32} {x4 : Int32} {x5 : Int32} {x6 : Int32} {M : Mem} (hF : f4_countWhose_17 fu f x1 x2 x4 x5 x6 M = some R) : Wp layC ad X M 17 [(0, .ref (ad 28)), (1, .int x1), (2, .int x2), (3, .ref (ad 35)), (4, .int x4), (5, .int x5), (6, .int x6)] [] := w4_countWhosei_17 h  f _ _ _ _ _ _ hF
def f4_countWhose (fu : Nat) (x1 : Int32) (x2 : Int32) (M : Mem) : Option (Mem × Int32) :=
    (f4_countWhose_17 fu fu x1 x2 (0 : Int32) (0 : Int32) (0 : Int32) M)
set_option maxHeartbeats 4000000 in
set_option maxRecDepth 10000 in
theorem w4_countWhose {ad : Nat → Nat} {X : XX} {R : Mem × Int32} {fu : Nat} (h : Cx layC ad X cX4_countWhose RX4 7 3 (some .int) (R.1) (some (.int R.2))) {x1 : Int32} {x2 : Int32} {M : Mem} (hF : f4_countWhose fu x1 x2 M = some R) : Wp layC ad X M 0 [(0, .ref (ad 28)), (1, .int x1), (2, .int x2)] [] := by
  unfold f4_countWhose at hF
  refine R_aload_n (pc := 0) h 0 rfl rfl dX4_countWhose_0 ?_
  refine R_getR (pc := 1) (q1 := 33) h flX4_27 lc_28 rfl dX4_countWhose_1 ?_
  refine R_getR (pc := 4) (q1 := 35) h flX4_104 lc_33 rfl dX4_countWhose_4 ?_
  refine R_astore_n (pc := 7) (lv' := [(3, .ref (ad 35)), (0, .ref (ad 28)), (1, .int x1), (2, .int x2)]) h rfl rfl (by decide) rfl dX4_countWhose_7 ?_
  refine R_iconst (pc := 8) (v := 0) h (by decide) dX4_countWhose_8 ?_
  refine R_istore (pc := 9) (lv' := [(4, .int (0 : Int32)), (3, .ref (ad 35)), (0, .ref (ad 28)), (1, .int x1), (2, .int x2)]) h rfl (by decide) rfl dX4_countWhose_9 ?_
  refine R_iconst (pc := 11) (v := 0) h (by decide) dX4_countWhose_11 ?_
  refine R_istore (pc := 12) (lv' := [(5, .int (0 : Int32)), (4, .int (0 : Int32)), (3, .ref (ad 35)), (0, .ref (ad 28)), (1, .int x1), (2, .int x2)]) h rfl (by decide) rfl dX4_countWhose_12 ?_
  refine R_iconst (pc := 14) (v := 0) h (by decide) dX4_countWhose_14 ?_
  refine R_istore (pc := 15) (lv' := [(6, .int (0 : Int32)), (5, .int (0 : Int32)), (4, .int (0 : Int32)), (3, .ref (ad 35)), (0, .ref (ad 28)), (1, .int x1), (2, .int x2)]) h rfl (by decide) rfl dX4_countWhose_15 ?_
  exact Wp_sub (nX := 0) (lv' := [(0, .ref (ad 28)), (1, .int x1), (2, .int x2), (3, .ref (ad 35)), (4, .int (0 : Int32)), (5, .int (0 : Int32)), (6, .int (0 : Int32))]) [4, 5, 6, 3, 2, 1, 0] rfl (w4_countWhose_17 h  (hF := hF))
theorem c4_countWhose {ad : Nat → Nat} {z : ZZ} {R : Mem × Int32} {fu : Nat} {x1 : Int32} {x2 : Int32} {M : Mem} (hF : f4_countWhose fu x1 x2 M = some R) : Con layC ad z yX4_countWhose cX4_countWhose 7 (some .int) 3 M [.ref (ad 28), .int x1, .int x2] (R.1) (some (.int R.2)) := con_of (own := RX4) (lv := [(0, .ref (ad 28)), (1, .int x1), (2, .int x2)]) (by decide +kernel) rfl (Nat.le_of_ble_eq_true rfl) rfl (fun X hz h => w4_countWhose h hF)
def f4_whose (fu : Nat) (x1 : Int32) (M : Mem) : Option (Mem × Int32) :=
    (f4_rowAt x1).bind fun r2 =>
    oc r2 ((some (M, (-1 : Int32))))
    fun q3 => if (M.1 35 0) = 0 then ((some (M, (-4 : Int32))))
    else ((gd (decide (q3 < 10))).bind fun _ =>
    (f0_isMissing M q3).bind fun r7 =>
    if r7 = 0 then (if (M.1 q3 0) = (13 : Int32) then ((f0_placesOf M fu q3 (1 : Int32)).bind fun r11 =>
    (f0_placesOf M fu q3 (0 : Int32)).bind fun r13 =>
    nm (r11 ||| r13) fun v14 =>
    (f0_placesOf M fu q3 (-9 : Int32)).bind fun r16 =>
    if (v14 ||| r16) = (8191 : Int32) then ((f4_countWhose fu r11 v14 M).bind fun ⟨M19, r20⟩ =>
    (some (M19, r20)))
    else ((f4_find (3 : Int32) M).bind fun ⟨M22, r23⟩ =>
    (some (M22, r23))))
    else ((f4_find (5 : Int32) M).bind fun ⟨M25, r26⟩ =>
    (some (M25, r26))))
    else ((f4_find (1 : Int32) M).bind fun ⟨M28, r29⟩ =>
    (some (M28, r29))))
set_option maxHeartbeats 4000000 in
set_option maxRecDepth 10000 in
theorem w4_whose {ad : Nat → Nat} {X : XX} {R : Mem × Int32} {fu : Nat} (h : Cx layC ad X cX4_whose RX4 5 4 (some .int) (R.1) (some (.int R.2))) {x1 : Int32} {M : Mem} (hF : f4_whose fu x1 M = some R) : Wp layC ad X M 0 [(0, .ref (ad 28)), (1, .int x1)] [] := by
  unfold f4_whose at hF
  refine R_aload_n (pc := 0) h 0 rfl rfl dX4_whose_0 ?_
  refine R_iload_n (pc := 1) h 1 rfl rfl dX4_whose_1 ?_
  obtain ⟨r2, hc1, hF⟩ := bd hF
  rcases r2 with _ | q3
  · have hF := oc_n hF
    refine R_callV (pc := 2) (st := []) h [.int x1] cvX4_51 (c4_rowAt (ad := ad) (z := X.1) (M := M) hc1) rfl rfl lc_28 (by decide) (by decide) (Nat.le_of_ble_eq_true rfl) dX4_whose_2 (st1 := [.null]) rfl ?_
    refine R_astore_nN (pc := 5) (lv' := [(2, .null), (0, .ref (ad 28)), (1, .int x1)]) h rfl (by decide) rfl dX4_whose_5 ?_
    refine R_aload_nN (pc := 6) h 0 rfl rfl dX4_whose_6 ?_
    refine R_ifnonnullN (pc := 7) h dX4_whose_7 ?_
    refine R_iconst (pc := 10) (v := (-1)) h (by decide) dX4_whose_10 ?_
    cases hF
    exact R_ireturn (pc := 11) h rfl rfl rfl dX4_whose_11
  · have hF := oc_s hF
    refine R_callV (pc := 2) (st := []) h [.int x1] cvX4_51 (c4_rowAt (ad := ad) (z := X.1) (M := M) hc1) rfl rfl lc_28 (by decide) (by decide) (Nat.le_of_ble_eq_true rfl) dX4_whose_2 (st1 := [.ref (ad q3)]) rfl ?_
    refine R_astore_n (pc := 5) (lv' := [(2, .ref (ad q3)), (0, .ref (ad 28)), (1, .int x1)]) h rfl rfl (by decide) rfl dX4_whose_5 ?_
    refine R_aload_n (pc := 6) h 0 rfl rfl dX4_whose_6 ?_
    refine R_ifnonnull (pc := 7) (tgt := 12) h dX4_whose_7 (by decide) ?_
    refine R_aload_n (pc := 12) h 1 rfl rfl dX4_whose_12 ?_
    refine R_getR (pc := 13) (q1 := 33) h flX4_27 lc_28 rfl dX4_whose_13 ?_
    refine R_getR (pc := 16) (q1 := 35) h flX4_104 lc_33 rfl dX4_whose_16 ?_
    refine R_getI (pc := 19) h flX4_121 lc_35 rfl dX4_whose_19 ?_
    refine R_if_ne (pc := 22) (tgt := 28) h dX4_whose_22 (by decide) (fun c4 => ?_) (fun c4 => ?_)
    · have hF := ifn c4 hF
      refine R_aload_n (pc := 28) h 0 rfl rfl dX4_whose_28 ?_
      obtain ⟨_, hg5, hF⟩ := bd hF
      have hg5 := of_decide_eq_true (gd_s hg5)
      obtain ⟨r7, hc6, hF⟩ := bd hF
      refine R_callV (pc := 29) (st := []) h [] cvX4_81 (c0_isMissing (ad := ad) (z := X.1) hc6) rfl rfl (lyCells hg5) (by decide) (by decide) (Nat.le_of_ble_eq_true rfl) dX4_whose_29 (st1 := [.int r7]) rfl ?_
      refine R_if_eq (pc := 32) (tgt := 41) h dX4_whose_32 (by decide) (fun c8 => ?_) (fun c8 => ?_)
      · have hF := itp c8 hF
        refine R_aload_n (pc := 41) h 0 rfl rfl dX4_whose_41 ?_
        refine R_getI (pc := 42) h flX4_75 (lyCells hg5) rfl dX4_whose_42 ?_
        refine R_bipush (pc := 45) (v := 13) h (by decide) dX4_whose_45 ?_
        refine R_icmp_eq (pc := 47) (tgt := 56) h dX4_whose_47 (by decide) (fun c9 => ?_) (fun c9 => ?_)
        · have hF := itp c9 hF
          refine R_aload_n (pc := 56) h 0 rfl rfl dX4_whose_56 ?_
          refine R_iconst (pc := 57) (v := 1) h (by decide) dX4_whose_57 ?_
          obtain ⟨r11, hc10, hF⟩ := bd hF
          refine R_callV (pc := 58) (st := []) h [.int (1 : Int32)] cvX4_230 (c0_placesOf (ad := ad) (z := X.1) hc10) rfl rfl (lyCells hg5) (by decide) (by decide) (Nat.le_of_ble_eq_true rfl) dX4_whose_58 (st1 := [.int r11]) rfl ?_
          refine R_istore_n (pc := 61) (lv' := [(3, .int r11), (2, .ref (ad q3)), (0, .ref (ad 28)), (1, .int x1)]) h rfl rfl (by decide) rfl dX4_whose_61 ?_
          refine R_iload_n (pc := 62) h 0 rfl rfl dX4_whose_62 ?_
          refine R_aload_n (pc := 63) h 1 rfl rfl dX4_whose_63 ?_
          refine R_iconst (pc := 64) (v := 0) h (by decide) dX4_whose_64 ?_
          obtain ⟨r13, hc12, hF⟩ := bd hF
          refine R_callV (pc := 65) (st := [.int r11]) h [.int (0 : Int32)] cvX4_230 (c0_placesOf (ad := ad) (z := X.1) hc12) rfl rfl (lyCells hg5) (by decide) (by decide) (Nat.le_of_ble_eq_true rfl) dX4_whose_65 (st1 := [.int r13, .int r11]) rfl ?_
          refine R_ior (pc := 68) h dX4_whose_68 ?_
          obtain ⟨v14, hv14, hF⟩ := nm_e2 hF
          refine R_istore (pc := 69) (lv' := [(4, .int v14), (3, .int r11), (2, .ref (ad q3)), (0, .ref (ad 28)), (1, .int x1)]) h hv14 (by decide) rfl dX4_whose_69 ?_
          refine R_iload (pc := 71) h 0 rfl dX4_whose_71 ?_
          refine R_aload_n (pc := 73) h 2 rfl rfl dX4_whose_73 ?_
          refine R_bipush (pc := 74) (v := (-9)) h (by decide) dX4_whose_74 ?_
          obtain ⟨r16, hc15, hF⟩ := bd hF
          refine R_callV (pc := 76) (st := [.int v14]) h [.int (-9 : Int32)] cvX4_230 (c0_placesOf (ad := ad) (z := X.1) hc15) rfl rfl (lyCells hg5) (by decide) (by decide) (Nat.le_of_ble_eq_true rfl) dX4_whose_76 (st1 := [.int r16, .int v14]) rfl ?_
          refine R_ior (pc := 79) h dX4_whose_79 ?_
          refine R_sipush (pc := 80) (v := 8191) h (by decide) dX4_whose_80 ?_
          refine R_icmp_eq (pc := 83) (tgt := 92) h dX4_whose_83 (by decide) (fun c17 => ?_) (fun c17 => ?_)
          · have hF := itp c17 hF
            refine R_aload_n (pc := 92) h 3 rfl rfl dX4_whose_92 ?_
            refine R_iload_n (pc := 93) h 1 rfl rfl dX4_whose_93 ?_
            refine R_iload (pc := 94) h 0 rfl dX4_whose_94 ?_
            obtain ⟨⟨M19, r20⟩, hc18, hF⟩ := bd hF
            refine R_callV (pc := 96) (st := []) h [.int r11, .int v14] cvX4_233 (c4_countWhose (ad := ad) (z := X.1) hc18) rfl rfl lc_28 (by decide) (by decide) (Nat.le_of_ble_eq_true rfl) dX4_whose_96 (st1 := [.int r20]) rfl ?_
            cases hF
            exact R_ireturn (pc := 99) h rfl rfl rfl dX4_whose_99
          · have hF := ifn c17 hF
            refine R_aload_n (pc := 86) h 3 rfl rfl dX4_whose_86 ?_
            refine R_iconst (pc := 87) (v := 3) h (by decide) dX4_whose_87 ?_
            obtain ⟨⟨M22, r23⟩, hc21, hF⟩ := bd hF
            refine R_callV (pc := 88) (st := []) h [.int (3 : Int32)] cvX4_78 (c4_find (ad := ad) (z := X.1) hc21) rfl rfl lc_28 (by decide) (by decide) (Nat.le_of_ble_eq_true rfl) dX4_whose_88 (st1 := [.int r23]) rfl ?_
            cases hF
            exact R_ireturn (pc := 91) h rfl rfl rfl dX4_whose_91
        · have hF := ifn c9 hF
          refine R_aload_n (pc := 50) h 1 rfl rfl dX4_whose_50 ?_
          refine R_iconst (pc := 51) (v := 5) h (by decide) dX4_whose_51 ?_
          obtain ⟨⟨M25, r26⟩, hc24, hF⟩ := bd hF
          refine R_callV (pc := 52) (st := []) h [.int (5 : Int32)] cvX4_78 (c4_find (ad := ad) (z := X.1) hc24) rfl rfl lc_28 (by decide) (by decide) (Nat.le_of_ble_eq_true rfl) dX4_whose_52 (st1 := [.int r26]) rfl ?_
          cases hF
          exact R_ireturn (pc := 55) h rfl rfl rfl dX4_whose_55
      · have hF := ifn c8 hF
        refine R_aload_n (pc := 35) h 1 rfl rfl dX4_whose_35 ?_
        refine R_iconst (pc := 36) (v := 1) h (by decide) dX4_whose_36 ?_
        obtain ⟨⟨M28, r29⟩, hc27, hF⟩ := bd hF
        refine R_callV (pc := 37) (st := []) h [.int (1 : Int32)] cvX4_78 (c4_find (ad := ad) (z := X.1) hc27) rfl rfl lc_28 (by decide) (by decide) (Nat.le_of_ble_eq_true rfl) dX4_whose_37 (st1 := [.int r29]) rfl ?_
        cases hF
        exact R_ireturn (pc := 40) h rfl rfl rfl dX4_whose_40
    · have hF := itp c4 hF
      refine R_bipush (pc := 25) (v := (-4)) h (by decide) dX4_whose_25 ?_
      cases hF
      exact R_ireturn (pc := 27) h rfl rfl rfl dX4_whose_27
theorem c4_whose {ad : Nat → Nat} {z : ZZ} {R : Mem × Int32} {fu : Nat} {x1 : Int32} {M : Mem} (hF : f4_whose fu x1 M = some R) : Con layC ad z yX4_whose cX4_whose 5 (some .int) 4 M [.ref (ad 28), .int x1] (R.1) (some (.int R.2)) := con_of (own := RX4) (lv := [(0, .ref (ad 28)), (1, .int x1)]) (by decide +kernel) rfl (Nat.le_of_ble_eq_true rfl) rfl (fun X hz h => w4_whose h hF)
def f4_lay (x1 : Int32) (x2 : Int32) (x3 : Int32) (M : Mem) : Option (Mem × Int32) :=
    (f4_rowAt x1).bind fun r2 =>
    oc r2 ((f4_refusePlace_N x2 M).bind fun ⟨M5, r6⟩ =>
    (some (M5, r6)))
    fun q3 => (f4_refusePlace q3 x2 M).bind fun ⟨M8, r9⟩ =>
    if r9 = 0 then ((gd (decide (q3 < 10))).bind fun _ =>
    (f0_cellAt M8 q3 x2).bind fun r13 =>
    nm (sI M8 28 6 r13) fun M14 =>
    (f0_setCell q3 x2 x3 M14).bind fun M16 =>
    (some (M16, (1 : Int32))))
    else ((some (M8, r9)))
set_option maxHeartbeats 4000000 in
set_option maxRecDepth 10000 in
theorem w4_lay {ad : Nat → Nat} {X : XX} {R : Mem × Int32} (h : Cx layC ad X cX4_lay RX4 6 4 (some .int) (R.1) (some (.int R.2))) {x1 : Int32} {x2 : Int32} {x3 : Int32} {M : Mem} (hF : f4_lay x1 x2 x3 M = some R) : Wp layC ad X M 0 [(0, .ref (ad 28)), (1, .int x1), (2, .int x2), (3, .int x3)] [] := by
  unfold f4_lay at hF
  refine R_aload_n (pc := 0) h 0 rfl rfl dX4_lay_0 ?_
  refine R_iload_n (pc := 1) h 1 rfl rfl dX4_lay_1 ?_
  obtain ⟨r2, hc1, hF⟩ := bd hF
  rcases r2 with _ | q3
  · have hF := oc_n hF
    refine R_callV (pc := 2) (st := []) h [.int x1] cvX4_51 (c4_rowAt (ad := ad) (z := X.1) (M := M) hc1) rfl rfl lc_28 (by decide) (by decide) (Nat.le_of_ble_eq_true rfl) dX4_lay_2 (st1 := [.null]) rfl ?_
    refine R_astoreN (pc := 5) (lv' := [(4, .null), (0, .ref (ad 28)), (1, .int x1), (2, .int x2), (3, .int x3)]) h (by decide) rfl dX4_lay_5 ?_
    refine R_aload_n (pc := 7) h 1 rfl rfl dX4_lay_7 ?_
    refine R_aloadN (pc := 8) h 0 rfl dX4_lay_8 ?_
    refine R_iload_n (pc := 10) h 3 rfl rfl dX4_lay_10 ?_
    obtain ⟨⟨M5, r6⟩, hc4, hF⟩ := bd hF
    refine R_callV (pc := 11) (st := []) h [.null, .int x2] cvX4_59 (c4_refusePlace_N (ad := ad) (z := X.1) hc4) rfl rfl lc_28 (by decide) (by decide) (Nat.le_of_ble_eq_true rfl) dX4_lay_11 (st1 := [.int r6]) rfl ?_
    refine R_istore (pc := 14) (lv' := [(5, .int r6), (4, .null), (0, .ref (ad 28)), (1, .int x1), (2, .int x2), (3, .int x3)]) h rfl (by decide) rfl dX4_lay_14 ?_
    refine R_aloadN (pc := 16) h 1 rfl dX4_lay_16 ?_
    refine R_ifnullN (pc := 18) (tgt := 26) h dX4_lay_18 (by decide) ?_
    refine R_iload (pc := 26) h 0 rfl dX4_lay_26 ?_
    cases hF
    exact R_ireturn (pc := 28) h rfl rfl rfl dX4_lay_28
  · have hF := oc_s hF
    refine R_callV (pc := 2) (st := []) h [.int x1] cvX4_51 (c4_rowAt (ad := ad) (z := X.1) (M := M) hc1) rfl rfl lc_28 (by decide) (by decide) (Nat.le_of_ble_eq_true rfl) dX4_lay_2 (st1 := [.ref (ad q3)]) rfl ?_
    refine R_astore (pc := 5) (lv' := [(4, .ref (ad q3)), (0, .ref (ad 28)), (1, .int x1), (2, .int x2), (3, .int x3)]) h rfl (by decide) rfl dX4_lay_5 ?_
    refine R_aload_n (pc := 7) h 1 rfl rfl dX4_lay_7 ?_
    refine R_aload (pc := 8) h 0 rfl dX4_lay_8 ?_
    refine R_iload_n (pc := 10) h 3 rfl rfl dX4_lay_10 ?_
    obtain ⟨⟨M8, r9⟩, hc7, hF⟩ := bd hF
    refine R_callV (pc := 11) (st := []) h [.ref (ad q3), .int x2] cvX4_59 (c4_refusePlace (ad := ad) (z := X.1) hc7) rfl rfl lc_28 (by decide) (by decide) (Nat.le_of_ble_eq_true rfl) dX4_lay_11 (st1 := [.int r9]) rfl ?_
    refine R_istore (pc := 14) (lv' := [(5, .int r9), (4, .ref (ad q3)), (0, .ref (ad 28)), (1, .int x1), (2, .int x2), (3, .int x3)]) h rfl (by decide) rfl dX4_lay_14 ?_
    refine R_aload (pc := 16) h 1 rfl dX4_lay_16 ?_
    refine R_ifnull (pc := 18) h dX4_lay_18 ?_
    refine R_iload (pc := 21) h 0 rfl dX4_lay_21 ?_
    refine R_if_eq (pc := 23) (tgt := 29) h dX4_lay_23 (by decide) (fun c10 => ?_) (fun c10 => ?_)
    · have hF := itp c10 hF
      refine R_aload_n (pc := 29) h 2 rfl rfl dX4_lay_29 ?_
      refine R_aload (pc := 30) h 1 rfl dX4_lay_30 ?_
      refine R_iload_n (pc := 32) h 4 rfl rfl dX4_lay_32 ?_
      obtain ⟨_, hg11, hF⟩ := bd hF
      have hg11 := of_decide_eq_true (gd_s hg11)
      obtain ⟨r13, hc12, hF⟩ := bd hF
      refine R_callV (pc := 33) (st := [.ref (ad 28)]) h [.int x2] cvX4_63 (c0_cellAt (ad := ad) (z := X.1) hc12) rfl rfl (lyCells hg11) (by decide) (by decide) (Nat.le_of_ble_eq_true rfl) dX4_lay_33 (st1 := [.int r13, .ref (ad 28)]) rfl ?_
      obtain ⟨M14, hM14, hF⟩ := nm_e2 hF
      refine R_putI (pc := 36) h hM14 fpX4_39 lc_28 rfl dX4_lay_36 ?_
      refine R_aload (pc := 39) h 1 rfl dX4_lay_39 ?_
      refine R_iload_n (pc := 41) h 4 rfl rfl dX4_lay_41 ?_
      refine R_iload_n (pc := 42) h 5 rfl rfl dX4_lay_42 ?_
      obtain ⟨M16, hc15, hF⟩ := bd hF
      refine R_callV (pc := 43) (st := []) h [.int x2, .int x3] cvX4_67 (c0_setCell (ad := ad) (z := X.1) hc15) rfl rfl (lyCells hg11) (by decide) (by decide) (Nat.le_of_ble_eq_true rfl) dX4_lay_43 (st1 := []) rfl ?_
      refine R_iconst (pc := 46) (v := 1) h (by decide) dX4_lay_46 ?_
      cases hF
      exact R_ireturn (pc := 47) h rfl rfl rfl dX4_lay_47
    · have hF := ifn c10 hF
      refine R_iload (pc := 26) h 0 rfl dX4_lay_26 ?_
      cases hF
      exact R_ireturn (pc := 28) h rfl rfl rfl dX4_lay_28
theorem c4_lay {ad : Nat → Nat} {z : ZZ} {R : Mem × Int32} {x1 : Int32} {x2 : Int32} {x3 : Int32} {M : Mem} (hF : f4_lay x1 x2 x3 M = some R) : Con layC ad z yX4_lay cX4_lay 6 (some .int) 4 M [.ref (ad 28), .int x1, .int x2, .int x3] (R.1) (some (.int R.2)) := con_of (own := RX4) (lv := [(0, .ref (ad 28)), (1, .int x1), (2, .int x2), (3, .int x3)]) (by decide +kernel) rfl (Nat.le_of_ble_eq_true rfl) rfl (fun X hz h => w4_lay h hF)
def f4_gainByTurns_35_58 (M : Mem) (fu : Nat) (rc : Int32 → Int32 → Int32 → Int32 → Option Int32) (k23 : Int32 → Int32 → Int32 → Int32 → Int32 → Int32 → Option (Int32)) (x1 : Int32) (x2 : Int32) (x3 : Int32) (x4 : Int32) (x5 : Int32) (x6 : Int32) (s0 : Int32) : Option (Int32) :=
    if s0 = 0 then (nm (x6 + (1 : Int32)) fun v2 =>
    (k23 x1 x2 x3 x4 x5 v2))
    else ((rd M 41 8 x6).bind fun v3 =>
    (rc (x1 - (1 : Int32)) (x2 &&& (((1 : Int32) <<< (x6 &&& 31)) ^^^ (-1 : Int32))) x4 (x3 ||| v3)).bind fun r5 =>
    (rd M 42 8 x6).bind fun v6 =>
    nm (if x5 < (v6 - r5) then (v6 - r5) else x5) fun v7 =>
    nm (x6 + (1 : Int32)) fun v8 =>
    (k23 x1 x2 x3 x4 v7 v8))
set_option maxHeartbeats 4000000 in
set_option maxRecDepth 10000 in
theorem w4_gainByTurns_35_58 {ad : Nat → Nat} {X : XX} {R : Int32} {M : Mem} {fu : Nat} {rc : Int32 → Int32 → Int32 → Int32 → Option Int32} {lv0 lev : Nat} (hlv : lv0 + 1 ≤ lev) (hrc : ∀ (a0 a1 a2 a3 : Int32) (r : Int32), rc a0 a1 a2 a3 = some r → Con layC ad X.1 yX4_gainByTurns cX4_gainByTurns 9 (some .int) lv0 M [.ref (ad 35), .int a0, .int a1, .int a2, .int a3] M (some (.int r))) {k23 : Int32 → Int32 → Int32 → Int32 → Int32 → Int32 → Option (Int32)} (h : Cx layC ad X cX4_gainByTurns RX4 9 lev (some .int) M (some (.int R))) (hk23 : ∀ (x1 : Int32) (x2 : Int32) (x3 : Int32) (x4 : Int32) (x5 : Int32) (x6 : Int32), k23 x1 x2 x3 x4 x5 x6 = some R → Wp layC ad X M 23 [(0, .ref (ad 35)), (1, .int x1), (2, .int x2), (3, .int x3), (4, .int x4), (5, .int x5), (6, .int x6)] []) {x1 : Int32} {x2 : Int32} {x3 : Int32} {x4 : Int32} {x5 : Int32} {x6 : Int32} {s0 : Int32} (hF : f4_gainByTurns_35_58 M fu rc k23 x1 x2 x3 x4 x5 x6 s0 = some R) : Wp layC ad X M 58 [(0, .ref (ad 35)), (1, .int x1), (2, .int x2), (3, .int x3), (4, .int x4), (5, .int x5), (6, .int x6)] [.int s0] := by
  unfold f4_gainByTurns_35_58 at hF
  refine R_istore (pc := 58) (lv' := [(7, .int s0), (0, .ref (ad 35)), (1, .int x1), (2, .int x2), (3, .int x3), (4, .int x4), (5, .int x5), (6, .int x6)]) h rfl (by decide) rfl dX4_gainByTurns_58 ?_
  refine R_iload (pc := 60) h 0 rfl dX4_gainByTurns_60 ?_
  refine R_if_eq (pc := 62) (tgt := 110) h dX4_gainByTurns_62 (by decide) (fun c1 => ?_) (fun c1 => ?_)
  · have hF := itp c1 hF
    obtain ⟨v2, hv2, hF⟩ := nm_e2 hF
    refine R_iinc (pc := 110) (lv' := [(6, .int v2), (7, .int s0), (0, .ref (ad 35)), (1, .int x1), (2, .int x2), (3, .int x3), (4, .int x4), (5, .int x5)]) h 7 rfl (by decide) hv2 (by decide) rfl dX4_gainByTurns_110 ?_
    refine R_goto (pc := 113) (tgt := 23) h dX4_gainByTurns_113 (by decide) ?_
    exact Wp_sub (nX := 0) (lv' := [(0, .ref (ad 35)), (1, .int x1), (2, .int x2), (3, .int x3), (4, .int x4), (5, .int x5), (6, .int v2)]) [2, 3, 4, 5, 6, 7, 0] rfl (hk23 _ _ _ _ _ _ hF)
  · have hF := ifn c1 hF
    refine R_aload_n (pc := 65) h 1 rfl rfl dX4_gainByTurns_65 ?_
    refine R_iload_n (pc := 66) h 2 rfl rfl dX4_gainByTurns_66 ?_
    refine R_iconst (pc := 67) (v := 1) h (by decide) dX4_gainByTurns_67 ?_
    refine R_isub (pc := 68) h dX4_gainByTurns_68 ?_
    refine R_iload_n (pc := 69) h 3 rfl rfl dX4_gainByTurns_69 ?_
    refine R_iconst (pc := 70) (v := 1) h (by decide) dX4_gainByTurns_70 ?_
    refine R_iload (pc := 71) h 7 rfl dX4_gainByTurns_71 ?_
    refine R_ishl (pc := 73) h dX4_gainByTurns_73 ?_
    refine R_iconst (pc := 74) (v := (-1)) h (by decide) dX4_gainByTurns_74 ?_
    refine R_ixor (pc := 75) h dX4_gainByTurns_75 ?_
    refine R_iand (pc := 76) h dX4_gainByTurns_76 ?_
    refine R_iload (pc := 77) h 5 rfl dX4_gainByTurns_77 ?_
    refine R_iload_n (pc := 79) h 4 rfl rfl dX4_gainByTurns_79 ?_
    refine R_aload_n (pc := 80) h 1 rfl rfl dX4_gainByTurns_80 ?_
    refine R_getR (pc := 81) (q1 := 41) h flX4_184 lc_35 rfl dX4_gainByTurns_81 ?_
    refine R_iload (pc := 84) h 7 rfl dX4_gainByTurns_84 ?_
    obtain ⟨v3, hv3, hF⟩ := bd hF
    refine R_iald (pc := 86) h hv3 lc_41 dX4_gainByTurns_86 ?_
    refine R_ior (pc := 87) h dX4_gainByTurns_87 ?_
    obtain ⟨r5, hc4, hF⟩ := bd hF
    refine R_callS (pc := 88) (st := []) h [.ref (ad 35), .int (x1 - (1 : Int32)), .int (x2 &&& (((1 : Int32) <<< (x6 &&& 31)) ^^^ (-1 : Int32))), .int x4, .int (x3 ||| v3)] csX4_249 (hrc _ _ _ _ _ hc4) rfl rfl hlv (by decide) (Nat.le_of_ble_eq_true rfl) dX4_gainByTurns_88 (st1 := [.int r5]) rfl ?_
    refine R_istore (pc := 91) (lv' := [(8, .int r5), (7, .int s0), (0, .ref (ad 35)), (1, .int x1), (2, .int x2), (3, .int x3), (4, .int x4), (5, .int x5), (6, .int x6)]) h rfl (by decide) rfl dX4_gainByTurns_91 ?_
    refine R_iload (pc := 93) h 7 rfl dX4_gainByTurns_93 ?_
    refine R_aload_n (pc := 95) h 2 rfl rfl dX4_gainByTurns_95 ?_
    refine R_getR (pc := 96) (q1 := 42) h flX4_138 lc_35 rfl dX4_gainByTurns_96 ?_
    refine R_iload (pc := 99) h 8 rfl dX4_gainByTurns_99 ?_
    obtain ⟨v6, hv6, hF⟩ := bd hF
    refine R_iald (pc := 101) h hv6 lc_42 dX4_gainByTurns_101 ?_
    refine R_iload (pc := 102) h 0 rfl dX4_gainByTurns_102 ?_
    refine R_isub (pc := 104) h dX4_gainByTurns_104 ?_
    refine R_mmax (pc := 105) h mlX4_303 (by omega) (Nat.le_of_ble_eq_true rfl) dX4_gainByTurns_105 ?_
    obtain ⟨v7, hv7, hF⟩ := nm_e2 hF
    refine R_istore (pc := 108) (lv' := [(5, .int v7), (8, .int r5), (7, .int s0), (0, .ref (ad 35)), (1, .int x1), (2, .int x2), (3, .int x3), (4, .int x4), (6, .int x6)]) h hv7 (by decide) rfl dX4_gainByTurns_108 ?_
    obtain ⟨v8, hv8, hF⟩ := nm_e2 hF
    refine R_iinc (pc := 110) (lv' := [(6, .int v8), (5, .int v7), (8, .int r5), (7, .int s0), (0, .ref (ad 35)), (1, .int x1), (2, .int x2), (3, .int x3), (4, .int x4)]) h 8 rfl (by decide) hv8 (by decide) rfl dX4_gainByTurns_110 ?_
    refine R_goto (pc := 113) (tgt := 23) h dX4_gainByTurns_113 (by decide) ?_
    exact Wp_sub (nX := 0) (lv' := [(0, .ref (ad 35)), (1, .int x1), (2, .int x2), (3, .int x3), (4, .int x4), (5, .int v7), (6, .int v8)]) [4, 5, 6, 7, 8, 1, 0] rfl (hk23 _ _ _ _ _ _ hF)
def f4_gainByTurns_35_23 (M : Mem) (fu : Nat) (rc : Int32 → Int32 → Int32 → Int32 → Option Int32) : Nat → Int32 → Int32 → Int32 → Int32 → Int32 → Int32 → Option (Int32)
  | 0 => fun _ _ _ _ _ _ => none
  | f + 1 => fun x1 x2 x3 x4 x5 x6 =>
    if (M.1 35 0) ≤ x6 then ((some x5))
    else (if ((x2 >>> (x6 &&& 31)) &&& (1 : Int32)) = 0 then ((f4_gainByTurns_35_58 M fu rc (f4_gainByTurns_35_23 M fu rc f) x1 x2 x3 x4 x5 x6 (0 : Int32)))
    else ((rd M 41 8 x6).bind fun v3 =>
    if (v3 &&& x3) = 0 then ((f4_gainByTurns_35_58 M fu rc (f4_gainByTurns_35_23 M fu rc f) x1 x2 x3 x4 x5 x6 (1 : Int32)))
    else ((f4_gainByTurns_35_58 M fu rc (f4_gainByTurns_35_23 M fu rc f) x1 x2 x3 x4 x5 x6 (0 : Int32)))))
set_option maxHeartbeats 4000000 in
set_option maxRecDepth 10000 in
theorem w4_gainByTurns_35i_23 {ad : Nat → Nat} {X : XX} {R : Int32} {M : Mem} {fu : Nat} {rc : Int32 → Int32 → Int32 → Int32 → Option Int32} {lv0 lev : Nat} (hlv : lv0 + 1 ≤ lev) (hrc : ∀ (a0 a1 a2 a3 : Int32) (r : Int32), rc a0 a1 a2 a3 = some r → Con layC ad X.1 yX4_gainByTurns cX4_gainByTurns 9 (some .int) lv0 M [.ref (ad 35), .int a0, .int a1, .int a2, .int a3] M (some (.int r)))  (h : Cx layC ad X cX4_gainByTurns RX4 9 lev (some .int) M (some (.int R)))  : ∀ (f : Nat) (x1 : Int32) (x2 : Int32) (x3 : Int32) (x4 : Int32) (x5 : Int32) (x6 : Int32), f4_gainByTurns_35_23 M fu rc f x1 x2 x3 x4 x5 x6 = some R → Wp layC ad X M 23 [(0, .ref (ad 35)), (1, .int x1), (2, .int x2), (3, .int x3), (4, .int x4), (5, .int x5), (6, .int x6)] [] := by
  intro f
  induction f with
  | zero => intro x1 x2 x3 x4 x5 x6 hF; exact absurd hF (by simp [f4_gainByTurns_35_23])
  | succ f ih =>
    intro x1 x2 x3 x4 x5 x6 hF
    rw [f4_gainByTurns_35_23] at hF
    refine R_iload (pc := 23) h 6 rfl dX4_gainByTurns_23 ?_
    refine R_aload_n (pc := 25) h 0 rfl rfl dX4_gainByTurns_25 ?_
    refine R_getI (pc := 26) h flX4_121 lc_35 rfl dX4_gainByTurns_26 ?_
    refine R_icmp_ge (pc := 29) (tgt := 116) h dX4_gainByTurns_29 (by decide) (fun c1 => ?_) (fun c1 => ?_)
    · have hF := itp c1 hF
      refine R_iload (pc := 116) h 5 rfl dX4_gainByTurns_116 ?_
      cases hF
      exact R_ireturn (pc := 118) h rfl rfl rfl dX4_gainByTurns_118
    · have hF := ifn c1 hF
      refine R_iload_n (pc := 32) h 2 rfl rfl dX4_gainByTurns_32 ?_
      refine R_iload (pc := 33) h 6 rfl dX4_gainByTurns_33 ?_
      refine R_ishr (pc := 35) h dX4_gainByTurns_35 ?_
      refine R_iconst (pc := 36) (v := 1) h (by decide) dX4_gainByTurns_36 ?_
      refine R_iand (pc := 37) h dX4_gainByTurns_37 ?_
      refine R_if_eq (pc := 38) (tgt := 57) h dX4_gainByTurns_38 (by decide) (fun c2 => ?_) (fun c2 => ?_)
      · have hF := itp c2 hF
        refine R_iconst (pc := 57) (v := 0) h (by decide) dX4_gainByTurns_57 ?_
        exact Wp_sub (nX := 0) (lv' := [(0, .ref (ad 35)), (1, .int x1), (2, .int x2), (3, .int x3), (4, .int x4), (5, .int x5), (6, .int x6)]) [0, 1, 2, 3, 4, 5, 6] rfl (w4_gainByTurns_35_58 h (hrc := hrc) (hlv := hlv) (hk23 := fun a0 a1 a2 a3 a4 a5 hF => ih a0 a1 a2 a3 a4 a5 hF) (hF := hF))
      · have hF := ifn c2 hF
        refine R_aload_n (pc := 41) h 0 rfl rfl dX4_gainByTurns_41 ?_
        refine R_getR (pc := 42) (q1 := 41) h flX4_184 lc_35 rfl dX4_gainByTurns_42 ?_
        refine R_iload (pc := 45) h 6 rfl dX4_gainByTurns_45 ?_
        obtain ⟨v3, hv3, hF⟩ := bd hF
        refine R_iald (pc := 47) h hv3 lc_41 dX4_gainByTurns_47 ?_
        refine R_iload_n (pc := 48) h 3 rfl rfl dX4_gainByTurns_48 ?_
        refine R_iand (pc := 49) h dX4_gainByTurns_49 ?_
        refine R_if_ne (pc := 50) (tgt := 57) h dX4_gainByTurns_50 (by decide) (fun c4 => ?_) (fun c4 => ?_)
        · have hF := ifn c4 hF
          refine R_iconst (pc := 57) (v := 0) h (by decide) dX4_gainByTurns_57 ?_
          exact Wp_sub (nX := 0) (lv' := [(0, .ref (ad 35)), (1, .int x1), (2, .int x2), (3, .int x3), (4, .int x4), (5, .int x5), (6, .int x6)]) [0, 1, 2, 3, 4, 5, 6] rfl (w4_gainByTurns_35_58 h (hrc := hrc) (hlv := hlv) (hk23 := fun a0 a1 a2 a3 a4 a5 hF => ih a0 a1 a2 a3 a4 a5 hF) (hF := hF))
        · have hF := itp c4 hF
          refine R_iconst (pc := 53) (v := 1) h (by decide) dX4_gainByTurns_53 ?_
          refine R_goto (pc := 54) (tgt := 58) h dX4_gainByTurns_54 (by decide) ?_
          exact Wp_sub (nX := 0) (lv' := [(0, .ref (ad 35)), (1, .int x1), (2, .int x2), (3, .int x3), (4, .int x4), (5, .int x5), (6, .int x6)]) [0, 1, 2, 3, 4, 5, 6] rfl (w4_gainByTurns_35_58 h (hrc := hrc) (hlv := hlv) (hk23 := fun a0 a1 a2 a3 a4 a5 hF => ih a0 a1 a2 a3 a4 a5 hF) (hF := hF))
theorem w4_gainByTurns_35_23 {ad : Nat → Nat} {X : XX} {R : Int32} {M : Mem} {fu : Nat} {rc : Int32 → Int32 → Int32 → Int32 → Option Int32} {lv0 lev : Nat} (hlv : lv0 + 1 ≤ lev) (hrc : ∀ (a0 a1 a2 a3 : Int32) (r : Int32), rc a0 a1 a2 a3 = some r → Con layC ad X.1 yX4_gainByTurns cX4_gainByTurns 9 (some .int) lv0 M [.ref (ad 35), .int a0, .int a1, .int a2, .int a3] M (some (.int r)))  (h : Cx layC ad X cX4_gainByTurns RX4 9 lev (some .int) M (some (.int R)))  {f : Nat} {x1 : Int32} {x2 : Int32} {x3 : Int32} {x4 : Int32} {x5 : Int32} {x6 : Int32} (hF : f4_gainByTurns_35_23 M fu rc f x1 x2 x3 x4 x5 x6 = some R) : Wp layC ad X M 23 [(0, .ref (ad 35)), (1, .int x1), (2, .int x2), (3, .int x3), (4, .int x4), (5, .int x5), (6, .int x6)] [] := w4_gainByTurns_35i_23 hlv hrc h  f _ _ _ _ _ _ hF
def f4_gainByTurns_35_e (M : Mem) (fu : Nat) (rc : Int32 → Int32 → Int32 → Int32 → Option Int32) (x1 : Int32) (x2 : Int32) (x3 : Int32) (x4 : Int32) : Option (Int32) :=
    if 0 < x1 then ((rc (x1 - (1 : Int32)) x2 x4 x3).bind fun r3 =>
    nm (-r3) fun v4 =>
    (f4_gainByTurns_35_23 M fu rc fu x1 x2 x3 x4 v4 (0 : Int32)))
    else ((some (0 : Int32)))
set_option maxHeartbeats 4000000 in
set_option maxRecDepth 10000 in
theorem w4_gainByTurns_35 {ad : Nat → Nat} {X : XX} {R : Int32} {M : Mem} {fu : Nat} {rc : Int32 → Int32 → Int32 → Int32 → Option Int32} {lv0 lev : Nat} (hlv : lv0 + 1 ≤ lev) (hrc : ∀ (a0 a1 a2 a3 : Int32) (r : Int32), rc a0 a1 a2 a3 = some r → Con layC ad X.1 yX4_gainByTurns cX4_gainByTurns 9 (some .int) lv0 M [.ref (ad 35), .int a0, .int a1, .int a2, .int a3] M (some (.int r))) (h : Cx layC ad X cX4_gainByTurns RX4 9 lev (some .int) M (some (.int R))) {x1 : Int32} {x2 : Int32} {x3 : Int32} {x4 : Int32} (hF : f4_gainByTurns_35_e M fu rc x1 x2 x3 x4 = some R) : Wp layC ad X M 0 [(0, .ref (ad 35)), (1, .int x1), (2, .int x2), (3, .int x3), (4, .int x4)] [] := by
  unfold f4_gainByTurns_35_e at hF
  refine R_iload_n (pc := 0) h 1 rfl rfl dX4_gainByTurns_0 ?_
  refine R_if_gt (pc := 1) (tgt := 6) h dX4_gainByTurns_1 (by decide) (fun c1 => ?_) (fun c1 => ?_)
  · have hF := itp c1 hF
    refine R_aload_n (pc := 6) h 0 rfl rfl dX4_gainByTurns_6 ?_
    refine R_iload_n (pc := 7) h 1 rfl rfl dX4_gainByTurns_7 ?_
    refine R_iconst (pc := 8) (v := 1) h (by decide) dX4_gainByTurns_8 ?_
    refine R_isub (pc := 9) h dX4_gainByTurns_9 ?_
    refine R_iload_n (pc := 10) h 2 rfl rfl dX4_gainByTurns_10 ?_
    refine R_iload (pc := 11) h 4 rfl dX4_gainByTurns_11 ?_
    refine R_iload_n (pc := 13) h 3 rfl rfl dX4_gainByTurns_13 ?_
    obtain ⟨r3, hc2, hF⟩ := bd hF
    refine R_callS (pc := 14) (st := []) h [.ref (ad 35), .int (x1 - (1 : Int32)), .int x2, .int x4, .int x3] csX4_249 (hrc _ _ _ _ _ hc2) rfl rfl hlv (by decide) (Nat.le_of_ble_eq_true rfl) dX4_gainByTurns_14 (st1 := [.int r3]) rfl ?_
    refine R_ineg (pc := 17) h dX4_gainByTurns_17 ?_
    obtain ⟨v4, hv4, hF⟩ := nm_e2 hF
    refine R_istore (pc := 18) (lv' := [(5, .int v4), (0, .ref (ad 35)), (1, .int x1), (2, .int x2), (3, .int x3), (4, .int x4)]) h hv4 (by decide) rfl dX4_gainByTurns_18 ?_
    refine R_iconst (pc := 20) (v := 0) h (by decide) dX4_gainByTurns_20 ?_
    refine R_istore (pc := 21) (lv' := [(6, .int (0 : Int32)), (5, .int v4), (0, .ref (ad 35)), (1, .int x1), (2, .int x2), (3, .int x3), (4, .int x4)]) h rfl (by decide) rfl dX4_gainByTurns_21 ?_
    exact Wp_sub (nX := 0) (lv' := [(0, .ref (ad 35)), (1, .int x1), (2, .int x2), (3, .int x3), (4, .int x4), (5, .int v4), (6, .int (0 : Int32))]) [2, 3, 4, 5, 6, 1, 0] rfl (w4_gainByTurns_35_23 h (hrc := hrc) (hlv := hlv)  (hF := hF))
  · have hF := ifn c1 hF
    refine R_iconst (pc := 4) (v := 0) h (by decide) dX4_gainByTurns_4 ?_
    cases hF
    exact R_ireturn (pc := 5) h rfl rfl rfl dX4_gainByTurns_5
def f4_gainByTurns_35 (M : Mem) (fu : Nat) : Nat → Int32 → Int32 → Int32 → Int32 → Option (Int32)
  | 0 => fun _ _ _ _ => none
  | d + 1 => fun x1 x2 x3 x4 => f4_gainByTurns_35_e M fu (f4_gainByTurns_35 M fu d) x1 x2 x3 x4
theorem c4_gainByTurns_35 {ad : Nat → Nat} {z : ZZ} {M : Mem} {fu : Nat} : ∀ (d : Nat) (x1 : Int32) (x2 : Int32) (x3 : Int32) (x4 : Int32) (R : Int32), f4_gainByTurns_35 M fu d x1 x2 x3 x4 = some R → Con layC ad z yX4_gainByTurns cX4_gainByTurns 9 (some .int) (1 + d) M [.ref (ad 35), .int x1, .int x2, .int x3, .int x4] M (some (.int R)) := by
  intro d
  induction d with
  | zero => intro x1 x2 x3 x4 R hF; exact absurd hF (by simp [f4_gainByTurns_35])
  | succ d ih =>
    intro x1 x2 x3 x4 R hF
    rw [f4_gainByTurns_35] at hF
    exact con_of (own := RX4) (lv := [(0, .ref (ad 35)), (1, .int x1), (2, .int x2), (3, .int x3), (4, .int x4)]) (by decide +kernel) rfl (Nat.le_of_ble_eq_true rfl) rfl (fun X hz h => w4_gainByTurns_35 (lv0 := 1 + d) (Nat.le_refl _) (fun x1 x2 x3 x4 r hr => by rw [hz]; exact ih x1 x2 x3 x4 r hr) h hF)
def f4_gainByTurns_35D (M : Mem) (fu : Nat) (x1 : Int32) (x2 : Int32) (x3 : Int32) (x4 : Int32) : Option Int32 := f4_gainByTurns_35 M fu 6 x1 x2 x3 x4
theorem c4_gainByTurns_35D {ad : Nat → Nat} {z : ZZ} {M : Mem} {fu : Nat} {R : Int32} {x1 : Int32} {x2 : Int32} {x3 : Int32} {x4 : Int32} (hF : f4_gainByTurns_35D M fu x1 x2 x3 x4 = some R) : Con layC ad z yX4_gainByTurns cX4_gainByTurns 9 (some .int) 7 M [.ref (ad 35), .int x1, .int x2, .int x3, .int x4] M (some (.int R)) := c4_gainByTurns_35 6 x1 x2 x3 x4 R hF
def f4_duel (M : Mem) (fu : Nat) (x1 : Int32) : Option (Int32) :=
    if x1 < 0 then ((some (-1 : Int32)))
    else (if x1 ≤ (4 : Int32) then (if (M.1 35 0) = 0 then ((some (-4 : Int32)))
    else ((f3_lying M).bind fun r5 =>
    (f4_gainByTurns_35D M fu x1 r5 (0 : Int32) (0 : Int32)).bind fun r7 =>
    (some ((500 : Int32) + r7))))
    else ((some (-1 : Int32))))
set_option maxHeartbeats 4000000 in
set_option maxRecDepth 10000 in
theorem w4_duel {ad : Nat → Nat} {X : XX} {R : Int32} {M : Mem} {fu : Nat} (h : Cx layC ad X cX4_duel RX4 2 8 (some .int) M (some (.int R))) {x1 : Int32} (hF : f4_duel M fu x1 = some R) : Wp layC ad X M 0 [(0, .ref (ad 28)), (1, .int x1)] [] := by
  unfold f4_duel at hF
  refine R_iload_n (pc := 0) h 1 rfl rfl dX4_duel_0 ?_
  refine R_if_lt (pc := 1) (tgt := 9) h dX4_duel_1 (by decide) (fun c1 => ?_) (fun c1 => ?_)
  · have hF := itp c1 hF
    refine R_iconst (pc := 9) (v := (-1)) h (by decide) dX4_duel_9 ?_
    cases hF
    exact R_ireturn (pc := 10) h rfl rfl rfl dX4_duel_10
  · have hF := ifn c1 hF
    refine R_iload_n (pc := 4) h 1 rfl rfl dX4_duel_4 ?_
    refine R_iconst (pc := 5) (v := 4) h (by decide) dX4_duel_5 ?_
    refine R_icmp_le (pc := 6) (tgt := 11) h dX4_duel_6 (by decide) (fun c2 => ?_) (fun c2 => ?_)
    · have hF := itp c2 hF
      refine R_aload_n (pc := 11) h 0 rfl rfl dX4_duel_11 ?_
      refine R_getR (pc := 12) (q1 := 33) h flX4_27 lc_28 rfl dX4_duel_12 ?_
      refine R_getR (pc := 15) (q1 := 35) h flX4_104 lc_33 rfl dX4_duel_15 ?_
      refine R_getI (pc := 18) h flX4_121 lc_35 rfl dX4_duel_18 ?_
      refine R_if_ne (pc := 21) (tgt := 27) h dX4_duel_21 (by decide) (fun c3 => ?_) (fun c3 => ?_)
      · have hF := ifn c3 hF
        refine R_sipush (pc := 27) (v := 500) h (by decide) dX4_duel_27 ?_
        refine R_aload_n (pc := 30) h 0 rfl rfl dX4_duel_30 ?_
        refine R_getR (pc := 31) (q1 := 33) h flX4_27 lc_28 rfl dX4_duel_31 ?_
        refine R_getR (pc := 34) (q1 := 35) h flX4_104 lc_33 rfl dX4_duel_34 ?_
        refine R_iload_n (pc := 37) h 1 rfl rfl dX4_duel_37 ?_
        refine R_aload_n (pc := 38) h 0 rfl rfl dX4_duel_38 ?_
        refine R_getR (pc := 39) (q1 := 33) h flX4_27 lc_28 rfl dX4_duel_39 ?_
        obtain ⟨r5, hc4, hF⟩ := bd hF
        refine R_callV (pc := 42) (st := [.int x1, .ref (ad 35), .int (500 : Int32)]) h [] cvX4_212 (c3_lying (ad := ad) (z := X.1) hc4) rfl rfl lc_33 (by decide) (by decide) (Nat.le_of_ble_eq_true rfl) dX4_duel_42 (st1 := [.int r5, .int x1, .ref (ad 35), .int (500 : Int32)]) rfl ?_
        refine R_iconst (pc := 45) (v := 0) h (by decide) dX4_duel_45 ?_
        refine R_iconst (pc := 46) (v := 0) h (by decide) dX4_duel_46 ?_
        obtain ⟨r7, hc6, hF⟩ := bd hF
        refine R_callS (pc := 47) (st := [.int (500 : Int32)]) h [.ref (ad 35), .int x1, .int r5, .int (0 : Int32), .int (0 : Int32)] csX4_249 (c4_gainByTurns_35D (ad := ad) (z := X.1) hc6) rfl rfl (by decide) (by decide) (Nat.le_of_ble_eq_true rfl) dX4_duel_47 (st1 := [.int r7, .int (500 : Int32)]) rfl ?_
        refine R_iadd (pc := 50) h dX4_duel_50 ?_
        cases hF
        exact R_ireturn (pc := 51) h rfl rfl rfl dX4_duel_51
      · have hF := itp c3 hF
        refine R_bipush (pc := 24) (v := (-4)) h (by decide) dX4_duel_24 ?_
        cases hF
        exact R_ireturn (pc := 26) h rfl rfl rfl dX4_duel_26
    · have hF := ifn c2 hF
      refine R_iconst (pc := 9) (v := (-1)) h (by decide) dX4_duel_9 ?_
      cases hF
      exact R_ireturn (pc := 10) h rfl rfl rfl dX4_duel_10
theorem c4_duel {ad : Nat → Nat} {z : ZZ} {R : Int32} {M : Mem} {fu : Nat} {x1 : Int32} (hF : f4_duel M fu x1 = some R) : Con layC ad z yX4_duel cX4_duel 2 (some .int) 8 M [.ref (ad 28), .int x1] (M) (some (.int R)) := con_of (own := RX4) (lv := [(0, .ref (ad 28)), (1, .int x1)]) (by decide +kernel) rfl (Nat.le_of_ble_eq_true rfl) rfl (fun X hz h => w4_duel h hF)
def f4_isLuck (x0 : Int32) : Option (Int32) :=
    if x0 < 0 then ((some (0 : Int32)))
    else (if (10 : Int32) ≤ x0 then ((some (0 : Int32)))
    else ((some (1 : Int32))))
set_option maxHeartbeats 4000000 in
set_option maxRecDepth 10000 in
theorem w4_isLuck {ad : Nat → Nat} {X : XX} {R : Int32} {M : Mem} (h : Cx layC ad X cX4_isLuck RX4 1 1 (some .boolean) M (some (.int R))) {x0 : Int32} (hF : f4_isLuck x0 = some R) : Wp layC ad X M 0 [(0, .int x0)] [] := by
  unfold f4_isLuck at hF
  refine R_iload_n (pc := 0) h 0 rfl rfl dX4_isLuck_0 ?_
  refine R_if_lt (pc := 1) (tgt := 14) h dX4_isLuck_1 (by decide) (fun c1 => ?_) (fun c1 => ?_)
  · have hF := itp c1 hF
    refine R_iconst (pc := 14) (v := 0) h (by decide) dX4_isLuck_14 ?_
    cases hF
    exact R_zreturn (pc := 15) h rfl zr0 rfl rfl dX4_isLuck_15
  · have hF := ifn c1 hF
    refine R_iload_n (pc := 4) h 0 rfl rfl dX4_isLuck_4 ?_
    refine R_bipush (pc := 5) (v := 10) h (by decide) dX4_isLuck_5 ?_
    refine R_icmp_ge (pc := 7) (tgt := 14) h dX4_isLuck_7 (by decide) (fun c2 => ?_) (fun c2 => ?_)
    · have hF := itp c2 hF
      refine R_iconst (pc := 14) (v := 0) h (by decide) dX4_isLuck_14 ?_
      cases hF
      exact R_zreturn (pc := 15) h rfl zr0 rfl rfl dX4_isLuck_15
    · have hF := ifn c2 hF
      refine R_iconst (pc := 10) (v := 1) h (by decide) dX4_isLuck_10 ?_
      refine R_goto (pc := 11) (tgt := 15) h dX4_isLuck_11 (by decide) ?_
      cases hF
      exact R_zreturn (pc := 15) h rfl zr1 rfl rfl dX4_isLuck_15
theorem c4_isLuck {ad : Nat → Nat} {z : ZZ} {R : Int32} {M : Mem} {x0 : Int32} (hF : f4_isLuck x0 = some R) : Con layC ad z yX4_isLuck cX4_isLuck 1 (some .boolean) 1 M [.int x0] (M) (some (.int R)) := con_of (own := RX4) (lv := [(0, .int x0)]) (by decide +kernel) rfl (Nat.le_of_ble_eq_true rfl) rfl (fun X hz h => w4_isLuck h hF)
def f4_worth (x1 : Int32) (x2 : Int32) (M : Mem) : Option (Mem × Int32) :=
    (f2_has M x1).bind fun r2 =>
    if r2 = 0 then ((some (M, (-1 : Int32))))
    else ((f4_isLuck x2).bind fun r5 =>
    if r5 = 0 then ((some (M, (-1 : Int32))))
    else ((rd M 36 8 x1).bind fun v7 =>
    (f2_valueAs M x1 v7 x2).bind fun r9 =>
    nm (sI M 28 6 r9) fun M10 =>
    (some (M10, (1 : Int32)))))
set_option maxHeartbeats 4000000 in
set_option maxRecDepth 10000 in
theorem w4_worth {ad : Nat → Nat} {X : XX} {R : Mem × Int32} (h : Cx layC ad X cX4_worth RX4 4 3 (some .int) (R.1) (some (.int R.2))) {x1 : Int32} {x2 : Int32} {M : Mem} (hF : f4_worth x1 x2 M = some R) : Wp layC ad X M 0 [(0, .ref (ad 28)), (1, .int x1), (2, .int x2)] [] := by
  unfold f4_worth at hF
  refine R_aload_n (pc := 0) h 0 rfl rfl dX4_worth_0 ?_
  refine R_getR (pc := 1) (q1 := 33) h flX4_27 lc_28 rfl dX4_worth_1 ?_
  refine R_getR (pc := 4) (q1 := 35) h flX4_104 lc_33 rfl dX4_worth_4 ?_
  refine R_astore_n (pc := 7) (lv' := [(3, .ref (ad 35)), (0, .ref (ad 28)), (1, .int x1), (2, .int x2)]) h rfl rfl (by decide) rfl dX4_worth_7 ?_
  refine R_aload_n (pc := 8) h 0 rfl rfl dX4_worth_8 ?_
  refine R_iload_n (pc := 9) h 2 rfl rfl dX4_worth_9 ?_
  obtain ⟨r2, hc1, hF⟩ := bd hF
  refine R_callV (pc := 10) (st := []) h [.int x1] cvX4_124 (c2_has (ad := ad) (z := X.1) hc1) rfl rfl lc_35 (by decide) (by decide) (Nat.le_of_ble_eq_true rfl) dX4_worth_10 (st1 := [.int r2]) rfl ?_
  refine R_if_eq (pc := 13) (tgt := 23) h dX4_worth_13 (by decide) (fun c3 => ?_) (fun c3 => ?_)
  · have hF := itp c3 hF
    refine R_iconst (pc := 23) (v := (-1)) h (by decide) dX4_worth_23 ?_
    cases hF
    exact R_ireturn (pc := 24) h rfl rfl rfl dX4_worth_24
  · have hF := ifn c3 hF
    refine R_iload_n (pc := 16) h 3 rfl rfl dX4_worth_16 ?_
    obtain ⟨r5, hc4, hF⟩ := bd hF
    refine R_callS (pc := 17) (st := []) h [.int x2] csX4_148 (c4_isLuck (ad := ad) (z := X.1) (M := M) hc4) rfl rfl (by decide) (by decide) (Nat.le_of_ble_eq_true rfl) dX4_worth_17 (st1 := [.int r5]) rfl ?_
    refine R_if_ne (pc := 20) (tgt := 25) h dX4_worth_20 (by decide) (fun c6 => ?_) (fun c6 => ?_)
    · have hF := ifn c6 hF
      refine R_aload_n (pc := 25) h 1 rfl rfl dX4_worth_25 ?_
      refine R_aload_n (pc := 26) h 0 rfl rfl dX4_worth_26 ?_
      refine R_iload_n (pc := 27) h 2 rfl rfl dX4_worth_27 ?_
      refine R_aload_n (pc := 28) h 0 rfl rfl dX4_worth_28 ?_
      refine R_getR (pc := 29) (q1 := 36) h flX4_132 lc_35 rfl dX4_worth_29 ?_
      refine R_iload_n (pc := 32) h 2 rfl rfl dX4_worth_32 ?_
      obtain ⟨v7, hv7, hF⟩ := bd hF
      refine R_iald (pc := 33) h hv7 lc_36 dX4_worth_33 ?_
      refine R_iload_n (pc := 34) h 3 rfl rfl dX4_worth_34 ?_
      obtain ⟨r9, hc8, hF⟩ := bd hF
      refine R_callV (pc := 35) (st := [.ref (ad 28)]) h [.int x1, .int v7, .int x2] cvX4_144 (c2_valueAs (ad := ad) (z := X.1) hc8) rfl rfl lc_35 (by decide) (by decide) (Nat.le_of_ble_eq_true rfl) dX4_worth_35 (st1 := [.int r9, .ref (ad 28)]) rfl ?_
      obtain ⟨M10, hM10, hF⟩ := nm_e2 hF
      refine R_putI (pc := 38) h hM10 fpX4_39 lc_28 rfl dX4_worth_38 ?_
      refine R_iconst (pc := 41) (v := 1) h (by decide) dX4_worth_41 ?_
      cases hF
      exact R_ireturn (pc := 42) h rfl rfl rfl dX4_worth_42
    · have hF := itp c6 hF
      refine R_iconst (pc := 23) (v := (-1)) h (by decide) dX4_worth_23 ?_
      cases hF
      exact R_ireturn (pc := 24) h rfl rfl rfl dX4_worth_24
theorem c4_worth {ad : Nat → Nat} {z : ZZ} {R : Mem × Int32} {x1 : Int32} {x2 : Int32} {M : Mem} (hF : f4_worth x1 x2 M = some R) : Con layC ad z yX4_worth cX4_worth 4 (some .int) 3 M [.ref (ad 28), .int x1, .int x2] (R.1) (some (.int R.2)) := con_of (own := RX4) (lv := [(0, .ref (ad 28)), (1, .int x1), (2, .int x2)]) (by decide +kernel) rfl (Nat.le_of_ble_eq_true rfl) rfl (fun X hz h => w4_worth h hF)
def f4_isWorth (x0 : Int32) : Option (Int32) :=
    if x0 < (-20 : Int32) then ((some (0 : Int32)))
    else (if (60 : Int32) < x0 then ((some (0 : Int32)))
    else ((some (1 : Int32))))
set_option maxHeartbeats 4000000 in
set_option maxRecDepth 10000 in
theorem w4_isWorth {ad : Nat → Nat} {X : XX} {R : Int32} {M : Mem} (h : Cx layC ad X cX4_isWorth RX4 1 1 (some .boolean) M (some (.int R))) {x0 : Int32} (hF : f4_isWorth x0 = some R) : Wp layC ad X M 0 [(0, .int x0)] [] := by
  unfold f4_isWorth at hF
  refine R_iload_n (pc := 0) h 0 rfl rfl dX4_isWorth_0 ?_
  refine R_bipush (pc := 1) (v := (-20)) h (by decide) dX4_isWorth_1 ?_
  refine R_icmp_lt (pc := 3) (tgt := 16) h dX4_isWorth_3 (by decide) (fun c1 => ?_) (fun c1 => ?_)
  · have hF := itp c1 hF
    refine R_iconst (pc := 16) (v := 0) h (by decide) dX4_isWorth_16 ?_
    cases hF
    exact R_zreturn (pc := 17) h rfl zr0 rfl rfl dX4_isWorth_17
  · have hF := ifn c1 hF
    refine R_iload_n (pc := 6) h 0 rfl rfl dX4_isWorth_6 ?_
    refine R_bipush (pc := 7) (v := 60) h (by decide) dX4_isWorth_7 ?_
    refine R_icmp_gt (pc := 9) (tgt := 16) h dX4_isWorth_9 (by decide) (fun c2 => ?_) (fun c2 => ?_)
    · have hF := itp c2 hF
      refine R_iconst (pc := 16) (v := 0) h (by decide) dX4_isWorth_16 ?_
      cases hF
      exact R_zreturn (pc := 17) h rfl zr0 rfl rfl dX4_isWorth_17
    · have hF := ifn c2 hF
      refine R_iconst (pc := 12) (v := 1) h (by decide) dX4_isWorth_12 ?_
      refine R_goto (pc := 13) (tgt := 17) h dX4_isWorth_13 (by decide) ?_
      cases hF
      exact R_zreturn (pc := 17) h rfl zr1 rfl rfl dX4_isWorth_17
theorem c4_isWorth {ad : Nat → Nat} {z : ZZ} {R : Int32} {M : Mem} {x0 : Int32} (hF : f4_isWorth x0 = some R) : Con layC ad z yX4_isWorth cX4_isWorth 1 (some .boolean) 1 M [.int x0] (M) (some (.int R)) := con_of (own := RX4) (lv := [(0, .int x0)]) (by decide +kernel) rfl (Nat.le_of_ble_eq_true rfl) rfl (fun X hz h => w4_isWorth h hF)
def f4_refusePairs_92 (fu : Nat) (M : Mem) : Option (Mem × Int32) :=
    (f4_find (3 : Int32) M).bind fun ⟨M2, r3⟩ =>
    (some (M2, r3))
set_option maxHeartbeats 4000000 in
set_option maxRecDepth 10000 in
theorem w4_refusePairs_92 {ad : Nat → Nat} {X : XX} {R : Mem × Int32} {fu : Nat}  (h : Cx layC ad X cX4_refusePairs RX4 5 2 (some .int) (R.1) (some (.int R.2)))  {M : Mem} (hF : f4_refusePairs_92 fu M = some R) : Wp layC ad X M 92 [(0, .ref (ad 28))] [] := by
  unfold f4_refusePairs_92 at hF
  refine R_aload_n (pc := 92) h 0 rfl rfl dX4_refusePairs_92 ?_
  refine R_iconst (pc := 93) (v := 3) h (by decide) dX4_refusePairs_93 ?_
  obtain ⟨⟨M2, r3⟩, hc1, hF⟩ := bd hF
  refine R_callV (pc := 94) (st := []) h [.int (3 : Int32)] cvX4_78 (c4_find (ad := ad) (z := X.1) hc1) rfl rfl lc_28 (by decide) (by decide) (Nat.le_of_ble_eq_true rfl) dX4_refusePairs_94 (st1 := [.int r3]) rfl ?_
  cases hF
  exact R_ireturn (pc := 97) h rfl rfl rfl dX4_refusePairs_97
def f4_refusePairs_57 (fu : Nat) : Nat → Nat → Int32 → Mem → Option (Mem × Int32)
  | 0 => fun _ _ _ => none
  | f + 1 => fun px3 x4 M =>
    (gd (decide (px3 < 10))).bind fun _ =>
    if (M.1 px3 0) ≤ x4 then ((some (M, (0 : Int32))))
    else ((f0_cellAt M px3 x4).bind fun r4 =>
    (f4_isLuck r4).bind fun r6 =>
    if r6 = 0 then ((f4_refusePairs_92 fu M))
    else ((f0_cellAt M px3 (x4 + (1 : Int32))).bind fun r9 =>
    (f4_isWorth r9).bind fun r11 =>
    if r11 = 0 then ((f4_refusePairs_92 fu M))
    else (nm (x4 + (2 : Int32)) fun v13 =>
    ((f4_refusePairs_57 fu f) px3 v13 M))))
set_option maxHeartbeats 4000000 in
set_option maxRecDepth 10000 in
theorem w4_refusePairsi_57 {ad : Nat → Nat} {X : XX} {R : Mem × Int32} {fu : Nat}  (h : Cx layC ad X cX4_refusePairs RX4 5 2 (some .int) (R.1) (some (.int R.2)))  : ∀ (f : Nat) (px3 : Nat) (x4 : Int32) (M : Mem), f4_refusePairs_57 fu f px3 x4 M = some R → Wp layC ad X M 57 [(0, .ref (ad 28)), (3, .ref (ad px3)), (4, .int x4)] [] := by
  intro f
  induction f with
  | zero => intro px3 x4 M hF; exact absurd hF (by simp [f4_refusePairs_57])
  | succ f ih =>
    intro px3 x4 M hF
    rw [f4_refusePairs_57] at hF
    refine R_iload (pc := 57) h 2 rfl dX4_refusePairs_57 ?_
    refine R_aload_n (pc := 59) h 1 rfl rfl dX4_refusePairs_59 ?_
    obtain ⟨_, hg1, hF⟩ := bd hF
    have hg1 := of_decide_eq_true (gd_s hg1)
    refine R_getI (pc := 60) h flX4_75 (lyCells hg1) rfl dX4_refusePairs_60 ?_
    refine R_icmp_ge (pc := 63) (tgt := 104) h dX4_refusePairs_63 (by decide) (fun c2 => ?_) (fun c2 => ?_)
    · have hF := itp c2 hF
      refine R_iconst (pc := 104) (v := 0) h (by decide) dX4_refusePairs_104 ?_
      cases hF
      exact R_ireturn (pc := 105) h rfl rfl rfl dX4_refusePairs_105
    · have hF := ifn c2 hF
      refine R_aload_n (pc := 66) h 1 rfl rfl dX4_refusePairs_66 ?_
      refine R_iload (pc := 67) h 2 rfl dX4_refusePairs_67 ?_
      obtain ⟨r4, hc3, hF⟩ := bd hF
      refine R_callV (pc := 69) (st := []) h [.int x4] cvX4_63 (c0_cellAt (ad := ad) (z := X.1) hc3) rfl rfl (lyCells hg1) (by decide) (by decide) (Nat.le_of_ble_eq_true rfl) dX4_refusePairs_69 (st1 := [.int r4]) rfl ?_
      obtain ⟨r6, hc5, hF⟩ := bd hF
      refine R_callS (pc := 72) (st := []) h [.int r4] csX4_148 (c4_isLuck (ad := ad) (z := X.1) (M := M) hc5) rfl rfl (by decide) (by decide) (Nat.le_of_ble_eq_true rfl) dX4_refusePairs_72 (st1 := [.int r6]) rfl ?_
      refine R_if_eq (pc := 75) (tgt := 92) h dX4_refusePairs_75 (by decide) (fun c7 => ?_) (fun c7 => ?_)
      · have hF := itp c7 hF
        exact Wp_sub (nX := 0) (lv' := [(0, .ref (ad 28))]) [0] rfl (w4_refusePairs_92 h  (hF := hF))
      · have hF := ifn c7 hF
        refine R_aload_n (pc := 78) h 1 rfl rfl dX4_refusePairs_78 ?_
        refine R_iload (pc := 79) h 2 rfl dX4_refusePairs_79 ?_
        refine R_iconst (pc := 81) (v := 1) h (by decide) dX4_refusePairs_81 ?_
        refine R_iadd (pc := 82) h dX4_refusePairs_82 ?_
        obtain ⟨r9, hc8, hF⟩ := bd hF
        refine R_callV (pc := 83) (st := []) h [.int (x4 + (1 : Int32))] cvX4_63 (c0_cellAt (ad := ad) (z := X.1) hc8) rfl rfl (lyCells hg1) (by decide) (by decide) (Nat.le_of_ble_eq_true rfl) dX4_refusePairs_83 (st1 := [.int r9]) rfl ?_
        obtain ⟨r11, hc10, hF⟩ := bd hF
        refine R_callS (pc := 86) (st := []) h [.int r9] csX4_246 (c4_isWorth (ad := ad) (z := X.1) (M := M) hc10) rfl rfl (by decide) (by decide) (Nat.le_of_ble_eq_true rfl) dX4_refusePairs_86 (st1 := [.int r11]) rfl ?_
        refine R_if_ne (pc := 89) (tgt := 98) h dX4_refusePairs_89 (by decide) (fun c12 => ?_) (fun c12 => ?_)
        · have hF := ifn c12 hF
          obtain ⟨v13, hv13, hF⟩ := nm_e2 hF
          refine R_iinc (pc := 98) (lv' := [(4, .int v13), (0, .ref (ad 28)), (3, .ref (ad px3))]) h 2 rfl (by decide) hv13 (by decide) rfl dX4_refusePairs_98 ?_
          refine R_goto (pc := 101) (tgt := 57) h dX4_refusePairs_101 (by decide) ?_
          exact Wp_sub (nX := 0) (lv' := [(0, .ref (ad 28)), (3, .ref (ad px3)), (4, .int v13)]) [1, 2, 0] rfl (ih _ _ _ hF)
        · have hF := itp c12 hF
          exact Wp_sub (nX := 0) (lv' := [(0, .ref (ad 28))]) [0] rfl (w4_refusePairs_92 h  (hF := hF))
theorem w4_refusePairs_57 {ad : Nat → Nat} {X : XX} {R : Mem × Int32} {fu : Nat}  (h : Cx layC ad X cX4_refusePairs RX4 5 2 (some .int) (R.1) (some (.int R.2)))  {f : Nat} {px3 : Nat} {x4 : Int32} {M : Mem} (hF : f4_refusePairs_57 fu f px3 x4 M = some R) : Wp layC ad X M 57 [(0, .ref (ad 28)), (3, .ref (ad px3)), (4, .int x4)] [] := w4_refusePairsi_57 h  f _ _ _ hF
def f4_refusePairs (fu : Nat) (x1 : Int32) (x2 : Int32) (M : Mem) : Option (Mem × Int32) :=
    (f4_rowAt x2).bind fun r2 =>
    oc r2 ((some (M, (-1 : Int32))))
    fun q3 => (f2_has M x1).bind fun r5 =>
    if r5 = 0 then ((some (M, (-1 : Int32))))
    else ((gd (decide (q3 < 10))).bind fun _ =>
    (f0_isMissing M q3).bind fun r9 =>
    if r9 = 0 then ((rmI (M.1 q3 0) (2 : Int32)).bind fun v11 =>
    if v11 = 0 then ((f4_refusePairs_57 fu fu q3 (0 : Int32) M))
    else ((f4_find (5 : Int32) M).bind fun ⟨M14, r15⟩ =>
    (some (M14, r15))))
    else ((f4_find (1 : Int32) M).bind fun ⟨M17, r18⟩ =>
    (some (M17, r18))))
set_option maxHeartbeats 4000000 in
set_option maxRecDepth 10000 in
theorem w4_refusePairs {ad : Nat → Nat} {X : XX} {R : Mem × Int32} {fu : Nat} (h : Cx layC ad X cX4_refusePairs RX4 5 2 (some .int) (R.1) (some (.int R.2))) {x1 : Int32} {x2 : Int32} {M : Mem} (hF : f4_refusePairs fu x1 x2 M = some R) : Wp layC ad X M 0 [(0, .ref (ad 28)), (1, .int x1), (2, .int x2)] [] := by
  unfold f4_refusePairs at hF
  refine R_aload_n (pc := 0) h 0 rfl rfl dX4_refusePairs_0 ?_
  refine R_iload_n (pc := 1) h 2 rfl rfl dX4_refusePairs_1 ?_
  obtain ⟨r2, hc1, hF⟩ := bd hF
  rcases r2 with _ | q3
  · have hF := oc_n hF
    refine R_callV (pc := 2) (st := []) h [.int x2] cvX4_51 (c4_rowAt (ad := ad) (z := X.1) (M := M) hc1) rfl rfl lc_28 (by decide) (by decide) (Nat.le_of_ble_eq_true rfl) dX4_refusePairs_2 (st1 := [.null]) rfl ?_
    refine R_astore_nN (pc := 5) (lv' := [(3, .null), (0, .ref (ad 28)), (1, .int x1), (2, .int x2)]) h rfl (by decide) rfl dX4_refusePairs_5 ?_
    refine R_aload_nN (pc := 6) h 0 rfl rfl dX4_refusePairs_6 ?_
    refine R_ifnullN (pc := 7) (tgt := 24) h dX4_refusePairs_7 (by decide) ?_
    refine R_iconst (pc := 24) (v := (-1)) h (by decide) dX4_refusePairs_24 ?_
    cases hF
    exact R_ireturn (pc := 25) h rfl rfl rfl dX4_refusePairs_25
  · have hF := oc_s hF
    refine R_callV (pc := 2) (st := []) h [.int x2] cvX4_51 (c4_rowAt (ad := ad) (z := X.1) (M := M) hc1) rfl rfl lc_28 (by decide) (by decide) (Nat.le_of_ble_eq_true rfl) dX4_refusePairs_2 (st1 := [.ref (ad q3)]) rfl ?_
    refine R_astore_n (pc := 5) (lv' := [(3, .ref (ad q3)), (0, .ref (ad 28)), (1, .int x1), (2, .int x2)]) h rfl rfl (by decide) rfl dX4_refusePairs_5 ?_
    refine R_aload_n (pc := 6) h 0 rfl rfl dX4_refusePairs_6 ?_
    refine R_ifnull (pc := 7) h dX4_refusePairs_7 ?_
    refine R_aload_n (pc := 10) h 1 rfl rfl dX4_refusePairs_10 ?_
    refine R_getR (pc := 11) (q1 := 33) h flX4_27 lc_28 rfl dX4_refusePairs_11 ?_
    refine R_getR (pc := 14) (q1 := 35) h flX4_104 lc_33 rfl dX4_refusePairs_14 ?_
    refine R_iload_n (pc := 17) h 2 rfl rfl dX4_refusePairs_17 ?_
    obtain ⟨r5, hc4, hF⟩ := bd hF
    refine R_callV (pc := 18) (st := []) h [.int x1] cvX4_124 (c2_has (ad := ad) (z := X.1) hc4) rfl rfl lc_35 (by decide) (by decide) (Nat.le_of_ble_eq_true rfl) dX4_refusePairs_18 (st1 := [.int r5]) rfl ?_
    refine R_if_ne (pc := 21) (tgt := 26) h dX4_refusePairs_21 (by decide) (fun c6 => ?_) (fun c6 => ?_)
    · have hF := ifn c6 hF
      refine R_aload_n (pc := 26) h 0 rfl rfl dX4_refusePairs_26 ?_
      obtain ⟨_, hg7, hF⟩ := bd hF
      have hg7 := of_decide_eq_true (gd_s hg7)
      obtain ⟨r9, hc8, hF⟩ := bd hF
      refine R_callV (pc := 27) (st := []) h [] cvX4_81 (c0_isMissing (ad := ad) (z := X.1) hc8) rfl rfl (lyCells hg7) (by decide) (by decide) (Nat.le_of_ble_eq_true rfl) dX4_refusePairs_27 (st1 := [.int r9]) rfl ?_
      refine R_if_eq (pc := 30) (tgt := 39) h dX4_refusePairs_30 (by decide) (fun c10 => ?_) (fun c10 => ?_)
      · have hF := itp c10 hF
        refine R_aload_n (pc := 39) h 0 rfl rfl dX4_refusePairs_39 ?_
        refine R_getI (pc := 40) h flX4_75 (lyCells hg7) rfl dX4_refusePairs_40 ?_
        refine R_iconst (pc := 43) (v := 2) h (by decide) dX4_refusePairs_43 ?_
        obtain ⟨v11, hv11, hF⟩ := bd hF
        refine R_irem (pc := 44) h hv11 dX4_refusePairs_44 ?_
        refine R_if_eq (pc := 45) (tgt := 54) h dX4_refusePairs_45 (by decide) (fun c12 => ?_) (fun c12 => ?_)
        · have hF := itp c12 hF
          refine R_iconst (pc := 54) (v := 0) h (by decide) dX4_refusePairs_54 ?_
          refine R_istore (pc := 55) (lv' := [(4, .int (0 : Int32)), (3, .ref (ad q3)), (0, .ref (ad 28)), (1, .int x1), (2, .int x2)]) h rfl (by decide) rfl dX4_refusePairs_55 ?_
          exact Wp_sub (nX := 0) (lv' := [(0, .ref (ad 28)), (3, .ref (ad q3)), (4, .int (0 : Int32))]) [2, 1, 0] rfl (w4_refusePairs_57 h  (hF := hF))
        · have hF := ifn c12 hF
          refine R_aload_n (pc := 48) h 1 rfl rfl dX4_refusePairs_48 ?_
          refine R_iconst (pc := 49) (v := 5) h (by decide) dX4_refusePairs_49 ?_
          obtain ⟨⟨M14, r15⟩, hc13, hF⟩ := bd hF
          refine R_callV (pc := 50) (st := []) h [.int (5 : Int32)] cvX4_78 (c4_find (ad := ad) (z := X.1) hc13) rfl rfl lc_28 (by decide) (by decide) (Nat.le_of_ble_eq_true rfl) dX4_refusePairs_50 (st1 := [.int r15]) rfl ?_
          cases hF
          exact R_ireturn (pc := 53) h rfl rfl rfl dX4_refusePairs_53
      · have hF := ifn c10 hF
        refine R_aload_n (pc := 33) h 1 rfl rfl dX4_refusePairs_33 ?_
        refine R_iconst (pc := 34) (v := 1) h (by decide) dX4_refusePairs_34 ?_
        obtain ⟨⟨M17, r18⟩, hc16, hF⟩ := bd hF
        refine R_callV (pc := 35) (st := []) h [.int (1 : Int32)] cvX4_78 (c4_find (ad := ad) (z := X.1) hc16) rfl rfl lc_28 (by decide) (by decide) (Nat.le_of_ble_eq_true rfl) dX4_refusePairs_35 (st1 := [.int r18]) rfl ?_
        cases hF
        exact R_ireturn (pc := 38) h rfl rfl rfl dX4_refusePairs_38
    · have hF := itp c6 hF
      refine R_iconst (pc := 24) (v := (-1)) h (by decide) dX4_refusePairs_24 ?_
      cases hF
      exact R_ireturn (pc := 25) h rfl rfl rfl dX4_refusePairs_25
theorem c4_refusePairs {ad : Nat → Nat} {z : ZZ} {R : Mem × Int32} {fu : Nat} {x1 : Int32} {x2 : Int32} {M : Mem} (hF : f4_refusePairs fu x1 x2 M = some R) : Con layC ad z yX4_refusePairs cX4_refusePairs 5 (some .int) 2 M [.ref (ad 28), .int x1, .int x2] (R.1) (some (.int R.2)) := con_of (own := RX4) (lv := [(0, .ref (ad 28)), (1, .int x1), (2, .int x2)]) (by decide +kernel) rfl (Nat.le_of_ble_eq_true rfl) rfl (fun X hz h => w4_refusePairs h hF)
def f4_kindsBy_83 (M : Mem) (fu : Nat) (k5 : Int32 → Nat → Int32 → Int32 → Option (Int32)) (x1 : Int32) (px2 : Nat) (x3 : Int32) (x4 : Int32) (x5 : Int32) : Option (Int32) :=
    if x5 = 0 then (nm (x4 + (1 : Int32)) fun v2 =>
    (k5 x1 px2 x3 v2))
    else (nm (x3 ||| ((1 : Int32) <<< (x4 &&& 31))) fun v3 =>
    nm (x4 + (1 : Int32)) fun v4 =>
    (k5 x1 px2 v3 v4))
set_option maxHeartbeats 4000000 in
set_option maxRecDepth 10000 in
theorem w4_kindsBy_83 {ad : Nat → Nat} {X : XX} {R : Int32} {M : Mem} {fu : Nat} {k5 : Int32 → Nat → Int32 → Int32 → Option (Int32)} (h : Cx layC ad X cX4_kindsBy RX4 7 3 (some .int) M (some (.int R))) (hk5 : ∀ (x1 : Int32) (px2 : Nat) (x3 : Int32) (x4 : Int32), k5 x1 px2 x3 x4 = some R → Wp layC ad X M 5 [(0, .ref (ad 28)), (1, .int x1), (2, .ref (ad px2)), (3, .int x3), (4, .int x4)] []) {x1 : Int32} {px2 : Nat} {x3 : Int32} {x4 : Int32} {x5 : Int32} (hF : f4_kindsBy_83 M fu k5 x1 px2 x3 x4 x5 = some R) : Wp layC ad X M 83 [(0, .ref (ad 28)), (1, .int x1), (2, .ref (ad px2)), (3, .int x3), (4, .int x4), (5, .int x5)] [] := by
  unfold f4_kindsBy_83 at hF
  refine R_iload (pc := 83) h 5 rfl dX4_kindsBy_83 ?_
  refine R_if_eq (pc := 85) (tgt := 95) h dX4_kindsBy_85 (by decide) (fun c1 => ?_) (fun c1 => ?_)
  · have hF := itp c1 hF
    obtain ⟨v2, hv2, hF⟩ := nm_e2 hF
    refine R_iinc (pc := 95) (lv' := [(4, .int v2), (0, .ref (ad 28)), (1, .int x1), (2, .ref (ad px2)), (3, .int x3), (5, .int x5)]) h 4 rfl (by decide) hv2 (by decide) rfl dX4_kindsBy_95 ?_
    refine R_goto (pc := 98) (tgt := 5) h dX4_kindsBy_98 (by decide) ?_
    exact Wp_sub (nX := 0) (lv' := [(0, .ref (ad 28)), (1, .int x1), (2, .ref (ad px2)), (3, .int x3), (4, .int v2)]) [1, 2, 3, 4, 0] rfl (hk5 _ _ _ _ hF)
  · have hF := ifn c1 hF
    refine R_iload_n (pc := 88) h 3 rfl rfl dX4_kindsBy_88 ?_
    refine R_iconst (pc := 89) (v := 1) h (by decide) dX4_kindsBy_89 ?_
    refine R_iload (pc := 90) h 4 rfl dX4_kindsBy_90 ?_
    refine R_ishl (pc := 92) h dX4_kindsBy_92 ?_
    refine R_ior (pc := 93) h dX4_kindsBy_93 ?_
    obtain ⟨v3, hv3, hF⟩ := nm_e2 hF
    refine R_istore_n (pc := 94) (lv' := [(3, .int v3), (0, .ref (ad 28)), (1, .int x1), (2, .ref (ad px2)), (4, .int x4), (5, .int x5)]) h hv3 rfl (by decide) rfl dX4_kindsBy_94 ?_
    obtain ⟨v4, hv4, hF⟩ := nm_e2 hF
    refine R_iinc (pc := 95) (lv' := [(4, .int v4), (3, .int v3), (0, .ref (ad 28)), (1, .int x1), (2, .ref (ad px2)), (5, .int x5)]) h 4 rfl (by decide) hv4 (by decide) rfl dX4_kindsBy_95 ?_
    refine R_goto (pc := 98) (tgt := 5) h dX4_kindsBy_98 (by decide) ?_
    exact Wp_sub (nX := 0) (lv' := [(0, .ref (ad 28)), (1, .int x1), (2, .ref (ad px2)), (3, .int v3), (4, .int v4)]) [2, 3, 4, 1, 0] rfl (hk5 _ _ _ _ hF)
def f4_kindsBy_26 (M : Mem) (fu : Nat) (k5 : Int32 → Nat → Int32 → Int32 → Option (Int32)) : Nat → Int32 → Nat → Int32 → Int32 → Int32 → Int32 → Option (Int32)
  | 0 => fun _ _ _ _ _ _ => none
  | f + 1 => fun x1 px2 x3 x4 x5 x6 =>
    if x5 = 0 then ((f4_kindsBy_83 M fu k5 x1 px2 x3 x4 x5))
    else ((gd (decide (px2 < 10))).bind fun _ =>
    if (M.1 px2 0) ≤ x6 then ((f4_kindsBy_83 M fu k5 x1 px2 x3 x4 x5))
    else ((f0_cellAt M px2 x6).bind fun r5 =>
    (f2_valueAs M x1 x4 r5).bind fun r7 =>
    (f0_cellAt M px2 (x6 + (1 : Int32))).bind fun r9 =>
    if r7 = r9 then (nm (x6 + (2 : Int32)) fun v11 =>
    ((f4_kindsBy_26 M fu k5 f) x1 px2 x3 x4 (1 : Int32) v11))
    else (nm (x6 + (2 : Int32)) fun v12 =>
    ((f4_kindsBy_26 M fu k5 f) x1 px2 x3 x4 (0 : Int32) v12))))
set_option maxHeartbeats 4000000 in
set_option maxRecDepth 10000 in
theorem w4_kindsByi_26 {ad : Nat → Nat} {X : XX} {R : Int32} {M : Mem} {fu : Nat} {k5 : Int32 → Nat → Int32 → Int32 → Option (Int32)} (h : Cx layC ad X cX4_kindsBy RX4 7 3 (some .int) M (some (.int R))) (hk5 : ∀ (x1 : Int32) (px2 : Nat) (x3 : Int32) (x4 : Int32), k5 x1 px2 x3 x4 = some R → Wp layC ad X M 5 [(0, .ref (ad 28)), (1, .int x1), (2, .ref (ad px2)), (3, .int x3), (4, .int x4)] []) : ∀ (f : Nat) (x1 : Int32) (px2 : Nat) (x3 : Int32) (x4 : Int32) (x5 : Int32) (x6 : Int32), f4_kindsBy_26 M fu k5 f x1 px2 x3 x4 x5 x6 = some R → Wp layC ad X M 26 [(0, .ref (ad 28)), (1, .int x1), (2, .ref (ad px2)), (3, .int x3), (4, .int x4), (5, .int x5), (6, .int x6)] [] := by
  intro f
  induction f with
  | zero => intro x1 px2 x3 x4 x5 x6 hF; exact absurd hF (by simp [f4_kindsBy_26])
  | succ f ih =>
    intro x1 px2 x3 x4 x5 x6 hF
    rw [f4_kindsBy_26] at hF
    refine R_iload (pc := 26) h 5 rfl dX4_kindsBy_26 ?_
    refine R_if_eq (pc := 28) (tgt := 83) h dX4_kindsBy_28 (by decide) (fun c1 => ?_) (fun c1 => ?_)
    · have hF := itp c1 hF
      exact Wp_sub (nX := 0) (lv' := [(0, .ref (ad 28)), (1, .int x1), (2, .ref (ad px2)), (3, .int x3), (4, .int x4), (5, .int x5)]) [0, 1, 2, 3, 4, 5] rfl (w4_kindsBy_83 h (hk5 := hk5) (hF := hF))
    · have hF := ifn c1 hF
      refine R_iload (pc := 31) h 6 rfl dX4_kindsBy_31 ?_
      refine R_aload_n (pc := 33) h 2 rfl rfl dX4_kindsBy_33 ?_
      obtain ⟨_, hg2, hF⟩ := bd hF
      have hg2 := of_decide_eq_true (gd_s hg2)
      refine R_getI (pc := 34) h flX4_75 (lyCells hg2) rfl dX4_kindsBy_34 ?_
      refine R_icmp_ge (pc := 37) (tgt := 83) h dX4_kindsBy_37 (by decide) (fun c3 => ?_) (fun c3 => ?_)
      · have hF := itp c3 hF
        exact Wp_sub (nX := 0) (lv' := [(0, .ref (ad 28)), (1, .int x1), (2, .ref (ad px2)), (3, .int x3), (4, .int x4), (5, .int x5)]) [0, 1, 2, 3, 4, 5] rfl (w4_kindsBy_83 h (hk5 := hk5) (hF := hF))
      · have hF := ifn c3 hF
        refine R_aload_n (pc := 40) h 0 rfl rfl dX4_kindsBy_40 ?_
        refine R_getR (pc := 41) (q1 := 33) h flX4_27 lc_28 rfl dX4_kindsBy_41 ?_
        refine R_getR (pc := 44) (q1 := 35) h flX4_104 lc_33 rfl dX4_kindsBy_44 ?_
        refine R_iload_n (pc := 47) h 1 rfl rfl dX4_kindsBy_47 ?_
        refine R_iload (pc := 48) h 4 rfl dX4_kindsBy_48 ?_
        refine R_aload_n (pc := 50) h 2 rfl rfl dX4_kindsBy_50 ?_
        refine R_iload (pc := 51) h 6 rfl dX4_kindsBy_51 ?_
        obtain ⟨r5, hc4, hF⟩ := bd hF
        refine R_callV (pc := 53) (st := [.int x4, .int x1, .ref (ad 35)]) h [.int x6] cvX4_63 (c0_cellAt (ad := ad) (z := X.1) hc4) rfl rfl (lyCells hg2) (by decide) (by decide) (Nat.le_of_ble_eq_true rfl) dX4_kindsBy_53 (st1 := [.int r5, .int x4, .int x1, .ref (ad 35)]) rfl ?_
        obtain ⟨r7, hc6, hF⟩ := bd hF
        refine R_callV (pc := 56) (st := []) h [.int x1, .int x4, .int r5] cvX4_144 (c2_valueAs (ad := ad) (z := X.1) hc6) rfl rfl lc_35 (by decide) (by decide) (Nat.le_of_ble_eq_true rfl) dX4_kindsBy_56 (st1 := [.int r7]) rfl ?_
        refine R_aload_n (pc := 59) h 2 rfl rfl dX4_kindsBy_59 ?_
        refine R_iload (pc := 60) h 6 rfl dX4_kindsBy_60 ?_
        refine R_iconst (pc := 62) (v := 1) h (by decide) dX4_kindsBy_62 ?_
        refine R_iadd (pc := 63) h dX4_kindsBy_63 ?_
        obtain ⟨r9, hc8, hF⟩ := bd hF
        refine R_callV (pc := 64) (st := [.int r7]) h [.int (x6 + (1 : Int32))] cvX4_63 (c0_cellAt (ad := ad) (z := X.1) hc8) rfl rfl (lyCells hg2) (by decide) (by decide) (Nat.le_of_ble_eq_true rfl) dX4_kindsBy_64 (st1 := [.int r9, .int r7]) rfl ?_
        refine R_icmp_ne (pc := 67) (tgt := 74) h dX4_kindsBy_67 (by decide) (fun c10 => ?_) (fun c10 => ?_)
        · have hF := ifn c10 hF
          refine R_iconst (pc := 74) (v := 0) h (by decide) dX4_kindsBy_74 ?_
          refine R_istore (pc := 75) (lv' := [(5, .int (0 : Int32)), (0, .ref (ad 28)), (1, .int x1), (2, .ref (ad px2)), (3, .int x3), (4, .int x4), (6, .int x6)]) h rfl (by decide) rfl dX4_kindsBy_75 ?_
          obtain ⟨v12, hv12, hF⟩ := nm_e2 hF
          refine R_iinc (pc := 77) (lv' := [(6, .int v12), (5, .int (0 : Int32)), (0, .ref (ad 28)), (1, .int x1), (2, .ref (ad px2)), (3, .int x3), (4, .int x4)]) h 6 rfl (by decide) hv12 (by decide) rfl dX4_kindsBy_77 ?_
          refine R_goto (pc := 80) (tgt := 26) h dX4_kindsBy_80 (by decide) ?_
          exact Wp_sub (nX := 0) (lv' := [(0, .ref (ad 28)), (1, .int x1), (2, .ref (ad px2)), (3, .int x3), (4, .int x4), (5, .int (0 : Int32)), (6, .int v12)]) [2, 3, 4, 5, 6, 1, 0] rfl (ih _ _ _ _ _ _ hF)
        · have hF := itp c10 hF
          refine R_iconst (pc := 70) (v := 1) h (by decide) dX4_kindsBy_70 ?_
          refine R_goto (pc := 71) (tgt := 75) h dX4_kindsBy_71 (by decide) ?_
          refine R_istore (pc := 75) (lv' := [(5, .int (1 : Int32)), (0, .ref (ad 28)), (1, .int x1), (2, .ref (ad px2)), (3, .int x3), (4, .int x4), (6, .int x6)]) h rfl (by decide) rfl dX4_kindsBy_75 ?_
          obtain ⟨v11, hv11, hF⟩ := nm_e2 hF
          refine R_iinc (pc := 77) (lv' := [(6, .int v11), (5, .int (1 : Int32)), (0, .ref (ad 28)), (1, .int x1), (2, .ref (ad px2)), (3, .int x3), (4, .int x4)]) h 6 rfl (by decide) hv11 (by decide) rfl dX4_kindsBy_77 ?_
          refine R_goto (pc := 80) (tgt := 26) h dX4_kindsBy_80 (by decide) ?_
          exact Wp_sub (nX := 0) (lv' := [(0, .ref (ad 28)), (1, .int x1), (2, .ref (ad px2)), (3, .int x3), (4, .int x4), (5, .int (1 : Int32)), (6, .int v11)]) [2, 3, 4, 5, 6, 1, 0] rfl (ih _ _ _ _ _ _ hF)
theorem w4_kindsBy_26 {ad : Nat → Nat} {X : XX} {R : Int32} {M : Mem} {fu : Nat} {k5 : Int32 → Nat → Int32 → Int32 → Option (Int32)} (h : Cx layC ad X cX4_kindsBy RX4 7 3 (some .int) M (some (.int R))) (hk5 : ∀ (x1 : Int32) (px2 : Nat) (x3 : Int32) (x4 : Int32), k5 x1 px2 x3 x4 = some R → Wp layC ad X M 5 [(0, .ref (ad 28)), (1, .int x1), (2, .ref (ad px2)), (3, .int x3), (4, .int x4)] []) {f : Nat} {x1 : Int32} {px2 : Nat} {x3 : Int32} {x4 : Int32} {x5 : Int32} {x6 : Int32} (hF : f4_kindsBy_26 M fu k5 f x1 px2 x3 x4 x5 x6 = some R) : Wp layC ad X M 26 [(0, .ref (ad 28)), (1, .int x1), (2, .ref (ad px2)), (3, .int x3), (4, .int x4), (5, .int x5), (6, .int x6)] [] := w4_kindsByi_26 h hk5 f _ _ _ _ _ _ hF
def f4_kindsBy_5 (M : Mem) (fu : Nat) : Nat → Int32 → Nat → Int32 → Int32 → Option (Int32)
  | 0 => fun _ _ _ _ => none
  | f + 1 => fun x1 px2 x3 x4 =>
    if (6 : Int32) ≤ x4 then ((some x3))
    else ((f4_kindsBy_26 M fu (f4_kindsBy_5 M fu f) fu x1 px2 x3 x4 (1 : Int32) (0 : Int32)))
set_option maxHeartbeats 4000000 in
set_option maxRecDepth 10000 in
theorem w4_kindsByi_5 {ad : Nat → Nat} {X : XX} {R : Int32} {M : Mem} {fu : Nat}  (h : Cx layC ad X cX4_kindsBy RX4 7 3 (some .int) M (some (.int R)))  : ∀ (f : Nat) (x1 : Int32) (px2 : Nat) (x3 : Int32) (x4 : Int32), f4_kindsBy_5 M fu f x1 px2 x3 x4 = some R → Wp layC ad X M 5 [(0, .ref (ad 28)), (1, .int x1), (2, .ref (ad px2)), (3, .int x3), (4, .int x4)] [] := by
  intro f
  induction f with
  | zero => intro x1 px2 x3 x4 hF; exact absurd hF (by simp [f4_kindsBy_5])
  | succ f ih =>
    intro x1 px2 x3 x4 hF
    rw [f4_kindsBy_5] at hF
    refine R_iload (pc := 5) h 4 rfl dX4_kindsBy_5 ?_
    refine R_bipush (pc := 7) (v := 6) h (by decide) dX4_kindsBy_7 ?_
    refine R_icmp_ge (pc := 9) (tgt := 101) h dX4_kindsBy_9 (by decide) (fun c1 => ?_) (fun c1 => ?_)
    · have hF := itp c1 hF
      refine R_iload_n (pc := 101) h 3 rfl rfl dX4_kindsBy_101 ?_
      cases hF
      exact R_ireturn (pc := 102) h rfl rfl rfl dX4_kindsBy_102
    · have hF := ifn c1 hF
      refine R_aload_n (pc := 12) h 2 rfl rfl dX4_kindsBy_12 ?_
      refine R_ifnull (pc := 13) h dX4_kindsBy_13 ?_
      refine R_iconst (pc := 16) (v := 1) h (by decide) dX4_kindsBy_16 ?_
      refine R_goto (pc := 17) (tgt := 21) h dX4_kindsBy_17 (by decide) ?_
      refine R_istore (pc := 21) (lv' := [(5, .int (1 : Int32)), (0, .ref (ad 28)), (1, .int x1), (2, .ref (ad px2)), (3, .int x3), (4, .int x4)]) h rfl (by decide) rfl dX4_kindsBy_21 ?_
      refine R_iconst (pc := 23) (v := 0) h (by decide) dX4_kindsBy_23 ?_
      refine R_istore (pc := 24) (lv' := [(6, .int (0 : Int32)), (5, .int (1 : Int32)), (0, .ref (ad 28)), (1, .int x1), (2, .ref (ad px2)), (3, .int x3), (4, .int x4)]) h rfl (by decide) rfl dX4_kindsBy_24 ?_
      exact Wp_sub (nX := 0) (lv' := [(0, .ref (ad 28)), (1, .int x1), (2, .ref (ad px2)), (3, .int x3), (4, .int x4), (5, .int (1 : Int32)), (6, .int (0 : Int32))]) [2, 3, 4, 5, 6, 1, 0] rfl (w4_kindsBy_26 h (hk5 := fun a0 a1 a2 a3 hF => ih a0 a1 a2 a3 hF) (hF := hF))
theorem w4_kindsBy_5 {ad : Nat → Nat} {X : XX} {R : Int32} {M : Mem} {fu : Nat}  (h : Cx layC ad X cX4_kindsBy RX4 7 3 (some .int) M (some (.int R)))  {f : Nat} {x1 : Int32} {px2 : Nat} {x3 : Int32} {x4 : Int32} (hF : f4_kindsBy_5 M fu f x1 px2 x3 x4 = some R) : Wp layC ad X M 5 [(0, .ref (ad 28)), (1, .int x1), (2, .ref (ad px2)), (3, .int x3), (4, .int x4)] [] := w4_kindsByi_5 h  f _ _ _ _ hF
def f4_kindsBy (M : Mem) (fu : Nat) (x1 : Int32) (p2 : Nat) : Option (Int32) :=
    (f4_kindsBy_5 M fu fu x1 p2 (0 : Int32) (0 : Int32))
set_option maxHeartbeats 4000000 in
set_option maxRecDepth 10000 in
theorem w4_kindsBy {ad : Nat → Nat} {X : XX} {R : Int32} {M : Mem} {fu : Nat} (h : Cx layC ad X cX4_kindsBy RX4 7 3 (some .int) M (some (.int R))) {x1 : Int32} {p2 : Nat} (hF : f4_kindsBy M fu x1 p2 = some R) : Wp layC ad X M 0 [(0, .ref (ad 28)), (1, .int x1), (2, .ref (ad p2))] [] := by
  unfold f4_kindsBy at hF
  refine R_iconst (pc := 0) (v := 0) h (by decide) dX4_kindsBy_0 ?_
  refine R_istore_n (pc := 1) (lv' := [(3, .int (0 : Int32)), (0, .ref (ad 28)), (1, .int x1), (2, .ref (ad p2))]) h rfl rfl (by decide) rfl dX4_kindsBy_1 ?_
  refine R_iconst (pc := 2) (v := 0) h (by decide) dX4_kindsBy_2 ?_
  refine R_istore (pc := 3) (lv' := [(4, .int (0 : Int32)), (3, .int (0 : Int32)), (0, .ref (ad 28)), (1, .int x1), (2, .ref (ad p2))]) h rfl (by decide) rfl dX4_kindsBy_3 ?_
  exact Wp_sub (nX := 0) (lv' := [(0, .ref (ad 28)), (1, .int x1), (2, .ref (ad p2)), (3, .int (0 : Int32)), (4, .int (0 : Int32))]) [2, 3, 4, 1, 0] rfl (w4_kindsBy_5 h  (hF := hF))
theorem c4_kindsBy {ad : Nat → Nat} {z : ZZ} {R : Int32} {M : Mem} {fu : Nat} {x1 : Int32} {p2 : Nat} (hF : f4_kindsBy M fu x1 p2 = some R) : Con layC ad z yX4_kindsBy cX4_kindsBy 7 (some .int) 3 M [.ref (ad 28), .int x1, .ref (ad p2)] (M) (some (.int R)) := con_of (own := RX4) (lv := [(0, .ref (ad 28)), (1, .int x1), (2, .ref (ad p2))]) (by decide +kernel) rfl (Nat.le_of_ble_eq_true rfl) rfl (fun X hz h => w4_kindsBy h hF)
def f4_kinds (fu : Nat) (x1 : Int32) (x2 : Int32) (M : Mem) : Option (Mem × Int32) :=
    (f4_refusePairs fu x1 x2 M).bind fun ⟨M2, r3⟩ =>
    if r3 = 0 then ((f4_rowAt x2).bind fun r6 =>
    oc r6 (none)
    fun q7 => (f4_kindsBy M2 fu x1 q7).bind fun r9 =>
    (some (M2, r9)))
    else ((some (M2, r3)))
set_option maxHeartbeats 4000000 in
set_option maxRecDepth 10000 in
theorem w4_kinds {ad : Nat → Nat} {X : XX} {R : Mem × Int32} {fu : Nat} (h : Cx layC ad X cX4_kinds RX4 4 4 (some .int) (R.1) (some (.int R.2))) {x1 : Int32} {x2 : Int32} {M : Mem} (hF : f4_kinds fu x1 x2 M = some R) : Wp layC ad X M 0 [(0, .ref (ad 28)), (1, .int x1), (2, .int x2)] [] := by
  unfold f4_kinds at hF
  refine R_aload_n (pc := 0) h 0 rfl rfl dX4_kinds_0 ?_
  refine R_iload_n (pc := 1) h 1 rfl rfl dX4_kinds_1 ?_
  refine R_iload_n (pc := 2) h 2 rfl rfl dX4_kinds_2 ?_
  obtain ⟨⟨M2, r3⟩, hc1, hF⟩ := bd hF
  refine R_callV (pc := 3) (st := []) h [.int x1, .int x2] cvX4_236 (c4_refusePairs (ad := ad) (z := X.1) hc1) rfl rfl lc_28 (by decide) (by decide) (Nat.le_of_ble_eq_true rfl) dX4_kinds_3 (st1 := [.int r3]) rfl ?_
  refine R_istore_n (pc := 6) (lv' := [(3, .int r3), (0, .ref (ad 28)), (1, .int x1), (2, .int x2)]) h rfl rfl (by decide) rfl dX4_kinds_6 ?_
  refine R_iload_n (pc := 7) h 0 rfl rfl dX4_kinds_7 ?_
  refine R_if_eq (pc := 8) (tgt := 15) h dX4_kinds_8 (by decide) (fun c4 => ?_) (fun c4 => ?_)
  · have hF := itp c4 hF
    refine R_aload_n (pc := 15) h 1 rfl rfl dX4_kinds_15 ?_
    refine R_iload_n (pc := 16) h 2 rfl rfl dX4_kinds_16 ?_
    refine R_aload_n (pc := 17) h 1 rfl rfl dX4_kinds_17 ?_
    refine R_iload_n (pc := 18) h 3 rfl rfl dX4_kinds_18 ?_
    obtain ⟨r6, hc5, hF⟩ := bd hF
    rcases r6 with _ | q7
    · have hF := oc_n hF
      refine R_callV (pc := 19) (st := [.int x1, .ref (ad 28)]) h [.int x2] cvX4_51 (c4_rowAt (ad := ad) (z := X.1) (M := M2) hc5) rfl rfl lc_28 (by decide) (by decide) (Nat.le_of_ble_eq_true rfl) dX4_kinds_19 (st1 := [.null, .int x1, .ref (ad 28)]) rfl ?_
      cases hF
    · have hF := oc_s hF
      refine R_callV (pc := 19) (st := [.int x1, .ref (ad 28)]) h [.int x2] cvX4_51 (c4_rowAt (ad := ad) (z := X.1) (M := M2) hc5) rfl rfl lc_28 (by decide) (by decide) (Nat.le_of_ble_eq_true rfl) dX4_kinds_19 (st1 := [.ref (ad q7), .int x1, .ref (ad 28)]) rfl ?_
      obtain ⟨r9, hc8, hF⟩ := bd hF
      refine R_callV (pc := 22) (st := []) h [.int x1, .ref (ad q7)] cvX4_239 (c4_kindsBy (ad := ad) (z := X.1) hc8) rfl rfl lc_28 (by decide) (by decide) (Nat.le_of_ble_eq_true rfl) dX4_kinds_22 (st1 := [.int r9]) rfl ?_
      cases hF
      exact R_ireturn (pc := 25) h rfl rfl rfl dX4_kinds_25
  · have hF := ifn c4 hF
    refine R_iload_n (pc := 11) h 0 rfl rfl dX4_kinds_11 ?_
    refine R_goto (pc := 12) (tgt := 25) h dX4_kinds_12 (by decide) ?_
    cases hF
    exact R_ireturn (pc := 25) h rfl rfl rfl dX4_kinds_25
theorem c4_kinds {ad : Nat → Nat} {z : ZZ} {R : Mem × Int32} {fu : Nat} {x1 : Int32} {x2 : Int32} {M : Mem} (hF : f4_kinds fu x1 x2 M = some R) : Con layC ad z yX4_kinds cX4_kinds 4 (some .int) 4 M [.ref (ad 28), .int x1, .int x2] (R.1) (some (.int R.2)) := con_of (own := RX4) (lv := [(0, .ref (ad 28)), (1, .int x1), (2, .int x2)]) (by decide +kernel) rfl (Nat.le_of_ble_eq_true rfl) rfl (fun X hz h => w4_kinds h hF)
def f2_greatestPart_49 (M : Mem) (fu : Nat) (k6 : Int32 → Int32 → Int32 → Int32 → Int32 → Option (Int32)) (k19 : Int32 → Int32 → Int32 → Int32 → Int32 → Int32 → Int32 → Option (Int32)) (x1 : Int32) (x2 : Int32) (x3 : Int32) (x4 : Int32) (x5 : Int32) (x6 : Int32) (x7 : Int32) (s0 : Int32) : Option (Int32) :=
    if s0 = 0 then (nm (x7 + (1 : Int32)) fun v2 =>
    (k19 x1 x2 x3 x4 x5 x6 v2))
    else ((f2_valueAs M x1 x5 x3).bind fun r4 =>
    (f2_valueAs M x1 x7 x3).bind fun r6 =>
    if r4 = r6 then (nm (x6 + (1 : Int32)) fun v8 =>
    nm (x7 + (1 : Int32)) fun v9 =>
    (k19 x1 x2 x3 x4 x5 v8 v9))
    else (nm (x7 + (1 : Int32)) fun v10 =>
    (k19 x1 x2 x3 x4 x5 x6 v10)))
set_option maxHeartbeats 4000000 in
set_option maxRecDepth 10000 in
theorem w2_greatestPart_49 {ad : Nat → Nat} {X : XX} {R : Int32} {M : Mem} {fu : Nat} {k6 : Int32 → Int32 → Int32 → Int32 → Int32 → Option (Int32)} {k19 : Int32 → Int32 → Int32 → Int32 → Int32 → Int32 → Int32 → Option (Int32)} (h : Cx layC ad X cX2_greatestPart RX2 9 3 (some .int) M (some (.int R))) (hk6 : ∀ (x1 : Int32) (x2 : Int32) (x3 : Int32) (x4 : Int32) (x5 : Int32), k6 x1 x2 x3 x4 x5 = some R → Wp layC ad X M 6 [(0, .ref (ad 35)), (1, .int x1), (2, .int x2), (3, .int x3), (4, .int x4), (5, .int x5)] []) (hk19 : ∀ (x1 : Int32) (x2 : Int32) (x3 : Int32) (x4 : Int32) (x5 : Int32) (x6 : Int32) (x7 : Int32), k19 x1 x2 x3 x4 x5 x6 x7 = some R → Wp layC ad X M 19 [(0, .ref (ad 35)), (1, .int x1), (2, .int x2), (3, .int x3), (4, .int x4), (5, .int x5), (6, .int x6), (7, .int x7)] []) {x1 : Int32} {x2 : Int32} {x3 : Int32} {x4 : Int32} {x5 : Int32} {x6 : Int32} {x7 : Int32} {s0 : Int32} (hF : f2_greatestPart_49 M fu k6 k19 x1 x2 x3 x4 x5 x6 x7 s0 = some R) : Wp layC ad X M 49 [(0, .ref (ad 35)), (1, .int x1), (2, .int x2), (3, .int x3), (4, .int x4), (5, .int x5), (6, .int x6), (7, .int x7)] [.int s0] := by
  unfold f2_greatestPart_49 at hF
  refine R_istore (pc := 49) (lv' := [(8, .int s0), (0, .ref (ad 35)), (1, .int x1), (2, .int x2), (3, .int x3), (4, .int x4), (5, .int x5), (6, .int x6), (7, .int x7)]) h rfl (by decide) rfl dX2_greatestPart_49 ?_
  refine R_iload (pc := 51) h 0 rfl dX2_greatestPart_51 ?_
  refine R_if_eq (pc := 53) (tgt := 78) h dX2_greatestPart_53 (by decide) (fun c1 => ?_) (fun c1 => ?_)
  · have hF := itp c1 hF
    obtain ⟨v2, hv2, hF⟩ := nm_e2 hF
    refine R_iinc (pc := 78) (lv' := [(7, .int v2), (8, .int s0), (0, .ref (ad 35)), (1, .int x1), (2, .int x2), (3, .int x3), (4, .int x4), (5, .int x5), (6, .int x6)]) h 8 rfl (by decide) hv2 (by decide) rfl dX2_greatestPart_78 ?_
    refine R_goto (pc := 81) (tgt := 19) h dX2_greatestPart_81 (by decide) ?_
    exact Wp_sub (nX := 0) (lv' := [(0, .ref (ad 35)), (1, .int x1), (2, .int x2), (3, .int x3), (4, .int x4), (5, .int x5), (6, .int x6), (7, .int v2)]) [2, 3, 4, 5, 6, 7, 8, 0] rfl (hk19 _ _ _ _ _ _ _ hF)
  · have hF := ifn c1 hF
    refine R_aload_n (pc := 56) h 1 rfl rfl dX2_greatestPart_56 ?_
    refine R_iload_n (pc := 57) h 2 rfl rfl dX2_greatestPart_57 ?_
    refine R_iload (pc := 58) h 6 rfl dX2_greatestPart_58 ?_
    refine R_iload_n (pc := 60) h 4 rfl rfl dX2_greatestPart_60 ?_
    obtain ⟨r4, hc3, hF⟩ := bd hF
    refine R_callV (pc := 61) (st := []) h [.int x1, .int x5, .int x3] cvX2_67 (c2_valueAs (ad := ad) (z := X.1) hc3) rfl rfl lc_35 (by decide) (by decide) (Nat.le_of_ble_eq_true rfl) dX2_greatestPart_61 (st1 := [.int r4]) rfl ?_
    refine R_aload_n (pc := 64) h 1 rfl rfl dX2_greatestPart_64 ?_
    refine R_iload_n (pc := 65) h 2 rfl rfl dX2_greatestPart_65 ?_
    refine R_iload (pc := 66) h 8 rfl dX2_greatestPart_66 ?_
    refine R_iload_n (pc := 68) h 4 rfl rfl dX2_greatestPart_68 ?_
    obtain ⟨r6, hc5, hF⟩ := bd hF
    refine R_callV (pc := 69) (st := [.int r4]) h [.int x1, .int x7, .int x3] cvX2_67 (c2_valueAs (ad := ad) (z := X.1) hc5) rfl rfl lc_35 (by decide) (by decide) (Nat.le_of_ble_eq_true rfl) dX2_greatestPart_69 (st1 := [.int r6, .int r4]) rfl ?_
    refine R_icmp_ne (pc := 72) (tgt := 78) h dX2_greatestPart_72 (by decide) (fun c7 => ?_) (fun c7 => ?_)
    · have hF := ifn c7 hF
      obtain ⟨v10, hv10, hF⟩ := nm_e2 hF
      refine R_iinc (pc := 78) (lv' := [(7, .int v10), (8, .int s0), (0, .ref (ad 35)), (1, .int x1), (2, .int x2), (3, .int x3), (4, .int x4), (5, .int x5), (6, .int x6)]) h 8 rfl (by decide) hv10 (by decide) rfl dX2_greatestPart_78 ?_
      refine R_goto (pc := 81) (tgt := 19) h dX2_greatestPart_81 (by decide) ?_
      exact Wp_sub (nX := 0) (lv' := [(0, .ref (ad 35)), (1, .int x1), (2, .int x2), (3, .int x3), (4, .int x4), (5, .int x5), (6, .int x6), (7, .int v10)]) [2, 3, 4, 5, 6, 7, 8, 0] rfl (hk19 _ _ _ _ _ _ _ hF)
    · have hF := itp c7 hF
      obtain ⟨v8, hv8, hF⟩ := nm_e2 hF
      refine R_iinc (pc := 75) (lv' := [(6, .int v8), (8, .int s0), (0, .ref (ad 35)), (1, .int x1), (2, .int x2), (3, .int x3), (4, .int x4), (5, .int x5), (7, .int x7)]) h 7 rfl (by decide) hv8 (by decide) rfl dX2_greatestPart_75 ?_
      obtain ⟨v9, hv9, hF⟩ := nm_e2 hF
      refine R_iinc (pc := 78) (lv' := [(7, .int v9), (6, .int v8), (8, .int s0), (0, .ref (ad 35)), (1, .int x1), (2, .int x2), (3, .int x3), (4, .int x4), (5, .int x5)]) h 8 rfl (by decide) hv9 (by decide) rfl dX2_greatestPart_78 ?_
      refine R_goto (pc := 81) (tgt := 19) h dX2_greatestPart_81 (by decide) ?_
      exact Wp_sub (nX := 0) (lv' := [(0, .ref (ad 35)), (1, .int x1), (2, .int x2), (3, .int x3), (4, .int x4), (5, .int x5), (6, .int v8), (7, .int v9)]) [3, 4, 5, 6, 7, 8, 1, 0] rfl (hk19 _ _ _ _ _ _ _ hF)
def f2_greatestPart_19 (M : Mem) (fu : Nat) (k6 : Int32 → Int32 → Int32 → Int32 → Int32 → Option (Int32)) : Nat → Int32 → Int32 → Int32 → Int32 → Int32 → Int32 → Int32 → Option (Int32)
  | 0 => fun _ _ _ _ _ _ _ => none
  | f + 1 => fun x1 x2 x3 x4 x5 x6 x7 =>
    if (6 : Int32) ≤ x7 then (nm (if x4 < x6 then x6 else x4) fun v2 =>
    nm (x5 + (1 : Int32)) fun v3 =>
    (k6 x1 x2 x3 v2 v3))
    else (if ((x2 >>> (x5 &&& 31)) &&& (1 : Int32)) = 0 then ((f2_greatestPart_49 M fu k6 (f2_greatestPart_19 M fu k6 f) x1 x2 x3 x4 x5 x6 x7 (0 : Int32)))
    else (if ((x2 >>> (x7 &&& 31)) &&& (1 : Int32)) = 0 then ((f2_greatestPart_49 M fu k6 (f2_greatestPart_19 M fu k6 f) x1 x2 x3 x4 x5 x6 x7 (0 : Int32)))
    else ((f2_greatestPart_49 M fu k6 (f2_greatestPart_19 M fu k6 f) x1 x2 x3 x4 x5 x6 x7 (1 : Int32)))))
set_option maxHeartbeats 4000000 in
set_option maxRecDepth 10000 in
theorem w2_greatestParti_19 {ad : Nat → Nat} {X : XX} {R : Int32} {M : Mem} {fu : Nat} {k6 : Int32 → Int32 → Int32 → Int32 → Int32 → Option (Int32)} (h : Cx layC ad X cX2_greatestPart RX2 9 3 (some .int) M (some (.int R))) (hk6 : ∀ (x1 : Int32) (x2 : Int32) (x3 : Int32) (x4 : Int32) (x5 : Int32), k6 x1 x2 x3 x4 x5 = some R → Wp layC ad X M 6 [(0, .ref (ad 35)), (1, .int x1), (2, .int x2), (3, .int x3), (4, .int x4), (5, .int x5)] []) : ∀ (f : Nat) (x1 : Int32) (x2 : Int32) (x3 : Int32) (x4 : Int32) (x5 : Int32) (x6 : Int32) (x7 : Int32), f2_greatestPart_19 M fu k6 f x1 x2 x3 x4 x5 x6 x7 = some R → Wp layC ad X M 19 [(0, .ref (ad 35)), (1, .int x1), (2, .int x2), (3, .int x3), (4, .int x4), (5, .int x5), (6, .int x6), (7, .int x7)] [] := by
  intro f
  induction f with
  | zero => intro x1 x2 x3 x4 x5 x6 x7 hF; exact absurd hF (by simp [f2_greatestPart_19])
  | succ f ih =>
    intro x1 x2 x3 x4 x5 x6 x7 hF
    rw [f2_greatestPart_19] at hF
    refine R_iload (pc := 19) h 7 rfl dX2_greatestPart_19 ?_
    refine R_bipush (pc := 21) (v := 6) h (by decide) dX2_greatestPart_21 ?_
    refine R_icmp_ge (pc := 23) (tgt := 84) h dX2_greatestPart_23 (by decide) (fun c1 => ?_) (fun c1 => ?_)
    · have hF := itp c1 hF
      refine R_iload (pc := 84) h 4 rfl dX2_greatestPart_84 ?_
      refine R_iload (pc := 86) h 6 rfl dX2_greatestPart_86 ?_
      refine R_mmax (pc := 88) h mlX2_81 (by decide) (Nat.le_of_ble_eq_true rfl) dX2_greatestPart_88 ?_
      obtain ⟨v2, hv2, hF⟩ := nm_e2 hF
      refine R_istore (pc := 91) (lv' := [(4, .int v2), (0, .ref (ad 35)), (1, .int x1), (2, .int x2), (3, .int x3), (5, .int x5), (6, .int x6), (7, .int x7)]) h hv2 (by decide) rfl dX2_greatestPart_91 ?_
      obtain ⟨v3, hv3, hF⟩ := nm_e2 hF
      refine R_iinc (pc := 93) (lv' := [(5, .int v3), (4, .int v2), (0, .ref (ad 35)), (1, .int x1), (2, .int x2), (3, .int x3), (6, .int x6), (7, .int x7)]) h 5 rfl (by decide) hv3 (by decide) rfl dX2_greatestPart_93 ?_
      refine R_goto (pc := 96) (tgt := 6) h dX2_greatestPart_96 (by decide) ?_
      exact Wp_sub (nX := 0) (lv' := [(0, .ref (ad 35)), (1, .int x1), (2, .int x2), (3, .int x3), (4, .int v2), (5, .int v3)]) [2, 3, 4, 5, 1, 0] rfl (hk6 _ _ _ _ _ hF)
    · have hF := ifn c1 hF
      refine R_iload_n (pc := 26) h 2 rfl rfl dX2_greatestPart_26 ?_
      refine R_iload (pc := 27) h 5 rfl dX2_greatestPart_27 ?_
      refine R_ishr (pc := 29) h dX2_greatestPart_29 ?_
      refine R_iconst (pc := 30) (v := 1) h (by decide) dX2_greatestPart_30 ?_
      refine R_iand (pc := 31) h dX2_greatestPart_31 ?_
      refine R_if_eq (pc := 32) (tgt := 48) h dX2_greatestPart_32 (by decide) (fun c4 => ?_) (fun c4 => ?_)
      · have hF := itp c4 hF
        refine R_iconst (pc := 48) (v := 0) h (by decide) dX2_greatestPart_48 ?_
        exact Wp_sub (nX := 0) (lv' := [(0, .ref (ad 35)), (1, .int x1), (2, .int x2), (3, .int x3), (4, .int x4), (5, .int x5), (6, .int x6), (7, .int x7)]) [0, 1, 2, 3, 4, 5, 6, 7] rfl (w2_greatestPart_49 h (hk6 := hk6) (hk19 := fun a0 a1 a2 a3 a4 a5 a6 hF => ih a0 a1 a2 a3 a4 a5 a6 hF) (hF := hF))
      · have hF := ifn c4 hF
        refine R_iload_n (pc := 35) h 2 rfl rfl dX2_greatestPart_35 ?_
        refine R_iload (pc := 36) h 7 rfl dX2_greatestPart_36 ?_
        refine R_ishr (pc := 38) h dX2_greatestPart_38 ?_
        refine R_iconst (pc := 39) (v := 1) h (by decide) dX2_greatestPart_39 ?_
        refine R_iand (pc := 40) h dX2_greatestPart_40 ?_
        refine R_if_eq (pc := 41) (tgt := 48) h dX2_greatestPart_41 (by decide) (fun c5 => ?_) (fun c5 => ?_)
        · have hF := itp c5 hF
          refine R_iconst (pc := 48) (v := 0) h (by decide) dX2_greatestPart_48 ?_
          exact Wp_sub (nX := 0) (lv' := [(0, .ref (ad 35)), (1, .int x1), (2, .int x2), (3, .int x3), (4, .int x4), (5, .int x5), (6, .int x6), (7, .int x7)]) [0, 1, 2, 3, 4, 5, 6, 7] rfl (w2_greatestPart_49 h (hk6 := hk6) (hk19 := fun a0 a1 a2 a3 a4 a5 a6 hF => ih a0 a1 a2 a3 a4 a5 a6 hF) (hF := hF))
        · have hF := ifn c5 hF
          refine R_iconst (pc := 44) (v := 1) h (by decide) dX2_greatestPart_44 ?_
          refine R_goto (pc := 45) (tgt := 49) h dX2_greatestPart_45 (by decide) ?_
          exact Wp_sub (nX := 0) (lv' := [(0, .ref (ad 35)), (1, .int x1), (2, .int x2), (3, .int x3), (4, .int x4), (5, .int x5), (6, .int x6), (7, .int x7)]) [0, 1, 2, 3, 4, 5, 6, 7] rfl (w2_greatestPart_49 h (hk6 := hk6) (hk19 := fun a0 a1 a2 a3 a4 a5 a6 hF => ih a0 a1 a2 a3 a4 a5 a6 hF) (hF := hF))
theorem w2_greatestPart_19 {ad : Nat → Nat} {X : XX} {R : Int32} {M : Mem} {fu : Nat} {k6 : Int32 → Int32 → Int32 → Int32 → Int32 → Option (Int32)} (h : Cx layC ad X cX2_greatestPart RX2 9 3 (some .int) M (some (.int R))) (hk6 : ∀ (x1 : Int32) (x2 : Int32) (x3 : Int32) (x4 : Int32) (x5 : Int32), k6 x1 x2 x3 x4 x5 = some R → Wp layC ad X M 6 [(0, .ref (ad 35)), (1, .int x1), (2, .int x2), (3, .int x3), (4, .int x4), (5, .int x5)] []) {f : Nat} {x1 : Int32} {x2 : Int32} {x3 : Int32} {x4 : Int32} {x5 : Int32} {x6 : Int32} {x7 : Int32} (hF : f2_greatestPart_19 M fu k6 f x1 x2 x3 x4 x5 x6 x7 = some R) : Wp layC ad X M 19 [(0, .ref (ad 35)), (1, .int x1), (2, .int x2), (3, .int x3), (4, .int x4), (5, .int x5), (6, .int x6), (7, .int x7)] [] := w2_greatestParti_19 h hk6 f _ _ _ _ _ _ _ hF
def f2_greatestPart_6 (M : Mem) (fu : Nat) : Nat → Int32 → Int32 → Int32 → Int32 → Int32 → Option (Int32)
  | 0 => fun _ _ _ _ _ => none
  | f + 1 => fun x1 x2 x3 x4 x5 =>
    if (6 : Int32) ≤ x5 then ((some x4))
    else ((f2_greatestPart_19 M fu (f2_greatestPart_6 M fu f) fu x1 x2 x3 x4 x5 (0 : Int32) (0 : Int32)))
set_option maxHeartbeats 4000000 in
set_option maxRecDepth 10000 in
theorem w2_greatestParti_6 {ad : Nat → Nat} {X : XX} {R : Int32} {M : Mem} {fu : Nat}  (h : Cx layC ad X cX2_greatestPart RX2 9 3 (some .int) M (some (.int R)))  : ∀ (f : Nat) (x1 : Int32) (x2 : Int32) (x3 : Int32) (x4 : Int32) (x5 : Int32), f2_greatestPart_6 M fu f x1 x2 x3 x4 x5 = some R → Wp layC ad X M 6 [(0, .ref (ad 35)), (1, .int x1), (2, .int x2), (3, .int x3), (4, .int x4), (5, .int x5)] [] := by
  intro f
  induction f with
  | zero => intro x1 x2 x3 x4 x5 hF; exact absurd hF (by simp [f2_greatestPart_6])
  | succ f ih =>
    intro x1 x2 x3 x4 x5 hF
    rw [f2_greatestPart_6] at hF
    refine R_iload (pc := 6) h 5 rfl dX2_greatestPart_6 ?_
    refine R_bipush (pc := 8) (v := 6) h (by decide) dX2_greatestPart_8 ?_
    refine R_icmp_ge (pc := 10) (tgt := 99) h dX2_greatestPart_10 (by decide) (fun c1 => ?_) (fun c1 => ?_)
    · have hF := itp c1 hF
      refine R_iload (pc := 99) h 4 rfl dX2_greatestPart_99 ?_
      cases hF
      exact R_ireturn (pc := 101) h rfl rfl rfl dX2_greatestPart_101
    · have hF := ifn c1 hF
      refine R_iconst (pc := 13) (v := 0) h (by decide) dX2_greatestPart_13 ?_
      refine R_istore (pc := 14) (lv' := [(6, .int (0 : Int32)), (0, .ref (ad 35)), (1, .int x1), (2, .int x2), (3, .int x3), (4, .int x4), (5, .int x5)]) h rfl (by decide) rfl dX2_greatestPart_14 ?_
      refine R_iconst (pc := 16) (v := 0) h (by decide) dX2_greatestPart_16 ?_
      refine R_istore (pc := 17) (lv' := [(7, .int (0 : Int32)), (6, .int (0 : Int32)), (0, .ref (ad 35)), (1, .int x1), (2, .int x2), (3, .int x3), (4, .int x4), (5, .int x5)]) h rfl (by decide) rfl dX2_greatestPart_17 ?_
      exact Wp_sub (nX := 0) (lv' := [(0, .ref (ad 35)), (1, .int x1), (2, .int x2), (3, .int x3), (4, .int x4), (5, .int x5), (6, .int (0 : Int32)), (7, .int (0 : Int32))]) [2, 3, 4, 5, 6, 7, 1, 0] rfl (w2_greatestPart_19 h (hk6 := fun a0 a1 a2 a3 a4 hF => ih a0 a1 a2 a3 a4 hF) (hF := hF))
theorem w2_greatestPart_6 {ad : Nat → Nat} {X : XX} {R : Int32} {M : Mem} {fu : Nat}  (h : Cx layC ad X cX2_greatestPart RX2 9 3 (some .int) M (some (.int R)))  {f : Nat} {x1 : Int32} {x2 : Int32} {x3 : Int32} {x4 : Int32} {x5 : Int32} (hF : f2_greatestPart_6 M fu f x1 x2 x3 x4 x5 = some R) : Wp layC ad X M 6 [(0, .ref (ad 35)), (1, .int x1), (2, .int x2), (3, .int x3), (4, .int x4), (5, .int x5)] [] := w2_greatestParti_6 h  f _ _ _ _ _ hF
def f2_greatestPart (M : Mem) (fu : Nat) (x1 : Int32) (x2 : Int32) (x3 : Int32) : Option (Int32) :=
    (f2_greatestPart_6 M fu fu x1 x2 x3 (0 : Int32) (0 : Int32))
set_option maxHeartbeats 4000000 in
set_option maxRecDepth 10000 in
theorem w2_greatestPart {ad : Nat → Nat} {X : XX} {R : Int32} {M : Mem} {fu : Nat} (h : Cx layC ad X cX2_greatestPart RX2 9 3 (some .int) M (some (.int R))) {x1 : Int32} {x2 : Int32} {x3 : Int32} (hF : f2_greatestPart M fu x1 x2 x3 = some R) : Wp layC ad X M 0 [(0, .ref (ad 35)), (1, .int x1), (2, .int x2), (3, .int x3)] [] := by
  unfold f2_greatestPart at hF
  refine R_iconst (pc := 0) (v := 0) h (by decide) dX2_greatestPart_0 ?_
  refine R_istore (pc := 1) (lv' := [(4, .int (0 : Int32)), (0, .ref (ad 35)), (1, .int x1), (2, .int x2), (3, .int x3)]) h rfl (by decide) rfl dX2_greatestPart_1 ?_
  refine R_iconst (pc := 3) (v := 0) h (by decide) dX2_greatestPart_3 ?_
  refine R_istore (pc := 4) (lv' := [(5, .int (0 : Int32)), (4, .int (0 : Int32)), (0, .ref (ad 35)), (1, .int x1), (2, .int x2), (3, .int x3)]) h rfl (by decide) rfl dX2_greatestPart_4 ?_
  exact Wp_sub (nX := 0) (lv' := [(0, .ref (ad 35)), (1, .int x1), (2, .int x2), (3, .int x3), (4, .int (0 : Int32)), (5, .int (0 : Int32))]) [2, 3, 4, 5, 1, 0] rfl (w2_greatestPart_6 h  (hF := hF))
theorem c2_greatestPart {ad : Nat → Nat} {z : ZZ} {R : Int32} {M : Mem} {fu : Nat} {x1 : Int32} {x2 : Int32} {x3 : Int32} (hF : f2_greatestPart M fu x1 x2 x3 = some R) : Con layC ad z yX2_greatestPart cX2_greatestPart 9 (some .int) 3 M [.ref (ad 35), .int x1, .int x2, .int x3] (M) (some (.int R)) := con_of (own := RX2) (lv := [(0, .ref (ad 35)), (1, .int x1), (2, .int x2), (3, .int x3)]) (by decide +kernel) rfl (Nat.le_of_ble_eq_true rfl) rfl (fun X hz h => w2_greatestPart h hF)
def f4_test_43 (fu : Nat) : Nat → Int32 → Int32 → Int32 → Int32 → Int32 → Mem → Option (Mem × Int32)
  | 0 => fun _ _ _ _ _ _ => none
  | f + 1 => fun x1 x4 x5 x6 x7 M =>
    if (10 : Int32) ≤ x7 then (nm (sI M 28 6 x5) fun M2 =>
    (some (M2, x6)))
    else ((f2_greatestPart M fu x1 x4 x7).bind fun r4 =>
    if x5 ≤ r4 then (nm (x7 + (1 : Int32)) fun v6 =>
    ((f4_test_43 fu f) x1 x4 x5 x6 v6 M))
    else (nm (x7 + (1 : Int32)) fun v7 =>
    ((f4_test_43 fu f) x1 x4 r4 x7 v7 M)))
set_option maxHeartbeats 4000000 in
set_option maxRecDepth 10000 in
theorem w4_testi_43 {ad : Nat → Nat} {X : XX} {R : Mem × Int32} {fu : Nat}  (h : Cx layC ad X cX4_test RX4 9 4 (some .int) (R.1) (some (.int R.2)))  : ∀ (f : Nat) (x1 : Int32) (x4 : Int32) (x5 : Int32) (x6 : Int32) (x7 : Int32) (M : Mem), f4_test_43 fu f x1 x4 x5 x6 x7 M = some R → Wp layC ad X M 43 [(0, .ref (ad 28)), (1, .int x1), (4, .int x4), (5, .int x5), (6, .int x6), (7, .int x7)] [] := by
  intro f
  induction f with
  | zero => intro x1 x4 x5 x6 x7 M hF; exact absurd hF (by simp [f4_test_43])
  | succ f ih =>
    intro x1 x4 x5 x6 x7 M hF
    rw [f4_test_43] at hF
    refine R_iload (pc := 43) h 5 rfl dX4_test_43 ?_
    refine R_bipush (pc := 45) (v := 10) h (by decide) dX4_test_45 ?_
    refine R_icmp_ge (pc := 47) (tgt := 88) h dX4_test_47 (by decide) (fun c1 => ?_) (fun c1 => ?_)
    · have hF := itp c1 hF
      refine R_aload_n (pc := 88) h 0 rfl rfl dX4_test_88 ?_
      refine R_iload (pc := 89) h 3 rfl dX4_test_89 ?_
      obtain ⟨M2, hM2, hF⟩ := nm_e2 hF
      refine R_putI (pc := 91) h hM2 fpX4_39 lc_28 rfl dX4_test_91 ?_
      refine R_iload (pc := 94) h 4 rfl dX4_test_94 ?_
      cases hF
      exact R_ireturn (pc := 96) h rfl rfl rfl dX4_test_96
    · have hF := ifn c1 hF
      refine R_aload_n (pc := 50) h 0 rfl rfl dX4_test_50 ?_
      refine R_getR (pc := 51) (q1 := 33) h flX4_27 lc_28 rfl dX4_test_51 ?_
      refine R_getR (pc := 54) (q1 := 35) h flX4_104 lc_33 rfl dX4_test_54 ?_
      refine R_iload_n (pc := 57) h 1 rfl rfl dX4_test_57 ?_
      refine R_iload (pc := 58) h 2 rfl dX4_test_58 ?_
      refine R_iload (pc := 60) h 5 rfl dX4_test_60 ?_
      obtain ⟨r4, hc3, hF⟩ := bd hF
      refine R_callV (pc := 62) (st := []) h [.int x1, .int x4, .int x7] cvX4_243 (c2_greatestPart (ad := ad) (z := X.1) hc3) rfl rfl lc_35 (by decide) (by decide) (Nat.le_of_ble_eq_true rfl) dX4_test_62 (st1 := [.int r4]) rfl ?_
      refine R_istore (pc := 65) (lv' := [(8, .int r4), (0, .ref (ad 28)), (1, .int x1), (4, .int x4), (5, .int x5), (6, .int x6), (7, .int x7)]) h rfl (by decide) rfl dX4_test_65 ?_
      refine R_iload (pc := 67) h 0 rfl dX4_test_67 ?_
      refine R_iload (pc := 69) h 4 rfl dX4_test_69 ?_
      refine R_icmp_ge (pc := 71) (tgt := 82) h dX4_test_71 (by decide) (fun c5 => ?_) (fun c5 => ?_)
      · have hF := itp c5 hF
        obtain ⟨v6, hv6, hF⟩ := nm_e2 hF
        refine R_iinc (pc := 82) (lv' := [(7, .int v6), (8, .int r4), (0, .ref (ad 28)), (1, .int x1), (4, .int x4), (5, .int x5), (6, .int x6)]) h 6 rfl (by decide) hv6 (by decide) rfl dX4_test_82 ?_
        refine R_goto (pc := 85) (tgt := 43) h dX4_test_85 (by decide) ?_
        exact Wp_sub (nX := 0) (lv' := [(0, .ref (ad 28)), (1, .int x1), (4, .int x4), (5, .int x5), (6, .int x6), (7, .int v6)]) [2, 3, 4, 5, 6, 0] rfl (ih _ _ _ _ _ _ hF)
      · have hF := ifn c5 hF
        refine R_iload (pc := 74) h 0 rfl dX4_test_74 ?_
        refine R_istore (pc := 76) (lv' := [(5, .int r4), (8, .int r4), (0, .ref (ad 28)), (1, .int x1), (4, .int x4), (6, .int x6), (7, .int x7)]) h rfl (by decide) rfl dX4_test_76 ?_
        refine R_iload (pc := 78) h 6 rfl dX4_test_78 ?_
        refine R_istore (pc := 80) (lv' := [(6, .int x7), (5, .int r4), (8, .int r4), (0, .ref (ad 28)), (1, .int x1), (4, .int x4), (7, .int x7)]) h rfl (by decide) rfl dX4_test_80 ?_
        obtain ⟨v7, hv7, hF⟩ := nm_e2 hF
        refine R_iinc (pc := 82) (lv' := [(7, .int v7), (6, .int x7), (5, .int r4), (8, .int r4), (0, .ref (ad 28)), (1, .int x1), (4, .int x4)]) h 6 rfl (by decide) hv7 (by decide) rfl dX4_test_82 ?_
        refine R_goto (pc := 85) (tgt := 43) h dX4_test_85 (by decide) ?_
        exact Wp_sub (nX := 0) (lv' := [(0, .ref (ad 28)), (1, .int x1), (4, .int x4), (5, .int r4), (6, .int x7), (7, .int v7)]) [4, 5, 6, 2, 1, 0] rfl (ih _ _ _ _ _ _ hF)
theorem w4_test_43 {ad : Nat → Nat} {X : XX} {R : Mem × Int32} {fu : Nat}  (h : Cx layC ad X cX4_test RX4 9 4 (some .int) (R.1) (some (.int R.2)))  {f : Nat} {x1 : Int32} {x4 : Int32} {x5 : Int32} {x6 : Int32} {x7 : Int32} {M : Mem} (hF : f4_test_43 fu f x1 x4 x5 x6 x7 M = some R) : Wp layC ad X M 43 [(0, .ref (ad 28)), (1, .int x1), (4, .int x4), (5, .int x5), (6, .int x6), (7, .int x7)] [] := w4_testi_43 h  f _ _ _ _ _ _ hF
def f4_test (fu : Nat) (x1 : Int32) (x2 : Int32) (M : Mem) : Option (Mem × Int32) :=
    (f4_refusePairs fu x1 x2 M).bind fun ⟨M2, r3⟩ =>
    if r3 = 0 then ((f4_rowAt x2).bind fun r6 =>
    oc r6 (none)
    fun q7 => (f4_kindsBy M2 fu x1 q7).bind fun r9 =>
    if r9 = 0 then ((some (M2, (-9 : Int32))))
    else ((f4_test_43 fu fu x1 r9 (7 : Int32) (0 : Int32) (0 : Int32) M2)))
    else ((some (M2, r3)))
set_option maxHeartbeats 4000000 in
set_option maxRecDepth 10000 in
theorem w4_test {ad : Nat → Nat} {X : XX} {R : Mem × Int32} {fu : Nat} (h : Cx layC ad X cX4_test RX4 9 4 (some .int) (R.1) (some (.int R.2))) {x1 : Int32} {x2 : Int32} {M : Mem} (hF : f4_test fu x1 x2 M = some R) : Wp layC ad X M 0 [(0, .ref (ad 28)), (1, .int x1), (2, .int x2)] [] := by
  unfold f4_test at hF
  refine R_aload_n (pc := 0) h 0 rfl rfl dX4_test_0 ?_
  refine R_iload_n (pc := 1) h 1 rfl rfl dX4_test_1 ?_
  refine R_iload_n (pc := 2) h 2 rfl rfl dX4_test_2 ?_
  obtain ⟨⟨M2, r3⟩, hc1, hF⟩ := bd hF
  refine R_callV (pc := 3) (st := []) h [.int x1, .int x2] cvX4_236 (c4_refusePairs (ad := ad) (z := X.1) hc1) rfl rfl lc_28 (by decide) (by decide) (Nat.le_of_ble_eq_true rfl) dX4_test_3 (st1 := [.int r3]) rfl ?_
  refine R_istore_n (pc := 6) (lv' := [(3, .int r3), (0, .ref (ad 28)), (1, .int x1), (2, .int x2)]) h rfl rfl (by decide) rfl dX4_test_6 ?_
  refine R_iload_n (pc := 7) h 0 rfl rfl dX4_test_7 ?_
  refine R_if_eq (pc := 8) (tgt := 13) h dX4_test_8 (by decide) (fun c4 => ?_) (fun c4 => ?_)
  · have hF := itp c4 hF
    refine R_aload_n (pc := 13) h 1 rfl rfl dX4_test_13 ?_
    refine R_iload_n (pc := 14) h 2 rfl rfl dX4_test_14 ?_
    refine R_aload_n (pc := 15) h 1 rfl rfl dX4_test_15 ?_
    refine R_iload_n (pc := 16) h 3 rfl rfl dX4_test_16 ?_
    obtain ⟨r6, hc5, hF⟩ := bd hF
    rcases r6 with _ | q7
    · have hF := oc_n hF
      refine R_callV (pc := 17) (st := [.int x1, .ref (ad 28)]) h [.int x2] cvX4_51 (c4_rowAt (ad := ad) (z := X.1) (M := M2) hc5) rfl rfl lc_28 (by decide) (by decide) (Nat.le_of_ble_eq_true rfl) dX4_test_17 (st1 := [.null, .int x1, .ref (ad 28)]) rfl ?_
      cases hF
    · have hF := oc_s hF
      refine R_callV (pc := 17) (st := [.int x1, .ref (ad 28)]) h [.int x2] cvX4_51 (c4_rowAt (ad := ad) (z := X.1) (M := M2) hc5) rfl rfl lc_28 (by decide) (by decide) (Nat.le_of_ble_eq_true rfl) dX4_test_17 (st1 := [.ref (ad q7), .int x1, .ref (ad 28)]) rfl ?_
      obtain ⟨r9, hc8, hF⟩ := bd hF
      refine R_callV (pc := 20) (st := []) h [.int x1, .ref (ad q7)] cvX4_239 (c4_kindsBy (ad := ad) (z := X.1) hc8) rfl rfl lc_28 (by decide) (by decide) (Nat.le_of_ble_eq_true rfl) dX4_test_20 (st1 := [.int r9]) rfl ?_
      refine R_istore (pc := 23) (lv' := [(4, .int r9), (3, .int r3), (0, .ref (ad 28)), (1, .int x1), (2, .int x2)]) h rfl (by decide) rfl dX4_test_23 ?_
      refine R_iload (pc := 25) h 0 rfl dX4_test_25 ?_
      refine R_if_ne (pc := 27) (tgt := 33) h dX4_test_27 (by decide) (fun c10 => ?_) (fun c10 => ?_)
      · have hF := ifn c10 hF
        refine R_bipush (pc := 33) (v := 7) h (by decide) dX4_test_33 ?_
        refine R_istore (pc := 35) (lv' := [(5, .int (7 : Int32)), (4, .int r9), (3, .int r3), (0, .ref (ad 28)), (1, .int x1), (2, .int x2)]) h rfl (by decide) rfl dX4_test_35 ?_
        refine R_iconst (pc := 37) (v := 0) h (by decide) dX4_test_37 ?_
        refine R_istore (pc := 38) (lv' := [(6, .int (0 : Int32)), (5, .int (7 : Int32)), (4, .int r9), (3, .int r3), (0, .ref (ad 28)), (1, .int x1), (2, .int x2)]) h rfl (by decide) rfl dX4_test_38 ?_
        refine R_iconst (pc := 40) (v := 0) h (by decide) dX4_test_40 ?_
        refine R_istore (pc := 41) (lv' := [(7, .int (0 : Int32)), (6, .int (0 : Int32)), (5, .int (7 : Int32)), (4, .int r9), (3, .int r3), (0, .ref (ad 28)), (1, .int x1), (2, .int x2)]) h rfl (by decide) rfl dX4_test_41 ?_
        exact Wp_sub (nX := 0) (lv' := [(0, .ref (ad 28)), (1, .int x1), (4, .int r9), (5, .int (7 : Int32)), (6, .int (0 : Int32)), (7, .int (0 : Int32))]) [5, 6, 3, 2, 1, 0] rfl (w4_test_43 h  (hF := hF))
      · have hF := itp c10 hF
        refine R_bipush (pc := 30) (v := (-9)) h (by decide) dX4_test_30 ?_
        cases hF
        exact R_ireturn (pc := 32) h rfl rfl rfl dX4_test_32
  · have hF := ifn c4 hF
    refine R_iload_n (pc := 11) h 0 rfl rfl dX4_test_11 ?_
    cases hF
    exact R_ireturn (pc := 12) h rfl rfl rfl dX4_test_12
theorem c4_test {ad : Nat → Nat} {z : ZZ} {R : Mem × Int32} {fu : Nat} {x1 : Int32} {x2 : Int32} {M : Mem} (hF : f4_test fu x1 x2 M = some R) : Con layC ad z yX4_test cX4_test 9 (some .int) 4 M [.ref (ad 28), .int x1, .int x2] (R.1) (some (.int R.2)) := con_of (own := RX4) (lv := [(0, .ref (ad 28)), (1, .int x1), (2, .int x2)]) (by decide +kernel) rfl (Nat.le_of_ble_eq_true rfl) rfl (fun X hz h => w4_test h hF)
def f4_lucks_31 (M : Mem) (fu : Nat) : Nat → Int32 → Int32 → Int32 → Int32 → Option (Int32)
  | 0 => fun _ _ _ _ => none
  | f + 1 => fun x1 x2 x4 x5 =>
    if (10 : Int32) ≤ x5 then ((some x4))
    else ((rd M 36 8 x1).bind fun v2 =>
    (f2_valueAs M x1 v2 x5).bind fun r4 =>
    if r4 = x2 then (nm (x4 ||| ((1 : Int32) <<< (x5 &&& 31))) fun v6 =>
    nm (x5 + (1 : Int32)) fun v7 =>
    ((f4_lucks_31 M fu f) x1 x2 v6 v7))
    else (nm (x5 + (1 : Int32)) fun v8 =>
    ((f4_lucks_31 M fu f) x1 x2 x4 v8)))
set_option maxHeartbeats 4000000 in
set_option maxRecDepth 10000 in
theorem w4_lucksi_31 {ad : Nat → Nat} {X : XX} {R : Int32} {M : Mem} {fu : Nat}  (h : Cx layC ad X cX4_lucks RX4 6 3 (some .int) M (some (.int R)))  : ∀ (f : Nat) (x1 : Int32) (x2 : Int32) (x4 : Int32) (x5 : Int32), f4_lucks_31 M fu f x1 x2 x4 x5 = some R → Wp layC ad X M 31 [(1, .int x1), (2, .int x2), (3, .ref (ad 35)), (4, .int x4), (5, .int x5)] [] := by
  intro f
  induction f with
  | zero => intro x1 x2 x4 x5 hF; exact absurd hF (by simp [f4_lucks_31])
  | succ f ih =>
    intro x1 x2 x4 x5 hF
    rw [f4_lucks_31] at hF
    refine R_iload (pc := 31) h 4 rfl dX4_lucks_31 ?_
    refine R_bipush (pc := 33) (v := 10) h (by decide) dX4_lucks_33 ?_
    refine R_icmp_ge (pc := 35) (tgt := 70) h dX4_lucks_35 (by decide) (fun c1 => ?_) (fun c1 => ?_)
    · have hF := itp c1 hF
      refine R_iload (pc := 70) h 3 rfl dX4_lucks_70 ?_
      cases hF
      exact R_ireturn (pc := 72) h rfl rfl rfl dX4_lucks_72
    · have hF := ifn c1 hF
      refine R_aload_n (pc := 38) h 2 rfl rfl dX4_lucks_38 ?_
      refine R_iload_n (pc := 39) h 0 rfl rfl dX4_lucks_39 ?_
      refine R_aload_n (pc := 40) h 2 rfl rfl dX4_lucks_40 ?_
      refine R_getR (pc := 41) (q1 := 36) h flX4_132 lc_35 rfl dX4_lucks_41 ?_
      refine R_iload_n (pc := 44) h 0 rfl rfl dX4_lucks_44 ?_
      obtain ⟨v2, hv2, hF⟩ := bd hF
      refine R_iald (pc := 45) h hv2 lc_36 dX4_lucks_45 ?_
      refine R_iload (pc := 46) h 4 rfl dX4_lucks_46 ?_
      obtain ⟨r4, hc3, hF⟩ := bd hF
      refine R_callV (pc := 48) (st := []) h [.int x1, .int v2, .int x5] cvX4_144 (c2_valueAs (ad := ad) (z := X.1) hc3) rfl rfl lc_35 (by decide) (by decide) (Nat.le_of_ble_eq_true rfl) dX4_lucks_48 (st1 := [.int r4]) rfl ?_
      refine R_iload_n (pc := 51) h 1 rfl rfl dX4_lucks_51 ?_
      refine R_icmp_ne (pc := 52) (tgt := 64) h dX4_lucks_52 (by decide) (fun c5 => ?_) (fun c5 => ?_)
      · have hF := ifn c5 hF
        obtain ⟨v8, hv8, hF⟩ := nm_e2 hF
        refine R_iinc (pc := 64) (lv' := [(5, .int v8), (1, .int x1), (2, .int x2), (3, .ref (ad 35)), (4, .int x4)]) h 4 rfl (by decide) hv8 (by decide) rfl dX4_lucks_64 ?_
        refine R_goto (pc := 67) (tgt := 31) h dX4_lucks_67 (by decide) ?_
        exact Wp_sub (nX := 0) (lv' := [(1, .int x1), (2, .int x2), (3, .ref (ad 35)), (4, .int x4), (5, .int v8)]) [1, 2, 3, 4, 0] rfl (ih _ _ _ _ hF)
      · have hF := itp c5 hF
        refine R_iload (pc := 55) h 3 rfl dX4_lucks_55 ?_
        refine R_iconst (pc := 57) (v := 1) h (by decide) dX4_lucks_57 ?_
        refine R_iload (pc := 58) h 4 rfl dX4_lucks_58 ?_
        refine R_ishl (pc := 60) h dX4_lucks_60 ?_
        refine R_ior (pc := 61) h dX4_lucks_61 ?_
        obtain ⟨v6, hv6, hF⟩ := nm_e2 hF
        refine R_istore (pc := 62) (lv' := [(4, .int v6), (1, .int x1), (2, .int x2), (3, .ref (ad 35)), (5, .int x5)]) h hv6 (by decide) rfl dX4_lucks_62 ?_
        obtain ⟨v7, hv7, hF⟩ := nm_e2 hF
        refine R_iinc (pc := 64) (lv' := [(5, .int v7), (4, .int v6), (1, .int x1), (2, .int x2), (3, .ref (ad 35))]) h 4 rfl (by decide) hv7 (by decide) rfl dX4_lucks_64 ?_
        refine R_goto (pc := 67) (tgt := 31) h dX4_lucks_67 (by decide) ?_
        exact Wp_sub (nX := 0) (lv' := [(1, .int x1), (2, .int x2), (3, .ref (ad 35)), (4, .int v6), (5, .int v7)]) [2, 3, 4, 1, 0] rfl (ih _ _ _ _ hF)
theorem w4_lucks_31 {ad : Nat → Nat} {X : XX} {R : Int32} {M : Mem} {fu : Nat}  (h : Cx layC ad X cX4_lucks RX4 6 3 (some .int) M (some (.int R)))  {f : Nat} {x1 : Int32} {x2 : Int32} {x4 : Int32} {x5 : Int32} (hF : f4_lucks_31 M fu f x1 x2 x4 x5 = some R) : Wp layC ad X M 31 [(1, .int x1), (2, .int x2), (3, .ref (ad 35)), (4, .int x4), (5, .int x5)] [] := w4_lucksi_31 h  f _ _ _ _ hF
def f4_lucks (M : Mem) (fu : Nat) (x1 : Int32) (x2 : Int32) : Option (Int32) :=
    (f2_has M x1).bind fun r2 =>
    if r2 = 0 then ((some (-1 : Int32)))
    else ((f4_isWorth x2).bind fun r5 =>
    if r5 = 0 then ((some (-1 : Int32)))
    else ((f4_lucks_31 M fu fu x1 x2 (0 : Int32) (0 : Int32))))
set_option maxHeartbeats 4000000 in
set_option maxRecDepth 10000 in
theorem w4_lucks {ad : Nat → Nat} {X : XX} {R : Int32} {M : Mem} {fu : Nat} (h : Cx layC ad X cX4_lucks RX4 6 3 (some .int) M (some (.int R))) {x1 : Int32} {x2 : Int32} (hF : f4_lucks M fu x1 x2 = some R) : Wp layC ad X M 0 [(0, .ref (ad 28)), (1, .int x1), (2, .int x2)] [] := by
  unfold f4_lucks at hF
  refine R_aload_n (pc := 0) h 0 rfl rfl dX4_lucks_0 ?_
  refine R_getR (pc := 1) (q1 := 33) h flX4_27 lc_28 rfl dX4_lucks_1 ?_
  refine R_getR (pc := 4) (q1 := 35) h flX4_104 lc_33 rfl dX4_lucks_4 ?_
  refine R_astore_n (pc := 7) (lv' := [(3, .ref (ad 35)), (0, .ref (ad 28)), (1, .int x1), (2, .int x2)]) h rfl rfl (by decide) rfl dX4_lucks_7 ?_
  refine R_aload_n (pc := 8) h 0 rfl rfl dX4_lucks_8 ?_
  refine R_iload_n (pc := 9) h 2 rfl rfl dX4_lucks_9 ?_
  obtain ⟨r2, hc1, hF⟩ := bd hF
  refine R_callV (pc := 10) (st := []) h [.int x1] cvX4_124 (c2_has (ad := ad) (z := X.1) hc1) rfl rfl lc_35 (by decide) (by decide) (Nat.le_of_ble_eq_true rfl) dX4_lucks_10 (st1 := [.int r2]) rfl ?_
  refine R_if_eq (pc := 13) (tgt := 23) h dX4_lucks_13 (by decide) (fun c3 => ?_) (fun c3 => ?_)
  · have hF := itp c3 hF
    refine R_iconst (pc := 23) (v := (-1)) h (by decide) dX4_lucks_23 ?_
    cases hF
    exact R_ireturn (pc := 24) h rfl rfl rfl dX4_lucks_24
  · have hF := ifn c3 hF
    refine R_iload_n (pc := 16) h 3 rfl rfl dX4_lucks_16 ?_
    obtain ⟨r5, hc4, hF⟩ := bd hF
    refine R_callS (pc := 17) (st := []) h [.int x2] csX4_246 (c4_isWorth (ad := ad) (z := X.1) (M := M) hc4) rfl rfl (by decide) (by decide) (Nat.le_of_ble_eq_true rfl) dX4_lucks_17 (st1 := [.int r5]) rfl ?_
    refine R_if_ne (pc := 20) (tgt := 25) h dX4_lucks_20 (by decide) (fun c6 => ?_) (fun c6 => ?_)
    · have hF := ifn c6 hF
      refine R_iconst (pc := 25) (v := 0) h (by decide) dX4_lucks_25 ?_
      refine R_istore (pc := 26) (lv' := [(4, .int (0 : Int32)), (3, .ref (ad 35)), (0, .ref (ad 28)), (1, .int x1), (2, .int x2)]) h rfl (by decide) rfl dX4_lucks_26 ?_
      refine R_iconst (pc := 28) (v := 0) h (by decide) dX4_lucks_28 ?_
      refine R_istore (pc := 29) (lv' := [(5, .int (0 : Int32)), (4, .int (0 : Int32)), (3, .ref (ad 35)), (0, .ref (ad 28)), (1, .int x1), (2, .int x2)]) h rfl (by decide) rfl dX4_lucks_29 ?_
      exact Wp_sub (nX := 0) (lv' := [(1, .int x1), (2, .int x2), (3, .ref (ad 35)), (4, .int (0 : Int32)), (5, .int (0 : Int32))]) [4, 5, 2, 1, 0] rfl (w4_lucks_31 h  (hF := hF))
    · have hF := itp c6 hF
      refine R_iconst (pc := 23) (v := (-1)) h (by decide) dX4_lucks_23 ?_
      cases hF
      exact R_ireturn (pc := 24) h rfl rfl rfl dX4_lucks_24
theorem c4_lucks {ad : Nat → Nat} {z : ZZ} {R : Int32} {M : Mem} {fu : Nat} {x1 : Int32} {x2 : Int32} (hF : f4_lucks M fu x1 x2 = some R) : Con layC ad z yX4_lucks cX4_lucks 6 (some .int) 3 M [.ref (ad 28), .int x1, .int x2] (M) (some (.int R)) := con_of (own := RX4) (lv := [(0, .ref (ad 28)), (1, .int x1), (2, .int x2)]) (by decide +kernel) rfl (Nat.le_of_ble_eq_true rfl) rfl (fun X hz h => w4_lucks h hF)
def f4_power_5 (fu : Nat) : Nat → Int64 → Int32 → Int64 → Int32 → Option (Int64)
  | 0 => fun _ _ _ _ => none
  | f + 1 => fun x0 x2 x3 x5 =>
    if x2 ≤ x5 then ((some x3))
    else (nm (x3 * x0) fun v2 =>
    nm (x5 + (1 : Int32)) fun v3 =>
    ((f4_power_5 fu f) x0 x2 v2 v3))
set_option maxHeartbeats 4000000 in
set_option maxRecDepth 10000 in
theorem w4_poweri_5 {ad : Nat → Nat} {X : XX} {R : Int64} {M : Mem} {fu : Nat}  (h : Cx layC ad X cX4_power RX4 6 1 (some .long) M (some (.long R)))  : ∀ (f : Nat) (x0 : Int64) (x2 : Int32) (x3 : Int64) (x5 : Int32), f4_power_5 fu f x0 x2 x3 x5 = some R → Wp layC ad X M 5 [(0, .long x0), (2, .int x2), (3, .long x3), (5, .int x5)] [] := by
  intro f
  induction f with
  | zero => intro x0 x2 x3 x5 hF; exact absurd hF (by simp [f4_power_5])
  | succ f ih =>
    intro x0 x2 x3 x5 hF
    rw [f4_power_5] at hF
    refine R_iload (pc := 5) h 3 rfl dX4_power_5 ?_
    refine R_iload_n (pc := 7) h 1 rfl rfl dX4_power_7 ?_
    refine R_icmp_ge (pc := 8) (tgt := 21) h dX4_power_8 (by decide) (fun c1 => ?_) (fun c1 => ?_)
    · have hF := itp c1 hF
      refine R_lload_n (pc := 21) h 2 rfl rfl dX4_power_21 ?_
      cases hF
      exact R_lreturn (pc := 22) h rfl rfl rfl dX4_power_22
    · have hF := ifn c1 hF
      refine R_lload_n (pc := 11) h 2 rfl rfl dX4_power_11 ?_
      refine R_lload_n (pc := 12) h 0 rfl rfl dX4_power_12 ?_
      refine R_lmul (pc := 13) h dX4_power_13 ?_
      obtain ⟨v2, hv2, hF⟩ := nm_e2 hF
      refine R_lstore_n (pc := 14) (lv' := [(3, .long v2), (0, .long x0), (2, .int x2), (5, .int x5)]) h hv2 rfl (by decide) rfl dX4_power_14 ?_
      obtain ⟨v3, hv3, hF⟩ := nm_e2 hF
      refine R_iinc (pc := 15) (lv' := [(5, .int v3), (3, .long v2), (0, .long x0), (2, .int x2)]) h 3 rfl (by decide) hv3 (by decide) rfl dX4_power_15 ?_
      refine R_goto (pc := 18) (tgt := 5) h dX4_power_18 (by decide) ?_
      exact Wp_sub (nX := 0) (lv' := [(0, .long x0), (2, .int x2), (3, .long v2), (5, .int v3)]) [2, 3, 1, 0] rfl (ih _ _ _ _ hF)
theorem w4_power_5 {ad : Nat → Nat} {X : XX} {R : Int64} {M : Mem} {fu : Nat}  (h : Cx layC ad X cX4_power RX4 6 1 (some .long) M (some (.long R)))  {f : Nat} {x0 : Int64} {x2 : Int32} {x3 : Int64} {x5 : Int32} (hF : f4_power_5 fu f x0 x2 x3 x5 = some R) : Wp layC ad X M 5 [(0, .long x0), (2, .int x2), (3, .long x3), (5, .int x5)] [] := w4_poweri_5 h  f _ _ _ _ hF
def f4_power (fu : Nat) (x0 : Int64) (x2 : Int32) : Option (Int64) :=
    (f4_power_5 fu fu x0 x2 (1 : Int64) (0 : Int32))
set_option maxHeartbeats 4000000 in
set_option maxRecDepth 10000 in
theorem w4_power {ad : Nat → Nat} {X : XX} {R : Int64} {M : Mem} {fu : Nat} (h : Cx layC ad X cX4_power RX4 6 1 (some .long) M (some (.long R))) {x0 : Int64} {x2 : Int32} (hF : f4_power fu x0 x2 = some R) : Wp layC ad X M 0 [(0, .long x0), (2, .int x2)] [] := by
  unfold f4_power at hF
  refine R_lconst (pc := 0) (v := 1) h (by decide) dX4_power_0 ?_
  refine R_lstore_n (pc := 1) (lv' := [(3, .long (1 : Int64)), (0, .long x0), (2, .int x2)]) h rfl rfl (by decide) rfl dX4_power_1 ?_
  refine R_iconst (pc := 2) (v := 0) h (by decide) dX4_power_2 ?_
  refine R_istore (pc := 3) (lv' := [(5, .int (0 : Int32)), (3, .long (1 : Int64)), (0, .long x0), (2, .int x2)]) h rfl (by decide) rfl dX4_power_3 ?_
  exact Wp_sub (nX := 0) (lv' := [(0, .long x0), (2, .int x2), (3, .long (1 : Int64)), (5, .int (0 : Int32))]) [2, 3, 1, 0] rfl (w4_power_5 h  (hF := hF))
theorem c4_power {ad : Nat → Nat} {z : ZZ} {R : Int64} {M : Mem} {fu : Nat} {x0 : Int64} {x2 : Int32} (hF : f4_power fu x0 x2 = some R) : Con layC ad z yX4_power cX4_power 6 (some .long) 1 M [.long x0, .int x2] (M) (some (.long R)) := con_of (own := RX4) (lv := [(0, .long x0), (2, .int x2)]) (by decide +kernel) rfl (Nat.le_of_ble_eq_true rfl) rfl (fun X hz h => w4_power h hF)
