theorem dX2_countOfKind_0 : decode cX2_countOfKind 0 = .ok (.iconst 0, 1) := by decide +kernel
theorem dX2_countOfKind_1 : decode cX2_countOfKind 1 = .ok (.istore_n 2, 1) := by decide +kernel
theorem dX2_countOfKind_2 : decode cX2_countOfKind 2 = .ok (.iconst 0, 1) := by decide +kernel
theorem dX2_countOfKind_3 : decode cX2_countOfKind 3 = .ok (.istore_n 3, 1) := by decide +kernel
theorem dX2_countOfKind_4 : decode cX2_countOfKind 4 = .ok (.iload_n 3, 1) := by decide +kernel
theorem dX2_countOfKind_5 : decode cX2_countOfKind 5 = .ok (.aload_n 0, 1) := by decide +kernel
theorem dX2_countOfKind_6 : decode cX2_countOfKind 6 = .ok (.getfield 9, 3) := by decide +kernel
theorem dX2_countOfKind_9 : decode cX2_countOfKind 9 = .ok (.if_icmp .ge 25, 3) := by decide +kernel
theorem dX2_countOfKind_12 : decode cX2_countOfKind 12 = .ok (.aload_n 0, 1) := by decide +kernel
theorem dX2_countOfKind_13 : decode cX2_countOfKind 13 = .ok (.getfield 15, 3) := by decide +kernel
theorem dX2_countOfKind_16 : decode cX2_countOfKind 16 = .ok (.iload_n 3, 1) := by decide +kernel
theorem dX2_countOfKind_17 : decode cX2_countOfKind 17 = .ok (.iaload, 1) := by decide +kernel
theorem dX2_countOfKind_18 : decode cX2_countOfKind 18 = .ok (.iload_n 1, 1) := by decide +kernel
theorem dX2_countOfKind_19 : decode cX2_countOfKind 19 = .ok (.invokestatic 105, 3) := by decide +kernel
theorem dX2_countOfKind_22 : decode cX2_countOfKind 22 = .ok (.ifCond .eq 6, 3) := by decide +kernel
theorem dX2_countOfKind_25 : decode cX2_countOfKind 25 = .ok (.iinc 2 1, 3) := by decide +kernel
theorem dX2_countOfKind_28 : decode cX2_countOfKind 28 = .ok (.iinc 3 1, 3) := by decide +kernel
theorem dX2_countOfKind_31 : decode cX2_countOfKind 31 = .ok (.goto (-27), 3) := by decide +kernel
theorem dX2_countOfKind_34 : decode cX2_countOfKind 34 = .ok (.iload_n 2, 1) := by decide +kernel
theorem dX2_countOfKind_35 : decode cX2_countOfKind 35 = .ok (.ireturn, 1) := by decide +kernel
theorem dX4_countOf_0 : decode cX4_countOf 0 = .ok (.iload_n 1, 1) := by decide +kernel
theorem dX4_countOf_1 : decode cX4_countOf 1 = .ok (.tableswitch 142 0 9 #[55, 66, 74, 85, 93, 101, 109, 117, 125, 130], 55) := by decide +kernel
theorem dX4_countOf_56 : decode cX4_countOf 56 = .ok (.aload_n 0, 1) := by decide +kernel
theorem dX4_countOf_57 : decode cX4_countOf 57 = .ok (.getfield 27, 3) := by decide +kernel
theorem dX4_countOf_60 : decode cX4_countOf 60 = .ok (.getfield 104, 3) := by decide +kernel
theorem dX4_countOf_63 : decode cX4_countOf 63 = .ok (.getfield 121, 3) := by decide +kernel
theorem dX4_countOf_66 : decode cX4_countOf 66 = .ok (.ireturn, 1) := by decide +kernel
theorem dX4_countOf_67 : decode cX4_countOf 67 = .ok (.aload_n 0, 1) := by decide +kernel
theorem dX4_countOf_68 : decode cX4_countOf 68 = .ok (.getfield 27, 3) := by decide +kernel
theorem dX4_countOf_71 : decode cX4_countOf 71 = .ok (.getfield 151, 3) := by decide +kernel
theorem dX4_countOf_74 : decode cX4_countOf 74 = .ok (.ireturn, 1) := by decide +kernel
theorem dX4_countOf_75 : decode cX4_countOf 75 = .ok (.aload_n 0, 1) := by decide +kernel
theorem dX4_countOf_76 : decode cX4_countOf 76 = .ok (.getfield 27, 3) := by decide +kernel
theorem dX4_countOf_79 : decode cX4_countOf 79 = .ok (.getfield 172, 3) := by decide +kernel
theorem dX4_countOf_82 : decode cX4_countOf 82 = .ok (.getfield 118, 3) := by decide +kernel
theorem dX4_countOf_85 : decode cX4_countOf 85 = .ok (.ireturn, 1) := by decide +kernel
theorem dX4_countOf_86 : decode cX4_countOf 86 = .ok (.aload_n 0, 1) := by decide +kernel
theorem dX4_countOf_87 : decode cX4_countOf 87 = .ok (.getfield 27, 3) := by decide +kernel
theorem dX4_countOf_90 : decode cX4_countOf 90 = .ok (.getfield 164, 3) := by decide +kernel
theorem dX4_countOf_93 : decode cX4_countOf 93 = .ok (.ireturn, 1) := by decide +kernel
theorem dX4_countOf_94 : decode cX4_countOf 94 = .ok (.aload_n 0, 1) := by decide +kernel
theorem dX4_countOf_95 : decode cX4_countOf 95 = .ok (.getfield 27, 3) := by decide +kernel
theorem dX4_countOf_98 : decode cX4_countOf 98 = .ok (.invokevirtual 212, 3) := by decide +kernel
theorem dX4_countOf_101 : decode cX4_countOf 101 = .ok (.ireturn, 1) := by decide +kernel
theorem dX4_countOf_102 : decode cX4_countOf 102 = .ok (.aload_n 0, 1) := by decide +kernel
theorem dX4_countOf_103 : decode cX4_countOf 103 = .ok (.getfield 27, 3) := by decide +kernel
theorem dX4_countOf_106 : decode cX4_countOf 106 = .ok (.getfield 199, 3) := by decide +kernel
theorem dX4_countOf_109 : decode cX4_countOf 109 = .ok (.ireturn, 1) := by decide +kernel
theorem dX4_countOf_110 : decode cX4_countOf 110 = .ok (.aload_n 0, 1) := by decide +kernel
theorem dX4_countOf_111 : decode cX4_countOf 111 = .ok (.getfield 11, 3) := by decide +kernel
theorem dX4_countOf_114 : decode cX4_countOf 114 = .ok (.invokestatic 293, 3) := by decide +kernel
theorem dX4_countOf_117 : decode cX4_countOf 117 = .ok (.ireturn, 1) := by decide +kernel
theorem dX4_countOf_118 : decode cX4_countOf 118 = .ok (.aload_n 0, 1) := by decide +kernel
theorem dX4_countOf_119 : decode cX4_countOf 119 = .ok (.getfield 15, 3) := by decide +kernel
theorem dX4_countOf_122 : decode cX4_countOf 122 = .ok (.invokestatic 293, 3) := by decide +kernel
theorem dX4_countOf_125 : decode cX4_countOf 125 = .ok (.ireturn, 1) := by decide +kernel
theorem dX4_countOf_126 : decode cX4_countOf 126 = .ok (.aload_n 0, 1) := by decide +kernel
theorem dX4_countOf_127 : decode cX4_countOf 127 = .ok (.invokevirtual 297, 3) := by decide +kernel
theorem dX4_countOf_130 : decode cX4_countOf 130 = .ok (.ireturn, 1) := by decide +kernel
theorem dX4_countOf_131 : decode cX4_countOf 131 = .ok (.aload_n 0, 1) := by decide +kernel
theorem dX4_countOf_132 : decode cX4_countOf 132 = .ok (.getfield 27, 3) := by decide +kernel
theorem dX4_countOf_135 : decode cX4_countOf 135 = .ok (.getfield 104, 3) := by decide +kernel
theorem dX4_countOf_138 : decode cX4_countOf 138 = .ok (.iconst 1, 1) := by decide +kernel
theorem dX4_countOf_139 : decode cX4_countOf 139 = .ok (.invokevirtual 300, 3) := by decide +kernel
theorem dX4_countOf_142 : decode cX4_countOf 142 = .ok (.ireturn, 1) := by decide +kernel
theorem dX4_countOf_143 : decode cX4_countOf 143 = .ok (.aload_n 0, 1) := by decide +kernel
theorem dX4_countOf_144 : decode cX4_countOf 144 = .ok (.getfield 27, 3) := by decide +kernel
theorem dX4_countOf_147 : decode cX4_countOf 147 = .ok (.getfield 104, 3) := by decide +kernel
theorem dX4_countOf_150 : decode cX4_countOf 150 = .ok (.iconst 2, 1) := by decide +kernel
theorem dX4_countOf_151 : decode cX4_countOf 151 = .ok (.invokevirtual 300, 3) := by decide +kernel
theorem dX4_countOf_154 : decode cX4_countOf 154 = .ok (.ireturn, 1) := by decide +kernel
theorem dX4_count_0 : decode cX4_count 0 = .ok (.iload_n 1, 1) := by decide +kernel
theorem dX4_count_1 : decode cX4_count 1 = .ok (.ifCond .lt 9, 3) := by decide +kernel
theorem dX4_count_4 : decode cX4_count 4 = .ok (.iload_n 1, 1) := by decide +kernel
theorem dX4_count_5 : decode cX4_count 5 = .ok (.bipush 11, 2) := by decide +kernel
theorem dX4_count_7 : decode cX4_count 7 = .ok (.if_icmp .lt 7, 3) := by decide +kernel
theorem dX4_count_10 : decode cX4_count 10 = .ok (.iconst (-1), 1) := by decide +kernel
theorem dX4_count_11 : decode cX4_count 11 = .ok (.goto 8, 3) := by decide +kernel
theorem dX4_count_14 : decode cX4_count 14 = .ok (.aload_n 0, 1) := by decide +kernel
theorem dX4_count_15 : decode cX4_count 15 = .ok (.iload_n 1, 1) := by decide +kernel
theorem dX4_count_16 : decode cX4_count 16 = .ok (.invokevirtual 276, 3) := by decide +kernel
theorem dX4_count_19 : decode cX4_count 19 = .ok (.ireturn, 1) := by decide +kernel
theorem dX4_refusePlace_0 : decode cX4_refusePlace 0 = .ok (.aload_n 0, 1) := by decide +kernel
theorem dX4_refusePlace_1 : decode cX4_refusePlace 1 = .ok (.aload_n 1, 1) := by decide +kernel
theorem dX4_refusePlace_2 : decode cX4_refusePlace 2 = .ok (.invokevirtual 71, 3) := by decide +kernel
theorem dX4_refusePlace_5 : decode cX4_refusePlace 5 = .ok (.istore_n 3, 1) := by decide +kernel
theorem dX4_refusePlace_6 : decode cX4_refusePlace 6 = .ok (.aload_n 1, 1) := by decide +kernel
theorem dX4_refusePlace_7 : decode cX4_refusePlace 7 = .ok (.ifnull 7, 3) := by decide +kernel
theorem dX4_refusePlace_10 : decode cX4_refusePlace 10 = .ok (.iload_n 3, 1) := by decide +kernel
theorem dX4_refusePlace_11 : decode cX4_refusePlace 11 = .ok (.ifCond .eq 5, 3) := by decide +kernel
theorem dX4_refusePlace_14 : decode cX4_refusePlace 14 = .ok (.iload_n 3, 1) := by decide +kernel
theorem dX4_refusePlace_15 : decode cX4_refusePlace 15 = .ok (.ireturn, 1) := by decide +kernel
theorem dX4_refusePlace_16 : decode cX4_refusePlace 16 = .ok (.aload_n 1, 1) := by decide +kernel
theorem dX4_refusePlace_17 : decode cX4_refusePlace 17 = .ok (.iload_n 2, 1) := by decide +kernel
theorem dX4_refusePlace_18 : decode cX4_refusePlace 18 = .ok (.invokevirtual 290, 3) := by decide +kernel
theorem dX4_refusePlace_21 : decode cX4_refusePlace 21 = .ok (.ifCond .eq 7, 3) := by decide +kernel
theorem dX4_refusePlace_24 : decode cX4_refusePlace 24 = .ok (.iconst 0, 1) := by decide +kernel
theorem dX4_refusePlace_25 : decode cX4_refusePlace 25 = .ok (.goto 8, 3) := by decide +kernel
theorem dX4_refusePlace_28 : decode cX4_refusePlace 28 = .ok (.aload_n 0, 1) := by decide +kernel
theorem dX4_refusePlace_29 : decode cX4_refusePlace 29 = .ok (.iconst 2, 1) := by decide +kernel
theorem dX4_refusePlace_30 : decode cX4_refusePlace 30 = .ok (.invokevirtual 78, 3) := by decide +kernel
theorem dX4_refusePlace_33 : decode cX4_refusePlace 33 = .ok (.ireturn, 1) := by decide +kernel
theorem dX0_hasCell_0 : decode cX0_hasCell 0 = .ok (.iload_n 1, 1) := by decide +kernel
theorem dX0_hasCell_1 : decode cX0_hasCell 1 = .ok (.ifCond .lt 15, 3) := by decide +kernel
theorem dX0_hasCell_4 : decode cX0_hasCell 4 = .ok (.iload_n 1, 1) := by decide +kernel
theorem dX0_hasCell_5 : decode cX0_hasCell 5 = .ok (.aload_n 0, 1) := by decide +kernel
theorem dX0_hasCell_6 : decode cX0_hasCell 6 = .ok (.getfield 9, 3) := by decide +kernel
theorem dX0_hasCell_9 : decode cX0_hasCell 9 = .ok (.if_icmp .ge 7, 3) := by decide +kernel
theorem dX0_hasCell_12 : decode cX0_hasCell 12 = .ok (.iconst 1, 1) := by decide +kernel
theorem dX0_hasCell_13 : decode cX0_hasCell 13 = .ok (.goto 4, 3) := by decide +kernel
theorem dX0_hasCell_16 : decode cX0_hasCell 16 = .ok (.iconst 0, 1) := by decide +kernel
theorem dX0_hasCell_17 : decode cX0_hasCell 17 = .ok (.ireturn, 1) := by decide +kernel
theorem dX0_setCell_0 : decode cX0_setCell 0 = .ok (.iload_n 1, 1) := by decide +kernel
theorem dX0_setCell_1 : decode cX0_setCell 1 = .ok (.ifCond .lt 19, 3) := by decide +kernel
theorem dX0_setCell_4 : decode cX0_setCell 4 = .ok (.iload_n 1, 1) := by decide +kernel
theorem dX0_setCell_5 : decode cX0_setCell 5 = .ok (.aload_n 0, 1) := by decide +kernel
theorem dX0_setCell_6 : decode cX0_setCell 6 = .ok (.getfield 15, 3) := by decide +kernel
theorem dX0_setCell_9 : decode cX0_setCell 9 = .ok (.arraylength, 1) := by decide +kernel
theorem dX0_setCell_10 : decode cX0_setCell 10 = .ok (.if_icmp .ge 10, 3) := by decide +kernel
theorem dX0_setCell_13 : decode cX0_setCell 13 = .ok (.aload_n 0, 1) := by decide +kernel
theorem dX0_setCell_14 : decode cX0_setCell 14 = .ok (.getfield 15, 3) := by decide +kernel
theorem dX0_setCell_17 : decode cX0_setCell 17 = .ok (.iload_n 1, 1) := by decide +kernel
theorem dX0_setCell_18 : decode cX0_setCell 18 = .ok (.iload_n 2, 1) := by decide +kernel
theorem dX0_setCell_19 : decode cX0_setCell 19 = .ok (.iastore, 1) := by decide +kernel
theorem dX0_setCell_20 : decode cX0_setCell 20 = .ok (.return_, 1) := by decide +kernel
theorem dX4_put_0 : decode cX4_put 0 = .ok (.aload_n 0, 1) := by decide +kernel
theorem dX4_put_1 : decode cX4_put 1 = .ok (.iload_n 1, 1) := by decide +kernel
theorem dX4_put_2 : decode cX4_put 2 = .ok (.invokevirtual 98, 3) := by decide +kernel
theorem dX4_put_5 : decode cX4_put 5 = .ok (.astore 4, 2) := by decide +kernel
theorem dX4_put_7 : decode cX4_put 7 = .ok (.aload_n 0, 1) := by decide +kernel
theorem dX4_put_8 : decode cX4_put 8 = .ok (.aload 4, 2) := by decide +kernel
theorem dX4_put_10 : decode cX4_put 10 = .ok (.iload_n 2, 1) := by decide +kernel
theorem dX4_put_11 : decode cX4_put 11 = .ok (.invokevirtual 59, 3) := by decide +kernel
theorem dX4_put_14 : decode cX4_put 14 = .ok (.istore 5, 2) := by decide +kernel
theorem dX4_put_16 : decode cX4_put 16 = .ok (.aload 4, 2) := by decide +kernel
theorem dX4_put_18 : decode cX4_put 18 = .ok (.ifnull 8, 3) := by decide +kernel
theorem dX4_put_21 : decode cX4_put 21 = .ok (.iload 5, 2) := by decide +kernel
theorem dX4_put_23 : decode cX4_put 23 = .ok (.ifCond .eq 6, 3) := by decide +kernel
theorem dX4_put_26 : decode cX4_put 26 = .ok (.iload 5, 2) := by decide +kernel
theorem dX4_put_28 : decode cX4_put 28 = .ok (.ireturn, 1) := by decide +kernel
theorem dX4_put_29 : decode cX4_put 29 = .ok (.aload 4, 2) := by decide +kernel
theorem dX4_put_31 : decode cX4_put 31 = .ok (.iload_n 2, 1) := by decide +kernel
theorem dX4_put_32 : decode cX4_put 32 = .ok (.invokevirtual 63, 3) := by decide +kernel
theorem dX4_put_35 : decode cX4_put 35 = .ok (.istore 6, 2) := by decide +kernel
theorem dX4_put_37 : decode cX4_put 37 = .ok (.aload 4, 2) := by decide +kernel
theorem dX4_put_39 : decode cX4_put 39 = .ok (.iload_n 2, 1) := by decide +kernel
theorem dX4_put_40 : decode cX4_put 40 = .ok (.iload_n 3, 1) := by decide +kernel
theorem dX4_put_41 : decode cX4_put 41 = .ok (.i2b, 1) := by decide +kernel
theorem dX4_put_42 : decode cX4_put 42 = .ok (.invokevirtual 67, 3) := by decide +kernel
theorem dX4_put_45 : decode cX4_put 45 = .ok (.iload 6, 2) := by decide +kernel
theorem dX4_put_47 : decode cX4_put 47 = .ok (.sipush 1000, 3) := by decide +kernel
theorem dX4_put_50 : decode cX4_put 50 = .ok (.iadd, 1) := by decide +kernel
theorem dX4_put_51 : decode cX4_put 51 = .ok (.ireturn, 1) := by decide +kernel
theorem dX4_keptAt_0 : decode cX4_keptAt 0 = .ok (.iload_n 1, 1) := by decide +kernel
theorem dX4_keptAt_1 : decode cX4_keptAt 1 = .ok (.ifCond .lt 17, 3) := by decide +kernel
theorem dX4_keptAt_4 : decode cX4_keptAt 4 = .ok (.iload_n 1, 1) := by decide +kernel
theorem dX4_keptAt_5 : decode cX4_keptAt 5 = .ok (.iconst 3, 1) := by decide +kernel
theorem dX4_keptAt_6 : decode cX4_keptAt 6 = .ok (.if_icmp .ge 12, 3) := by decide +kernel
theorem dX4_keptAt_9 : decode cX4_keptAt 9 = .ok (.aload_n 0, 1) := by decide +kernel
theorem dX4_keptAt_10 : decode cX4_keptAt 10 = .ok (.getfield 20, 3) := by decide +kernel
theorem dX4_keptAt_13 : decode cX4_keptAt 13 = .ok (.iload_n 1, 1) := by decide +kernel
theorem dX4_keptAt_14 : decode cX4_keptAt 14 = .ok (.aaload, 1) := by decide +kernel
theorem dX4_keptAt_15 : decode cX4_keptAt 15 = .ok (.goto 4, 3) := by decide +kernel
theorem dX4_keptAt_18 : decode cX4_keptAt 18 = .ok (.aconst_null, 1) := by decide +kernel
theorem dX4_keptAt_19 : decode cX4_keptAt 19 = .ok (.areturn, 1) := by decide +kernel
theorem dX1_takeOver_0 : decode cX1_takeOver 0 = .ok (.aload_n 0, 1) := by decide +kernel
theorem dX1_takeOver_1 : decode cX1_takeOver 1 = .ok (.aload_n 1, 1) := by decide +kernel
theorem dX1_takeOver_2 : decode cX1_takeOver 2 = .ok (.getfield 9, 3) := by decide +kernel
theorem dX1_takeOver_5 : decode cX1_takeOver 5 = .ok (.putfield 9, 3) := by decide +kernel
theorem dX1_takeOver_8 : decode cX1_takeOver 8 = .ok (.iconst 0, 1) := by decide +kernel
theorem dX1_takeOver_9 : decode cX1_takeOver 9 = .ok (.istore_n 2, 1) := by decide +kernel
theorem dX1_takeOver_10 : decode cX1_takeOver 10 = .ok (.iload_n 2, 1) := by decide +kernel
theorem dX1_takeOver_11 : decode cX1_takeOver 11 = .ok (.bipush 40, 2) := by decide +kernel
theorem dX1_takeOver_13 : decode cX1_takeOver 13 = .ok (.if_icmp .ge 21, 3) := by decide +kernel
theorem dX1_takeOver_16 : decode cX1_takeOver 16 = .ok (.aload_n 0, 1) := by decide +kernel
theorem dX1_takeOver_17 : decode cX1_takeOver 17 = .ok (.getfield 15, 3) := by decide +kernel
theorem dX1_takeOver_20 : decode cX1_takeOver 20 = .ok (.iload_n 2, 1) := by decide +kernel
theorem dX1_takeOver_21 : decode cX1_takeOver 21 = .ok (.aload_n 1, 1) := by decide +kernel
theorem dX1_takeOver_22 : decode cX1_takeOver 22 = .ok (.getfield 15, 3) := by decide +kernel
theorem dX1_takeOver_25 : decode cX1_takeOver 25 = .ok (.iload_n 2, 1) := by decide +kernel
theorem dX1_takeOver_26 : decode cX1_takeOver 26 = .ok (.iaload, 1) := by decide +kernel
theorem dX1_takeOver_27 : decode cX1_takeOver 27 = .ok (.iastore, 1) := by decide +kernel
theorem dX1_takeOver_28 : decode cX1_takeOver 28 = .ok (.iinc 2 1, 3) := by decide +kernel
theorem dX1_takeOver_31 : decode cX1_takeOver 31 = .ok (.goto (-21), 3) := by decide +kernel
theorem dX1_takeOver_34 : decode cX1_takeOver 34 = .ok (.return_, 1) := by decide +kernel
theorem dX4_keep_0 : decode cX4_keep 0 = .ok (.aload_n 0, 1) := by decide +kernel
theorem dX4_keep_1 : decode cX4_keep 1 = .ok (.iload_n 1, 1) := by decide +kernel
theorem dX4_keep_2 : decode cX4_keep 2 = .ok (.invokevirtual 176, 3) := by decide +kernel
theorem dX4_keep_5 : decode cX4_keep 5 = .ok (.astore_n 2, 1) := by decide +kernel
theorem dX4_keep_6 : decode cX4_keep 6 = .ok (.aload_n 2, 1) := by decide +kernel
theorem dX4_keep_7 : decode cX4_keep 7 = .ok (.ifnonnull 5, 3) := by decide +kernel
theorem dX4_keep_10 : decode cX4_keep 10 = .ok (.iconst (-1), 1) := by decide +kernel
theorem dX4_keep_11 : decode cX4_keep 11 = .ok (.ireturn, 1) := by decide +kernel
theorem dX4_keep_12 : decode cX4_keep 12 = .ok (.aload_n 0, 1) := by decide +kernel
theorem dX4_keep_13 : decode cX4_keep 13 = .ok (.getfield 27, 3) := by decide +kernel
theorem dX4_keep_16 : decode cX4_keep 16 = .ok (.getfield 104, 3) := by decide +kernel
theorem dX4_keep_19 : decode cX4_keep 19 = .ok (.getfield 121, 3) := by decide +kernel
theorem dX4_keep_22 : decode cX4_keep 22 = .ok (.ifCond .ne 6, 3) := by decide +kernel
theorem dX4_keep_25 : decode cX4_keep 25 = .ok (.bipush (-4), 2) := by decide +kernel
theorem dX4_keep_27 : decode cX4_keep 27 = .ok (.ireturn, 1) := by decide +kernel
theorem dX4_keep_28 : decode cX4_keep 28 = .ok (.aload_n 2, 1) := by decide +kernel
theorem dX4_keep_29 : decode cX4_keep 29 = .ok (.aload_n 0, 1) := by decide +kernel
theorem dX4_keep_30 : decode cX4_keep 30 = .ok (.getfield 27, 3) := by decide +kernel
theorem dX4_keep_33 : decode cX4_keep 33 = .ok (.getfield 172, 3) := by decide +kernel
theorem dX4_keep_36 : decode cX4_keep 36 = .ok (.invokevirtual 180, 3) := by decide +kernel
theorem dX4_keep_39 : decode cX4_keep 39 = .ok (.aload_n 2, 1) := by decide +kernel
theorem dX4_keep_40 : decode cX4_keep 40 = .ok (.getfield 118, 3) := by decide +kernel
theorem dX4_keep_43 : decode cX4_keep 43 = .ok (.ireturn, 1) := by decide +kernel
theorem dX2_isSet_0 : decode cX2_isSet 0 = .ok (.iload_n 0, 1) := by decide +kernel
theorem dX2_isSet_1 : decode cX2_isSet 1 = .ok (.ifCond .lt 14, 3) := by decide +kernel
theorem dX2_isSet_4 : decode cX2_isSet 4 = .ok (.iload_n 0, 1) := by decide +kernel
theorem dX2_isSet_5 : decode cX2_isSet 5 = .ok (.sipush 256, 3) := by decide +kernel
theorem dX2_isSet_8 : decode cX2_isSet 8 = .ok (.if_icmp .ge 7, 3) := by decide +kernel
theorem dX2_isSet_11 : decode cX2_isSet 11 = .ok (.iconst 1, 1) := by decide +kernel
theorem dX2_isSet_12 : decode cX2_isSet 12 = .ok (.goto 4, 3) := by decide +kernel
theorem dX2_isSet_15 : decode cX2_isSet 15 = .ok (.iconst 0, 1) := by decide +kernel
theorem dX2_isSet_16 : decode cX2_isSet 16 = .ok (.ireturn, 1) := by decide +kernel
theorem dX2_sumOf_0 : decode cX2_sumOf 0 = .ok (.iload_n 1, 1) := by decide +kernel
theorem dX2_sumOf_1 : decode cX2_sumOf 1 = .ok (.invokestatic 50, 3) := by decide +kernel
theorem dX2_sumOf_4 : decode cX2_sumOf 4 = .ok (.ifCond .eq 12, 3) := by decide +kernel
theorem dX2_sumOf_7 : decode cX2_sumOf 7 = .ok (.aload_n 0, 1) := by decide +kernel
theorem dX2_sumOf_8 : decode cX2_sumOf 8 = .ok (.getfield 40, 3) := by decide +kernel
theorem dX2_sumOf_11 : decode cX2_sumOf 11 = .ok (.iload_n 1, 1) := by decide +kernel
theorem dX2_sumOf_12 : decode cX2_sumOf 12 = .ok (.iaload, 1) := by decide +kernel
theorem dX2_sumOf_13 : decode cX2_sumOf 13 = .ok (.goto 4, 3) := by decide +kernel
theorem dX2_sumOf_16 : decode cX2_sumOf 16 = .ok (.iconst 0, 1) := by decide +kernel
theorem dX2_sumOf_17 : decode cX2_sumOf 17 = .ok (.ireturn, 1) := by decide +kernel
theorem dJ6_bitCount_0f7a4_0 : decode cJ6_bitCount_0f7a4 0 = .ok (.iload_n 0, 1) := by decide +kernel
theorem dJ6_bitCount_0f7a4_1 : decode cJ6_bitCount_0f7a4 1 = .ok (.iload_n 0, 1) := by decide +kernel
theorem dJ6_bitCount_0f7a4_2 : decode cJ6_bitCount_0f7a4 2 = .ok (.iconst 1, 1) := by decide +kernel
theorem dJ6_bitCount_0f7a4_3 : decode cJ6_bitCount_0f7a4 3 = .ok (.iushr, 1) := by decide +kernel
theorem dJ6_bitCount_0f7a4_4 : decode cJ6_bitCount_0f7a4 4 = .ok (.ldc_w 265, 3) := by decide +kernel
theorem dJ6_bitCount_0f7a4_7 : decode cJ6_bitCount_0f7a4 7 = .ok (.iand, 1) := by decide +kernel
theorem dJ6_bitCount_0f7a4_8 : decode cJ6_bitCount_0f7a4 8 = .ok (.isub, 1) := by decide +kernel
theorem dJ6_bitCount_0f7a4_9 : decode cJ6_bitCount_0f7a4 9 = .ok (.istore_n 0, 1) := by decide +kernel
theorem dJ6_bitCount_0f7a4_10 : decode cJ6_bitCount_0f7a4 10 = .ok (.iload_n 0, 1) := by decide +kernel
theorem dJ6_bitCount_0f7a4_11 : decode cJ6_bitCount_0f7a4 11 = .ok (.ldc_w 266, 3) := by decide +kernel
theorem dJ6_bitCount_0f7a4_14 : decode cJ6_bitCount_0f7a4 14 = .ok (.iand, 1) := by decide +kernel
theorem dJ6_bitCount_0f7a4_15 : decode cJ6_bitCount_0f7a4 15 = .ok (.iload_n 0, 1) := by decide +kernel
theorem dJ6_bitCount_0f7a4_16 : decode cJ6_bitCount_0f7a4 16 = .ok (.iconst 2, 1) := by decide +kernel
theorem dJ6_bitCount_0f7a4_17 : decode cJ6_bitCount_0f7a4 17 = .ok (.iushr, 1) := by decide +kernel
theorem dJ6_bitCount_0f7a4_18 : decode cJ6_bitCount_0f7a4 18 = .ok (.ldc_w 266, 3) := by decide +kernel
theorem dJ6_bitCount_0f7a4_21 : decode cJ6_bitCount_0f7a4 21 = .ok (.iand, 1) := by decide +kernel
theorem dJ6_bitCount_0f7a4_22 : decode cJ6_bitCount_0f7a4 22 = .ok (.iadd, 1) := by decide +kernel
theorem dJ6_bitCount_0f7a4_23 : decode cJ6_bitCount_0f7a4 23 = .ok (.istore_n 0, 1) := by decide +kernel
theorem dJ6_bitCount_0f7a4_24 : decode cJ6_bitCount_0f7a4 24 = .ok (.iload_n 0, 1) := by decide +kernel
theorem dJ6_bitCount_0f7a4_25 : decode cJ6_bitCount_0f7a4 25 = .ok (.iload_n 0, 1) := by decide +kernel
theorem dJ6_bitCount_0f7a4_26 : decode cJ6_bitCount_0f7a4 26 = .ok (.iconst 4, 1) := by decide +kernel
theorem dJ6_bitCount_0f7a4_27 : decode cJ6_bitCount_0f7a4 27 = .ok (.iushr, 1) := by decide +kernel
theorem dJ6_bitCount_0f7a4_28 : decode cJ6_bitCount_0f7a4 28 = .ok (.iadd, 1) := by decide +kernel
theorem dJ6_bitCount_0f7a4_29 : decode cJ6_bitCount_0f7a4 29 = .ok (.ldc_w 267, 3) := by decide +kernel
theorem dJ6_bitCount_0f7a4_32 : decode cJ6_bitCount_0f7a4 32 = .ok (.iand, 1) := by decide +kernel
theorem dJ6_bitCount_0f7a4_33 : decode cJ6_bitCount_0f7a4 33 = .ok (.istore_n 0, 1) := by decide +kernel
theorem dJ6_bitCount_0f7a4_34 : decode cJ6_bitCount_0f7a4 34 = .ok (.iload_n 0, 1) := by decide +kernel
theorem dJ6_bitCount_0f7a4_35 : decode cJ6_bitCount_0f7a4 35 = .ok (.iload_n 0, 1) := by decide +kernel
theorem dJ6_bitCount_0f7a4_36 : decode cJ6_bitCount_0f7a4 36 = .ok (.bipush 8, 2) := by decide +kernel
theorem dJ6_bitCount_0f7a4_38 : decode cJ6_bitCount_0f7a4 38 = .ok (.iushr, 1) := by decide +kernel
theorem dJ6_bitCount_0f7a4_39 : decode cJ6_bitCount_0f7a4 39 = .ok (.iadd, 1) := by decide +kernel
theorem dJ6_bitCount_0f7a4_40 : decode cJ6_bitCount_0f7a4 40 = .ok (.istore_n 0, 1) := by decide +kernel
theorem dJ6_bitCount_0f7a4_41 : decode cJ6_bitCount_0f7a4 41 = .ok (.iload_n 0, 1) := by decide +kernel
theorem dJ6_bitCount_0f7a4_42 : decode cJ6_bitCount_0f7a4 42 = .ok (.iload_n 0, 1) := by decide +kernel
theorem dJ6_bitCount_0f7a4_43 : decode cJ6_bitCount_0f7a4 43 = .ok (.bipush 16, 2) := by decide +kernel
theorem dJ6_bitCount_0f7a4_45 : decode cJ6_bitCount_0f7a4 45 = .ok (.iushr, 1) := by decide +kernel
theorem dJ6_bitCount_0f7a4_46 : decode cJ6_bitCount_0f7a4 46 = .ok (.iadd, 1) := by decide +kernel
theorem dJ6_bitCount_0f7a4_47 : decode cJ6_bitCount_0f7a4 47 = .ok (.istore_n 0, 1) := by decide +kernel
theorem dJ6_bitCount_0f7a4_48 : decode cJ6_bitCount_0f7a4 48 = .ok (.iload_n 0, 1) := by decide +kernel
theorem dJ6_bitCount_0f7a4_49 : decode cJ6_bitCount_0f7a4 49 = .ok (.bipush 63, 2) := by decide +kernel
theorem dJ6_bitCount_0f7a4_51 : decode cJ6_bitCount_0f7a4 51 = .ok (.iand, 1) := by decide +kernel
theorem dJ6_bitCount_0f7a4_52 : decode cJ6_bitCount_0f7a4 52 = .ok (.ireturn, 1) := by decide +kernel
theorem dX4_clashes_0 : decode cX4_clashes 0 = .ok (.aload_n 0, 1) := by decide +kernel
theorem dX4_clashes_1 : decode cX4_clashes 1 = .ok (.getfield 27, 3) := by decide +kernel
theorem dX4_clashes_4 : decode cX4_clashes 4 = .ok (.getfield 104, 3) := by decide +kernel
theorem dX4_clashes_7 : decode cX4_clashes 7 = .ok (.astore_n 1, 1) := by decide +kernel
theorem dX4_clashes_8 : decode cX4_clashes 8 = .ok (.iconst 0, 1) := by decide +kernel
theorem dX4_clashes_9 : decode cX4_clashes 9 = .ok (.istore_n 2, 1) := by decide +kernel
theorem dX4_clashes_10 : decode cX4_clashes 10 = .ok (.iconst 0, 1) := by decide +kernel
theorem dX4_clashes_11 : decode cX4_clashes 11 = .ok (.istore_n 3, 1) := by decide +kernel
theorem dX4_clashes_12 : decode cX4_clashes 12 = .ok (.iload_n 3, 1) := by decide +kernel
theorem dX4_clashes_13 : decode cX4_clashes 13 = .ok (.aload_n 1, 1) := by decide +kernel
theorem dX4_clashes_14 : decode cX4_clashes 14 = .ok (.getfield 121, 3) := by decide +kernel
theorem dX4_clashes_17 : decode cX4_clashes 17 = .ok (.if_icmp .ge 59, 3) := by decide +kernel
theorem dX4_clashes_20 : decode cX4_clashes 20 = .ok (.aload_n 0, 1) := by decide +kernel
theorem dX4_clashes_21 : decode cX4_clashes 21 = .ok (.getfield 27, 3) := by decide +kernel
theorem dX4_clashes_24 : decode cX4_clashes 24 = .ok (.getfield 164, 3) := by decide +kernel
theorem dX4_clashes_27 : decode cX4_clashes 27 = .ok (.iload_n 3, 1) := by decide +kernel
theorem dX4_clashes_28 : decode cX4_clashes 28 = .ok (.ishr, 1) := by decide +kernel
theorem dX4_clashes_29 : decode cX4_clashes 29 = .ok (.iconst 1, 1) := by decide +kernel
theorem dX4_clashes_30 : decode cX4_clashes 30 = .ok (.iand, 1) := by decide +kernel
theorem dX4_clashes_31 : decode cX4_clashes 31 = .ok (.ifCond .eq 39, 3) := by decide +kernel
theorem dX4_clashes_34 : decode cX4_clashes 34 = .ok (.aload_n 0, 1) := by decide +kernel
theorem dX4_clashes_35 : decode cX4_clashes 35 = .ok (.getfield 27, 3) := by decide +kernel
theorem dX4_clashes_38 : decode cX4_clashes 38 = .ok (.getfield 164, 3) := by decide +kernel
theorem dX4_clashes_41 : decode cX4_clashes 41 = .ok (.iconst 1, 1) := by decide +kernel
theorem dX4_clashes_42 : decode cX4_clashes 42 = .ok (.iload_n 3, 1) := by decide +kernel
theorem dX4_clashes_43 : decode cX4_clashes 43 = .ok (.ishl, 1) := by decide +kernel
theorem dX4_clashes_44 : decode cX4_clashes 44 = .ok (.iconst 1, 1) := by decide +kernel
theorem dX4_clashes_45 : decode cX4_clashes 45 = .ok (.isub, 1) := by decide +kernel
theorem dX4_clashes_46 : decode cX4_clashes 46 = .ok (.iand, 1) := by decide +kernel
theorem dX4_clashes_47 : decode cX4_clashes 47 = .ok (.istore 4, 2) := by decide +kernel
theorem dX4_clashes_49 : decode cX4_clashes 49 = .ok (.iload_n 2, 1) := by decide +kernel
theorem dX4_clashes_50 : decode cX4_clashes 50 = .ok (.iload 4, 2) := by decide +kernel
theorem dX4_clashes_52 : decode cX4_clashes 52 = .ok (.aload_n 1, 1) := by decide +kernel
theorem dX4_clashes_53 : decode cX4_clashes 53 = .ok (.aload_n 1, 1) := by decide +kernel
theorem dX4_clashes_54 : decode cX4_clashes 54 = .ok (.getfield 184, 3) := by decide +kernel
theorem dX4_clashes_57 : decode cX4_clashes 57 = .ok (.iload_n 3, 1) := by decide +kernel
theorem dX4_clashes_58 : decode cX4_clashes 58 = .ok (.iaload, 1) := by decide +kernel
theorem dX4_clashes_59 : decode cX4_clashes 59 = .ok (.invokevirtual 187, 3) := by decide +kernel
theorem dX4_clashes_62 : decode cX4_clashes 62 = .ok (.iconst (-1), 1) := by decide +kernel
theorem dX4_clashes_63 : decode cX4_clashes 63 = .ok (.ixor, 1) := by decide +kernel
theorem dX4_clashes_64 : decode cX4_clashes 64 = .ok (.iand, 1) := by decide +kernel
theorem dX4_clashes_65 : decode cX4_clashes 65 = .ok (.invokestatic 167, 3) := by decide +kernel
theorem dX4_clashes_68 : decode cX4_clashes 68 = .ok (.iadd, 1) := by decide +kernel
theorem dX4_clashes_69 : decode cX4_clashes 69 = .ok (.istore_n 2, 1) := by decide +kernel
theorem dX4_clashes_70 : decode cX4_clashes 70 = .ok (.iinc 3 1, 3) := by decide +kernel
theorem dX4_clashes_73 : decode cX4_clashes 73 = .ok (.goto (-61), 3) := by decide +kernel
theorem dX4_clashes_76 : decode cX4_clashes 76 = .ok (.aload_n 0, 1) := by decide +kernel
theorem dX4_clashes_77 : decode cX4_clashes 77 = .ok (.aload_n 1, 1) := by decide +kernel
theorem dX4_clashes_78 : decode cX4_clashes 78 = .ok (.aload_n 0, 1) := by decide +kernel
theorem dX4_clashes_79 : decode cX4_clashes 79 = .ok (.getfield 27, 3) := by decide +kernel
theorem dX4_clashes_82 : decode cX4_clashes 82 = .ok (.getfield 164, 3) := by decide +kernel
theorem dX4_clashes_85 : decode cX4_clashes 85 = .ok (.invokevirtual 190, 3) := by decide +kernel
theorem dX4_clashes_88 : decode cX4_clashes 88 = .ok (.putfield 39, 3) := by decide +kernel
theorem dX4_clashes_91 : decode cX4_clashes 91 = .ok (.iload_n 2, 1) := by decide +kernel
theorem dX4_clashes_92 : decode cX4_clashes 92 = .ok (.ireturn, 1) := by decide +kernel
theorem dX2_isApart_0 : decode cX2_isApart 0 = .ok (.iload_n 1, 1) := by decide +kernel
theorem dX2_isApart_1 : decode cX2_isApart 1 = .ok (.invokestatic 50, 3) := by decide +kernel
theorem dX2_isApart_4 : decode cX2_isApart 4 = .ok (.ifCond .eq 16, 3) := by decide +kernel
theorem dX2_isApart_7 : decode cX2_isApart 7 = .ok (.aload_n 0, 1) := by decide +kernel
theorem dX2_isApart_8 : decode cX2_isApart 8 = .ok (.getfield 43, 3) := by decide +kernel
theorem dX2_isApart_11 : decode cX2_isApart 11 = .ok (.iload_n 1, 1) := by decide +kernel
theorem dX2_isApart_12 : decode cX2_isApart 12 = .ok (.baload, 1) := by decide +kernel
theorem dX2_isApart_13 : decode cX2_isApart 13 = .ok (.ifCond .eq 7, 3) := by decide +kernel
theorem dX2_isApart_16 : decode cX2_isApart 16 = .ok (.iconst 1, 1) := by decide +kernel
theorem dX2_isApart_17 : decode cX2_isApart 17 = .ok (.goto 4, 3) := by decide +kernel
theorem dX2_isApart_20 : decode cX2_isApart 20 = .ok (.iconst 0, 1) := by decide +kernel
theorem dX2_isApart_21 : decode cX2_isApart 21 = .ok (.ireturn, 1) := by decide +kernel
theorem dX4_least_0 : decode cX4_least 0 = .ok (.aload_n 0, 1) := by decide +kernel
theorem dX4_least_1 : decode cX4_least 1 = .ok (.getfield 27, 3) := by decide +kernel
theorem dX4_least_4 : decode cX4_least 4 = .ok (.getfield 104, 3) := by decide +kernel
theorem dX4_least_7 : decode cX4_least 7 = .ok (.astore_n 1, 1) := by decide +kernel
theorem dX4_least_8 : decode cX4_least 8 = .ok (.bipush 9, 2) := by decide +kernel
theorem dX4_least_10 : decode cX4_least 10 = .ok (.istore_n 2, 1) := by decide +kernel
theorem dX4_least_11 : decode cX4_least 11 = .ok (.iconst 0, 1) := by decide +kernel
theorem dX4_least_12 : decode cX4_least 12 = .ok (.istore_n 3, 1) := by decide +kernel
theorem dX4_least_13 : decode cX4_least 13 = .ok (.iconst 0, 1) := by decide +kernel
theorem dX4_least_14 : decode cX4_least 14 = .ok (.istore 4, 2) := by decide +kernel
theorem dX4_least_16 : decode cX4_least 16 = .ok (.iload 4, 2) := by decide +kernel
theorem dX4_least_18 : decode cX4_least 18 = .ok (.aload_n 0, 1) := by decide +kernel
theorem dX4_least_19 : decode cX4_least 19 = .ok (.getfield 27, 3) := by decide +kernel
theorem dX4_least_22 : decode cX4_least 22 = .ok (.getfield 164, 3) := by decide +kernel
theorem dX4_least_25 : decode cX4_least 25 = .ok (.if_icmp .gt 73, 3) := by decide +kernel
theorem dX4_least_28 : decode cX4_least 28 = .ok (.iload 4, 2) := by decide +kernel
theorem dX4_least_30 : decode cX4_least 30 = .ok (.aload_n 0, 1) := by decide +kernel
theorem dX4_least_31 : decode cX4_least 31 = .ok (.getfield 27, 3) := by decide +kernel
theorem dX4_least_34 : decode cX4_least 34 = .ok (.getfield 164, 3) := by decide +kernel
theorem dX4_least_37 : decode cX4_least 37 = .ok (.iconst (-1), 1) := by decide +kernel
theorem dX4_least_38 : decode cX4_least 38 = .ok (.ixor, 1) := by decide +kernel
theorem dX4_least_39 : decode cX4_least 39 = .ok (.iand, 1) := by decide +kernel
theorem dX4_least_40 : decode cX4_least 40 = .ok (.ifCond .ne 7, 3) := by decide +kernel
theorem dX4_least_43 : decode cX4_least 43 = .ok (.iconst 1, 1) := by decide +kernel
theorem dX4_least_44 : decode cX4_least 44 = .ok (.goto 4, 3) := by decide +kernel
theorem dX4_least_47 : decode cX4_least 47 = .ok (.iconst 0, 1) := by decide +kernel
theorem dX4_least_48 : decode cX4_least 48 = .ok (.istore 5, 2) := by decide +kernel
theorem dX4_least_50 : decode cX4_least 50 = .ok (.iload 5, 2) := by decide +kernel
theorem dX4_least_52 : decode cX4_least 52 = .ok (.ifCond .eq 40, 3) := by decide +kernel
theorem dX4_least_55 : decode cX4_least 55 = .ok (.aload_n 1, 1) := by decide +kernel
theorem dX4_least_56 : decode cX4_least 56 = .ok (.aload_n 0, 1) := by decide +kernel
theorem dX4_least_57 : decode cX4_least 57 = .ok (.getfield 27, 3) := by decide +kernel
theorem dX4_least_60 : decode cX4_least 60 = .ok (.getfield 164, 3) := by decide +kernel
theorem dX4_least_63 : decode cX4_least 63 = .ok (.iload 4, 2) := by decide +kernel
theorem dX4_least_65 : decode cX4_least 65 = .ok (.iconst (-1), 1) := by decide +kernel
theorem dX4_least_66 : decode cX4_least 66 = .ok (.ixor, 1) := by decide +kernel
theorem dX4_least_67 : decode cX4_least 67 = .ok (.iand, 1) := by decide +kernel
theorem dX4_least_68 : decode cX4_least 68 = .ok (.invokevirtual 193, 3) := by decide +kernel
theorem dX4_least_71 : decode cX4_least 71 = .ok (.ifCond .eq 21, 3) := by decide +kernel
theorem dX4_least_74 : decode cX4_least 74 = .ok (.iload 4, 2) := by decide +kernel
theorem dX4_least_76 : decode cX4_least 76 = .ok (.invokestatic 167, 3) := by decide +kernel
theorem dX4_least_79 : decode cX4_least 79 = .ok (.iload_n 2, 1) := by decide +kernel
theorem dX4_least_80 : decode cX4_least 80 = .ok (.if_icmp .ge 12, 3) := by decide +kernel
theorem dX4_least_83 : decode cX4_least 83 = .ok (.iload 4, 2) := by decide +kernel
theorem dX4_least_85 : decode cX4_least 85 = .ok (.invokestatic 167, 3) := by decide +kernel
theorem dX4_least_88 : decode cX4_least 88 = .ok (.istore_n 2, 1) := by decide +kernel
theorem dX4_least_89 : decode cX4_least 89 = .ok (.iload 4, 2) := by decide +kernel
theorem dX4_least_91 : decode cX4_least 91 = .ok (.istore_n 3, 1) := by decide +kernel
theorem dX4_least_92 : decode cX4_least 92 = .ok (.iinc 4 1, 3) := by decide +kernel
theorem dX4_least_95 : decode cX4_least 95 = .ok (.goto (-79), 3) := by decide +kernel
theorem dX4_least_98 : decode cX4_least 98 = .ok (.aload_n 0, 1) := by decide +kernel
theorem dX4_least_99 : decode cX4_least 99 = .ok (.iload_n 3, 1) := by decide +kernel
theorem dX4_least_100 : decode cX4_least 100 = .ok (.putfield 39, 3) := by decide +kernel
theorem dX4_least_103 : decode cX4_least 103 = .ok (.iload_n 2, 1) := by decide +kernel
theorem dX4_least_104 : decode cX4_least 104 = .ok (.ireturn, 1) := by decide +kernel
theorem dX4_asked_0 : decode cX4_asked 0 = .ok (.aload_n 0, 1) := by decide +kernel
theorem dX4_asked_1 : decode cX4_asked 1 = .ok (.getfield 39, 3) := by decide +kernel
theorem dX4_asked_4 : decode cX4_asked 4 = .ok (.ireturn, 1) := by decide +kernel
theorem dX3_tellPin_0 : decode cX3_tellPin 0 = .ok (.aload_n 0, 1) := by decide +kernel
theorem dX3_tellPin_1 : decode cX3_tellPin 1 = .ok (.getfield 12, 3) := by decide +kernel
theorem dX3_tellPin_4 : decode cX3_tellPin 4 = .ok (.iload_n 1, 1) := by decide +kernel
theorem dX3_tellPin_5 : decode cX3_tellPin 5 = .ok (.invokevirtual 64, 3) := by decide +kernel
theorem dX3_tellPin_8 : decode cX3_tellPin 8 = .ok (.ifCond .ne 6, 3) := by decide +kernel
theorem dX3_tellPin_11 : decode cX3_tellPin 11 = .ok (.bipush (-9), 2) := by decide +kernel
theorem dX3_tellPin_13 : decode cX3_tellPin 13 = .ok (.ireturn, 1) := by decide +kernel
theorem dX3_tellPin_14 : decode cX3_tellPin 14 = .ok (.iload_n 2, 1) := by decide +kernel
theorem dX3_tellPin_15 : decode cX3_tellPin 15 = .ok (.tableswitch 123 0 6 #[41, 51, 74, 84, 94, 104, 114], 41) := by decide +kernel
theorem dX3_tellPin_56 : decode cX3_tellPin 56 = .ok (.aload_n 0, 1) := by decide +kernel
theorem dX3_tellPin_57 : decode cX3_tellPin 57 = .ok (.getfield 12, 3) := by decide +kernel
theorem dX3_tellPin_60 : decode cX3_tellPin 60 = .ok (.getfield 94, 3) := by decide +kernel
theorem dX3_tellPin_63 : decode cX3_tellPin 63 = .ok (.iload_n 1, 1) := by decide +kernel
theorem dX3_tellPin_64 : decode cX3_tellPin 64 = .ok (.iaload, 1) := by decide +kernel
theorem dX3_tellPin_65 : decode cX3_tellPin 65 = .ok (.ireturn, 1) := by decide +kernel
theorem dX3_tellPin_66 : decode cX3_tellPin 66 = .ok (.aload_n 0, 1) := by decide +kernel
theorem dX3_tellPin_67 : decode cX3_tellPin 67 = .ok (.invokevirtual 49, 3) := by decide +kernel
theorem dX3_tellPin_70 : decode cX3_tellPin 70 = .ok (.iload_n 1, 1) := by decide +kernel
theorem dX3_tellPin_71 : decode cX3_tellPin 71 = .ok (.ishr, 1) := by decide +kernel
theorem dX3_tellPin_72 : decode cX3_tellPin 72 = .ok (.iconst 1, 1) := by decide +kernel
theorem dX3_tellPin_73 : decode cX3_tellPin 73 = .ok (.iand, 1) := by decide +kernel
theorem dX3_tellPin_74 : decode cX3_tellPin 74 = .ok (.ifCond .eq 12, 3) := by decide +kernel
theorem dX3_tellPin_77 : decode cX3_tellPin 77 = .ok (.aload_n 0, 1) := by decide +kernel
theorem dX3_tellPin_78 : decode cX3_tellPin 78 = .ok (.getfield 35, 3) := by decide +kernel
theorem dX3_tellPin_81 : decode cX3_tellPin 81 = .ok (.iload_n 1, 1) := by decide +kernel
theorem dX3_tellPin_82 : decode cX3_tellPin 82 = .ok (.iaload, 1) := by decide +kernel
theorem dX3_tellPin_83 : decode cX3_tellPin 83 = .ok (.goto 5, 3) := by decide +kernel
theorem dX3_tellPin_86 : decode cX3_tellPin 86 = .ok (.bipush (-9), 2) := by decide +kernel
theorem dX3_tellPin_88 : decode cX3_tellPin 88 = .ok (.ireturn, 1) := by decide +kernel
theorem dX3_tellPin_89 : decode cX3_tellPin 89 = .ok (.aload_n 0, 1) := by decide +kernel
theorem dX3_tellPin_90 : decode cX3_tellPin 90 = .ok (.getfield 12, 3) := by decide +kernel
theorem dX3_tellPin_93 : decode cX3_tellPin 93 = .ok (.getfield 97, 3) := by decide +kernel
theorem dX3_tellPin_96 : decode cX3_tellPin 96 = .ok (.iload_n 1, 1) := by decide +kernel
theorem dX3_tellPin_97 : decode cX3_tellPin 97 = .ok (.iaload, 1) := by decide +kernel
theorem dX3_tellPin_98 : decode cX3_tellPin 98 = .ok (.ireturn, 1) := by decide +kernel
theorem dX3_tellPin_99 : decode cX3_tellPin 99 = .ok (.aload_n 0, 1) := by decide +kernel
theorem dX3_tellPin_100 : decode cX3_tellPin 100 = .ok (.getfield 12, 3) := by decide +kernel
theorem dX3_tellPin_103 : decode cX3_tellPin 103 = .ok (.getfield 100, 3) := by decide +kernel
theorem dX3_tellPin_106 : decode cX3_tellPin 106 = .ok (.iload_n 1, 1) := by decide +kernel
theorem dX3_tellPin_107 : decode cX3_tellPin 107 = .ok (.iaload, 1) := by decide +kernel
theorem dX3_tellPin_108 : decode cX3_tellPin 108 = .ok (.ireturn, 1) := by decide +kernel
theorem dX3_tellPin_109 : decode cX3_tellPin 109 = .ok (.aload_n 0, 1) := by decide +kernel
theorem dX3_tellPin_110 : decode cX3_tellPin 110 = .ok (.getfield 12, 3) := by decide +kernel
theorem dX3_tellPin_113 : decode cX3_tellPin 113 = .ok (.getfield 103, 3) := by decide +kernel
theorem dX3_tellPin_116 : decode cX3_tellPin 116 = .ok (.iload_n 1, 1) := by decide +kernel
theorem dX3_tellPin_117 : decode cX3_tellPin 117 = .ok (.iaload, 1) := by decide +kernel
theorem dX3_tellPin_118 : decode cX3_tellPin 118 = .ok (.ireturn, 1) := by decide +kernel
theorem dX3_tellPin_119 : decode cX3_tellPin 119 = .ok (.aload_n 0, 1) := by decide +kernel
theorem dX3_tellPin_120 : decode cX3_tellPin 120 = .ok (.getfield 12, 3) := by decide +kernel
theorem dX3_tellPin_123 : decode cX3_tellPin 123 = .ok (.getfield 106, 3) := by decide +kernel
theorem dX3_tellPin_126 : decode cX3_tellPin 126 = .ok (.iload_n 1, 1) := by decide +kernel
theorem dX3_tellPin_127 : decode cX3_tellPin 127 = .ok (.iaload, 1) := by decide +kernel
theorem dX3_tellPin_128 : decode cX3_tellPin 128 = .ok (.ireturn, 1) := by decide +kernel
theorem dX3_tellPin_129 : decode cX3_tellPin 129 = .ok (.aload_n 0, 1) := by decide +kernel
theorem dX3_tellPin_130 : decode cX3_tellPin 130 = .ok (.getfield 29, 3) := by decide +kernel
theorem dX3_tellPin_133 : decode cX3_tellPin 133 = .ok (.iload_n 1, 1) := by decide +kernel
theorem dX3_tellPin_134 : decode cX3_tellPin 134 = .ok (.ishr, 1) := by decide +kernel
theorem dX3_tellPin_135 : decode cX3_tellPin 135 = .ok (.iconst 1, 1) := by decide +kernel
theorem dX3_tellPin_136 : decode cX3_tellPin 136 = .ok (.iand, 1) := by decide +kernel
theorem dX3_tellPin_137 : decode cX3_tellPin 137 = .ok (.ireturn, 1) := by decide +kernel
theorem dX3_tellPin_138 : decode cX3_tellPin 138 = .ok (.aload_n 0, 1) := by decide +kernel
theorem dX3_tellPin_139 : decode cX3_tellPin 139 = .ok (.getfield 32, 3) := by decide +kernel
theorem dX3_tellPin_142 : decode cX3_tellPin 142 = .ok (.iload_n 1, 1) := by decide +kernel
theorem dX3_tellPin_143 : decode cX3_tellPin 143 = .ok (.ishr, 1) := by decide +kernel
theorem dX3_tellPin_144 : decode cX3_tellPin 144 = .ok (.iconst 1, 1) := by decide +kernel
theorem dX3_tellPin_145 : decode cX3_tellPin 145 = .ok (.iand, 1) := by decide +kernel
theorem dX3_tellPin_146 : decode cX3_tellPin 146 = .ok (.ireturn, 1) := by decide +kernel
theorem dX4_pin_0 : decode cX4_pin 0 = .ok (.aload_n 0, 1) := by decide +kernel
theorem dX4_pin_1 : decode cX4_pin 1 = .ok (.getfield 27, 3) := by decide +kernel
theorem dX4_pin_4 : decode cX4_pin 4 = .ok (.getfield 104, 3) := by decide +kernel
theorem dX4_pin_7 : decode cX4_pin 7 = .ok (.iload_n 1, 1) := by decide +kernel
theorem dX4_pin_8 : decode cX4_pin 8 = .ok (.invokevirtual 124, 3) := by decide +kernel
theorem dX4_pin_11 : decode cX4_pin 11 = .ok (.ifCond .eq 13, 3) := by decide +kernel
theorem dX4_pin_14 : decode cX4_pin 14 = .ok (.iload_n 2, 1) := by decide +kernel
theorem dX4_pin_15 : decode cX4_pin 15 = .ok (.ifCond .lt 9, 3) := by decide +kernel
theorem dX4_pin_18 : decode cX4_pin 18 = .ok (.iload_n 2, 1) := by decide +kernel
theorem dX4_pin_19 : decode cX4_pin 19 = .ok (.bipush 7, 2) := by decide +kernel
theorem dX4_pin_21 : decode cX4_pin 21 = .ok (.if_icmp .le 5, 3) := by decide +kernel
theorem dX4_pin_24 : decode cX4_pin 24 = .ok (.iconst (-1), 1) := by decide +kernel
theorem dX4_pin_25 : decode cX4_pin 25 = .ok (.ireturn, 1) := by decide +kernel
theorem dX4_pin_26 : decode cX4_pin 26 = .ok (.aload_n 0, 1) := by decide +kernel
theorem dX4_pin_27 : decode cX4_pin 27 = .ok (.aload_n 0, 1) := by decide +kernel
theorem dX4_pin_28 : decode cX4_pin 28 = .ok (.getfield 27, 3) := by decide +kernel
theorem dX4_pin_31 : decode cX4_pin 31 = .ok (.iload_n 1, 1) := by decide +kernel
theorem dX4_pin_32 : decode cX4_pin 32 = .ok (.iload_n 2, 1) := by decide +kernel
theorem dX4_pin_33 : decode cX4_pin 33 = .ok (.invokevirtual 128, 3) := by decide +kernel
theorem dX4_pin_36 : decode cX4_pin 36 = .ok (.putfield 39, 3) := by decide +kernel
theorem dX4_pin_39 : decode cX4_pin 39 = .ok (.iconst 1, 1) := by decide +kernel
theorem dX4_pin_40 : decode cX4_pin 40 = .ok (.ireturn, 1) := by decide +kernel
theorem dX4_rowAt_0 : decode cX4_rowAt 0 = .ok (.iload_n 1, 1) := by decide +kernel
theorem dX4_rowAt_1 : decode cX4_rowAt 1 = .ok (.ifCond .lt 18, 3) := by decide +kernel
theorem dX4_rowAt_4 : decode cX4_rowAt 4 = .ok (.iload_n 1, 1) := by decide +kernel
theorem dX4_rowAt_5 : decode cX4_rowAt 5 = .ok (.bipush 6, 2) := by decide +kernel
theorem dX4_rowAt_7 : decode cX4_rowAt 7 = .ok (.if_icmp .ge 12, 3) := by decide +kernel
theorem dX4_rowAt_10 : decode cX4_rowAt 10 = .ok (.aload_n 0, 1) := by decide +kernel
theorem dX4_rowAt_11 : decode cX4_rowAt 11 = .ok (.getfield 11, 3) := by decide +kernel
theorem dX4_rowAt_14 : decode cX4_rowAt 14 = .ok (.iload_n 1, 1) := by decide +kernel
theorem dX4_rowAt_15 : decode cX4_rowAt 15 = .ok (.aaload, 1) := by decide +kernel
theorem dX4_rowAt_16 : decode cX4_rowAt 16 = .ok (.goto 4, 3) := by decide +kernel
theorem dX4_rowAt_19 : decode cX4_rowAt 19 = .ok (.aconst_null, 1) := by decide +kernel
theorem dX4_rowAt_20 : decode cX4_rowAt 20 = .ok (.areturn, 1) := by decide +kernel
theorem dX2_mostOf_0 : decode cX2_mostOf 0 = .ok (.iload_n 1, 1) := by decide +kernel
theorem dX2_mostOf_1 : decode cX2_mostOf 1 = .ok (.invokestatic 50, 3) := by decide +kernel
theorem dX2_mostOf_4 : decode cX2_mostOf 4 = .ok (.ifCond .eq 12, 3) := by decide +kernel
theorem dX2_mostOf_7 : decode cX2_mostOf 7 = .ok (.aload_n 0, 1) := by decide +kernel
theorem dX2_mostOf_8 : decode cX2_mostOf 8 = .ok (.getfield 47, 3) := by decide +kernel
theorem dX2_mostOf_11 : decode cX2_mostOf 11 = .ok (.iload_n 1, 1) := by decide +kernel
theorem dX2_mostOf_12 : decode cX2_mostOf 12 = .ok (.iaload, 1) := by decide +kernel
theorem dX2_mostOf_13 : decode cX2_mostOf 13 = .ok (.goto 4, 3) := by decide +kernel
theorem dX2_mostOf_16 : decode cX2_mostOf 16 = .ok (.iconst 0, 1) := by decide +kernel
theorem dX2_mostOf_17 : decode cX2_mostOf 17 = .ok (.ireturn, 1) := by decide +kernel
theorem dX2_leastOfMost_0 : decode cX2_leastOfMost 0 = .ok (.iconst 0, 1) := by decide +kernel
theorem dX2_leastOfMost_1 : decode cX2_leastOfMost 1 = .ok (.istore_n 2, 1) := by decide +kernel
theorem dX2_leastOfMost_2 : decode cX2_leastOfMost 2 = .ok (.iload_n 2, 1) := by decide +kernel
theorem dX2_leastOfMost_3 : decode cX2_leastOfMost 3 = .ok (.iload_n 1, 1) := by decide +kernel
theorem dX2_leastOfMost_4 : decode cX2_leastOfMost 4 = .ok (.if_icmp .gt 40, 3) := by decide +kernel
theorem dX2_leastOfMost_7 : decode cX2_leastOfMost 7 = .ok (.iload_n 2, 1) := by decide +kernel
theorem dX2_leastOfMost_8 : decode cX2_leastOfMost 8 = .ok (.iload_n 1, 1) := by decide +kernel
theorem dX2_leastOfMost_9 : decode cX2_leastOfMost 9 = .ok (.iconst (-1), 1) := by decide +kernel
theorem dX2_leastOfMost_10 : decode cX2_leastOfMost 10 = .ok (.ixor, 1) := by decide +kernel
theorem dX2_leastOfMost_11 : decode cX2_leastOfMost 11 = .ok (.iand, 1) := by decide +kernel
theorem dX2_leastOfMost_12 : decode cX2_leastOfMost 12 = .ok (.ifCond .ne 26, 3) := by decide +kernel
theorem dX2_leastOfMost_15 : decode cX2_leastOfMost 15 = .ok (.aload_n 0, 1) := by decide +kernel
theorem dX2_leastOfMost_16 : decode cX2_leastOfMost 16 = .ok (.iload_n 2, 1) := by decide +kernel
theorem dX2_leastOfMost_17 : decode cX2_leastOfMost 17 = .ok (.invokevirtual 90, 3) := by decide +kernel
theorem dX2_leastOfMost_20 : decode cX2_leastOfMost 20 = .ok (.ifCond .eq 18, 3) := by decide +kernel
theorem dX2_leastOfMost_23 : decode cX2_leastOfMost 23 = .ok (.aload_n 0, 1) := by decide +kernel
theorem dX2_leastOfMost_24 : decode cX2_leastOfMost 24 = .ok (.iload_n 2, 1) := by decide +kernel
theorem dX2_leastOfMost_25 : decode cX2_leastOfMost 25 = .ok (.invokevirtual 93, 3) := by decide +kernel
theorem dX2_leastOfMost_28 : decode cX2_leastOfMost 28 = .ok (.aload_n 0, 1) := by decide +kernel
theorem dX2_leastOfMost_29 : decode cX2_leastOfMost 29 = .ok (.iload_n 1, 1) := by decide +kernel
theorem dX2_leastOfMost_30 : decode cX2_leastOfMost 30 = .ok (.invokevirtual 96, 3) := by decide +kernel
theorem dX2_leastOfMost_33 : decode cX2_leastOfMost 33 = .ok (.if_icmp .ne 5, 3) := by decide +kernel
theorem dX2_leastOfMost_36 : decode cX2_leastOfMost 36 = .ok (.iload_n 2, 1) := by decide +kernel
theorem dX2_leastOfMost_37 : decode cX2_leastOfMost 37 = .ok (.ireturn, 1) := by decide +kernel
theorem dX2_leastOfMost_38 : decode cX2_leastOfMost 38 = .ok (.iinc 2 1, 3) := by decide +kernel
theorem dX2_leastOfMost_41 : decode cX2_leastOfMost 41 = .ok (.goto (-39), 3) := by decide +kernel
theorem dX2_leastOfMost_44 : decode cX2_leastOfMost 44 = .ok (.iconst 0, 1) := by decide +kernel
theorem dX2_leastOfMost_45 : decode cX2_leastOfMost 45 = .ok (.ireturn, 1) := by decide +kernel
theorem dX0_append_0 : decode cX0_append 0 = .ok (.aload_n 0, 1) := by decide +kernel
theorem dX0_append_1 : decode cX0_append 1 = .ok (.getfield 9, 3) := by decide +kernel
theorem dX0_append_4 : decode cX0_append 4 = .ok (.ifCond .lt 35, 3) := by decide +kernel
theorem dX0_append_7 : decode cX0_append 7 = .ok (.aload_n 0, 1) := by decide +kernel
theorem dX0_append_8 : decode cX0_append 8 = .ok (.getfield 9, 3) := by decide +kernel
theorem dX0_append_11 : decode cX0_append 11 = .ok (.aload_n 0, 1) := by decide +kernel
theorem dX0_append_12 : decode cX0_append 12 = .ok (.getfield 15, 3) := by decide +kernel
theorem dX0_append_15 : decode cX0_append 15 = .ok (.arraylength, 1) := by decide +kernel
theorem dX0_append_16 : decode cX0_append 16 = .ok (.if_icmp .ge 23, 3) := by decide +kernel
theorem dX0_append_19 : decode cX0_append 19 = .ok (.aload_n 0, 1) := by decide +kernel
theorem dX0_append_20 : decode cX0_append 20 = .ok (.getfield 15, 3) := by decide +kernel
theorem dX0_append_23 : decode cX0_append 23 = .ok (.aload_n 0, 1) := by decide +kernel
theorem dX0_append_24 : decode cX0_append 24 = .ok (.getfield 9, 3) := by decide +kernel
theorem dX0_append_27 : decode cX0_append 27 = .ok (.iload_n 1, 1) := by decide +kernel
theorem dX0_append_28 : decode cX0_append 28 = .ok (.iastore, 1) := by decide +kernel
theorem dX0_append_29 : decode cX0_append 29 = .ok (.aload_n 0, 1) := by decide +kernel
theorem dX0_append_30 : decode cX0_append 30 = .ok (.dup, 1) := by decide +kernel
theorem dX0_append_31 : decode cX0_append 31 = .ok (.getfield 9, 3) := by decide +kernel
theorem dX0_append_34 : decode cX0_append 34 = .ok (.iconst 1, 1) := by decide +kernel
theorem dX0_append_35 : decode cX0_append 35 = .ok (.iadd, 1) := by decide +kernel
theorem dX0_append_36 : decode cX0_append 36 = .ok (.putfield 9, 3) := by decide +kernel
theorem dX0_append_39 : decode cX0_append 39 = .ok (.return_, 1) := by decide +kernel
theorem dX2_orderInto_0 : decode cX2_orderInto 0 = .ok (.aload_n 1, 1) := by decide +kernel
theorem dX2_orderInto_1 : decode cX2_orderInto 1 = .ok (.iconst 0, 1) := by decide +kernel
theorem dX2_orderInto_2 : decode cX2_orderInto 2 = .ok (.iconst 0, 1) := by decide +kernel
theorem dX2_orderInto_3 : decode cX2_orderInto 3 = .ok (.invokevirtual 99, 3) := by decide +kernel
theorem dX2_orderInto_6 : decode cX2_orderInto 6 = .ok (.iconst 0, 1) := by decide +kernel
theorem dX2_orderInto_7 : decode cX2_orderInto 7 = .ok (.istore_n 3, 1) := by decide +kernel
theorem dX2_orderInto_8 : decode cX2_orderInto 8 = .ok (.iload_n 3, 1) := by decide +kernel
theorem dX2_orderInto_9 : decode cX2_orderInto 9 = .ok (.bipush 13, 2) := by decide +kernel
theorem dX2_orderInto_11 : decode cX2_orderInto 11 = .ok (.if_icmp .ge 53, 3) := by decide +kernel
theorem dX2_orderInto_14 : decode cX2_orderInto 14 = .ok (.iconst 0, 1) := by decide +kernel
theorem dX2_orderInto_15 : decode cX2_orderInto 15 = .ok (.istore 4, 2) := by decide +kernel
theorem dX2_orderInto_17 : decode cX2_orderInto 17 = .ok (.iload 4, 2) := by decide +kernel
theorem dX2_orderInto_19 : decode cX2_orderInto 19 = .ok (.aload_n 0, 1) := by decide +kernel
theorem dX2_orderInto_20 : decode cX2_orderInto 20 = .ok (.getfield 9, 3) := by decide +kernel
theorem dX2_orderInto_23 : decode cX2_orderInto 23 = .ok (.if_icmp .ge 35, 3) := by decide +kernel
theorem dX2_orderInto_26 : decode cX2_orderInto 26 = .ok (.iload_n 2, 1) := by decide +kernel
theorem dX2_orderInto_27 : decode cX2_orderInto 27 = .ok (.iload 4, 2) := by decide +kernel
theorem dX2_orderInto_29 : decode cX2_orderInto 29 = .ok (.ishr, 1) := by decide +kernel
theorem dX2_orderInto_30 : decode cX2_orderInto 30 = .ok (.iconst 1, 1) := by decide +kernel
theorem dX2_orderInto_31 : decode cX2_orderInto 31 = .ok (.iand, 1) := by decide +kernel
theorem dX2_orderInto_32 : decode cX2_orderInto 32 = .ok (.ifCond .eq 20, 3) := by decide +kernel
theorem dX2_orderInto_35 : decode cX2_orderInto 35 = .ok (.aload_n 0, 1) := by decide +kernel
theorem dX2_orderInto_36 : decode cX2_orderInto 36 = .ok (.getfield 22, 3) := by decide +kernel
theorem dX2_orderInto_39 : decode cX2_orderInto 39 = .ok (.iload 4, 2) := by decide +kernel
theorem dX2_orderInto_41 : decode cX2_orderInto 41 = .ok (.iaload, 1) := by decide +kernel
theorem dX2_orderInto_42 : decode cX2_orderInto 42 = .ok (.iload_n 3, 1) := by decide +kernel
theorem dX2_orderInto_43 : decode cX2_orderInto 43 = .ok (.if_icmp .ne 9, 3) := by decide +kernel
theorem dX2_orderInto_46 : decode cX2_orderInto 46 = .ok (.aload_n 1, 1) := by decide +kernel
theorem dX2_orderInto_47 : decode cX2_orderInto 47 = .ok (.iload 4, 2) := by decide +kernel
theorem dX2_orderInto_49 : decode cX2_orderInto 49 = .ok (.invokevirtual 102, 3) := by decide +kernel
theorem dX2_orderInto_52 : decode cX2_orderInto 52 = .ok (.iinc 4 1, 3) := by decide +kernel
theorem dX2_orderInto_55 : decode cX2_orderInto 55 = .ok (.goto (-38), 3) := by decide +kernel
theorem dX2_orderInto_58 : decode cX2_orderInto 58 = .ok (.iinc 3 1, 3) := by decide +kernel
theorem dX2_orderInto_61 : decode cX2_orderInto 61 = .ok (.goto (-53), 3) := by decide +kernel
theorem dX2_orderInto_64 : decode cX2_orderInto 64 = .ok (.return_, 1) := by decide +kernel
theorem dX4_best_0 : decode cX4_best 0 = .ok (.aload_n 0, 1) := by decide +kernel
theorem dX4_best_1 : decode cX4_best 1 = .ok (.iload_n 1, 1) := by decide +kernel
theorem dX4_best_2 : decode cX4_best 2 = .ok (.invokevirtual 51, 3) := by decide +kernel
theorem dX4_best_5 : decode cX4_best 5 = .ok (.astore_n 2, 1) := by decide +kernel
theorem dX4_best_6 : decode cX4_best 6 = .ok (.aload_n 2, 1) := by decide +kernel
theorem dX4_best_7 : decode cX4_best 7 = .ok (.ifnonnull 5, 3) := by decide +kernel
theorem dX4_best_10 : decode cX4_best 10 = .ok (.iconst (-1), 1) := by decide +kernel
theorem dX4_best_11 : decode cX4_best 11 = .ok (.ireturn, 1) := by decide +kernel
theorem dX4_best_12 : decode cX4_best 12 = .ok (.aload_n 0, 1) := by decide +kernel
theorem dX4_best_13 : decode cX4_best 13 = .ok (.getfield 27, 3) := by decide +kernel
theorem dX4_best_16 : decode cX4_best 16 = .ok (.getfield 104, 3) := by decide +kernel
theorem dX4_best_19 : decode cX4_best 19 = .ok (.astore_n 3, 1) := by decide +kernel
theorem dX4_best_20 : decode cX4_best 20 = .ok (.aload_n 3, 1) := by decide +kernel
theorem dX4_best_21 : decode cX4_best 21 = .ok (.getfield 121, 3) := by decide +kernel
theorem dX4_best_24 : decode cX4_best 24 = .ok (.ifCond .ne 6, 3) := by decide +kernel
theorem dX4_best_27 : decode cX4_best 27 = .ok (.bipush (-4), 2) := by decide +kernel
theorem dX4_best_29 : decode cX4_best 29 = .ok (.ireturn, 1) := by decide +kernel
theorem dX4_best_30 : decode cX4_best 30 = .ok (.aload_n 3, 1) := by decide +kernel
theorem dX4_best_31 : decode cX4_best 31 = .ok (.invokevirtual 196, 3) := by decide +kernel
theorem dX4_best_34 : decode cX4_best 34 = .ok (.aload_n 0, 1) := by decide +kernel
theorem dX4_best_35 : decode cX4_best 35 = .ok (.getfield 27, 3) := by decide +kernel
theorem dX4_best_38 : decode cX4_best 38 = .ok (.getfield 199, 3) := by decide +kernel
theorem dX4_best_41 : decode cX4_best 41 = .ok (.iconst (-1), 1) := by decide +kernel
theorem dX4_best_42 : decode cX4_best 42 = .ok (.ixor, 1) := by decide +kernel
theorem dX4_best_43 : decode cX4_best 43 = .ok (.iand, 1) := by decide +kernel
theorem dX4_best_44 : decode cX4_best 44 = .ok (.istore 4, 2) := by decide +kernel
theorem dX4_best_46 : decode cX4_best 46 = .ok (.aload_n 3, 1) := by decide +kernel
theorem dX4_best_47 : decode cX4_best 47 = .ok (.iload 4, 2) := by decide +kernel
theorem dX4_best_49 : decode cX4_best 49 = .ok (.invokevirtual 202, 3) := by decide +kernel
theorem dX4_best_52 : decode cX4_best 52 = .ok (.istore 5, 2) := by decide +kernel
theorem dX4_best_54 : decode cX4_best 54 = .ok (.aload_n 0, 1) := by decide +kernel
theorem dX4_best_55 : decode cX4_best 55 = .ok (.iload 5, 2) := by decide +kernel
theorem dX4_best_57 : decode cX4_best 57 = .ok (.putfield 39, 3) := by decide +kernel
theorem dX4_best_60 : decode cX4_best 60 = .ok (.aload_n 3, 1) := by decide +kernel
theorem dX4_best_61 : decode cX4_best 61 = .ok (.aload_n 2, 1) := by decide +kernel
theorem dX4_best_62 : decode cX4_best 62 = .ok (.iload 5, 2) := by decide +kernel
theorem dX4_best_64 : decode cX4_best 64 = .ok (.invokevirtual 205, 3) := by decide +kernel
theorem dX4_best_67 : decode cX4_best 67 = .ok (.aload_n 3, 1) := by decide +kernel
theorem dX4_best_68 : decode cX4_best 68 = .ok (.iload 4, 2) := by decide +kernel
theorem dX4_best_70 : decode cX4_best 70 = .ok (.invokevirtual 209, 3) := by decide +kernel
theorem dX4_best_73 : decode cX4_best 73 = .ok (.ireturn, 1) := by decide +kernel
theorem dX4_at_0 : decode cX4_at 0 = .ok (.aload_n 0, 1) := by decide +kernel
theorem dX4_at_1 : decode cX4_at 1 = .ok (.iload_n 1, 1) := by decide +kernel
theorem dX4_at_2 : decode cX4_at 2 = .ok (.invokevirtual 51, 3) := by decide +kernel
theorem dX4_at_5 : decode cX4_at 5 = .ok (.astore_n 3, 1) := by decide +kernel
theorem dX4_at_6 : decode cX4_at 6 = .ok (.aload_n 0, 1) := by decide +kernel
theorem dX4_at_7 : decode cX4_at 7 = .ok (.aload_n 3, 1) := by decide +kernel
theorem dX4_at_8 : decode cX4_at 8 = .ok (.iload_n 2, 1) := by decide +kernel
theorem dX4_at_9 : decode cX4_at 9 = .ok (.invokevirtual 59, 3) := by decide +kernel
theorem dX4_at_12 : decode cX4_at 12 = .ok (.istore 4, 2) := by decide +kernel
theorem dX4_at_14 : decode cX4_at 14 = .ok (.aload_n 3, 1) := by decide +kernel
theorem dX4_at_15 : decode cX4_at 15 = .ok (.ifnull 8, 3) := by decide +kernel
theorem dX4_at_18 : decode cX4_at 18 = .ok (.iload 4, 2) := by decide +kernel
theorem dX4_at_20 : decode cX4_at 20 = .ok (.ifCond .eq 6, 3) := by decide +kernel
theorem dX4_at_23 : decode cX4_at 23 = .ok (.iload 4, 2) := by decide +kernel
theorem dX4_at_25 : decode cX4_at 25 = .ok (.ireturn, 1) := by decide +kernel
theorem dX4_at_26 : decode cX4_at 26 = .ok (.aload_n 0, 1) := by decide +kernel
theorem dX4_at_27 : decode cX4_at 27 = .ok (.aload_n 3, 1) := by decide +kernel
theorem dX4_at_28 : decode cX4_at 28 = .ok (.iload_n 2, 1) := by decide +kernel
theorem dX4_at_29 : decode cX4_at 29 = .ok (.invokevirtual 63, 3) := by decide +kernel
theorem dX4_at_32 : decode cX4_at 32 = .ok (.putfield 39, 3) := by decide +kernel
theorem dX4_at_35 : decode cX4_at 35 = .ok (.iconst 1, 1) := by decide +kernel
theorem dX4_at_36 : decode cX4_at 36 = .ok (.ireturn, 1) := by decide +kernel
theorem dX4_on_0 : decode cX4_on 0 = .ok (.aload_n 0, 1) := by decide +kernel
theorem dX4_on_1 : decode cX4_on 1 = .ok (.iload_n 1, 1) := by decide +kernel
theorem dX4_on_2 : decode cX4_on 2 = .ok (.invokevirtual 176, 3) := by decide +kernel
theorem dX4_on_5 : decode cX4_on 5 = .ok (.astore_n 2, 1) := by decide +kernel
theorem dX4_on_6 : decode cX4_on 6 = .ok (.aload_n 2, 1) := by decide +kernel
theorem dX4_on_7 : decode cX4_on 7 = .ok (.ifnonnull 5, 3) := by decide +kernel
theorem dX4_on_10 : decode cX4_on 10 = .ok (.iconst (-1), 1) := by decide +kernel
theorem dX4_on_11 : decode cX4_on 11 = .ok (.ireturn, 1) := by decide +kernel
theorem dX4_on_12 : decode cX4_on 12 = .ok (.aload_n 2, 1) := by decide +kernel
theorem dX4_on_13 : decode cX4_on 13 = .ok (.getfield 118, 3) := by decide +kernel
theorem dX4_on_16 : decode cX4_on 16 = .ok (.ifCond .ge 9, 3) := by decide +kernel
theorem dX4_on_19 : decode cX4_on 19 = .ok (.aload_n 0, 1) := by decide +kernel
theorem dX4_on_20 : decode cX4_on 20 = .ok (.iconst 1, 1) := by decide +kernel
theorem dX4_on_21 : decode cX4_on 21 = .ok (.invokevirtual 78, 3) := by decide +kernel
theorem dX4_on_24 : decode cX4_on 24 = .ok (.ireturn, 1) := by decide +kernel
theorem dX4_on_25 : decode cX4_on 25 = .ok (.aload_n 0, 1) := by decide +kernel
theorem dX4_on_26 : decode cX4_on 26 = .ok (.getfield 27, 3) := by decide +kernel
theorem dX4_on_29 : decode cX4_on 29 = .ok (.getfield 172, 3) := by decide +kernel
theorem dX4_on_32 : decode cX4_on 32 = .ok (.aload_n 2, 1) := by decide +kernel
theorem dX4_on_33 : decode cX4_on 33 = .ok (.invokevirtual 180, 3) := by decide +kernel
theorem dX4_on_36 : decode cX4_on 36 = .ok (.aload_n 0, 1) := by decide +kernel
theorem dX4_on_37 : decode cX4_on 37 = .ok (.getfield 27, 3) := by decide +kernel
theorem dX4_on_40 : decode cX4_on 40 = .ok (.aload_n 2, 1) := by decide +kernel
theorem dX4_on_41 : decode cX4_on 41 = .ok (.getfield 118, 3) := by decide +kernel
theorem dX4_on_44 : decode cX4_on 44 = .ok (.invokevirtual 114, 3) := by decide +kernel
theorem dX4_on_47 : decode cX4_on 47 = .ok (.aload_n 2, 1) := by decide +kernel
theorem dX4_on_48 : decode cX4_on 48 = .ok (.getfield 118, 3) := by decide +kernel
theorem dX4_on_51 : decode cX4_on 51 = .ok (.ireturn, 1) := by decide +kernel
theorem dX3_hasRoomFor_0 : decode cX3_hasRoomFor 0 = .ok (.aload_n 0, 1) := by decide +kernel
theorem dX3_hasRoomFor_1 : decode cX3_hasRoomFor 1 = .ok (.getfield 21, 3) := by decide +kernel
theorem dX3_hasRoomFor_4 : decode cX3_hasRoomFor 4 = .ok (.getfield 39, 3) := by decide +kernel
theorem dX3_hasRoomFor_7 : decode cX3_hasRoomFor 7 = .ok (.iload_n 1, 1) := by decide +kernel
theorem dX3_hasRoomFor_8 : decode cX3_hasRoomFor 8 = .ok (.iadd, 1) := by decide +kernel
theorem dX3_hasRoomFor_9 : decode cX3_hasRoomFor 9 = .ok (.bipush 40, 2) := by decide +kernel
theorem dX3_hasRoomFor_11 : decode cX3_hasRoomFor 11 = .ok (.if_icmp .gt 7, 3) := by decide +kernel
theorem dX3_hasRoomFor_14 : decode cX3_hasRoomFor 14 = .ok (.iconst 1, 1) := by decide +kernel
theorem dX3_hasRoomFor_15 : decode cX3_hasRoomFor 15 = .ok (.goto 4, 3) := by decide +kernel
theorem dX3_hasRoomFor_18 : decode cX3_hasRoomFor 18 = .ok (.iconst 0, 1) := by decide +kernel
theorem dX3_hasRoomFor_19 : decode cX3_hasRoomFor 19 = .ok (.ireturn, 1) := by decide +kernel
theorem dX3_enact_0 : decode cX3_enact 0 = .ok (.aload_n 0, 1) := by decide +kernel
theorem dX3_enact_1 : decode cX3_enact 1 = .ok (.getfield 21, 3) := by decide +kernel
theorem dX3_enact_4 : decode cX3_enact 4 = .ok (.getfield 39, 3) := by decide +kernel
theorem dX3_enact_7 : decode cX3_enact 7 = .ok (.ifCond .lt 49, 3) := by decide +kernel
theorem dX3_enact_10 : decode cX3_enact 10 = .ok (.aload_n 0, 1) := by decide +kernel
theorem dX3_enact_11 : decode cX3_enact 11 = .ok (.getfield 21, 3) := by decide +kernel
theorem dX3_enact_14 : decode cX3_enact 14 = .ok (.getfield 39, 3) := by decide +kernel
theorem dX3_enact_17 : decode cX3_enact 17 = .ok (.bipush 40, 2) := by decide +kernel
theorem dX3_enact_19 : decode cX3_enact 19 = .ok (.if_icmp .ge 37, 3) := by decide +kernel
theorem dX3_enact_22 : decode cX3_enact 22 = .ok (.aload_n 0, 1) := by decide +kernel
theorem dX3_enact_23 : decode cX3_enact 23 = .ok (.getfield 21, 3) := by decide +kernel
theorem dX3_enact_26 : decode cX3_enact 26 = .ok (.getfield 52, 3) := by decide +kernel
theorem dX3_enact_29 : decode cX3_enact 29 = .ok (.aload_n 0, 1) := by decide +kernel
theorem dX3_enact_30 : decode cX3_enact 30 = .ok (.getfield 21, 3) := by decide +kernel
theorem dX3_enact_33 : decode cX3_enact 33 = .ok (.getfield 39, 3) := by decide +kernel
theorem dX3_enact_36 : decode cX3_enact 36 = .ok (.iload_n 1, 1) := by decide +kernel
theorem dX3_enact_37 : decode cX3_enact 37 = .ok (.iastore, 1) := by decide +kernel
theorem dX3_enact_38 : decode cX3_enact 38 = .ok (.aload_n 0, 1) := by decide +kernel
theorem dX3_enact_39 : decode cX3_enact 39 = .ok (.getfield 21, 3) := by decide +kernel
theorem dX3_enact_42 : decode cX3_enact 42 = .ok (.dup, 1) := by decide +kernel
theorem dX3_enact_43 : decode cX3_enact 43 = .ok (.getfield 39, 3) := by decide +kernel
theorem dX3_enact_46 : decode cX3_enact 46 = .ok (.iconst 1, 1) := by decide +kernel
theorem dX3_enact_47 : decode cX3_enact 47 = .ok (.iadd, 1) := by decide +kernel
theorem dX3_enact_48 : decode cX3_enact 48 = .ok (.putfield 39, 3) := by decide +kernel
theorem dX3_enact_51 : decode cX3_enact 51 = .ok (.aload_n 0, 1) := by decide +kernel
theorem dX3_enact_52 : decode cX3_enact 52 = .ok (.iload_n 1, 1) := by decide +kernel
theorem dX3_enact_53 : decode cX3_enact 53 = .ok (.invokevirtual 55, 3) := by decide +kernel
theorem dX3_enact_56 : decode cX3_enact 56 = .ok (.return_, 1) := by decide +kernel
theorem dX4_drop_0 : decode cX4_drop 0 = .ok (.aload_n 0, 1) := by decide +kernel
theorem dX4_drop_1 : decode cX4_drop 1 = .ok (.getfield 27, 3) := by decide +kernel
theorem dX4_drop_4 : decode cX4_drop 4 = .ok (.getfield 104, 3) := by decide +kernel
theorem dX4_drop_7 : decode cX4_drop 7 = .ok (.iload_n 1, 1) := by decide +kernel
theorem dX4_drop_8 : decode cX4_drop 8 = .ok (.invokevirtual 124, 3) := by decide +kernel
theorem dX4_drop_11 : decode cX4_drop 11 = .ok (.ifCond .ne 5, 3) := by decide +kernel
theorem dX4_drop_14 : decode cX4_drop 14 = .ok (.iconst (-1), 1) := by decide +kernel
theorem dX4_drop_15 : decode cX4_drop 15 = .ok (.ireturn, 1) := by decide +kernel
theorem dX4_drop_16 : decode cX4_drop 16 = .ok (.aload_n 0, 1) := by decide +kernel
theorem dX4_drop_17 : decode cX4_drop 17 = .ok (.getfield 27, 3) := by decide +kernel
theorem dX4_drop_20 : decode cX4_drop 20 = .ok (.getfield 164, 3) := by decide +kernel
theorem dX4_drop_23 : decode cX4_drop 23 = .ok (.iload_n 1, 1) := by decide +kernel
theorem dX4_drop_24 : decode cX4_drop 24 = .ok (.ishr, 1) := by decide +kernel
theorem dX4_drop_25 : decode cX4_drop 25 = .ok (.iconst 1, 1) := by decide +kernel
theorem dX4_drop_26 : decode cX4_drop 26 = .ok (.iand, 1) := by decide +kernel
theorem dX4_drop_27 : decode cX4_drop 27 = .ok (.ifCond .ne 6, 3) := by decide +kernel
theorem dX4_drop_30 : decode cX4_drop 30 = .ok (.bipush (-4), 2) := by decide +kernel
theorem dX4_drop_32 : decode cX4_drop 32 = .ok (.ireturn, 1) := by decide +kernel
theorem dX4_drop_33 : decode cX4_drop 33 = .ok (.aload_n 0, 1) := by decide +kernel
theorem dX4_drop_34 : decode cX4_drop 34 = .ok (.getfield 27, 3) := by decide +kernel
theorem dX4_drop_37 : decode cX4_drop 37 = .ok (.iconst 1, 1) := by decide +kernel
theorem dX4_drop_38 : decode cX4_drop 38 = .ok (.invokevirtual 154, 3) := by decide +kernel
theorem dX4_drop_41 : decode cX4_drop 41 = .ok (.ifCond .ne 6, 3) := by decide +kernel
theorem dX4_drop_44 : decode cX4_drop 44 = .ok (.bipush (-2), 2) := by decide +kernel
theorem dX4_drop_46 : decode cX4_drop 46 = .ok (.ireturn, 1) := by decide +kernel
theorem dX4_drop_47 : decode cX4_drop 47 = .ok (.aload_n 0, 1) := by decide +kernel
theorem dX4_drop_48 : decode cX4_drop 48 = .ok (.getfield 27, 3) := by decide +kernel
theorem dX4_drop_51 : decode cX4_drop 51 = .ok (.bipush 16, 2) := by decide +kernel
theorem dX4_drop_53 : decode cX4_drop 53 = .ok (.iload_n 1, 1) := by decide +kernel
theorem dX4_drop_54 : decode cX4_drop 54 = .ok (.iadd, 1) := by decide +kernel
theorem dX4_drop_55 : decode cX4_drop 55 = .ok (.invokevirtual 157, 3) := by decide +kernel
theorem dX4_drop_58 : decode cX4_drop 58 = .ok (.aload_n 0, 1) := by decide +kernel
theorem dX4_drop_59 : decode cX4_drop 59 = .ok (.getfield 27, 3) := by decide +kernel
theorem dX4_drop_62 : decode cX4_drop 62 = .ok (.getfield 164, 3) := by decide +kernel
theorem dX4_drop_65 : decode cX4_drop 65 = .ok (.invokestatic 167, 3) := by decide +kernel
theorem dX4_drop_68 : decode cX4_drop 68 = .ok (.ireturn, 1) := by decide +kernel
theorem dX4_pick_0 : decode cX4_pick 0 = .ok (.aload_n 0, 1) := by decide +kernel
theorem dX4_pick_1 : decode cX4_pick 1 = .ok (.getfield 27, 3) := by decide +kernel
theorem dX4_pick_4 : decode cX4_pick 4 = .ok (.getfield 104, 3) := by decide +kernel
theorem dX4_pick_7 : decode cX4_pick 7 = .ok (.iload_n 1, 1) := by decide +kernel
theorem dX4_pick_8 : decode cX4_pick 8 = .ok (.invokevirtual 124, 3) := by decide +kernel
theorem dX4_pick_11 : decode cX4_pick 11 = .ok (.ifCond .ne 5, 3) := by decide +kernel
theorem dX4_pick_14 : decode cX4_pick 14 = .ok (.iconst (-1), 1) := by decide +kernel
theorem dX4_pick_15 : decode cX4_pick 15 = .ok (.ireturn, 1) := by decide +kernel
theorem dX4_pick_16 : decode cX4_pick 16 = .ok (.aload_n 0, 1) := by decide +kernel
theorem dX4_pick_17 : decode cX4_pick 17 = .ok (.getfield 27, 3) := by decide +kernel
theorem dX4_pick_20 : decode cX4_pick 20 = .ok (.invokevirtual 160, 3) := by decide +kernel
theorem dX4_pick_23 : decode cX4_pick 23 = .ok (.iload_n 1, 1) := by decide +kernel
theorem dX4_pick_24 : decode cX4_pick 24 = .ok (.ishr, 1) := by decide +kernel
theorem dX4_pick_25 : decode cX4_pick 25 = .ok (.iconst 1, 1) := by decide +kernel
theorem dX4_pick_26 : decode cX4_pick 26 = .ok (.iand, 1) := by decide +kernel
theorem dX4_pick_27 : decode cX4_pick 27 = .ok (.ifCond .ne 6, 3) := by decide +kernel
theorem dX4_pick_30 : decode cX4_pick 30 = .ok (.bipush (-4), 2) := by decide +kernel
theorem dX4_pick_32 : decode cX4_pick 32 = .ok (.ireturn, 1) := by decide +kernel
theorem dX4_pick_33 : decode cX4_pick 33 = .ok (.aload_n 0, 1) := by decide +kernel
theorem dX4_pick_34 : decode cX4_pick 34 = .ok (.getfield 27, 3) := by decide +kernel
theorem dX4_pick_37 : decode cX4_pick 37 = .ok (.iconst 1, 1) := by decide +kernel
theorem dX4_pick_38 : decode cX4_pick 38 = .ok (.invokevirtual 154, 3) := by decide +kernel
theorem dX4_pick_41 : decode cX4_pick 41 = .ok (.ifCond .ne 6, 3) := by decide +kernel
theorem dX4_pick_44 : decode cX4_pick 44 = .ok (.bipush (-2), 2) := by decide +kernel
theorem dX4_pick_46 : decode cX4_pick 46 = .ok (.ireturn, 1) := by decide +kernel
theorem dX4_pick_47 : decode cX4_pick 47 = .ok (.aload_n 0, 1) := by decide +kernel
theorem dX4_pick_48 : decode cX4_pick 48 = .ok (.getfield 27, 3) := by decide +kernel
theorem dX4_pick_51 : decode cX4_pick 51 = .ok (.bipush 8, 2) := by decide +kernel
theorem dX4_pick_53 : decode cX4_pick 53 = .ok (.iload_n 1, 1) := by decide +kernel
theorem dX4_pick_54 : decode cX4_pick 54 = .ok (.iadd, 1) := by decide +kernel
theorem dX4_pick_55 : decode cX4_pick 55 = .ok (.invokevirtual 157, 3) := by decide +kernel
theorem dX4_pick_58 : decode cX4_pick 58 = .ok (.aload_n 0, 1) := by decide +kernel
theorem dX4_pick_59 : decode cX4_pick 59 = .ok (.getfield 27, 3) := by decide +kernel
theorem dX4_pick_62 : decode cX4_pick 62 = .ok (.getfield 164, 3) := by decide +kernel
theorem dX4_pick_65 : decode cX4_pick 65 = .ok (.invokestatic 167, 3) := by decide +kernel
theorem dX4_pick_68 : decode cX4_pick 68 = .ok (.ireturn, 1) := by decide +kernel
theorem dX4_sweep_0 : decode cX4_sweep 0 = .ok (.aload_n 0, 1) := by decide +kernel
theorem dX4_sweep_1 : decode cX4_sweep 1 = .ok (.getfield 27, 3) := by decide +kernel
theorem dX4_sweep_4 : decode cX4_sweep 4 = .ok (.getfield 104, 3) := by decide +kernel
theorem dX4_sweep_7 : decode cX4_sweep 7 = .ok (.getfield 121, 3) := by decide +kernel
theorem dX4_sweep_10 : decode cX4_sweep 10 = .ok (.ifCond .ne 6, 3) := by decide +kernel
theorem dX4_sweep_13 : decode cX4_sweep 13 = .ok (.bipush (-4), 2) := by decide +kernel
theorem dX4_sweep_15 : decode cX4_sweep 15 = .ok (.ireturn, 1) := by decide +kernel
theorem dX4_sweep_16 : decode cX4_sweep 16 = .ok (.aload_n 0, 1) := by decide +kernel
theorem dX4_sweep_17 : decode cX4_sweep 17 = .ok (.getfield 27, 3) := by decide +kernel
theorem dX4_sweep_20 : decode cX4_sweep 20 = .ok (.iconst 1, 1) := by decide +kernel
theorem dX4_sweep_21 : decode cX4_sweep 21 = .ok (.invokevirtual 154, 3) := by decide +kernel
theorem dX4_sweep_24 : decode cX4_sweep 24 = .ok (.ifCond .ne 6, 3) := by decide +kernel
theorem dX4_sweep_27 : decode cX4_sweep 27 = .ok (.bipush (-2), 2) := by decide +kernel
theorem dX4_sweep_29 : decode cX4_sweep 29 = .ok (.ireturn, 1) := by decide +kernel
theorem dX4_sweep_30 : decode cX4_sweep 30 = .ok (.aload_n 0, 1) := by decide +kernel
theorem dX4_sweep_31 : decode cX4_sweep 31 = .ok (.getfield 27, 3) := by decide +kernel
theorem dX4_sweep_34 : decode cX4_sweep 34 = .ok (.invokevirtual 160, 3) := by decide +kernel
theorem dX4_sweep_37 : decode cX4_sweep 37 = .ok (.invokestatic 167, 3) := by decide +kernel
theorem dX4_sweep_40 : decode cX4_sweep 40 = .ok (.istore_n 1, 1) := by decide +kernel
theorem dX4_sweep_41 : decode cX4_sweep 41 = .ok (.aload_n 0, 1) := by decide +kernel
theorem dX4_sweep_42 : decode cX4_sweep 42 = .ok (.getfield 27, 3) := by decide +kernel
theorem dX4_sweep_45 : decode cX4_sweep 45 = .ok (.iconst 2, 1) := by decide +kernel
theorem dX4_sweep_46 : decode cX4_sweep 46 = .ok (.invokevirtual 157, 3) := by decide +kernel
theorem dX4_sweep_49 : decode cX4_sweep 49 = .ok (.iload_n 1, 1) := by decide +kernel
theorem dX4_sweep_50 : decode cX4_sweep 50 = .ok (.ireturn, 1) := by decide +kernel
theorem dX4_step_0 : decode cX4_step 0 = .ok (.iload_n 1, 1) := by decide +kernel
theorem dX4_step_1 : decode cX4_step 1 = .ok (.iconst 1, 1) := by decide +kernel
theorem dX4_step_2 : decode cX4_step 2 = .ok (.if_icmp .eq 10, 3) := by decide +kernel
theorem dX4_step_5 : decode cX4_step 5 = .ok (.iload_n 1, 1) := by decide +kernel
theorem dX4_step_6 : decode cX4_step 6 = .ok (.iconst (-1), 1) := by decide +kernel
theorem dX4_step_7 : decode cX4_step 7 = .ok (.if_icmp .eq 5, 3) := by decide +kernel
theorem dX4_step_10 : decode cX4_step 10 = .ok (.iconst (-1), 1) := by decide +kernel
theorem dX4_step_11 : decode cX4_step 11 = .ok (.ireturn, 1) := by decide +kernel
theorem dX4_step_12 : decode cX4_step 12 = .ok (.aload_n 0, 1) := by decide +kernel
theorem dX4_step_13 : decode cX4_step 13 = .ok (.getfield 27, 3) := by decide +kernel
theorem dX4_step_16 : decode cX4_step 16 = .ok (.getfield 151, 3) := by decide +kernel
theorem dX4_step_19 : decode cX4_step 19 = .ok (.iload_n 1, 1) := by decide +kernel
theorem dX4_step_20 : decode cX4_step 20 = .ok (.iadd, 1) := by decide +kernel
theorem dX4_step_21 : decode cX4_step 21 = .ok (.istore_n 2, 1) := by decide +kernel
theorem dX4_step_22 : decode cX4_step 22 = .ok (.aload_n 0, 1) := by decide +kernel
theorem dX4_step_23 : decode cX4_step 23 = .ok (.getfield 27, 3) := by decide +kernel
theorem dX4_step_26 : decode cX4_step 26 = .ok (.getfield 104, 3) := by decide +kernel
theorem dX4_step_29 : decode cX4_step 29 = .ok (.getfield 121, 3) := by decide +kernel
theorem dX4_step_32 : decode cX4_step 32 = .ok (.ifCond .eq 13, 3) := by decide +kernel
theorem dX4_step_35 : decode cX4_step 35 = .ok (.iload_n 2, 1) := by decide +kernel
theorem dX4_step_36 : decode cX4_step 36 = .ok (.ifCond .lt 9, 3) := by decide +kernel
theorem dX4_step_39 : decode cX4_step 39 = .ok (.iload_n 2, 1) := by decide +kernel
theorem dX4_step_40 : decode cX4_step 40 = .ok (.bipush 9, 2) := by decide +kernel
theorem dX4_step_42 : decode cX4_step 42 = .ok (.if_icmp .le 6, 3) := by decide +kernel
theorem dX4_step_45 : decode cX4_step 45 = .ok (.bipush (-4), 2) := by decide +kernel
theorem dX4_step_47 : decode cX4_step 47 = .ok (.ireturn, 1) := by decide +kernel
theorem dX4_step_48 : decode cX4_step 48 = .ok (.aload_n 0, 1) := by decide +kernel
theorem dX4_step_49 : decode cX4_step 49 = .ok (.getfield 27, 3) := by decide +kernel
theorem dX4_step_52 : decode cX4_step 52 = .ok (.iconst 1, 1) := by decide +kernel
theorem dX4_step_53 : decode cX4_step 53 = .ok (.invokevirtual 154, 3) := by decide +kernel
theorem dX4_step_56 : decode cX4_step 56 = .ok (.ifCond .ne 6, 3) := by decide +kernel
theorem dX4_step_59 : decode cX4_step 59 = .ok (.bipush (-2), 2) := by decide +kernel
theorem dX4_step_61 : decode cX4_step 61 = .ok (.ireturn, 1) := by decide +kernel
theorem dX4_step_62 : decode cX4_step 62 = .ok (.aload_n 0, 1) := by decide +kernel
theorem dX4_step_63 : decode cX4_step 63 = .ok (.getfield 27, 3) := by decide +kernel
theorem dX4_step_66 : decode cX4_step 66 = .ok (.iload_n 1, 1) := by decide +kernel
theorem dX4_step_67 : decode cX4_step 67 = .ok (.iconst 1, 1) := by decide +kernel
theorem dX4_step_68 : decode cX4_step 68 = .ok (.if_icmp .ne 7, 3) := by decide +kernel
theorem dX4_step_71 : decode cX4_step 71 = .ok (.iconst 0, 1) := by decide +kernel
theorem dX4_step_72 : decode cX4_step 72 = .ok (.goto 4, 3) := by decide +kernel
theorem dX4_step_75 : decode cX4_step 75 = .ok (.iconst 1, 1) := by decide +kernel
theorem dX4_step_76 : decode cX4_step 76 = .ok (.invokevirtual 157, 3) := by decide +kernel
theorem dX4_step_79 : decode cX4_step 79 = .ok (.aload_n 0, 1) := by decide +kernel
theorem dX4_step_80 : decode cX4_step 80 = .ok (.getfield 27, 3) := by decide +kernel
theorem dX4_step_83 : decode cX4_step 83 = .ok (.getfield 151, 3) := by decide +kernel
theorem dX4_step_86 : decode cX4_step 86 = .ok (.ireturn, 1) := by decide +kernel
theorem dX2_hoursOf_0 : decode cX2_hoursOf 0 = .ok (.iload_n 1, 1) := by decide +kernel
theorem dX2_hoursOf_1 : decode cX2_hoursOf 1 = .ok (.invokestatic 50, 3) := by decide +kernel
theorem dX2_hoursOf_4 : decode cX2_hoursOf 4 = .ok (.ifCond .eq 12, 3) := by decide +kernel
theorem dX2_hoursOf_7 : decode cX2_hoursOf 7 = .ok (.aload_n 0, 1) := by decide +kernel
theorem dX2_hoursOf_8 : decode cX2_hoursOf 8 = .ok (.getfield 37, 3) := by decide +kernel
theorem dX2_hoursOf_11 : decode cX2_hoursOf 11 = .ok (.iload_n 1, 1) := by decide +kernel
theorem dX2_hoursOf_12 : decode cX2_hoursOf 12 = .ok (.iaload, 1) := by decide +kernel
theorem dX2_hoursOf_13 : decode cX2_hoursOf 13 = .ok (.goto 4, 3) := by decide +kernel
theorem dX2_hoursOf_16 : decode cX2_hoursOf 16 = .ok (.iconst 0, 1) := by decide +kernel
theorem dX2_hoursOf_17 : decode cX2_hoursOf 17 = .ok (.ireturn, 1) := by decide +kernel
def f2_countOfKind_4 (M : Mem) (fu : Nat) : Nat → Int32 → Int32 → Int32 → Option (Int32)
  | 0 => fun _ _ _ => none
  | f + 1 => fun x1 x2 x3 =>
    if (M.1 35 0) ≤ x3 then ((some x2))
    else ((rd M 36 8 x3).bind fun v2 =>
    (f4_isOf v2 x1).bind fun r4 =>
    if r4 = 0 then (nm (x3 + (1 : Int32)) fun v6 =>
    ((f2_countOfKind_4 M fu f) x1 x2 v6))
    else (nm (x2 + (1 : Int32)) fun v7 =>
    nm (x3 + (1 : Int32)) fun v8 =>
    ((f2_countOfKind_4 M fu f) x1 v7 v8)))
set_option maxHeartbeats 4000000 in
set_option maxRecDepth 10000 in
theorem w2_countOfKindi_4 {ad : Nat → Nat} {X : XX} {R : Int32} {M : Mem} {fu : Nat}  (h : Cx layC ad X cX2_countOfKind RX2 4 2 (some .int) M (some (.int R)))  : ∀ (f : Nat) (x1 : Int32) (x2 : Int32) (x3 : Int32), f2_countOfKind_4 M fu f x1 x2 x3 = some R → Wp layC ad X M 4 [(0, .ref (ad 35)), (1, .int x1), (2, .int x2), (3, .int x3)] [] := by
  intro f
  induction f with
  | zero => intro x1 x2 x3 hF; exact absurd hF (by simp [f2_countOfKind_4])
  | succ f ih =>
    intro x1 x2 x3 hF
    rw [f2_countOfKind_4] at hF
    refine R_iload_n (pc := 4) h 3 rfl rfl dX2_countOfKind_4 ?_
    refine R_aload_n (pc := 5) h 0 rfl rfl dX2_countOfKind_5 ?_
    refine R_getI (pc := 6) h flX2_9 lc_35 rfl dX2_countOfKind_6 ?_
    refine R_icmp_ge (pc := 9) (tgt := 34) h dX2_countOfKind_9 (by decide) (fun c1 => ?_) (fun c1 => ?_)
    · have hF := itp c1 hF
      refine R_iload_n (pc := 34) h 2 rfl rfl dX2_countOfKind_34 ?_
      cases hF
      exact R_ireturn (pc := 35) h rfl rfl rfl dX2_countOfKind_35
    · have hF := ifn c1 hF
      refine R_aload_n (pc := 12) h 0 rfl rfl dX2_countOfKind_12 ?_
      refine R_getR (pc := 13) (q1 := 36) h flX2_15 lc_35 rfl dX2_countOfKind_13 ?_
      refine R_iload_n (pc := 16) h 3 rfl rfl dX2_countOfKind_16 ?_
      obtain ⟨v2, hv2, hF⟩ := bd hF
      refine R_iald (pc := 17) h hv2 lc_36 dX2_countOfKind_17 ?_
      refine R_iload_n (pc := 18) h 1 rfl rfl dX2_countOfKind_18 ?_
      obtain ⟨r4, hc3, hF⟩ := bd hF
      refine R_callN (pc := 19) (st := []) h [.int v2, .int x1] cnX2_105 (c4_isOf (ad := ad) (z := X.1) (M := M) hc3) rfl rfl (by decide) (by decide) (Nat.le_of_ble_eq_true rfl) dX2_countOfKind_19 (st1 := [.int r4]) rfl ?_
      refine R_if_eq (pc := 22) (tgt := 28) h dX2_countOfKind_22 (by decide) (fun c5 => ?_) (fun c5 => ?_)
      · have hF := itp c5 hF
        obtain ⟨v6, hv6, hF⟩ := nm_e2 hF
        refine R_iinc (pc := 28) (lv' := [(3, .int v6), (0, .ref (ad 35)), (1, .int x1), (2, .int x2)]) h 3 rfl (by decide) hv6 (by decide) rfl dX2_countOfKind_28 ?_
        refine R_goto (pc := 31) (tgt := 4) h dX2_countOfKind_31 (by decide) ?_
        exact Wp_sub (nX := 0) (lv' := [(0, .ref (ad 35)), (1, .int x1), (2, .int x2), (3, .int v6)]) [1, 2, 3, 0] rfl (ih _ _ _ hF)
      · have hF := ifn c5 hF
        obtain ⟨v7, hv7, hF⟩ := nm_e2 hF
        refine R_iinc (pc := 25) (lv' := [(2, .int v7), (0, .ref (ad 35)), (1, .int x1), (3, .int x3)]) h 2 rfl (by decide) hv7 (by decide) rfl dX2_countOfKind_25 ?_
        obtain ⟨v8, hv8, hF⟩ := nm_e2 hF
        refine R_iinc (pc := 28) (lv' := [(3, .int v8), (2, .int v7), (0, .ref (ad 35)), (1, .int x1)]) h 3 rfl (by decide) hv8 (by decide) rfl dX2_countOfKind_28 ?_
        refine R_goto (pc := 31) (tgt := 4) h dX2_countOfKind_31 (by decide) ?_
        exact Wp_sub (nX := 0) (lv' := [(0, .ref (ad 35)), (1, .int x1), (2, .int v7), (3, .int v8)]) [2, 3, 1, 0] rfl (ih _ _ _ hF)
theorem w2_countOfKind_4 {ad : Nat → Nat} {X : XX} {R : Int32} {M : Mem} {fu : Nat}  (h : Cx layC ad X cX2_countOfKind RX2 4 2 (some .int) M (some (.int R)))  {f : Nat} {x1 : Int32} {x2 : Int32} {x3 : Int32} (hF : f2_countOfKind_4 M fu f x1 x2 x3 = some R) : Wp layC ad X M 4 [(0, .ref (ad 35)), (1, .int x1), (2, .int x2), (3, .int x3)] [] := w2_countOfKindi_4 h  f _ _ _ hF
def f2_countOfKind (M : Mem) (fu : Nat) (x1 : Int32) : Option (Int32) :=
    (f2_countOfKind_4 M fu fu x1 (0 : Int32) (0 : Int32))
set_option maxHeartbeats 4000000 in
set_option maxRecDepth 10000 in
theorem w2_countOfKind {ad : Nat → Nat} {X : XX} {R : Int32} {M : Mem} {fu : Nat} (h : Cx layC ad X cX2_countOfKind RX2 4 2 (some .int) M (some (.int R))) {x1 : Int32} (hF : f2_countOfKind M fu x1 = some R) : Wp layC ad X M 0 [(0, .ref (ad 35)), (1, .int x1)] [] := by
  unfold f2_countOfKind at hF
  refine R_iconst (pc := 0) (v := 0) h (by decide) dX2_countOfKind_0 ?_
  refine R_istore_n (pc := 1) (lv' := [(2, .int (0 : Int32)), (0, .ref (ad 35)), (1, .int x1)]) h rfl rfl (by decide) rfl dX2_countOfKind_1 ?_
  refine R_iconst (pc := 2) (v := 0) h (by decide) dX2_countOfKind_2 ?_
  refine R_istore_n (pc := 3) (lv' := [(3, .int (0 : Int32)), (2, .int (0 : Int32)), (0, .ref (ad 35)), (1, .int x1)]) h rfl rfl (by decide) rfl dX2_countOfKind_3 ?_
  exact Wp_sub (nX := 0) (lv' := [(0, .ref (ad 35)), (1, .int x1), (2, .int (0 : Int32)), (3, .int (0 : Int32))]) [2, 3, 1, 0] rfl (w2_countOfKind_4 h  (hF := hF))
theorem c2_countOfKind {ad : Nat → Nat} {z : ZZ} {R : Int32} {M : Mem} {fu : Nat} {x1 : Int32} (hF : f2_countOfKind M fu x1 = some R) : Con layC ad z yX2_countOfKind cX2_countOfKind 4 (some .int) 2 M [.ref (ad 35), .int x1] (M) (some (.int R)) := con_of (own := RX2) (lv := [(0, .ref (ad 35)), (1, .int x1)]) (by decide +kernel) rfl (Nat.le_of_ble_eq_true rfl) rfl (fun X hz h => w2_countOfKind h hF)
def f4_countOf (M : Mem) (fu : Nat) (x1 : Int32) : Option (Int32) :=
    if x1 = 0 then ((some (M.1 35 0)))
    else if x1 = 1 then ((some (M.1 33 2)))
    else if x1 = 2 then ((some (M.1 23 0)))
    else if x1 = 3 then ((some (M.1 33 3)))
    else if x1 = 4 then ((f3_lying M).bind fun r7 =>
    (some r7))
    else if x1 = 5 then ((some (M.1 33 4)))
    else if x1 = 6 then ((f4_countThere_29 M fu).bind fun r11 =>
    (some r11))
    else if x1 = 7 then ((f4_countThere_30 M fu).bind fun r14 =>
    (some r14))
    else if x1 = 8 then ((f4_countKept M fu).bind fun r17 =>
    (some r17))
    else if x1 = 9 then ((f2_countOfKind M fu (1 : Int32)).bind fun r20 =>
    (some r20))
    else ((f2_countOfKind M fu (2 : Int32)).bind fun r22 =>
    (some r22))
set_option maxHeartbeats 4000000 in
set_option maxRecDepth 10000 in
theorem w4_countOf {ad : Nat → Nat} {X : XX} {R : Int32} {M : Mem} {fu : Nat} (h : Cx layC ad X cX4_countOf RX4 2 3 (some .int) M (some (.int R))) {x1 : Int32} (hF : f4_countOf M fu x1 = some R) : Wp layC ad X M 0 [(0, .ref (ad 28)), (1, .int x1)] [] := by
  unfold f4_countOf at hF
  refine R_iload_n (pc := 0) h 1 rfl rfl dX4_countOf_0 ?_
  by_cases c1 : x1 = 0
  · have hF := itp c1 hF
    refine R_tableIn (pc := 1) (off := 55) (tgt := 56) h dX4_countOf_1 (by rw [c1]; decide +kernel) (by rw [c1]; decide +kernel) (by rw [c1]; decide +kernel) (by decide) ?_
    refine R_aload_n (pc := 56) h 0 rfl rfl dX4_countOf_56 ?_
    refine R_getR (pc := 57) (q1 := 33) h flX4_27 lc_28 rfl dX4_countOf_57 ?_
    refine R_getR (pc := 60) (q1 := 35) h flX4_104 lc_33 rfl dX4_countOf_60 ?_
    refine R_getI (pc := 63) h flX4_121 lc_35 rfl dX4_countOf_63 ?_
    cases hF
    exact R_ireturn (pc := 66) h rfl rfl rfl dX4_countOf_66
  have hF := ifn c1 hF
  by_cases c2 : x1 = 1
  · have hF := itp c2 hF
    refine R_tableIn (pc := 1) (off := 66) (tgt := 67) h dX4_countOf_1 (by rw [c2]; decide +kernel) (by rw [c2]; decide +kernel) (by rw [c2]; decide +kernel) (by decide) ?_
    refine R_aload_n (pc := 67) h 0 rfl rfl dX4_countOf_67 ?_
    refine R_getR (pc := 68) (q1 := 33) h flX4_27 lc_28 rfl dX4_countOf_68 ?_
    refine R_getI (pc := 71) h flX4_151 lc_33 rfl dX4_countOf_71 ?_
    cases hF
    exact R_ireturn (pc := 74) h rfl rfl rfl dX4_countOf_74
  have hF := ifn c2 hF
  by_cases c3 : x1 = 2
  · have hF := itp c3 hF
    refine R_tableIn (pc := 1) (off := 74) (tgt := 75) h dX4_countOf_1 (by rw [c3]; decide +kernel) (by rw [c3]; decide +kernel) (by rw [c3]; decide +kernel) (by decide) ?_
    refine R_aload_n (pc := 75) h 0 rfl rfl dX4_countOf_75 ?_
    refine R_getR (pc := 76) (q1 := 33) h flX4_27 lc_28 rfl dX4_countOf_76 ?_
    refine R_getR (pc := 79) (q1 := 23) h flX4_172 lc_33 rfl dX4_countOf_79 ?_
    refine R_getI (pc := 82) h flX4_118 lc_23 rfl dX4_countOf_82 ?_
    cases hF
    exact R_ireturn (pc := 85) h rfl rfl rfl dX4_countOf_85
  have hF := ifn c3 hF
  by_cases c4 : x1 = 3
  · have hF := itp c4 hF
    refine R_tableIn (pc := 1) (off := 85) (tgt := 86) h dX4_countOf_1 (by rw [c4]; decide +kernel) (by rw [c4]; decide +kernel) (by rw [c4]; decide +kernel) (by decide) ?_
    refine R_aload_n (pc := 86) h 0 rfl rfl dX4_countOf_86 ?_
    refine R_getR (pc := 87) (q1 := 33) h flX4_27 lc_28 rfl dX4_countOf_87 ?_
    refine R_getI (pc := 90) h flX4_164 lc_33 rfl dX4_countOf_90 ?_
    cases hF
    exact R_ireturn (pc := 93) h rfl rfl rfl dX4_countOf_93
  have hF := ifn c4 hF
  by_cases c5 : x1 = 4
  · have hF := itp c5 hF
    refine R_tableIn (pc := 1) (off := 93) (tgt := 94) h dX4_countOf_1 (by rw [c5]; decide +kernel) (by rw [c5]; decide +kernel) (by rw [c5]; decide +kernel) (by decide) ?_
    refine R_aload_n (pc := 94) h 0 rfl rfl dX4_countOf_94 ?_
    refine R_getR (pc := 95) (q1 := 33) h flX4_27 lc_28 rfl dX4_countOf_95 ?_
    obtain ⟨r7, hc6, hF⟩ := bd hF
    refine R_callV (pc := 98) (st := []) h [] cvX4_212 (c3_lying (ad := ad) (z := X.1) hc6) rfl rfl lc_33 (by decide) (by decide) (Nat.le_of_ble_eq_true rfl) dX4_countOf_98 (st1 := [.int r7]) rfl ?_
    cases hF
    exact R_ireturn (pc := 101) h rfl rfl rfl dX4_countOf_101
  have hF := ifn c5 hF
  by_cases c8 : x1 = 5
  · have hF := itp c8 hF
    refine R_tableIn (pc := 1) (off := 101) (tgt := 102) h dX4_countOf_1 (by rw [c8]; decide +kernel) (by rw [c8]; decide +kernel) (by rw [c8]; decide +kernel) (by decide) ?_
    refine R_aload_n (pc := 102) h 0 rfl rfl dX4_countOf_102 ?_
    refine R_getR (pc := 103) (q1 := 33) h flX4_27 lc_28 rfl dX4_countOf_103 ?_
    refine R_getI (pc := 106) h flX4_199 lc_33 rfl dX4_countOf_106 ?_
    cases hF
    exact R_ireturn (pc := 109) h rfl rfl rfl dX4_countOf_109
  have hF := ifn c8 hF
  by_cases c9 : x1 = 6
  · have hF := itp c9 hF
    refine R_tableIn (pc := 1) (off := 109) (tgt := 110) h dX4_countOf_1 (by rw [c9]; decide +kernel) (by rw [c9]; decide +kernel) (by rw [c9]; decide +kernel) (by decide) ?_
    refine R_aload_n (pc := 110) h 0 rfl rfl dX4_countOf_110 ?_
    refine R_getR (pc := 111) (q1 := 29) h flX4_11 lc_28 rfl dX4_countOf_111 ?_
    obtain ⟨r11, hc10, hF⟩ := bd hF
    refine R_callS (pc := 114) (st := []) h [.ref (ad 29)] csX4_293 (c4_countThere_29 (ad := ad) (z := X.1) hc10) rfl rfl (by decide) (by decide) (Nat.le_of_ble_eq_true rfl) dX4_countOf_114 (st1 := [.int r11]) rfl ?_
    cases hF
    exact R_ireturn (pc := 117) h rfl rfl rfl dX4_countOf_117
  have hF := ifn c9 hF
  by_cases c12 : x1 = 7
  · have hF := itp c12 hF
    refine R_tableIn (pc := 1) (off := 117) (tgt := 118) h dX4_countOf_1 (by rw [c12]; decide +kernel) (by rw [c12]; decide +kernel) (by rw [c12]; decide +kernel) (by decide) ?_
    refine R_aload_n (pc := 118) h 0 rfl rfl dX4_countOf_118 ?_
    refine R_getR (pc := 119) (q1 := 30) h flX4_15 lc_28 rfl dX4_countOf_119 ?_
    obtain ⟨r14, hc13, hF⟩ := bd hF
    refine R_callS (pc := 122) (st := []) h [.ref (ad 30)] csX4_293 (c4_countThere_30 (ad := ad) (z := X.1) hc13) rfl rfl (by decide) (by decide) (Nat.le_of_ble_eq_true rfl) dX4_countOf_122 (st1 := [.int r14]) rfl ?_
    cases hF
    exact R_ireturn (pc := 125) h rfl rfl rfl dX4_countOf_125
  have hF := ifn c12 hF
  by_cases c15 : x1 = 8
  · have hF := itp c15 hF
    refine R_tableIn (pc := 1) (off := 125) (tgt := 126) h dX4_countOf_1 (by rw [c15]; decide +kernel) (by rw [c15]; decide +kernel) (by rw [c15]; decide +kernel) (by decide) ?_
    refine R_aload_n (pc := 126) h 0 rfl rfl dX4_countOf_126 ?_
    obtain ⟨r17, hc16, hF⟩ := bd hF
    refine R_callV (pc := 127) (st := []) h [] cvX4_297 (c4_countKept (ad := ad) (z := X.1) hc16) rfl rfl lc_28 (by decide) (by decide) (Nat.le_of_ble_eq_true rfl) dX4_countOf_127 (st1 := [.int r17]) rfl ?_
    cases hF
    exact R_ireturn (pc := 130) h rfl rfl rfl dX4_countOf_130
  have hF := ifn c15 hF
  by_cases c18 : x1 = 9
  · have hF := itp c18 hF
    refine R_tableIn (pc := 1) (off := 130) (tgt := 131) h dX4_countOf_1 (by rw [c18]; decide +kernel) (by rw [c18]; decide +kernel) (by rw [c18]; decide +kernel) (by decide) ?_
    refine R_aload_n (pc := 131) h 0 rfl rfl dX4_countOf_131 ?_
    refine R_getR (pc := 132) (q1 := 33) h flX4_27 lc_28 rfl dX4_countOf_132 ?_
    refine R_getR (pc := 135) (q1 := 35) h flX4_104 lc_33 rfl dX4_countOf_135 ?_
    refine R_iconst (pc := 138) (v := 1) h (by decide) dX4_countOf_138 ?_
    obtain ⟨r20, hc19, hF⟩ := bd hF
    refine R_callV (pc := 139) (st := []) h [.int (1 : Int32)] cvX4_300 (c2_countOfKind (ad := ad) (z := X.1) hc19) rfl rfl lc_35 (by decide) (by decide) (Nat.le_of_ble_eq_true rfl) dX4_countOf_139 (st1 := [.int r20]) rfl ?_
    cases hF
    exact R_ireturn (pc := 142) h rfl rfl rfl dX4_countOf_142
  have hF := ifn c18 hF
  refine R_tableOut (pc := 1) (tgt := 143) h dX4_countOf_1 (by have e0 := lv_neT c1 (a := 0) (by decide); have e1 := lv_neT c2 (a := 1) (by decide); have e2 := lv_neT c3 (a := 2) (by decide); have e3 := lv_neT c4 (a := 3) (by decide); have e4 := lv_neT c5 (a := 4) (by decide); have e5 := lv_neT c8 (a := 5) (by decide); have e6 := lv_neT c9 (a := 6) (by decide); have e7 := lv_neT c12 (a := 7) (by decide); have e8 := lv_neT c15 (a := 8) (by decide); have e9 := lv_neT c18 (a := 9) (by decide); omega) (by decide) ?_
  refine R_aload_n (pc := 143) h 0 rfl rfl dX4_countOf_143 ?_
  refine R_getR (pc := 144) (q1 := 33) h flX4_27 lc_28 rfl dX4_countOf_144 ?_
  refine R_getR (pc := 147) (q1 := 35) h flX4_104 lc_33 rfl dX4_countOf_147 ?_
  refine R_iconst (pc := 150) (v := 2) h (by decide) dX4_countOf_150 ?_
  obtain ⟨r22, hc21, hF⟩ := bd hF
  refine R_callV (pc := 151) (st := []) h [.int (2 : Int32)] cvX4_300 (c2_countOfKind (ad := ad) (z := X.1) hc21) rfl rfl lc_35 (by decide) (by decide) (Nat.le_of_ble_eq_true rfl) dX4_countOf_151 (st1 := [.int r22]) rfl ?_
  cases hF
  exact R_ireturn (pc := 154) h rfl rfl rfl dX4_countOf_154
theorem c4_countOf {ad : Nat → Nat} {z : ZZ} {R : Int32} {M : Mem} {fu : Nat} {x1 : Int32} (hF : f4_countOf M fu x1 = some R) : Con layC ad z yX4_countOf cX4_countOf 2 (some .int) 3 M [.ref (ad 28), .int x1] (M) (some (.int R)) := con_of (own := RX4) (lv := [(0, .ref (ad 28)), (1, .int x1)]) (by decide +kernel) rfl (Nat.le_of_ble_eq_true rfl) rfl (fun X hz h => w4_countOf h hF)
def f4_count (M : Mem) (fu : Nat) (x1 : Int32) : Option (Int32) :=
    if x1 < 0 then ((some (-1 : Int32)))
    else (if x1 < (11 : Int32) then ((f4_countOf M fu x1).bind fun r4 =>
    (some r4))
    else ((some (-1 : Int32))))
set_option maxHeartbeats 4000000 in
set_option maxRecDepth 10000 in
theorem w4_count {ad : Nat → Nat} {X : XX} {R : Int32} {M : Mem} {fu : Nat} (h : Cx layC ad X cX4_count RX4 2 4 (some .int) M (some (.int R))) {x1 : Int32} (hF : f4_count M fu x1 = some R) : Wp layC ad X M 0 [(0, .ref (ad 28)), (1, .int x1)] [] := by
  unfold f4_count at hF
  refine R_iload_n (pc := 0) h 1 rfl rfl dX4_count_0 ?_
  refine R_if_lt (pc := 1) (tgt := 10) h dX4_count_1 (by decide) (fun c1 => ?_) (fun c1 => ?_)
  · have hF := itp c1 hF
    refine R_iconst (pc := 10) (v := (-1)) h (by decide) dX4_count_10 ?_
    refine R_goto (pc := 11) (tgt := 19) h dX4_count_11 (by decide) ?_
    cases hF
    exact R_ireturn (pc := 19) h rfl rfl rfl dX4_count_19
  · have hF := ifn c1 hF
    refine R_iload_n (pc := 4) h 1 rfl rfl dX4_count_4 ?_
    refine R_bipush (pc := 5) (v := 11) h (by decide) dX4_count_5 ?_
    refine R_icmp_lt (pc := 7) (tgt := 14) h dX4_count_7 (by decide) (fun c2 => ?_) (fun c2 => ?_)
    · have hF := itp c2 hF
      refine R_aload_n (pc := 14) h 0 rfl rfl dX4_count_14 ?_
      refine R_iload_n (pc := 15) h 1 rfl rfl dX4_count_15 ?_
      obtain ⟨r4, hc3, hF⟩ := bd hF
      refine R_callV (pc := 16) (st := []) h [.int x1] cvX4_276 (c4_countOf (ad := ad) (z := X.1) hc3) rfl rfl lc_28 (by decide) (by decide) (Nat.le_of_ble_eq_true rfl) dX4_count_16 (st1 := [.int r4]) rfl ?_
      cases hF
      exact R_ireturn (pc := 19) h rfl rfl rfl dX4_count_19
    · have hF := ifn c2 hF
      refine R_iconst (pc := 10) (v := (-1)) h (by decide) dX4_count_10 ?_
      refine R_goto (pc := 11) (tgt := 19) h dX4_count_11 (by decide) ?_
      cases hF
      exact R_ireturn (pc := 19) h rfl rfl rfl dX4_count_19
theorem c4_count {ad : Nat → Nat} {z : ZZ} {R : Int32} {M : Mem} {fu : Nat} {x1 : Int32} (hF : f4_count M fu x1 = some R) : Con layC ad z yX4_count cX4_count 2 (some .int) 4 M [.ref (ad 28), .int x1] (M) (some (.int R)) := con_of (own := RX4) (lv := [(0, .ref (ad 28)), (1, .int x1)]) (by decide +kernel) rfl (Nat.le_of_ble_eq_true rfl) rfl (fun X hz h => w4_count h hF)
def f4_refusePlace_N (x2 : Int32) (M : Mem) : Option (Mem × Int32) :=
    (f4_refuseMissing_N M).bind fun ⟨M2, r3⟩ =>
    (some (M2, r3))
set_option maxHeartbeats 4000000 in
set_option maxRecDepth 10000 in
theorem w4_refusePlace_N {ad : Nat → Nat} {X : XX} {R : Mem × Int32} (h : Cx layC ad X cX4_refusePlace RX4 4 2 (some .int) (R.1) (some (.int R.2))) {x2 : Int32} {M : Mem} (hF : f4_refusePlace_N x2 M = some R) : Wp layC ad X M 0 [(0, .ref (ad 28)), (1, .null), (2, .int x2)] [] := by
  unfold f4_refusePlace_N at hF
  refine R_aload_n (pc := 0) h 0 rfl rfl dX4_refusePlace_0 ?_
  refine R_aload_nN (pc := 1) h 1 rfl rfl dX4_refusePlace_1 ?_
  obtain ⟨⟨M2, r3⟩, hc1, hF⟩ := bd hF
  refine R_callV (pc := 2) (st := []) h [.null] cvX4_71 (c4_refuseMissing_N (ad := ad) (z := X.1) hc1) rfl rfl lc_28 (by decide) (by decide) (Nat.le_of_ble_eq_true rfl) dX4_refusePlace_2 (st1 := [.int r3]) rfl ?_
  refine R_istore_n (pc := 5) (lv' := [(3, .int r3), (0, .ref (ad 28)), (1, .null), (2, .int x2)]) h rfl rfl (by decide) rfl dX4_refusePlace_5 ?_
  refine R_aload_nN (pc := 6) h 2 rfl rfl dX4_refusePlace_6 ?_
  refine R_ifnullN (pc := 7) (tgt := 14) h dX4_refusePlace_7 (by decide) ?_
  refine R_iload_n (pc := 14) h 0 rfl rfl dX4_refusePlace_14 ?_
  cases hF
  exact R_ireturn (pc := 15) h rfl rfl rfl dX4_refusePlace_15
theorem c4_refusePlace_N {ad : Nat → Nat} {z : ZZ} {R : Mem × Int32} {x2 : Int32} {M : Mem} (hF : f4_refusePlace_N x2 M = some R) : Con layC ad z yX4_refusePlace cX4_refusePlace 4 (some .int) 2 M [.ref (ad 28), .null, .int x2] (R.1) (some (.int R.2)) := con_of (own := RX4) (lv := [(0, .ref (ad 28)), (1, .null), (2, .int x2)]) (by decide +kernel) rfl (Nat.le_of_ble_eq_true rfl) rfl (fun X hz h => w4_refusePlace_N h hF)
def f0_hasCell (M : Mem) (p0 : Nat) (x1 : Int32) : Option (Int32) :=
    if x1 < 0 then ((some (0 : Int32)))
    else ((gd (decide (p0 < 10))).bind fun _ =>
    if (M.1 p0 0) ≤ x1 then ((some (0 : Int32)))
    else ((some (1 : Int32))))
set_option maxHeartbeats 4000000 in
set_option maxRecDepth 10000 in
theorem w0_hasCell {ad : Nat → Nat} {X : XX} {R : Int32} {M : Mem} (h : Cx layC ad X cX0_hasCell RX0 2 1 (some .boolean) M (some (.int R))) {p0 : Nat} {x1 : Int32} (hF : f0_hasCell M p0 x1 = some R) : Wp layC ad X M 0 [(0, .ref (ad p0)), (1, .int x1)] [] := by
  unfold f0_hasCell at hF
  refine R_iload_n (pc := 0) h 1 rfl rfl dX0_hasCell_0 ?_
  refine R_if_lt (pc := 1) (tgt := 16) h dX0_hasCell_1 (by decide) (fun c1 => ?_) (fun c1 => ?_)
  · have hF := itp c1 hF
    refine R_iconst (pc := 16) (v := 0) h (by decide) dX0_hasCell_16 ?_
    cases hF
    exact R_zreturn (pc := 17) h rfl zr0 rfl rfl dX0_hasCell_17
  · have hF := ifn c1 hF
    refine R_iload_n (pc := 4) h 1 rfl rfl dX0_hasCell_4 ?_
    refine R_aload_n (pc := 5) h 0 rfl rfl dX0_hasCell_5 ?_
    obtain ⟨_, hg2, hF⟩ := bd hF
    have hg2 := of_decide_eq_true (gd_s hg2)
    refine R_getI (pc := 6) h flX0_9 (lyCells hg2) rfl dX0_hasCell_6 ?_
    refine R_icmp_ge (pc := 9) (tgt := 16) h dX0_hasCell_9 (by decide) (fun c3 => ?_) (fun c3 => ?_)
    · have hF := itp c3 hF
      refine R_iconst (pc := 16) (v := 0) h (by decide) dX0_hasCell_16 ?_
      cases hF
      exact R_zreturn (pc := 17) h rfl zr0 rfl rfl dX0_hasCell_17
    · have hF := ifn c3 hF
      refine R_iconst (pc := 12) (v := 1) h (by decide) dX0_hasCell_12 ?_
      refine R_goto (pc := 13) (tgt := 17) h dX0_hasCell_13 (by decide) ?_
      cases hF
      exact R_zreturn (pc := 17) h rfl zr1 rfl rfl dX0_hasCell_17
theorem c0_hasCell {ad : Nat → Nat} {z : ZZ} {R : Int32} {M : Mem} {p0 : Nat} {x1 : Int32} (hF : f0_hasCell M p0 x1 = some R) : Con layC ad z yX0_hasCell cX0_hasCell 2 (some .boolean) 1 M [.ref (ad p0), .int x1] (M) (some (.int R)) := con_of (own := RX0) (lv := [(0, .ref (ad p0)), (1, .int x1)]) (by decide +kernel) rfl (Nat.le_of_ble_eq_true rfl) rfl (fun X hz h => w0_hasCell h hF)
def f4_refusePlace (p1 : Nat) (x2 : Int32) (M : Mem) : Option (Mem × Int32) :=
    (f4_refuseMissing p1 M).bind fun ⟨M2, r3⟩ =>
    if r3 = 0 then ((gd (decide (p1 < 10))).bind fun _ =>
    (f0_hasCell M2 p1 x2).bind fun r7 =>
    if r7 = 0 then ((f4_find (2 : Int32) M2).bind fun ⟨M10, r11⟩ =>
    (some (M10, r11)))
    else ((some (M2, (0 : Int32)))))
    else ((some (M2, r3)))
set_option maxHeartbeats 4000000 in
set_option maxRecDepth 10000 in
theorem w4_refusePlace {ad : Nat → Nat} {X : XX} {R : Mem × Int32} (h : Cx layC ad X cX4_refusePlace RX4 4 3 (some .int) (R.1) (some (.int R.2))) {p1 : Nat} {x2 : Int32} {M : Mem} (hF : f4_refusePlace p1 x2 M = some R) : Wp layC ad X M 0 [(0, .ref (ad 28)), (1, .ref (ad p1)), (2, .int x2)] [] := by
  unfold f4_refusePlace at hF
  refine R_aload_n (pc := 0) h 0 rfl rfl dX4_refusePlace_0 ?_
  refine R_aload_n (pc := 1) h 1 rfl rfl dX4_refusePlace_1 ?_
  obtain ⟨⟨M2, r3⟩, hc1, hF⟩ := bd hF
  refine R_callV (pc := 2) (st := []) h [.ref (ad p1)] cvX4_71 (c4_refuseMissing (ad := ad) (z := X.1) hc1) rfl rfl lc_28 (by decide) (by decide) (Nat.le_of_ble_eq_true rfl) dX4_refusePlace_2 (st1 := [.int r3]) rfl ?_
  refine R_istore_n (pc := 5) (lv' := [(3, .int r3), (0, .ref (ad 28)), (1, .ref (ad p1)), (2, .int x2)]) h rfl rfl (by decide) rfl dX4_refusePlace_5 ?_
  refine R_aload_n (pc := 6) h 2 rfl rfl dX4_refusePlace_6 ?_
  refine R_ifnull (pc := 7) h dX4_refusePlace_7 ?_
  refine R_iload_n (pc := 10) h 0 rfl rfl dX4_refusePlace_10 ?_
  refine R_if_eq (pc := 11) (tgt := 16) h dX4_refusePlace_11 (by decide) (fun c4 => ?_) (fun c4 => ?_)
  · have hF := itp c4 hF
    refine R_aload_n (pc := 16) h 2 rfl rfl dX4_refusePlace_16 ?_
    refine R_iload_n (pc := 17) h 3 rfl rfl dX4_refusePlace_17 ?_
    obtain ⟨_, hg5, hF⟩ := bd hF
    have hg5 := of_decide_eq_true (gd_s hg5)
    obtain ⟨r7, hc6, hF⟩ := bd hF
    refine R_callV (pc := 18) (st := []) h [.int x2] cvX4_290 (c0_hasCell (ad := ad) (z := X.1) hc6) rfl rfl (lyCells hg5) (by decide) (by decide) (Nat.le_of_ble_eq_true rfl) dX4_refusePlace_18 (st1 := [.int r7]) rfl ?_
    refine R_if_eq (pc := 21) (tgt := 28) h dX4_refusePlace_21 (by decide) (fun c8 => ?_) (fun c8 => ?_)
    · have hF := itp c8 hF
      refine R_aload_n (pc := 28) h 1 rfl rfl dX4_refusePlace_28 ?_
      refine R_iconst (pc := 29) (v := 2) h (by decide) dX4_refusePlace_29 ?_
      obtain ⟨⟨M10, r11⟩, hc9, hF⟩ := bd hF
      refine R_callV (pc := 30) (st := []) h [.int (2 : Int32)] cvX4_78 (c4_find (ad := ad) (z := X.1) hc9) rfl rfl lc_28 (by decide) (by decide) (Nat.le_of_ble_eq_true rfl) dX4_refusePlace_30 (st1 := [.int r11]) rfl ?_
      cases hF
      exact R_ireturn (pc := 33) h rfl rfl rfl dX4_refusePlace_33
    · have hF := ifn c8 hF
      refine R_iconst (pc := 24) (v := 0) h (by decide) dX4_refusePlace_24 ?_
      refine R_goto (pc := 25) (tgt := 33) h dX4_refusePlace_25 (by decide) ?_
      cases hF
      exact R_ireturn (pc := 33) h rfl rfl rfl dX4_refusePlace_33
  · have hF := ifn c4 hF
    refine R_iload_n (pc := 14) h 0 rfl rfl dX4_refusePlace_14 ?_
    cases hF
    exact R_ireturn (pc := 15) h rfl rfl rfl dX4_refusePlace_15
theorem c4_refusePlace {ad : Nat → Nat} {z : ZZ} {R : Mem × Int32} {p1 : Nat} {x2 : Int32} {M : Mem} (hF : f4_refusePlace p1 x2 M = some R) : Con layC ad z yX4_refusePlace cX4_refusePlace 4 (some .int) 3 M [.ref (ad 28), .ref (ad p1), .int x2] (R.1) (some (.int R.2)) := con_of (own := RX4) (lv := [(0, .ref (ad 28)), (1, .ref (ad p1)), (2, .int x2)]) (by decide +kernel) rfl (Nat.le_of_ble_eq_true rfl) rfl (fun X hz h => w4_refusePlace h hF)
def f0_setCell (p0 : Nat) (x1 : Int32) (x2 : Int32) (M : Mem) : Option (Mem) :=
    if x1 < 0 then ((some M))
    else ((gd (decide (p0 < 10))).bind fun _ =>
    if (60 : Int32) ≤ x1 then ((some M))
    else ((wr M (p0 + 10) 60 x1 x2).bind fun M4 =>
    (some M4)))
set_option maxHeartbeats 4000000 in
set_option maxRecDepth 10000 in
theorem w0_setCell {ad : Nat → Nat} {X : XX} {R : Mem} (h : Cx layC ad X cX0_setCell RX0 3 1 none (R) none) {p0 : Nat} {x1 : Int32} {x2 : Int32} {M : Mem} (hF : f0_setCell p0 x1 x2 M = some R) : Wp layC ad X M 0 [(0, .ref (ad p0)), (1, .int x1), (2, .int x2)] [] := by
  unfold f0_setCell at hF
  refine R_iload_n (pc := 0) h 1 rfl rfl dX0_setCell_0 ?_
  refine R_if_lt (pc := 1) (tgt := 20) h dX0_setCell_1 (by decide) (fun c1 => ?_) (fun c1 => ?_)
  · have hF := itp c1 hF
    cases hF
    exact R_return (pc := 20) h rfl rfl rfl dX0_setCell_20
  · have hF := ifn c1 hF
    refine R_iload_n (pc := 4) h 1 rfl rfl dX0_setCell_4 ?_
    refine R_aload_n (pc := 5) h 0 rfl rfl dX0_setCell_5 ?_
    obtain ⟨_, hg2, hF⟩ := bd hF
    have hg2 := of_decide_eq_true (gd_s hg2)
    refine R_getR (pc := 6) (q1 := p0 + 10) h flX0_15 (lyCells hg2) rfl dX0_setCell_6 ?_
    refine R_alen (pc := 9) (v := 60) h (by decide) (by decide) (lyCellsA hg2) dX0_setCell_9 ?_
    refine R_icmp_ge (pc := 10) (tgt := 20) h dX0_setCell_10 (by decide) (fun c3 => ?_) (fun c3 => ?_)
    · have hF := itp c3 hF
      cases hF
      exact R_return (pc := 20) h rfl rfl rfl dX0_setCell_20
    · have hF := ifn c3 hF
      refine R_aload_n (pc := 13) h 0 rfl rfl dX0_setCell_13 ?_
      refine R_getR (pc := 14) (q1 := p0 + 10) h flX0_15 (lyCells hg2) rfl dX0_setCell_14 ?_
      refine R_iload_n (pc := 17) h 1 rfl rfl dX0_setCell_17 ?_
      refine R_iload_n (pc := 18) h 2 rfl rfl dX0_setCell_18 ?_
      obtain ⟨M4, hM4, hF⟩ := bd hF
      refine R_iast (pc := 19) h hM4 (lyCellsA hg2) dX0_setCell_19 ?_
      cases hF
      exact R_return (pc := 20) h rfl rfl rfl dX0_setCell_20
theorem c0_setCell {ad : Nat → Nat} {z : ZZ} {R : Mem} {p0 : Nat} {x1 : Int32} {x2 : Int32} {M : Mem} (hF : f0_setCell p0 x1 x2 M = some R) : Con layC ad z yX0_setCell cX0_setCell 3 none 1 M [.ref (ad p0), .int x1, .int x2] (R) none := con_of (own := RX0) (lv := [(0, .ref (ad p0)), (1, .int x1), (2, .int x2)]) (by decide +kernel) rfl (Nat.le_of_ble_eq_true rfl) rfl (fun X hz h => w0_setCell h hF)
def f4_put (x1 : Int32) (x2 : Int32) (x3 : Int32) (M : Mem) : Option (Mem × Int32) :=
    (f4_textAt x1).bind fun r2 =>
    oc r2 ((f4_refusePlace_N x2 M).bind fun ⟨M5, r6⟩ =>
    (some (M5, r6)))
    fun q3 => (f4_refusePlace q3 x2 M).bind fun ⟨M8, r9⟩ =>
    if r9 = 0 then ((gd (decide (q3 < 10))).bind fun _ =>
    (f0_cellAt M8 q3 x2).bind fun r13 =>
    (f0_setCell q3 x2 x3.toInt8.toInt32 M8).bind fun M15 =>
    (some (M15, (r13 + (1000 : Int32)))))
    else ((some (M8, r9)))
set_option maxHeartbeats 4000000 in
set_option maxRecDepth 10000 in
theorem w4_put {ad : Nat → Nat} {X : XX} {R : Mem × Int32} (h : Cx layC ad X cX4_put RX4 7 4 (some .int) (R.1) (some (.int R.2))) {x1 : Int32} {x2 : Int32} {x3 : Int32} {M : Mem} (hF : f4_put x1 x2 x3 M = some R) : Wp layC ad X M 0 [(0, .ref (ad 28)), (1, .int x1), (2, .int x2), (3, .int x3)] [] := by
  unfold f4_put at hF
  refine R_aload_n (pc := 0) h 0 rfl rfl dX4_put_0 ?_
  refine R_iload_n (pc := 1) h 1 rfl rfl dX4_put_1 ?_
  obtain ⟨r2, hc1, hF⟩ := bd hF
  rcases r2 with _ | q3
  · have hF := oc_n hF
    refine R_callV (pc := 2) (st := []) h [.int x1] cvX4_98 (c4_textAt (ad := ad) (z := X.1) (M := M) hc1) rfl rfl lc_28 (by decide) (by decide) (Nat.le_of_ble_eq_true rfl) dX4_put_2 (st1 := [.null]) rfl ?_
    refine R_astoreN (pc := 5) (lv' := [(4, .null), (0, .ref (ad 28)), (1, .int x1), (2, .int x2), (3, .int x3)]) h (by decide) rfl dX4_put_5 ?_
    refine R_aload_n (pc := 7) h 1 rfl rfl dX4_put_7 ?_
    refine R_aloadN (pc := 8) h 0 rfl dX4_put_8 ?_
    refine R_iload_n (pc := 10) h 3 rfl rfl dX4_put_10 ?_
    obtain ⟨⟨M5, r6⟩, hc4, hF⟩ := bd hF
    refine R_callV (pc := 11) (st := []) h [.null, .int x2] cvX4_59 (c4_refusePlace_N (ad := ad) (z := X.1) hc4) rfl rfl lc_28 (by decide) (by decide) (Nat.le_of_ble_eq_true rfl) dX4_put_11 (st1 := [.int r6]) rfl ?_
    refine R_istore (pc := 14) (lv' := [(5, .int r6), (4, .null), (0, .ref (ad 28)), (1, .int x1), (2, .int x2), (3, .int x3)]) h rfl (by decide) rfl dX4_put_14 ?_
    refine R_aloadN (pc := 16) h 1 rfl dX4_put_16 ?_
    refine R_ifnullN (pc := 18) (tgt := 26) h dX4_put_18 (by decide) ?_
    refine R_iload (pc := 26) h 0 rfl dX4_put_26 ?_
    cases hF
    exact R_ireturn (pc := 28) h rfl rfl rfl dX4_put_28
  · have hF := oc_s hF
    refine R_callV (pc := 2) (st := []) h [.int x1] cvX4_98 (c4_textAt (ad := ad) (z := X.1) (M := M) hc1) rfl rfl lc_28 (by decide) (by decide) (Nat.le_of_ble_eq_true rfl) dX4_put_2 (st1 := [.ref (ad q3)]) rfl ?_
    refine R_astore (pc := 5) (lv' := [(4, .ref (ad q3)), (0, .ref (ad 28)), (1, .int x1), (2, .int x2), (3, .int x3)]) h rfl (by decide) rfl dX4_put_5 ?_
    refine R_aload_n (pc := 7) h 1 rfl rfl dX4_put_7 ?_
    refine R_aload (pc := 8) h 0 rfl dX4_put_8 ?_
    refine R_iload_n (pc := 10) h 3 rfl rfl dX4_put_10 ?_
    obtain ⟨⟨M8, r9⟩, hc7, hF⟩ := bd hF
    refine R_callV (pc := 11) (st := []) h [.ref (ad q3), .int x2] cvX4_59 (c4_refusePlace (ad := ad) (z := X.1) hc7) rfl rfl lc_28 (by decide) (by decide) (Nat.le_of_ble_eq_true rfl) dX4_put_11 (st1 := [.int r9]) rfl ?_
    refine R_istore (pc := 14) (lv' := [(5, .int r9), (4, .ref (ad q3)), (0, .ref (ad 28)), (1, .int x1), (2, .int x2), (3, .int x3)]) h rfl (by decide) rfl dX4_put_14 ?_
    refine R_aload (pc := 16) h 1 rfl dX4_put_16 ?_
    refine R_ifnull (pc := 18) h dX4_put_18 ?_
    refine R_iload (pc := 21) h 0 rfl dX4_put_21 ?_
    refine R_if_eq (pc := 23) (tgt := 29) h dX4_put_23 (by decide) (fun c10 => ?_) (fun c10 => ?_)
    · have hF := itp c10 hF
      refine R_aload (pc := 29) h 1 rfl dX4_put_29 ?_
      refine R_iload_n (pc := 31) h 4 rfl rfl dX4_put_31 ?_
      obtain ⟨_, hg11, hF⟩ := bd hF
      have hg11 := of_decide_eq_true (gd_s hg11)
      obtain ⟨r13, hc12, hF⟩ := bd hF
      refine R_callV (pc := 32) (st := []) h [.int x2] cvX4_63 (c0_cellAt (ad := ad) (z := X.1) hc12) rfl rfl (lyCells hg11) (by decide) (by decide) (Nat.le_of_ble_eq_true rfl) dX4_put_32 (st1 := [.int r13]) rfl ?_
      refine R_istore (pc := 35) (lv' := [(6, .int r13), (5, .int r9), (4, .ref (ad q3)), (0, .ref (ad 28)), (1, .int x1), (2, .int x2), (3, .int x3)]) h rfl (by decide) rfl dX4_put_35 ?_
      refine R_aload (pc := 37) h 2 rfl dX4_put_37 ?_
      refine R_iload_n (pc := 39) h 5 rfl rfl dX4_put_39 ?_
      refine R_iload_n (pc := 40) h 6 rfl rfl dX4_put_40 ?_
      refine R_i2b (pc := 41) h dX4_put_41 ?_
      obtain ⟨M15, hc14, hF⟩ := bd hF
      refine R_callV (pc := 42) (st := []) h [.int x2, .int x3.toInt8.toInt32] cvX4_67 (c0_setCell (ad := ad) (z := X.1) hc14) rfl rfl (lyCells hg11) (by decide) (by decide) (Nat.le_of_ble_eq_true rfl) dX4_put_42 (st1 := []) rfl ?_
      refine R_iload (pc := 45) h 0 rfl dX4_put_45 ?_
      refine R_sipush (pc := 47) (v := 1000) h (by decide) dX4_put_47 ?_
      refine R_iadd (pc := 50) h dX4_put_50 ?_
      cases hF
      exact R_ireturn (pc := 51) h rfl rfl rfl dX4_put_51
    · have hF := ifn c10 hF
      refine R_iload (pc := 26) h 0 rfl dX4_put_26 ?_
      cases hF
      exact R_ireturn (pc := 28) h rfl rfl rfl dX4_put_28
theorem c4_put {ad : Nat → Nat} {z : ZZ} {R : Mem × Int32} {x1 : Int32} {x2 : Int32} {x3 : Int32} {M : Mem} (hF : f4_put x1 x2 x3 M = some R) : Con layC ad z yX4_put cX4_put 7 (some .int) 4 M [.ref (ad 28), .int x1, .int x2, .int x3] (R.1) (some (.int R.2)) := con_of (own := RX4) (lv := [(0, .ref (ad 28)), (1, .int x1), (2, .int x2), (3, .int x3)]) (by decide +kernel) rfl (Nat.le_of_ble_eq_true rfl) rfl (fun X hz h => w4_put h hF)
def f4_keptAt (x1 : Int32) : Option (Option Nat) :=
    if x1 < 0 then ((some none))
    else (if (3 : Int32) ≤ x1 then ((some none))
    else ((rdR [20, 21, 22] x1).bind fun q3 =>
    (some (some q3))))
set_option maxHeartbeats 4000000 in
set_option maxRecDepth 10000 in
theorem w4_keptAt {ad : Nat → Nat} {X : XX} {R : Option Nat} {M : Mem} (h : Cx layC ad X cX4_keptAt RX4 2 1 (some (.object "PinDuties$Deeds")) M (some (rv ad R))) {x1 : Int32} (hF : f4_keptAt x1 = some R) : Wp layC ad X M 0 [(0, .ref (ad 28)), (1, .int x1)] [] := by
  unfold f4_keptAt at hF
  refine R_iload_n (pc := 0) h 1 rfl rfl dX4_keptAt_0 ?_
  refine R_if_lt (pc := 1) (tgt := 18) h dX4_keptAt_1 (by decide) (fun c1 => ?_) (fun c1 => ?_)
  · have hF := itp c1 hF
    refine R_null (pc := 18) h dX4_keptAt_18 ?_
    cases hF
    exact R_areturn (pc := 19) h rfl (Or.inl rfl) rfl rfl dX4_keptAt_19
  · have hF := ifn c1 hF
    refine R_iload_n (pc := 4) h 1 rfl rfl dX4_keptAt_4 ?_
    refine R_iconst (pc := 5) (v := 3) h (by decide) dX4_keptAt_5 ?_
    refine R_icmp_ge (pc := 6) (tgt := 18) h dX4_keptAt_6 (by decide) (fun c2 => ?_) (fun c2 => ?_)
    · have hF := itp c2 hF
      refine R_null (pc := 18) h dX4_keptAt_18 ?_
      cases hF
      exact R_areturn (pc := 19) h rfl (Or.inl rfl) rfl rfl dX4_keptAt_19
    · have hF := ifn c2 hF
      refine R_aload_n (pc := 9) h 0 rfl rfl dX4_keptAt_9 ?_
      refine R_getR (pc := 10) (q1 := 31) h flX4_20 lc_28 rfl dX4_keptAt_10 ?_
      refine R_iload_n (pc := 13) h 1 rfl rfl dX4_keptAt_13 ?_
      obtain ⟨q3, hq3, hF⟩ := bd hF
      refine R_aald (pc := 14) h hq3 (by decide) lc_31 dX4_keptAt_14 ?_
      refine R_goto (pc := 15) (tgt := 19) h dX4_keptAt_15 (by decide) ?_
      cases hF
      exact R_areturn (pc := 19) h rfl (Or.inr ⟨_, rfl⟩) rfl rfl dX4_keptAt_19
theorem c4_keptAt {ad : Nat → Nat} {z : ZZ} {R : Option Nat} {M : Mem} {x1 : Int32} (hF : f4_keptAt x1 = some R) : Con layC ad z yX4_keptAt cX4_keptAt 2 (some (.object "PinDuties$Deeds")) 1 M [.ref (ad 28), .int x1] (M) (some (rv ad R)) := con_of (own := RX4) (lv := [(0, .ref (ad 28)), (1, .int x1)]) (by decide +kernel) rfl (Nat.le_of_ble_eq_true rfl) rfl (fun X hz h => w4_keptAt h hF)
def f1_takeOver_10 (fu : Nat) : Nat → Nat → Nat → Int32 → Mem → Option (Mem)
  | 0 => fun _ _ _ _ => none
  | f + 1 => fun px0 px1 x2 M =>
    if (40 : Int32) ≤ x2 then ((some M))
    else ((gd (decide (20 ≤ px0 ∧ px0 < 24))).bind fun _ =>
    (gd (decide (20 ≤ px1 ∧ px1 < 24))).bind fun _ =>
    (rd M (px1 + 4) 40 x2).bind fun v4 =>
    (wr M (px0 + 4) 40 x2 v4).bind fun M5 =>
    nm (x2 + (1 : Int32)) fun v6 =>
    ((f1_takeOver_10 fu f) px0 px1 v6 M5))
set_option maxHeartbeats 4000000 in
set_option maxRecDepth 10000 in
theorem w1_takeOveri_10 {ad : Nat → Nat} {X : XX} {R : Mem} {fu : Nat}  (h : Cx layC ad X cX1_takeOver RX1 3 1 none (R) none)  : ∀ (f : Nat) (px0 : Nat) (px1 : Nat) (x2 : Int32) (M : Mem), f1_takeOver_10 fu f px0 px1 x2 M = some R → Wp layC ad X M 10 [(0, .ref (ad px0)), (1, .ref (ad px1)), (2, .int x2)] [] := by
  intro f
  induction f with
  | zero => intro px0 px1 x2 M hF; exact absurd hF (by simp [f1_takeOver_10])
  | succ f ih =>
    intro px0 px1 x2 M hF
    rw [f1_takeOver_10] at hF
    refine R_iload_n (pc := 10) h 2 rfl rfl dX1_takeOver_10 ?_
    refine R_bipush (pc := 11) (v := 40) h (by decide) dX1_takeOver_11 ?_
    refine R_icmp_ge (pc := 13) (tgt := 34) h dX1_takeOver_13 (by decide) (fun c1 => ?_) (fun c1 => ?_)
    · have hF := itp c1 hF
      cases hF
      exact R_return (pc := 34) h rfl rfl rfl dX1_takeOver_34
    · have hF := ifn c1 hF
      refine R_aload_n (pc := 16) h 0 rfl rfl dX1_takeOver_16 ?_
      obtain ⟨_, hg2, hF⟩ := bd hF
      have hg2 := of_decide_eq_true (gd_s hg2)
      refine R_getR (pc := 17) (q1 := px0 + 4) h flX1_15 (lyDeeds hg2) rfl dX1_takeOver_17 ?_
      refine R_iload_n (pc := 20) h 2 rfl rfl dX1_takeOver_20 ?_
      refine R_aload_n (pc := 21) h 1 rfl rfl dX1_takeOver_21 ?_
      obtain ⟨_, hg3, hF⟩ := bd hF
      have hg3 := of_decide_eq_true (gd_s hg3)
      refine R_getR (pc := 22) (q1 := px1 + 4) h flX1_15 (lyDeeds hg3) rfl dX1_takeOver_22 ?_
      refine R_iload_n (pc := 25) h 2 rfl rfl dX1_takeOver_25 ?_
      obtain ⟨v4, hv4, hF⟩ := bd hF
      refine R_iald (pc := 26) h hv4 (lyDeedsA hg3) dX1_takeOver_26 ?_
      obtain ⟨M5, hM5, hF⟩ := bd hF
      refine R_iast (pc := 27) h hM5 (lyDeedsA hg2) dX1_takeOver_27 ?_
      obtain ⟨v6, hv6, hF⟩ := nm_e2 hF
      refine R_iinc (pc := 28) (lv' := [(2, .int v6), (0, .ref (ad px0)), (1, .ref (ad px1))]) h 2 rfl (by decide) hv6 (by decide) rfl dX1_takeOver_28 ?_
      refine R_goto (pc := 31) (tgt := 10) h dX1_takeOver_31 (by decide) ?_
      exact Wp_sub (nX := 0) (lv' := [(0, .ref (ad px0)), (1, .ref (ad px1)), (2, .int v6)]) [1, 2, 0] rfl (ih _ _ _ _ hF)
theorem w1_takeOver_10 {ad : Nat → Nat} {X : XX} {R : Mem} {fu : Nat}  (h : Cx layC ad X cX1_takeOver RX1 3 1 none (R) none)  {f : Nat} {px0 : Nat} {px1 : Nat} {x2 : Int32} {M : Mem} (hF : f1_takeOver_10 fu f px0 px1 x2 M = some R) : Wp layC ad X M 10 [(0, .ref (ad px0)), (1, .ref (ad px1)), (2, .int x2)] [] := w1_takeOveri_10 h  f _ _ _ _ hF
def f1_takeOver (fu : Nat) (p0 : Nat) (p1 : Nat) (M : Mem) : Option (Mem) :=
    (gd (decide (20 ≤ p1 ∧ p1 < 24))).bind fun _ =>
    (gd (decide (20 ≤ p0 ∧ p0 < 24))).bind fun _ =>
    nm (sI M p0 0 (M.1 p1 0)) fun M3 =>
    (f1_takeOver_10 fu fu p0 p1 (0 : Int32) M3)
set_option maxHeartbeats 4000000 in
set_option maxRecDepth 10000 in
theorem w1_takeOver {ad : Nat → Nat} {X : XX} {R : Mem} {fu : Nat} (h : Cx layC ad X cX1_takeOver RX1 3 1 none (R) none) {p0 : Nat} {p1 : Nat} {M : Mem} (hF : f1_takeOver fu p0 p1 M = some R) : Wp layC ad X M 0 [(0, .ref (ad p0)), (1, .ref (ad p1))] [] := by
  unfold f1_takeOver at hF
  refine R_aload_n (pc := 0) h 0 rfl rfl dX1_takeOver_0 ?_
  refine R_aload_n (pc := 1) h 1 rfl rfl dX1_takeOver_1 ?_
  obtain ⟨_, hg1, hF⟩ := bd hF
  have hg1 := of_decide_eq_true (gd_s hg1)
  refine R_getI (pc := 2) h flX1_9 (lyDeeds hg1) rfl dX1_takeOver_2 ?_
  obtain ⟨_, hg2, hF⟩ := bd hF
  have hg2 := of_decide_eq_true (gd_s hg2)
  obtain ⟨M3, hM3, hF⟩ := nm_e2 hF
  refine R_putI (pc := 5) h hM3 fpX1_9 (lyDeeds hg2) rfl dX1_takeOver_5 ?_
  refine R_iconst (pc := 8) (v := 0) h (by decide) dX1_takeOver_8 ?_
  refine R_istore_n (pc := 9) (lv' := [(2, .int (0 : Int32)), (0, .ref (ad p0)), (1, .ref (ad p1))]) h rfl rfl (by decide) rfl dX1_takeOver_9 ?_
  exact Wp_sub (nX := 0) (lv' := [(0, .ref (ad p0)), (1, .ref (ad p1)), (2, .int (0 : Int32))]) [1, 2, 0] rfl (w1_takeOver_10 h  (hF := hF))
theorem c1_takeOver {ad : Nat → Nat} {z : ZZ} {R : Mem} {fu : Nat} {p0 : Nat} {p1 : Nat} {M : Mem} (hF : f1_takeOver fu p0 p1 M = some R) : Con layC ad z yX1_takeOver cX1_takeOver 3 none 1 M [.ref (ad p0), .ref (ad p1)] (R) none := con_of (own := RX1) (lv := [(0, .ref (ad p0)), (1, .ref (ad p1))]) (by decide +kernel) rfl (Nat.le_of_ble_eq_true rfl) rfl (fun X hz h => w1_takeOver h hF)
def f4_keep (fu : Nat) (x1 : Int32) (M : Mem) : Option (Mem × Int32) :=
    (f4_keptAt x1).bind fun r2 =>
    oc r2 ((some (M, (-1 : Int32))))
    fun q3 => if (M.1 35 0) = 0 then ((some (M, (-4 : Int32))))
    else ((gd (decide (20 ≤ q3 ∧ q3 < 24))).bind fun _ =>
    (f1_takeOver fu q3 23 M).bind fun M7 =>
    (some (M7, (M7.1 q3 0))))
set_option maxHeartbeats 4000000 in
set_option maxRecDepth 10000 in
theorem w4_keep {ad : Nat → Nat} {X : XX} {R : Mem × Int32} {fu : Nat} (h : Cx layC ad X cX4_keep RX4 3 2 (some .int) (R.1) (some (.int R.2))) {x1 : Int32} {M : Mem} (hF : f4_keep fu x1 M = some R) : Wp layC ad X M 0 [(0, .ref (ad 28)), (1, .int x1)] [] := by
  unfold f4_keep at hF
  refine R_aload_n (pc := 0) h 0 rfl rfl dX4_keep_0 ?_
  refine R_iload_n (pc := 1) h 1 rfl rfl dX4_keep_1 ?_
  obtain ⟨r2, hc1, hF⟩ := bd hF
  rcases r2 with _ | q3
  · have hF := oc_n hF
    refine R_callV (pc := 2) (st := []) h [.int x1] cvX4_176 (c4_keptAt (ad := ad) (z := X.1) (M := M) hc1) rfl rfl lc_28 (by decide) (by decide) (Nat.le_of_ble_eq_true rfl) dX4_keep_2 (st1 := [.null]) rfl ?_
    refine R_astore_nN (pc := 5) (lv' := [(2, .null), (0, .ref (ad 28)), (1, .int x1)]) h rfl (by decide) rfl dX4_keep_5 ?_
    refine R_aload_nN (pc := 6) h 0 rfl rfl dX4_keep_6 ?_
    refine R_ifnonnullN (pc := 7) h dX4_keep_7 ?_
    refine R_iconst (pc := 10) (v := (-1)) h (by decide) dX4_keep_10 ?_
    cases hF
    exact R_ireturn (pc := 11) h rfl rfl rfl dX4_keep_11
  · have hF := oc_s hF
    refine R_callV (pc := 2) (st := []) h [.int x1] cvX4_176 (c4_keptAt (ad := ad) (z := X.1) (M := M) hc1) rfl rfl lc_28 (by decide) (by decide) (Nat.le_of_ble_eq_true rfl) dX4_keep_2 (st1 := [.ref (ad q3)]) rfl ?_
    refine R_astore_n (pc := 5) (lv' := [(2, .ref (ad q3)), (0, .ref (ad 28)), (1, .int x1)]) h rfl rfl (by decide) rfl dX4_keep_5 ?_
    refine R_aload_n (pc := 6) h 0 rfl rfl dX4_keep_6 ?_
    refine R_ifnonnull (pc := 7) (tgt := 12) h dX4_keep_7 (by decide) ?_
    refine R_aload_n (pc := 12) h 1 rfl rfl dX4_keep_12 ?_
    refine R_getR (pc := 13) (q1 := 33) h flX4_27 lc_28 rfl dX4_keep_13 ?_
    refine R_getR (pc := 16) (q1 := 35) h flX4_104 lc_33 rfl dX4_keep_16 ?_
    refine R_getI (pc := 19) h flX4_121 lc_35 rfl dX4_keep_19 ?_
    refine R_if_ne (pc := 22) (tgt := 28) h dX4_keep_22 (by decide) (fun c4 => ?_) (fun c4 => ?_)
    · have hF := ifn c4 hF
      refine R_aload_n (pc := 28) h 0 rfl rfl dX4_keep_28 ?_
      refine R_aload_n (pc := 29) h 1 rfl rfl dX4_keep_29 ?_
      refine R_getR (pc := 30) (q1 := 33) h flX4_27 lc_28 rfl dX4_keep_30 ?_
      refine R_getR (pc := 33) (q1 := 23) h flX4_172 lc_33 rfl dX4_keep_33 ?_
      obtain ⟨_, hg5, hF⟩ := bd hF
      have hg5 := of_decide_eq_true (gd_s hg5)
      obtain ⟨M7, hc6, hF⟩ := bd hF
      refine R_callV (pc := 36) (st := []) h [.ref (ad 23)] cvX4_180 (c1_takeOver (ad := ad) (z := X.1) hc6) rfl rfl (lyDeeds hg5) (by decide) (by decide) (Nat.le_of_ble_eq_true rfl) dX4_keep_36 (st1 := []) rfl ?_
      refine R_aload_n (pc := 39) h 0 rfl rfl dX4_keep_39 ?_
      refine R_getI (pc := 40) h flX4_118 (lyDeeds hg5) rfl dX4_keep_40 ?_
      cases hF
      exact R_ireturn (pc := 43) h rfl rfl rfl dX4_keep_43
    · have hF := itp c4 hF
      refine R_bipush (pc := 25) (v := (-4)) h (by decide) dX4_keep_25 ?_
      cases hF
      exact R_ireturn (pc := 27) h rfl rfl rfl dX4_keep_27
theorem c4_keep {ad : Nat → Nat} {z : ZZ} {R : Mem × Int32} {fu : Nat} {x1 : Int32} {M : Mem} (hF : f4_keep fu x1 M = some R) : Con layC ad z yX4_keep cX4_keep 3 (some .int) 2 M [.ref (ad 28), .int x1] (R.1) (some (.int R.2)) := con_of (own := RX4) (lv := [(0, .ref (ad 28)), (1, .int x1)]) (by decide +kernel) rfl (Nat.le_of_ble_eq_true rfl) rfl (fun X hz h => w4_keep h hF)
def f2_isSet (x0 : Int32) : Option (Int32) :=
    if x0 < 0 then ((some (0 : Int32)))
    else (if (256 : Int32) ≤ x0 then ((some (0 : Int32)))
    else ((some (1 : Int32))))
set_option maxHeartbeats 4000000 in
set_option maxRecDepth 10000 in
theorem w2_isSet {ad : Nat → Nat} {X : XX} {R : Int32} {M : Mem} (h : Cx layC ad X cX2_isSet RX2 1 1 (some .boolean) M (some (.int R))) {x0 : Int32} (hF : f2_isSet x0 = some R) : Wp layC ad X M 0 [(0, .int x0)] [] := by
  unfold f2_isSet at hF
  refine R_iload_n (pc := 0) h 0 rfl rfl dX2_isSet_0 ?_
  refine R_if_lt (pc := 1) (tgt := 15) h dX2_isSet_1 (by decide) (fun c1 => ?_) (fun c1 => ?_)
  · have hF := itp c1 hF
    refine R_iconst (pc := 15) (v := 0) h (by decide) dX2_isSet_15 ?_
    cases hF
    exact R_zreturn (pc := 16) h rfl zr0 rfl rfl dX2_isSet_16
  · have hF := ifn c1 hF
    refine R_iload_n (pc := 4) h 0 rfl rfl dX2_isSet_4 ?_
    refine R_sipush (pc := 5) (v := 256) h (by decide) dX2_isSet_5 ?_
    refine R_icmp_ge (pc := 8) (tgt := 15) h dX2_isSet_8 (by decide) (fun c2 => ?_) (fun c2 => ?_)
    · have hF := itp c2 hF
      refine R_iconst (pc := 15) (v := 0) h (by decide) dX2_isSet_15 ?_
      cases hF
      exact R_zreturn (pc := 16) h rfl zr0 rfl rfl dX2_isSet_16
    · have hF := ifn c2 hF
      refine R_iconst (pc := 11) (v := 1) h (by decide) dX2_isSet_11 ?_
      refine R_goto (pc := 12) (tgt := 16) h dX2_isSet_12 (by decide) ?_
      cases hF
      exact R_zreturn (pc := 16) h rfl zr1 rfl rfl dX2_isSet_16
theorem c2_isSet {ad : Nat → Nat} {z : ZZ} {R : Int32} {M : Mem} {x0 : Int32} (hF : f2_isSet x0 = some R) : Con layC ad z yX2_isSet cX2_isSet 1 (some .boolean) 1 M [.int x0] (M) (some (.int R)) := con_of (own := RX2) (lv := [(0, .int x0)]) (by decide +kernel) rfl (Nat.le_of_ble_eq_true rfl) rfl (fun X hz h => w2_isSet h hF)
def f2_sumOf (M : Mem) (x1 : Int32) : Option (Int32) :=
    (f2_isSet x1).bind fun r2 =>
    if r2 = 0 then ((some (0 : Int32)))
    else ((rd M 44 256 x1).bind fun v4 =>
    (some v4))
set_option maxHeartbeats 4000000 in
set_option maxRecDepth 10000 in
theorem w2_sumOf {ad : Nat → Nat} {X : XX} {R : Int32} {M : Mem} (h : Cx layC ad X cX2_sumOf RX2 2 2 (some .int) M (some (.int R))) {x1 : Int32} (hF : f2_sumOf M x1 = some R) : Wp layC ad X M 0 [(0, .ref (ad 35)), (1, .int x1)] [] := by
  unfold f2_sumOf at hF
  refine R_iload_n (pc := 0) h 1 rfl rfl dX2_sumOf_0 ?_
  obtain ⟨r2, hc1, hF⟩ := bd hF
  refine R_callS (pc := 1) (st := []) h [.int x1] csX2_50 (c2_isSet (ad := ad) (z := X.1) (M := M) hc1) rfl rfl (by decide) (by decide) (Nat.le_of_ble_eq_true rfl) dX2_sumOf_1 (st1 := [.int r2]) rfl ?_
  refine R_if_eq (pc := 4) (tgt := 16) h dX2_sumOf_4 (by decide) (fun c3 => ?_) (fun c3 => ?_)
  · have hF := itp c3 hF
    refine R_iconst (pc := 16) (v := 0) h (by decide) dX2_sumOf_16 ?_
    cases hF
    exact R_ireturn (pc := 17) h rfl rfl rfl dX2_sumOf_17
  · have hF := ifn c3 hF
    refine R_aload_n (pc := 7) h 0 rfl rfl dX2_sumOf_7 ?_
    refine R_getR (pc := 8) (q1 := 44) h flX2_40 lc_35 rfl dX2_sumOf_8 ?_
    refine R_iload_n (pc := 11) h 1 rfl rfl dX2_sumOf_11 ?_
    obtain ⟨v4, hv4, hF⟩ := bd hF
    refine R_iald (pc := 12) h hv4 lc_44 dX2_sumOf_12 ?_
    refine R_goto (pc := 13) (tgt := 17) h dX2_sumOf_13 (by decide) ?_
    cases hF
    exact R_ireturn (pc := 17) h rfl rfl rfl dX2_sumOf_17
theorem c2_sumOf {ad : Nat → Nat} {z : ZZ} {R : Int32} {M : Mem} {x1 : Int32} (hF : f2_sumOf M x1 = some R) : Con layC ad z yX2_sumOf cX2_sumOf 2 (some .int) 2 M [.ref (ad 35), .int x1] (M) (some (.int R)) := con_of (own := RX2) (lv := [(0, .ref (ad 35)), (1, .int x1)]) (by decide +kernel) rfl (Nat.le_of_ble_eq_true rfl) rfl (fun X hz h => w2_sumOf h hF)
def f6_bitCount (x0 : Int32) : Option (Int32) :=
    nm (x0 - ((x0.toUInt32 >>> ((1 : Int32).toUInt32 &&& Int32.toUInt32 31)).toInt32 &&& (1431655765 : Int32))) fun v1 =>
    nm ((v1 &&& (858993459 : Int32)) + ((v1.toUInt32 >>> ((2 : Int32).toUInt32 &&& Int32.toUInt32 31)).toInt32 &&& (858993459 : Int32))) fun v2 =>
    nm ((v2 + (v2.toUInt32 >>> ((4 : Int32).toUInt32 &&& Int32.toUInt32 31)).toInt32) &&& (252645135 : Int32)) fun v3 =>
    nm (v3 + (v3.toUInt32 >>> ((8 : Int32).toUInt32 &&& Int32.toUInt32 31)).toInt32) fun v4 =>
    nm (v4 + (v4.toUInt32 >>> ((16 : Int32).toUInt32 &&& Int32.toUInt32 31)).toInt32) fun v5 =>
    (some (v5 &&& (63 : Int32)))
set_option maxHeartbeats 4000000 in
set_option maxRecDepth 10000 in
theorem w6_bitCount {ad : Nat → Nat} {X : XX} {R : Int32} {M : Mem} (h : Cx layC ad X cJ6_bitCount_0f7a4 "java/lang/Integer" 1 1 (some .int) M (some (.int R))) {x0 : Int32} (hF : f6_bitCount x0 = some R) : Wp layC ad X M 0 [(0, .int x0)] [] := by
  unfold f6_bitCount at hF
  refine R_iload_n (pc := 0) h 0 rfl rfl dJ6_bitCount_0f7a4_0 ?_
  refine R_iload_n (pc := 1) h 0 rfl rfl dJ6_bitCount_0f7a4_1 ?_
  refine R_iconst (pc := 2) (v := 1) h (by decide) dJ6_bitCount_0f7a4_2 ?_
  refine R_iushr (pc := 3) h dJ6_bitCount_0f7a4_3 ?_
  refine R_ldcw (pc := 4) h kiJ6_265 dJ6_bitCount_0f7a4_4 ?_
  refine R_iand (pc := 7) h dJ6_bitCount_0f7a4_7 ?_
  refine R_isub (pc := 8) h dJ6_bitCount_0f7a4_8 ?_
  obtain ⟨v1, hv1, hF⟩ := nm_e2 hF
  refine R_istore_n (pc := 9) (lv' := [(0, .int v1)]) h hv1 rfl (by decide) rfl dJ6_bitCount_0f7a4_9 ?_
  refine R_iload_n (pc := 10) h 0 rfl rfl dJ6_bitCount_0f7a4_10 ?_
  refine R_ldcw (pc := 11) h kiJ6_266 dJ6_bitCount_0f7a4_11 ?_
  refine R_iand (pc := 14) h dJ6_bitCount_0f7a4_14 ?_
  refine R_iload_n (pc := 15) h 0 rfl rfl dJ6_bitCount_0f7a4_15 ?_
  refine R_iconst (pc := 16) (v := 2) h (by decide) dJ6_bitCount_0f7a4_16 ?_
  refine R_iushr (pc := 17) h dJ6_bitCount_0f7a4_17 ?_
  refine R_ldcw (pc := 18) h kiJ6_266 dJ6_bitCount_0f7a4_18 ?_
  refine R_iand (pc := 21) h dJ6_bitCount_0f7a4_21 ?_
  refine R_iadd (pc := 22) h dJ6_bitCount_0f7a4_22 ?_
  obtain ⟨v2, hv2, hF⟩ := nm_e2 hF
  refine R_istore_n (pc := 23) (lv' := [(0, .int v2)]) h hv2 rfl (by decide) rfl dJ6_bitCount_0f7a4_23 ?_
  refine R_iload_n (pc := 24) h 0 rfl rfl dJ6_bitCount_0f7a4_24 ?_
  refine R_iload_n (pc := 25) h 0 rfl rfl dJ6_bitCount_0f7a4_25 ?_
  refine R_iconst (pc := 26) (v := 4) h (by decide) dJ6_bitCount_0f7a4_26 ?_
  refine R_iushr (pc := 27) h dJ6_bitCount_0f7a4_27 ?_
  refine R_iadd (pc := 28) h dJ6_bitCount_0f7a4_28 ?_
  refine R_ldcw (pc := 29) h kiJ6_267 dJ6_bitCount_0f7a4_29 ?_
  refine R_iand (pc := 32) h dJ6_bitCount_0f7a4_32 ?_
  obtain ⟨v3, hv3, hF⟩ := nm_e2 hF
  refine R_istore_n (pc := 33) (lv' := [(0, .int v3)]) h hv3 rfl (by decide) rfl dJ6_bitCount_0f7a4_33 ?_
  refine R_iload_n (pc := 34) h 0 rfl rfl dJ6_bitCount_0f7a4_34 ?_
  refine R_iload_n (pc := 35) h 0 rfl rfl dJ6_bitCount_0f7a4_35 ?_
  refine R_bipush (pc := 36) (v := 8) h (by decide) dJ6_bitCount_0f7a4_36 ?_
  refine R_iushr (pc := 38) h dJ6_bitCount_0f7a4_38 ?_
  refine R_iadd (pc := 39) h dJ6_bitCount_0f7a4_39 ?_
  obtain ⟨v4, hv4, hF⟩ := nm_e2 hF
  refine R_istore_n (pc := 40) (lv' := [(0, .int v4)]) h hv4 rfl (by decide) rfl dJ6_bitCount_0f7a4_40 ?_
  refine R_iload_n (pc := 41) h 0 rfl rfl dJ6_bitCount_0f7a4_41 ?_
  refine R_iload_n (pc := 42) h 0 rfl rfl dJ6_bitCount_0f7a4_42 ?_
  refine R_bipush (pc := 43) (v := 16) h (by decide) dJ6_bitCount_0f7a4_43 ?_
  refine R_iushr (pc := 45) h dJ6_bitCount_0f7a4_45 ?_
  refine R_iadd (pc := 46) h dJ6_bitCount_0f7a4_46 ?_
  obtain ⟨v5, hv5, hF⟩ := nm_e2 hF
  refine R_istore_n (pc := 47) (lv' := [(0, .int v5)]) h hv5 rfl (by decide) rfl dJ6_bitCount_0f7a4_47 ?_
  refine R_iload_n (pc := 48) h 0 rfl rfl dJ6_bitCount_0f7a4_48 ?_
  refine R_bipush (pc := 49) (v := 63) h (by decide) dJ6_bitCount_0f7a4_49 ?_
  refine R_iand (pc := 51) h dJ6_bitCount_0f7a4_51 ?_
  cases hF
  exact R_ireturn (pc := 52) h rfl rfl rfl dJ6_bitCount_0f7a4_52
theorem c6_bitCount {ad : Nat → Nat} {z : ZZ} {R : Int32} {M : Mem} {x0 : Int32} (hF : f6_bitCount x0 = some R) : Con layC ad z yJ6_bitCount_0f7a4 cJ6_bitCount_0f7a4 1 (some .int) 1 M [.int x0] (M) (some (.int R)) := con_of (own := "java/lang/Integer") (lv := [(0, .int x0)]) (by decide +kernel) rfl (Nat.le_of_ble_eq_true rfl) rfl (fun X hz h => w6_bitCount h hF)
def f4_clashes_12 (fu : Nat) : Nat → Int32 → Int32 → Mem → Option (Mem × Int32)
  | 0 => fun _ _ _ => none
  | f + 1 => fun x2 x3 M =>
    if (M.1 35 0) ≤ x3 then ((f2_sumOf M (M.1 33 3)).bind fun r3 =>
    nm (sI M 28 6 r3) fun M4 =>
    (some (M4, x2)))
    else (if (((M.1 33 3) >>> (x3 &&& 31)) &&& (1 : Int32)) = 0 then (nm (x3 + (1 : Int32)) fun v6 =>
    ((f4_clashes_12 fu f) x2 v6 M))
    else (nm ((M.1 33 3) &&& (((1 : Int32) <<< (x3 &&& 31)) - (1 : Int32))) fun v7 =>
    (rd M 41 8 x3).bind fun v8 =>
    (f2_apartFrom M fu v8).bind fun r10 =>
    (f6_bitCount (v7 &&& (r10 ^^^ (-1 : Int32)))).bind fun r12 =>
    nm (x2 + r12) fun v13 =>
    nm (x3 + (1 : Int32)) fun v14 =>
    ((f4_clashes_12 fu f) v13 v14 M)))
set_option maxHeartbeats 4000000 in
set_option maxRecDepth 10000 in
theorem w4_clashesi_12 {ad : Nat → Nat} {X : XX} {R : Mem × Int32} {fu : Nat}  (h : Cx layC ad X cX4_clashes RX4 5 3 (some .int) (R.1) (some (.int R.2)))  : ∀ (f : Nat) (x2 : Int32) (x3 : Int32) (M : Mem), f4_clashes_12 fu f x2 x3 M = some R → Wp layC ad X M 12 [(0, .ref (ad 28)), (1, .ref (ad 35)), (2, .int x2), (3, .int x3)] [] := by
  intro f
  induction f with
  | zero => intro x2 x3 M hF; exact absurd hF (by simp [f4_clashes_12])
  | succ f ih =>
    intro x2 x3 M hF
    rw [f4_clashes_12] at hF
    refine R_iload_n (pc := 12) h 3 rfl rfl dX4_clashes_12 ?_
    refine R_aload_n (pc := 13) h 1 rfl rfl dX4_clashes_13 ?_
    refine R_getI (pc := 14) h flX4_121 lc_35 rfl dX4_clashes_14 ?_
    refine R_icmp_ge (pc := 17) (tgt := 76) h dX4_clashes_17 (by decide) (fun c1 => ?_) (fun c1 => ?_)
    · have hF := itp c1 hF
      refine R_aload_n (pc := 76) h 0 rfl rfl dX4_clashes_76 ?_
      refine R_aload_n (pc := 77) h 1 rfl rfl dX4_clashes_77 ?_
      refine R_aload_n (pc := 78) h 0 rfl rfl dX4_clashes_78 ?_
      refine R_getR (pc := 79) (q1 := 33) h flX4_27 lc_28 rfl dX4_clashes_79 ?_
      refine R_getI (pc := 82) h flX4_164 lc_33 rfl dX4_clashes_82 ?_
      obtain ⟨r3, hc2, hF⟩ := bd hF
      refine R_callV (pc := 85) (st := [.ref (ad 28)]) h [.int (M.1 33 3)] cvX4_190 (c2_sumOf (ad := ad) (z := X.1) hc2) rfl rfl lc_35 (by decide) (by decide) (Nat.le_of_ble_eq_true rfl) dX4_clashes_85 (st1 := [.int r3, .ref (ad 28)]) rfl ?_
      obtain ⟨M4, hM4, hF⟩ := nm_e2 hF
      refine R_putI (pc := 88) h hM4 fpX4_39 lc_28 rfl dX4_clashes_88 ?_
      refine R_iload_n (pc := 91) h 2 rfl rfl dX4_clashes_91 ?_
      cases hF
      exact R_ireturn (pc := 92) h rfl rfl rfl dX4_clashes_92
    · have hF := ifn c1 hF
      refine R_aload_n (pc := 20) h 0 rfl rfl dX4_clashes_20 ?_
      refine R_getR (pc := 21) (q1 := 33) h flX4_27 lc_28 rfl dX4_clashes_21 ?_
      refine R_getI (pc := 24) h flX4_164 lc_33 rfl dX4_clashes_24 ?_
      refine R_iload_n (pc := 27) h 3 rfl rfl dX4_clashes_27 ?_
      refine R_ishr (pc := 28) h dX4_clashes_28 ?_
      refine R_iconst (pc := 29) (v := 1) h (by decide) dX4_clashes_29 ?_
      refine R_iand (pc := 30) h dX4_clashes_30 ?_
      refine R_if_eq (pc := 31) (tgt := 70) h dX4_clashes_31 (by decide) (fun c5 => ?_) (fun c5 => ?_)
      · have hF := itp c5 hF
        obtain ⟨v6, hv6, hF⟩ := nm_e2 hF
        refine R_iinc (pc := 70) (lv' := [(3, .int v6), (0, .ref (ad 28)), (1, .ref (ad 35)), (2, .int x2)]) h 3 rfl (by decide) hv6 (by decide) rfl dX4_clashes_70 ?_
        refine R_goto (pc := 73) (tgt := 12) h dX4_clashes_73 (by decide) ?_
        exact Wp_sub (nX := 0) (lv' := [(0, .ref (ad 28)), (1, .ref (ad 35)), (2, .int x2), (3, .int v6)]) [1, 2, 3, 0] rfl (ih _ _ _ hF)
      · have hF := ifn c5 hF
        refine R_aload_n (pc := 34) h 0 rfl rfl dX4_clashes_34 ?_
        refine R_getR (pc := 35) (q1 := 33) h flX4_27 lc_28 rfl dX4_clashes_35 ?_
        refine R_getI (pc := 38) h flX4_164 lc_33 rfl dX4_clashes_38 ?_
        refine R_iconst (pc := 41) (v := 1) h (by decide) dX4_clashes_41 ?_
        refine R_iload_n (pc := 42) h 3 rfl rfl dX4_clashes_42 ?_
        refine R_ishl (pc := 43) h dX4_clashes_43 ?_
        refine R_iconst (pc := 44) (v := 1) h (by decide) dX4_clashes_44 ?_
        refine R_isub (pc := 45) h dX4_clashes_45 ?_
        refine R_iand (pc := 46) h dX4_clashes_46 ?_
        obtain ⟨v7, hv7, hF⟩ := nm_e2 hF
        refine R_istore (pc := 47) (lv' := [(4, .int v7), (0, .ref (ad 28)), (1, .ref (ad 35)), (2, .int x2), (3, .int x3)]) h hv7 (by decide) rfl dX4_clashes_47 ?_
        refine R_iload_n (pc := 49) h 3 rfl rfl dX4_clashes_49 ?_
        refine R_iload (pc := 50) h 0 rfl dX4_clashes_50 ?_
        refine R_aload_n (pc := 52) h 2 rfl rfl dX4_clashes_52 ?_
        refine R_aload_n (pc := 53) h 2 rfl rfl dX4_clashes_53 ?_
        refine R_getR (pc := 54) (q1 := 41) h flX4_184 lc_35 rfl dX4_clashes_54 ?_
        refine R_iload_n (pc := 57) h 4 rfl rfl dX4_clashes_57 ?_
        obtain ⟨v8, hv8, hF⟩ := bd hF
        refine R_iald (pc := 58) h hv8 lc_41 dX4_clashes_58 ?_
        obtain ⟨r10, hc9, hF⟩ := bd hF
        refine R_callV (pc := 59) (st := [.int v7, .int x2]) h [.int v8] cvX4_187 (c2_apartFrom (ad := ad) (z := X.1) hc9) rfl rfl lc_35 (by decide) (by decide) (Nat.le_of_ble_eq_true rfl) dX4_clashes_59 (st1 := [.int r10, .int v7, .int x2]) rfl ?_
        refine R_iconst (pc := 62) (v := (-1)) h (by decide) dX4_clashes_62 ?_
        refine R_ixor (pc := 63) h dX4_clashes_63 ?_
        refine R_iand (pc := 64) h dX4_clashes_64 ?_
        obtain ⟨r12, hc11, hF⟩ := bd hF
        refine R_callS (pc := 65) (st := [.int x2]) h [.int (v7 &&& (r10 ^^^ (-1 : Int32)))] csX4_167 (c6_bitCount (ad := ad) (z := X.1) (M := M) hc11) rfl rfl (by decide) (by decide) (Nat.le_of_ble_eq_true rfl) dX4_clashes_65 (st1 := [.int r12, .int x2]) rfl ?_
        refine R_iadd (pc := 68) h dX4_clashes_68 ?_
        obtain ⟨v13, hv13, hF⟩ := nm_e2 hF
        refine R_istore_n (pc := 69) (lv' := [(2, .int v13), (4, .int v7), (0, .ref (ad 28)), (1, .ref (ad 35)), (3, .int x3)]) h hv13 rfl (by decide) rfl dX4_clashes_69 ?_
        obtain ⟨v14, hv14, hF⟩ := nm_e2 hF
        refine R_iinc (pc := 70) (lv' := [(3, .int v14), (2, .int v13), (4, .int v7), (0, .ref (ad 28)), (1, .ref (ad 35))]) h 4 rfl (by decide) hv14 (by decide) rfl dX4_clashes_70 ?_
        refine R_goto (pc := 73) (tgt := 12) h dX4_clashes_73 (by decide) ?_
        exact Wp_sub (nX := 0) (lv' := [(0, .ref (ad 28)), (1, .ref (ad 35)), (2, .int v13), (3, .int v14)]) [3, 4, 1, 0] rfl (ih _ _ _ hF)
theorem w4_clashes_12 {ad : Nat → Nat} {X : XX} {R : Mem × Int32} {fu : Nat}  (h : Cx layC ad X cX4_clashes RX4 5 3 (some .int) (R.1) (some (.int R.2)))  {f : Nat} {x2 : Int32} {x3 : Int32} {M : Mem} (hF : f4_clashes_12 fu f x2 x3 M = some R) : Wp layC ad X M 12 [(0, .ref (ad 28)), (1, .ref (ad 35)), (2, .int x2), (3, .int x3)] [] := w4_clashesi_12 h  f _ _ _ hF
def f4_clashes (fu : Nat) (M : Mem) : Option (Mem × Int32) :=
    (f4_clashes_12 fu fu (0 : Int32) (0 : Int32) M)
set_option maxHeartbeats 4000000 in
set_option maxRecDepth 10000 in
theorem w4_clashes {ad : Nat → Nat} {X : XX} {R : Mem × Int32} {fu : Nat} (h : Cx layC ad X cX4_clashes RX4 5 3 (some .int) (R.1) (some (.int R.2))) {M : Mem} (hF : f4_clashes fu M = some R) : Wp layC ad X M 0 [(0, .ref (ad 28))] [] := by
  unfold f4_clashes at hF
  refine R_aload_n (pc := 0) h 0 rfl rfl dX4_clashes_0 ?_
  refine R_getR (pc := 1) (q1 := 33) h flX4_27 lc_28 rfl dX4_clashes_1 ?_
  refine R_getR (pc := 4) (q1 := 35) h flX4_104 lc_33 rfl dX4_clashes_4 ?_
  refine R_astore_n (pc := 7) (lv' := [(1, .ref (ad 35)), (0, .ref (ad 28))]) h rfl rfl (by decide) rfl dX4_clashes_7 ?_
  refine R_iconst (pc := 8) (v := 0) h (by decide) dX4_clashes_8 ?_
  refine R_istore_n (pc := 9) (lv' := [(2, .int (0 : Int32)), (1, .ref (ad 35)), (0, .ref (ad 28))]) h rfl rfl (by decide) rfl dX4_clashes_9 ?_
  refine R_iconst (pc := 10) (v := 0) h (by decide) dX4_clashes_10 ?_
  refine R_istore_n (pc := 11) (lv' := [(3, .int (0 : Int32)), (2, .int (0 : Int32)), (1, .ref (ad 35)), (0, .ref (ad 28))]) h rfl rfl (by decide) rfl dX4_clashes_11 ?_
  exact Wp_sub (nX := 0) (lv' := [(0, .ref (ad 28)), (1, .ref (ad 35)), (2, .int (0 : Int32)), (3, .int (0 : Int32))]) [3, 2, 1, 0] rfl (w4_clashes_12 h  (hF := hF))
theorem c4_clashes {ad : Nat → Nat} {z : ZZ} {R : Mem × Int32} {fu : Nat} {M : Mem} (hF : f4_clashes fu M = some R) : Con layC ad z yX4_clashes cX4_clashes 5 (some .int) 3 M [.ref (ad 28)] (R.1) (some (.int R.2)) := con_of (own := RX4) (lv := [(0, .ref (ad 28))]) (by decide +kernel) rfl (Nat.le_of_ble_eq_true rfl) rfl (fun X hz h => w4_clashes h hF)
def f2_isApart (M : Mem) (x1 : Int32) : Option (Int32) :=
    (f2_isSet x1).bind fun r2 =>
    if r2 = 0 then ((some (0 : Int32)))
    else ((rd M 45 256 x1).bind fun v4 =>
    if v4 = 0 then ((some (0 : Int32)))
    else ((some (1 : Int32))))
set_option maxHeartbeats 4000000 in
set_option maxRecDepth 10000 in
theorem w2_isApart {ad : Nat → Nat} {X : XX} {R : Int32} {M : Mem} (h : Cx layC ad X cX2_isApart RX2 2 2 (some .boolean) M (some (.int R))) {x1 : Int32} (hF : f2_isApart M x1 = some R) : Wp layC ad X M 0 [(0, .ref (ad 35)), (1, .int x1)] [] := by
  unfold f2_isApart at hF
  refine R_iload_n (pc := 0) h 1 rfl rfl dX2_isApart_0 ?_
  obtain ⟨r2, hc1, hF⟩ := bd hF
  refine R_callS (pc := 1) (st := []) h [.int x1] csX2_50 (c2_isSet (ad := ad) (z := X.1) (M := M) hc1) rfl rfl (by decide) (by decide) (Nat.le_of_ble_eq_true rfl) dX2_isApart_1 (st1 := [.int r2]) rfl ?_
  refine R_if_eq (pc := 4) (tgt := 20) h dX2_isApart_4 (by decide) (fun c3 => ?_) (fun c3 => ?_)
  · have hF := itp c3 hF
    refine R_iconst (pc := 20) (v := 0) h (by decide) dX2_isApart_20 ?_
    cases hF
    exact R_zreturn (pc := 21) h rfl zr0 rfl rfl dX2_isApart_21
  · have hF := ifn c3 hF
    refine R_aload_n (pc := 7) h 0 rfl rfl dX2_isApart_7 ?_
    refine R_getR (pc := 8) (q1 := 45) h flX2_43 lc_35 rfl dX2_isApart_8 ?_
    refine R_iload_n (pc := 11) h 1 rfl rfl dX2_isApart_11 ?_
    obtain ⟨v4, hv4, hF⟩ := bd hF
    refine R_zald (pc := 12) h hv4 lc_45 dX2_isApart_12 ?_
    refine R_if_eq (pc := 13) (tgt := 20) h dX2_isApart_13 (by decide) (fun c5 => ?_) (fun c5 => ?_)
    · have hF := itp c5 hF
      refine R_iconst (pc := 20) (v := 0) h (by decide) dX2_isApart_20 ?_
      cases hF
      exact R_zreturn (pc := 21) h rfl zr0 rfl rfl dX2_isApart_21
    · have hF := ifn c5 hF
      refine R_iconst (pc := 16) (v := 1) h (by decide) dX2_isApart_16 ?_
      refine R_goto (pc := 17) (tgt := 21) h dX2_isApart_17 (by decide) ?_
      cases hF
      exact R_zreturn (pc := 21) h rfl zr1 rfl rfl dX2_isApart_21
theorem c2_isApart {ad : Nat → Nat} {z : ZZ} {R : Int32} {M : Mem} {x1 : Int32} (hF : f2_isApart M x1 = some R) : Con layC ad z yX2_isApart cX2_isApart 2 (some .boolean) 2 M [.ref (ad 35), .int x1] (M) (some (.int R)) := con_of (own := RX2) (lv := [(0, .ref (ad 35)), (1, .int x1)]) (by decide +kernel) rfl (Nat.le_of_ble_eq_true rfl) rfl (fun X hz h => w2_isApart h hF)
def f4_least_48 (fu : Nat) (k16 : Int32 → Int32 → Int32 → Mem → Option (Mem × Int32)) (x2 : Int32) (x3 : Int32) (x4 : Int32) (s0 : Int32) (M : Mem) : Option (Mem × Int32) :=
    if s0 = 0 then (nm (x4 + (1 : Int32)) fun v2 =>
    (k16 x2 x3 v2 M))
    else ((f2_isApart M ((M.1 33 3) &&& (x4 ^^^ (-1 : Int32)))).bind fun r4 =>
    if r4 = 0 then (nm (x4 + (1 : Int32)) fun v6 =>
    (k16 x2 x3 v6 M))
    else ((f6_bitCount x4).bind fun r8 =>
    if x2 ≤ r8 then (nm (x4 + (1 : Int32)) fun v10 =>
    (k16 x2 x3 v10 M))
    else ((f6_bitCount x4).bind fun r12 =>
    nm (x4 + (1 : Int32)) fun v13 =>
    (k16 r12 x4 v13 M))))
set_option maxHeartbeats 4000000 in
set_option maxRecDepth 10000 in
theorem w4_least_48 {ad : Nat → Nat} {X : XX} {R : Mem × Int32} {fu : Nat} {k16 : Int32 → Int32 → Int32 → Mem → Option (Mem × Int32)} (h : Cx layC ad X cX4_least RX4 6 3 (some .int) (R.1) (some (.int R.2))) (hk16 : ∀ (x2 : Int32) (x3 : Int32) (x4 : Int32) (M : Mem), k16 x2 x3 x4 M = some R → Wp layC ad X M 16 [(0, .ref (ad 28)), (1, .ref (ad 35)), (2, .int x2), (3, .int x3), (4, .int x4)] []) {x2 : Int32} {x3 : Int32} {x4 : Int32} {s0 : Int32} {M : Mem} (hF : f4_least_48 fu k16 x2 x3 x4 s0 M = some R) : Wp layC ad X M 48 [(0, .ref (ad 28)), (1, .ref (ad 35)), (2, .int x2), (3, .int x3), (4, .int x4)] [.int s0] := by
  unfold f4_least_48 at hF
  refine R_istore (pc := 48) (lv' := [(5, .int s0), (0, .ref (ad 28)), (1, .ref (ad 35)), (2, .int x2), (3, .int x3), (4, .int x4)]) h rfl (by decide) rfl dX4_least_48 ?_
  refine R_iload (pc := 50) h 0 rfl dX4_least_50 ?_
  refine R_if_eq (pc := 52) (tgt := 92) h dX4_least_52 (by decide) (fun c1 => ?_) (fun c1 => ?_)
  · have hF := itp c1 hF
    obtain ⟨v2, hv2, hF⟩ := nm_e2 hF
    refine R_iinc (pc := 92) (lv' := [(4, .int v2), (5, .int s0), (0, .ref (ad 28)), (1, .ref (ad 35)), (2, .int x2), (3, .int x3)]) h 5 rfl (by decide) hv2 (by decide) rfl dX4_least_92 ?_
    refine R_goto (pc := 95) (tgt := 16) h dX4_least_95 (by decide) ?_
    exact Wp_sub (nX := 0) (lv' := [(0, .ref (ad 28)), (1, .ref (ad 35)), (2, .int x2), (3, .int x3), (4, .int v2)]) [2, 3, 4, 5, 0] rfl (hk16 _ _ _ _ hF)
  · have hF := ifn c1 hF
    refine R_aload_n (pc := 55) h 2 rfl rfl dX4_least_55 ?_
    refine R_aload_n (pc := 56) h 1 rfl rfl dX4_least_56 ?_
    refine R_getR (pc := 57) (q1 := 33) h flX4_27 lc_28 rfl dX4_least_57 ?_
    refine R_getI (pc := 60) h flX4_164 lc_33 rfl dX4_least_60 ?_
    refine R_iload (pc := 63) h 5 rfl dX4_least_63 ?_
    refine R_iconst (pc := 65) (v := (-1)) h (by decide) dX4_least_65 ?_
    refine R_ixor (pc := 66) h dX4_least_66 ?_
    refine R_iand (pc := 67) h dX4_least_67 ?_
    obtain ⟨r4, hc3, hF⟩ := bd hF
    refine R_callV (pc := 68) (st := []) h [.int ((M.1 33 3) &&& (x4 ^^^ (-1 : Int32)))] cvX4_193 (c2_isApart (ad := ad) (z := X.1) hc3) rfl rfl lc_35 (by decide) (by decide) (Nat.le_of_ble_eq_true rfl) dX4_least_68 (st1 := [.int r4]) rfl ?_
    refine R_if_eq (pc := 71) (tgt := 92) h dX4_least_71 (by decide) (fun c5 => ?_) (fun c5 => ?_)
    · have hF := itp c5 hF
      obtain ⟨v6, hv6, hF⟩ := nm_e2 hF
      refine R_iinc (pc := 92) (lv' := [(4, .int v6), (5, .int s0), (0, .ref (ad 28)), (1, .ref (ad 35)), (2, .int x2), (3, .int x3)]) h 5 rfl (by decide) hv6 (by decide) rfl dX4_least_92 ?_
      refine R_goto (pc := 95) (tgt := 16) h dX4_least_95 (by decide) ?_
      exact Wp_sub (nX := 0) (lv' := [(0, .ref (ad 28)), (1, .ref (ad 35)), (2, .int x2), (3, .int x3), (4, .int v6)]) [2, 3, 4, 5, 0] rfl (hk16 _ _ _ _ hF)
    · have hF := ifn c5 hF
      refine R_iload (pc := 74) h 5 rfl dX4_least_74 ?_
      obtain ⟨r8, hc7, hF⟩ := bd hF
      refine R_callS (pc := 76) (st := []) h [.int x4] csX4_167 (c6_bitCount (ad := ad) (z := X.1) (M := M) hc7) rfl rfl (by decide) (by decide) (Nat.le_of_ble_eq_true rfl) dX4_least_76 (st1 := [.int r8]) rfl ?_
      refine R_iload_n (pc := 79) h 3 rfl rfl dX4_least_79 ?_
      refine R_icmp_ge (pc := 80) (tgt := 92) h dX4_least_80 (by decide) (fun c9 => ?_) (fun c9 => ?_)
      · have hF := itp c9 hF
        obtain ⟨v10, hv10, hF⟩ := nm_e2 hF
        refine R_iinc (pc := 92) (lv' := [(4, .int v10), (5, .int s0), (0, .ref (ad 28)), (1, .ref (ad 35)), (2, .int x2), (3, .int x3)]) h 5 rfl (by decide) hv10 (by decide) rfl dX4_least_92 ?_
        refine R_goto (pc := 95) (tgt := 16) h dX4_least_95 (by decide) ?_
        exact Wp_sub (nX := 0) (lv' := [(0, .ref (ad 28)), (1, .ref (ad 35)), (2, .int x2), (3, .int x3), (4, .int v10)]) [2, 3, 4, 5, 0] rfl (hk16 _ _ _ _ hF)
      · have hF := ifn c9 hF
        refine R_iload (pc := 83) h 5 rfl dX4_least_83 ?_
        obtain ⟨r12, hc11, hF⟩ := bd hF
        refine R_callS (pc := 85) (st := []) h [.int x4] csX4_167 (c6_bitCount (ad := ad) (z := X.1) (M := M) hc11) rfl rfl (by decide) (by decide) (Nat.le_of_ble_eq_true rfl) dX4_least_85 (st1 := [.int r12]) rfl ?_
        refine R_istore_n (pc := 88) (lv' := [(2, .int r12), (5, .int s0), (0, .ref (ad 28)), (1, .ref (ad 35)), (3, .int x3), (4, .int x4)]) h rfl rfl (by decide) rfl dX4_least_88 ?_
        refine R_iload (pc := 89) h 5 rfl dX4_least_89 ?_
        refine R_istore_n (pc := 91) (lv' := [(3, .int x4), (2, .int r12), (5, .int s0), (0, .ref (ad 28)), (1, .ref (ad 35)), (4, .int x4)]) h rfl rfl (by decide) rfl dX4_least_91 ?_
        obtain ⟨v13, hv13, hF⟩ := nm_e2 hF
        refine R_iinc (pc := 92) (lv' := [(4, .int v13), (3, .int x4), (2, .int r12), (5, .int s0), (0, .ref (ad 28)), (1, .ref (ad 35))]) h 5 rfl (by decide) hv13 (by decide) rfl dX4_least_92 ?_
        refine R_goto (pc := 95) (tgt := 16) h dX4_least_95 (by decide) ?_
        exact Wp_sub (nX := 0) (lv' := [(0, .ref (ad 28)), (1, .ref (ad 35)), (2, .int r12), (3, .int x4), (4, .int v13)]) [4, 5, 2, 1, 0] rfl (hk16 _ _ _ _ hF)
def f4_least_16 (fu : Nat) : Nat → Int32 → Int32 → Int32 → Mem → Option (Mem × Int32)
  | 0 => fun _ _ _ _ => none
  | f + 1 => fun x2 x3 x4 M =>
    if (M.1 33 3) < x4 then (nm (sI M 28 6 x3) fun M2 =>
    (some (M2, x2)))
    else (if (x4 &&& ((M.1 33 3) ^^^ (-1 : Int32))) = 0 then ((f4_least_48 fu (f4_least_16 fu f) x2 x3 x4 (1 : Int32) M))
    else ((f4_least_48 fu (f4_least_16 fu f) x2 x3 x4 (0 : Int32) M)))
set_option maxHeartbeats 4000000 in
set_option maxRecDepth 10000 in
theorem w4_leasti_16 {ad : Nat → Nat} {X : XX} {R : Mem × Int32} {fu : Nat}  (h : Cx layC ad X cX4_least RX4 6 3 (some .int) (R.1) (some (.int R.2)))  : ∀ (f : Nat) (x2 : Int32) (x3 : Int32) (x4 : Int32) (M : Mem), f4_least_16 fu f x2 x3 x4 M = some R → Wp layC ad X M 16 [(0, .ref (ad 28)), (1, .ref (ad 35)), (2, .int x2), (3, .int x3), (4, .int x4)] [] := by
  intro f
  induction f with
  | zero => intro x2 x3 x4 M hF; exact absurd hF (by simp [f4_least_16])
  | succ f ih =>
    intro x2 x3 x4 M hF
    rw [f4_least_16] at hF
    refine R_iload (pc := 16) h 4 rfl dX4_least_16 ?_
    refine R_aload_n (pc := 18) h 0 rfl rfl dX4_least_18 ?_
    refine R_getR (pc := 19) (q1 := 33) h flX4_27 lc_28 rfl dX4_least_19 ?_
    refine R_getI (pc := 22) h flX4_164 lc_33 rfl dX4_least_22 ?_
    refine R_icmp_gt (pc := 25) (tgt := 98) h dX4_least_25 (by decide) (fun c1 => ?_) (fun c1 => ?_)
    · have hF := itp c1 hF
      refine R_aload_n (pc := 98) h 0 rfl rfl dX4_least_98 ?_
      refine R_iload_n (pc := 99) h 3 rfl rfl dX4_least_99 ?_
      obtain ⟨M2, hM2, hF⟩ := nm_e2 hF
      refine R_putI (pc := 100) h hM2 fpX4_39 lc_28 rfl dX4_least_100 ?_
      refine R_iload_n (pc := 103) h 2 rfl rfl dX4_least_103 ?_
      cases hF
      exact R_ireturn (pc := 104) h rfl rfl rfl dX4_least_104
    · have hF := ifn c1 hF
      refine R_iload (pc := 28) h 4 rfl dX4_least_28 ?_
      refine R_aload_n (pc := 30) h 0 rfl rfl dX4_least_30 ?_
      refine R_getR (pc := 31) (q1 := 33) h flX4_27 lc_28 rfl dX4_least_31 ?_
      refine R_getI (pc := 34) h flX4_164 lc_33 rfl dX4_least_34 ?_
      refine R_iconst (pc := 37) (v := (-1)) h (by decide) dX4_least_37 ?_
      refine R_ixor (pc := 38) h dX4_least_38 ?_
      refine R_iand (pc := 39) h dX4_least_39 ?_
      refine R_if_ne (pc := 40) (tgt := 47) h dX4_least_40 (by decide) (fun c3 => ?_) (fun c3 => ?_)
      · have hF := ifn c3 hF
        refine R_iconst (pc := 47) (v := 0) h (by decide) dX4_least_47 ?_
        exact Wp_sub (nX := 0) (lv' := [(0, .ref (ad 28)), (1, .ref (ad 35)), (2, .int x2), (3, .int x3), (4, .int x4)]) [0, 1, 2, 3, 4] rfl (w4_least_48 h (hk16 := fun a0 a1 a2 a3 hF => ih a0 a1 a2 a3 hF) (hF := hF))
      · have hF := itp c3 hF
        refine R_iconst (pc := 43) (v := 1) h (by decide) dX4_least_43 ?_
        refine R_goto (pc := 44) (tgt := 48) h dX4_least_44 (by decide) ?_
        exact Wp_sub (nX := 0) (lv' := [(0, .ref (ad 28)), (1, .ref (ad 35)), (2, .int x2), (3, .int x3), (4, .int x4)]) [0, 1, 2, 3, 4] rfl (w4_least_48 h (hk16 := fun a0 a1 a2 a3 hF => ih a0 a1 a2 a3 hF) (hF := hF))
theorem w4_least_16 {ad : Nat → Nat} {X : XX} {R : Mem × Int32} {fu : Nat}  (h : Cx layC ad X cX4_least RX4 6 3 (some .int) (R.1) (some (.int R.2)))  {f : Nat} {x2 : Int32} {x3 : Int32} {x4 : Int32} {M : Mem} (hF : f4_least_16 fu f x2 x3 x4 M = some R) : Wp layC ad X M 16 [(0, .ref (ad 28)), (1, .ref (ad 35)), (2, .int x2), (3, .int x3), (4, .int x4)] [] := w4_leasti_16 h  f _ _ _ _ hF
def f4_least (fu : Nat) (M : Mem) : Option (Mem × Int32) :=
    (f4_least_16 fu fu (9 : Int32) (0 : Int32) (0 : Int32) M)
set_option maxHeartbeats 4000000 in
set_option maxRecDepth 10000 in
theorem w4_least {ad : Nat → Nat} {X : XX} {R : Mem × Int32} {fu : Nat} (h : Cx layC ad X cX4_least RX4 6 3 (some .int) (R.1) (some (.int R.2))) {M : Mem} (hF : f4_least fu M = some R) : Wp layC ad X M 0 [(0, .ref (ad 28))] [] := by
  unfold f4_least at hF
  refine R_aload_n (pc := 0) h 0 rfl rfl dX4_least_0 ?_
  refine R_getR (pc := 1) (q1 := 33) h flX4_27 lc_28 rfl dX4_least_1 ?_
  refine R_getR (pc := 4) (q1 := 35) h flX4_104 lc_33 rfl dX4_least_4 ?_
  refine R_astore_n (pc := 7) (lv' := [(1, .ref (ad 35)), (0, .ref (ad 28))]) h rfl rfl (by decide) rfl dX4_least_7 ?_
  refine R_bipush (pc := 8) (v := 9) h (by decide) dX4_least_8 ?_
  refine R_istore_n (pc := 10) (lv' := [(2, .int (9 : Int32)), (1, .ref (ad 35)), (0, .ref (ad 28))]) h rfl rfl (by decide) rfl dX4_least_10 ?_
  refine R_iconst (pc := 11) (v := 0) h (by decide) dX4_least_11 ?_
  refine R_istore_n (pc := 12) (lv' := [(3, .int (0 : Int32)), (2, .int (9 : Int32)), (1, .ref (ad 35)), (0, .ref (ad 28))]) h rfl rfl (by decide) rfl dX4_least_12 ?_
  refine R_iconst (pc := 13) (v := 0) h (by decide) dX4_least_13 ?_
  refine R_istore (pc := 14) (lv' := [(4, .int (0 : Int32)), (3, .int (0 : Int32)), (2, .int (9 : Int32)), (1, .ref (ad 35)), (0, .ref (ad 28))]) h rfl (by decide) rfl dX4_least_14 ?_
  exact Wp_sub (nX := 0) (lv' := [(0, .ref (ad 28)), (1, .ref (ad 35)), (2, .int (9 : Int32)), (3, .int (0 : Int32)), (4, .int (0 : Int32))]) [4, 3, 2, 1, 0] rfl (w4_least_16 h  (hF := hF))
theorem c4_least {ad : Nat → Nat} {z : ZZ} {R : Mem × Int32} {fu : Nat} {M : Mem} (hF : f4_least fu M = some R) : Con layC ad z yX4_least cX4_least 6 (some .int) 3 M [.ref (ad 28)] (R.1) (some (.int R.2)) := con_of (own := RX4) (lv := [(0, .ref (ad 28))]) (by decide +kernel) rfl (Nat.le_of_ble_eq_true rfl) rfl (fun X hz h => w4_least h hF)
def f4_asked (M : Mem) : Option (Int32) :=
    (some (M.1 28 6))
set_option maxHeartbeats 4000000 in
set_option maxRecDepth 10000 in
theorem w4_asked {ad : Nat → Nat} {X : XX} {R : Int32} {M : Mem} (h : Cx layC ad X cX4_asked RX4 1 1 (some .int) M (some (.int R)))  (hF : f4_asked M = some R) : Wp layC ad X M 0 [(0, .ref (ad 28))] [] := by
  unfold f4_asked at hF
  refine R_aload_n (pc := 0) h 0 rfl rfl dX4_asked_0 ?_
  refine R_getI (pc := 1) h flX4_39 lc_28 rfl dX4_asked_1 ?_
  cases hF
  exact R_ireturn (pc := 4) h rfl rfl rfl dX4_asked_4
theorem c4_asked {ad : Nat → Nat} {z : ZZ} {R : Int32} {M : Mem}  (hF : f4_asked M = some R) : Con layC ad z yX4_asked cX4_asked 1 (some .int) 1 M [.ref (ad 28)] (M) (some (.int R)) := con_of (own := RX4) (lv := [(0, .ref (ad 28))]) (by decide +kernel) rfl (Nat.le_of_ble_eq_true rfl) rfl (fun X hz h => w4_asked h hF)
def f3_tellPin (M : Mem) (x1 : Int32) (x2 : Int32) : Option (Int32) :=
    (f2_has M x1).bind fun r2 =>
    if r2 = 0 then ((some (-9 : Int32)))
    else (if x2 = 0 then ((rd M 36 8 x1).bind fun v5 =>
    (some v5))
    else if x2 = 1 then ((f3_lying M).bind fun r8 =>
    if ((r8 >>> (x1 &&& 31)) &&& (1 : Int32)) = 0 then ((some (-9 : Int32)))
    else ((rd M 34 8 x1).bind fun v10 =>
    (some v10)))
    else if x2 = 2 then ((rd M 41 8 x1).bind fun v12 =>
    (some v12))
    else if x2 = 3 then ((rd M 39 8 x1).bind fun v14 =>
    (some v14))
    else if x2 = 4 then ((rd M 40 8 x1).bind fun v16 =>
    (some v16))
    else if x2 = 5 then ((rd M 42 8 x1).bind fun v18 =>
    (some v18))
    else if x2 = 6 then ((some (((M.1 33 3) >>> (x1 &&& 31)) &&& (1 : Int32))))
    else ((some (((M.1 33 4) >>> (x1 &&& 31)) &&& (1 : Int32)))))
set_option maxHeartbeats 4000000 in
set_option maxRecDepth 10000 in
theorem w3_tellPin {ad : Nat → Nat} {X : XX} {R : Int32} {M : Mem} (h : Cx layC ad X cX3_tellPin RX3 3 3 (some .int) M (some (.int R))) {x1 : Int32} {x2 : Int32} (hF : f3_tellPin M x1 x2 = some R) : Wp layC ad X M 0 [(0, .ref (ad 33)), (1, .int x1), (2, .int x2)] [] := by
  unfold f3_tellPin at hF
  refine R_aload_n (pc := 0) h 0 rfl rfl dX3_tellPin_0 ?_
  refine R_getR (pc := 1) (q1 := 35) h flX3_12 lc_33 rfl dX3_tellPin_1 ?_
  refine R_iload_n (pc := 4) h 1 rfl rfl dX3_tellPin_4 ?_
  obtain ⟨r2, hc1, hF⟩ := bd hF
  refine R_callV (pc := 5) (st := []) h [.int x1] cvX3_64 (c2_has (ad := ad) (z := X.1) hc1) rfl rfl lc_35 (by decide) (by decide) (Nat.le_of_ble_eq_true rfl) dX3_tellPin_5 (st1 := [.int r2]) rfl ?_
  refine R_if_ne (pc := 8) (tgt := 14) h dX3_tellPin_8 (by decide) (fun c3 => ?_) (fun c3 => ?_)
  · have hF := ifn c3 hF
    refine R_iload_n (pc := 14) h 2 rfl rfl dX3_tellPin_14 ?_
    by_cases c4 : x2 = 0
    · have hF := itp c4 hF
      refine R_tableIn (pc := 15) (off := 41) (tgt := 56) h dX3_tellPin_15 (by rw [c4]; decide +kernel) (by rw [c4]; decide +kernel) (by rw [c4]; decide +kernel) (by decide) ?_
      refine R_aload_n (pc := 56) h 0 rfl rfl dX3_tellPin_56 ?_
      refine R_getR (pc := 57) (q1 := 35) h flX3_12 lc_33 rfl dX3_tellPin_57 ?_
      refine R_getR (pc := 60) (q1 := 36) h flX3_94 lc_35 rfl dX3_tellPin_60 ?_
      refine R_iload_n (pc := 63) h 1 rfl rfl dX3_tellPin_63 ?_
      obtain ⟨v5, hv5, hF⟩ := bd hF
      refine R_iald (pc := 64) h hv5 lc_36 dX3_tellPin_64 ?_
      cases hF
      exact R_ireturn (pc := 65) h rfl rfl rfl dX3_tellPin_65
    have hF := ifn c4 hF
    by_cases c6 : x2 = 1
    · have hF := itp c6 hF
      refine R_tableIn (pc := 15) (off := 51) (tgt := 66) h dX3_tellPin_15 (by rw [c6]; decide +kernel) (by rw [c6]; decide +kernel) (by rw [c6]; decide +kernel) (by decide) ?_
      refine R_aload_n (pc := 66) h 0 rfl rfl dX3_tellPin_66 ?_
      obtain ⟨r8, hc7, hF⟩ := bd hF
      refine R_callV (pc := 67) (st := []) h [] cvX3_49 (c3_lying (ad := ad) (z := X.1) hc7) rfl rfl lc_33 (by decide) (by decide) (Nat.le_of_ble_eq_true rfl) dX3_tellPin_67 (st1 := [.int r8]) rfl ?_
      refine R_iload_n (pc := 70) h 1 rfl rfl dX3_tellPin_70 ?_
      refine R_ishr (pc := 71) h dX3_tellPin_71 ?_
      refine R_iconst (pc := 72) (v := 1) h (by decide) dX3_tellPin_72 ?_
      refine R_iand (pc := 73) h dX3_tellPin_73 ?_
      refine R_if_eq (pc := 74) (tgt := 86) h dX3_tellPin_74 (by decide) (fun c9 => ?_) (fun c9 => ?_)
      · have hF := itp c9 hF
        refine R_bipush (pc := 86) (v := (-9)) h (by decide) dX3_tellPin_86 ?_
        cases hF
        exact R_ireturn (pc := 88) h rfl rfl rfl dX3_tellPin_88
      · have hF := ifn c9 hF
        refine R_aload_n (pc := 77) h 0 rfl rfl dX3_tellPin_77 ?_
        refine R_getR (pc := 78) (q1 := 34) h flX3_35 lc_33 rfl dX3_tellPin_78 ?_
        refine R_iload_n (pc := 81) h 1 rfl rfl dX3_tellPin_81 ?_
        obtain ⟨v10, hv10, hF⟩ := bd hF
        refine R_iald (pc := 82) h hv10 lc_34 dX3_tellPin_82 ?_
        refine R_goto (pc := 83) (tgt := 88) h dX3_tellPin_83 (by decide) ?_
        cases hF
        exact R_ireturn (pc := 88) h rfl rfl rfl dX3_tellPin_88
    have hF := ifn c6 hF
    by_cases c11 : x2 = 2
    · have hF := itp c11 hF
      refine R_tableIn (pc := 15) (off := 74) (tgt := 89) h dX3_tellPin_15 (by rw [c11]; decide +kernel) (by rw [c11]; decide +kernel) (by rw [c11]; decide +kernel) (by decide) ?_
      refine R_aload_n (pc := 89) h 0 rfl rfl dX3_tellPin_89 ?_
      refine R_getR (pc := 90) (q1 := 35) h flX3_12 lc_33 rfl dX3_tellPin_90 ?_
      refine R_getR (pc := 93) (q1 := 41) h flX3_97 lc_35 rfl dX3_tellPin_93 ?_
      refine R_iload_n (pc := 96) h 1 rfl rfl dX3_tellPin_96 ?_
      obtain ⟨v12, hv12, hF⟩ := bd hF
      refine R_iald (pc := 97) h hv12 lc_41 dX3_tellPin_97 ?_
      cases hF
      exact R_ireturn (pc := 98) h rfl rfl rfl dX3_tellPin_98
    have hF := ifn c11 hF
    by_cases c13 : x2 = 3
    · have hF := itp c13 hF
      refine R_tableIn (pc := 15) (off := 84) (tgt := 99) h dX3_tellPin_15 (by rw [c13]; decide +kernel) (by rw [c13]; decide +kernel) (by rw [c13]; decide +kernel) (by decide) ?_
      refine R_aload_n (pc := 99) h 0 rfl rfl dX3_tellPin_99 ?_
      refine R_getR (pc := 100) (q1 := 35) h flX3_12 lc_33 rfl dX3_tellPin_100 ?_
      refine R_getR (pc := 103) (q1 := 39) h flX3_100 lc_35 rfl dX3_tellPin_103 ?_
      refine R_iload_n (pc := 106) h 1 rfl rfl dX3_tellPin_106 ?_
      obtain ⟨v14, hv14, hF⟩ := bd hF
      refine R_iald (pc := 107) h hv14 lc_39 dX3_tellPin_107 ?_
      cases hF
      exact R_ireturn (pc := 108) h rfl rfl rfl dX3_tellPin_108
    have hF := ifn c13 hF
    by_cases c15 : x2 = 4
    · have hF := itp c15 hF
      refine R_tableIn (pc := 15) (off := 94) (tgt := 109) h dX3_tellPin_15 (by rw [c15]; decide +kernel) (by rw [c15]; decide +kernel) (by rw [c15]; decide +kernel) (by decide) ?_
      refine R_aload_n (pc := 109) h 0 rfl rfl dX3_tellPin_109 ?_
      refine R_getR (pc := 110) (q1 := 35) h flX3_12 lc_33 rfl dX3_tellPin_110 ?_
      refine R_getR (pc := 113) (q1 := 40) h flX3_103 lc_35 rfl dX3_tellPin_113 ?_
      refine R_iload_n (pc := 116) h 1 rfl rfl dX3_tellPin_116 ?_
      obtain ⟨v16, hv16, hF⟩ := bd hF
      refine R_iald (pc := 117) h hv16 lc_40 dX3_tellPin_117 ?_
      cases hF
      exact R_ireturn (pc := 118) h rfl rfl rfl dX3_tellPin_118
    have hF := ifn c15 hF
    by_cases c17 : x2 = 5
    · have hF := itp c17 hF
      refine R_tableIn (pc := 15) (off := 104) (tgt := 119) h dX3_tellPin_15 (by rw [c17]; decide +kernel) (by rw [c17]; decide +kernel) (by rw [c17]; decide +kernel) (by decide) ?_
      refine R_aload_n (pc := 119) h 0 rfl rfl dX3_tellPin_119 ?_
      refine R_getR (pc := 120) (q1 := 35) h flX3_12 lc_33 rfl dX3_tellPin_120 ?_
      refine R_getR (pc := 123) (q1 := 42) h flX3_106 lc_35 rfl dX3_tellPin_123 ?_
      refine R_iload_n (pc := 126) h 1 rfl rfl dX3_tellPin_126 ?_
      obtain ⟨v18, hv18, hF⟩ := bd hF
      refine R_iald (pc := 127) h hv18 lc_42 dX3_tellPin_127 ?_
      cases hF
      exact R_ireturn (pc := 128) h rfl rfl rfl dX3_tellPin_128
    have hF := ifn c17 hF
    by_cases c19 : x2 = 6
    · have hF := itp c19 hF
      refine R_tableIn (pc := 15) (off := 114) (tgt := 129) h dX3_tellPin_15 (by rw [c19]; decide +kernel) (by rw [c19]; decide +kernel) (by rw [c19]; decide +kernel) (by decide) ?_
      refine R_aload_n (pc := 129) h 0 rfl rfl dX3_tellPin_129 ?_
      refine R_getI (pc := 130) h flX3_29 lc_33 rfl dX3_tellPin_130 ?_
      refine R_iload_n (pc := 133) h 1 rfl rfl dX3_tellPin_133 ?_
      refine R_ishr (pc := 134) h dX3_tellPin_134 ?_
      refine R_iconst (pc := 135) (v := 1) h (by decide) dX3_tellPin_135 ?_
      refine R_iand (pc := 136) h dX3_tellPin_136 ?_
      cases hF
      exact R_ireturn (pc := 137) h rfl rfl rfl dX3_tellPin_137
    have hF := ifn c19 hF
    refine R_tableOut (pc := 15) (tgt := 138) h dX3_tellPin_15 (by have e0 := lv_neT c4 (a := 0) (by decide); have e1 := lv_neT c6 (a := 1) (by decide); have e2 := lv_neT c11 (a := 2) (by decide); have e3 := lv_neT c13 (a := 3) (by decide); have e4 := lv_neT c15 (a := 4) (by decide); have e5 := lv_neT c17 (a := 5) (by decide); have e6 := lv_neT c19 (a := 6) (by decide); omega) (by decide) ?_
    refine R_aload_n (pc := 138) h 0 rfl rfl dX3_tellPin_138 ?_
    refine R_getI (pc := 139) h flX3_32 lc_33 rfl dX3_tellPin_139 ?_
    refine R_iload_n (pc := 142) h 1 rfl rfl dX3_tellPin_142 ?_
    refine R_ishr (pc := 143) h dX3_tellPin_143 ?_
    refine R_iconst (pc := 144) (v := 1) h (by decide) dX3_tellPin_144 ?_
    refine R_iand (pc := 145) h dX3_tellPin_145 ?_
    cases hF
    exact R_ireturn (pc := 146) h rfl rfl rfl dX3_tellPin_146
  · have hF := itp c3 hF
    refine R_bipush (pc := 11) (v := (-9)) h (by decide) dX3_tellPin_11 ?_
    cases hF
    exact R_ireturn (pc := 13) h rfl rfl rfl dX3_tellPin_13
theorem c3_tellPin {ad : Nat → Nat} {z : ZZ} {R : Int32} {M : Mem} {x1 : Int32} {x2 : Int32} (hF : f3_tellPin M x1 x2 = some R) : Con layC ad z yX3_tellPin cX3_tellPin 3 (some .int) 3 M [.ref (ad 33), .int x1, .int x2] (M) (some (.int R)) := con_of (own := RX3) (lv := [(0, .ref (ad 33)), (1, .int x1), (2, .int x2)]) (by decide +kernel) rfl (Nat.le_of_ble_eq_true rfl) rfl (fun X hz h => w3_tellPin h hF)
def f4_pin (x1 : Int32) (x2 : Int32) (M : Mem) : Option (Mem × Int32) :=
    (f2_has M x1).bind fun r2 =>
    if r2 = 0 then ((some (M, (-1 : Int32))))
    else (if x2 < 0 then ((some (M, (-1 : Int32))))
    else (if x2 ≤ (7 : Int32) then ((f3_tellPin M x1 x2).bind fun r7 =>
    nm (sI M 28 6 r7) fun M8 =>
    (some (M8, (1 : Int32))))
    else ((some (M, (-1 : Int32))))))
set_option maxHeartbeats 4000000 in
set_option maxRecDepth 10000 in
theorem w4_pin {ad : Nat → Nat} {X : XX} {R : Mem × Int32} (h : Cx layC ad X cX4_pin RX4 3 4 (some .int) (R.1) (some (.int R.2))) {x1 : Int32} {x2 : Int32} {M : Mem} (hF : f4_pin x1 x2 M = some R) : Wp layC ad X M 0 [(0, .ref (ad 28)), (1, .int x1), (2, .int x2)] [] := by
  unfold f4_pin at hF
  refine R_aload_n (pc := 0) h 0 rfl rfl dX4_pin_0 ?_
  refine R_getR (pc := 1) (q1 := 33) h flX4_27 lc_28 rfl dX4_pin_1 ?_
  refine R_getR (pc := 4) (q1 := 35) h flX4_104 lc_33 rfl dX4_pin_4 ?_
  refine R_iload_n (pc := 7) h 1 rfl rfl dX4_pin_7 ?_
  obtain ⟨r2, hc1, hF⟩ := bd hF
  refine R_callV (pc := 8) (st := []) h [.int x1] cvX4_124 (c2_has (ad := ad) (z := X.1) hc1) rfl rfl lc_35 (by decide) (by decide) (Nat.le_of_ble_eq_true rfl) dX4_pin_8 (st1 := [.int r2]) rfl ?_
  refine R_if_eq (pc := 11) (tgt := 24) h dX4_pin_11 (by decide) (fun c3 => ?_) (fun c3 => ?_)
  · have hF := itp c3 hF
    refine R_iconst (pc := 24) (v := (-1)) h (by decide) dX4_pin_24 ?_
    cases hF
    exact R_ireturn (pc := 25) h rfl rfl rfl dX4_pin_25
  · have hF := ifn c3 hF
    refine R_iload_n (pc := 14) h 2 rfl rfl dX4_pin_14 ?_
    refine R_if_lt (pc := 15) (tgt := 24) h dX4_pin_15 (by decide) (fun c4 => ?_) (fun c4 => ?_)
    · have hF := itp c4 hF
      refine R_iconst (pc := 24) (v := (-1)) h (by decide) dX4_pin_24 ?_
      cases hF
      exact R_ireturn (pc := 25) h rfl rfl rfl dX4_pin_25
    · have hF := ifn c4 hF
      refine R_iload_n (pc := 18) h 2 rfl rfl dX4_pin_18 ?_
      refine R_bipush (pc := 19) (v := 7) h (by decide) dX4_pin_19 ?_
      refine R_icmp_le (pc := 21) (tgt := 26) h dX4_pin_21 (by decide) (fun c5 => ?_) (fun c5 => ?_)
      · have hF := itp c5 hF
        refine R_aload_n (pc := 26) h 0 rfl rfl dX4_pin_26 ?_
        refine R_aload_n (pc := 27) h 0 rfl rfl dX4_pin_27 ?_
        refine R_getR (pc := 28) (q1 := 33) h flX4_27 lc_28 rfl dX4_pin_28 ?_
        refine R_iload_n (pc := 31) h 1 rfl rfl dX4_pin_31 ?_
        refine R_iload_n (pc := 32) h 2 rfl rfl dX4_pin_32 ?_
        obtain ⟨r7, hc6, hF⟩ := bd hF
        refine R_callV (pc := 33) (st := [.ref (ad 28)]) h [.int x1, .int x2] cvX4_128 (c3_tellPin (ad := ad) (z := X.1) hc6) rfl rfl lc_33 (by decide) (by decide) (Nat.le_of_ble_eq_true rfl) dX4_pin_33 (st1 := [.int r7, .ref (ad 28)]) rfl ?_
        obtain ⟨M8, hM8, hF⟩ := nm_e2 hF
        refine R_putI (pc := 36) h hM8 fpX4_39 lc_28 rfl dX4_pin_36 ?_
        refine R_iconst (pc := 39) (v := 1) h (by decide) dX4_pin_39 ?_
        cases hF
        exact R_ireturn (pc := 40) h rfl rfl rfl dX4_pin_40
      · have hF := ifn c5 hF
        refine R_iconst (pc := 24) (v := (-1)) h (by decide) dX4_pin_24 ?_
        cases hF
        exact R_ireturn (pc := 25) h rfl rfl rfl dX4_pin_25
theorem c4_pin {ad : Nat → Nat} {z : ZZ} {R : Mem × Int32} {x1 : Int32} {x2 : Int32} {M : Mem} (hF : f4_pin x1 x2 M = some R) : Con layC ad z yX4_pin cX4_pin 3 (some .int) 4 M [.ref (ad 28), .int x1, .int x2] (R.1) (some (.int R.2)) := con_of (own := RX4) (lv := [(0, .ref (ad 28)), (1, .int x1), (2, .int x2)]) (by decide +kernel) rfl (Nat.le_of_ble_eq_true rfl) rfl (fun X hz h => w4_pin h hF)
def f4_rowAt (x1 : Int32) : Option (Option Nat) :=
    if x1 < 0 then ((some none))
    else (if (6 : Int32) ≤ x1 then ((some none))
    else ((rdR [0, 1, 2, 3, 4, 5] x1).bind fun q3 =>
    (some (some q3))))
set_option maxHeartbeats 4000000 in
set_option maxRecDepth 10000 in
theorem w4_rowAt {ad : Nat → Nat} {X : XX} {R : Option Nat} {M : Mem} (h : Cx layC ad X cX4_rowAt RX4 2 1 (some (.object "PinDuties$Cells")) M (some (rv ad R))) {x1 : Int32} (hF : f4_rowAt x1 = some R) : Wp layC ad X M 0 [(0, .ref (ad 28)), (1, .int x1)] [] := by
  unfold f4_rowAt at hF
  refine R_iload_n (pc := 0) h 1 rfl rfl dX4_rowAt_0 ?_
  refine R_if_lt (pc := 1) (tgt := 19) h dX4_rowAt_1 (by decide) (fun c1 => ?_) (fun c1 => ?_)
  · have hF := itp c1 hF
    refine R_null (pc := 19) h dX4_rowAt_19 ?_
    cases hF
    exact R_areturn (pc := 20) h rfl (Or.inl rfl) rfl rfl dX4_rowAt_20
  · have hF := ifn c1 hF
    refine R_iload_n (pc := 4) h 1 rfl rfl dX4_rowAt_4 ?_
    refine R_bipush (pc := 5) (v := 6) h (by decide) dX4_rowAt_5 ?_
    refine R_icmp_ge (pc := 7) (tgt := 19) h dX4_rowAt_7 (by decide) (fun c2 => ?_) (fun c2 => ?_)
    · have hF := itp c2 hF
      refine R_null (pc := 19) h dX4_rowAt_19 ?_
      cases hF
      exact R_areturn (pc := 20) h rfl (Or.inl rfl) rfl rfl dX4_rowAt_20
    · have hF := ifn c2 hF
      refine R_aload_n (pc := 10) h 0 rfl rfl dX4_rowAt_10 ?_
      refine R_getR (pc := 11) (q1 := 29) h flX4_11 lc_28 rfl dX4_rowAt_11 ?_
      refine R_iload_n (pc := 14) h 1 rfl rfl dX4_rowAt_14 ?_
      obtain ⟨q3, hq3, hF⟩ := bd hF
      refine R_aald (pc := 15) h hq3 (by decide) lc_29 dX4_rowAt_15 ?_
      refine R_goto (pc := 16) (tgt := 20) h dX4_rowAt_16 (by decide) ?_
      cases hF
      exact R_areturn (pc := 20) h rfl (Or.inr ⟨_, rfl⟩) rfl rfl dX4_rowAt_20
theorem c4_rowAt {ad : Nat → Nat} {z : ZZ} {R : Option Nat} {M : Mem} {x1 : Int32} (hF : f4_rowAt x1 = some R) : Con layC ad z yX4_rowAt cX4_rowAt 2 (some (.object "PinDuties$Cells")) 1 M [.ref (ad 28), .int x1] (M) (some (rv ad R)) := con_of (own := RX4) (lv := [(0, .ref (ad 28)), (1, .int x1)]) (by decide +kernel) rfl (Nat.le_of_ble_eq_true rfl) rfl (fun X hz h => w4_rowAt h hF)
def f2_mostOf (M : Mem) (x1 : Int32) : Option (Int32) :=
    (f2_isSet x1).bind fun r2 =>
    if r2 = 0 then ((some (0 : Int32)))
    else ((rd M 46 256 x1).bind fun v4 =>
    (some v4))
set_option maxHeartbeats 4000000 in
set_option maxRecDepth 10000 in
theorem w2_mostOf {ad : Nat → Nat} {X : XX} {R : Int32} {M : Mem} (h : Cx layC ad X cX2_mostOf RX2 2 2 (some .int) M (some (.int R))) {x1 : Int32} (hF : f2_mostOf M x1 = some R) : Wp layC ad X M 0 [(0, .ref (ad 35)), (1, .int x1)] [] := by
  unfold f2_mostOf at hF
  refine R_iload_n (pc := 0) h 1 rfl rfl dX2_mostOf_0 ?_
  obtain ⟨r2, hc1, hF⟩ := bd hF
  refine R_callS (pc := 1) (st := []) h [.int x1] csX2_50 (c2_isSet (ad := ad) (z := X.1) (M := M) hc1) rfl rfl (by decide) (by decide) (Nat.le_of_ble_eq_true rfl) dX2_mostOf_1 (st1 := [.int r2]) rfl ?_
  refine R_if_eq (pc := 4) (tgt := 16) h dX2_mostOf_4 (by decide) (fun c3 => ?_) (fun c3 => ?_)
  · have hF := itp c3 hF
    refine R_iconst (pc := 16) (v := 0) h (by decide) dX2_mostOf_16 ?_
    cases hF
    exact R_ireturn (pc := 17) h rfl rfl rfl dX2_mostOf_17
  · have hF := ifn c3 hF
    refine R_aload_n (pc := 7) h 0 rfl rfl dX2_mostOf_7 ?_
    refine R_getR (pc := 8) (q1 := 46) h flX2_47 lc_35 rfl dX2_mostOf_8 ?_
    refine R_iload_n (pc := 11) h 1 rfl rfl dX2_mostOf_11 ?_
    obtain ⟨v4, hv4, hF⟩ := bd hF
    refine R_iald (pc := 12) h hv4 lc_46 dX2_mostOf_12 ?_
    refine R_goto (pc := 13) (tgt := 17) h dX2_mostOf_13 (by decide) ?_
    cases hF
    exact R_ireturn (pc := 17) h rfl rfl rfl dX2_mostOf_17
theorem c2_mostOf {ad : Nat → Nat} {z : ZZ} {R : Int32} {M : Mem} {x1 : Int32} (hF : f2_mostOf M x1 = some R) : Con layC ad z yX2_mostOf cX2_mostOf 2 (some .int) 2 M [.ref (ad 35), .int x1] (M) (some (.int R)) := con_of (own := RX2) (lv := [(0, .ref (ad 35)), (1, .int x1)]) (by decide +kernel) rfl (Nat.le_of_ble_eq_true rfl) rfl (fun X hz h => w2_mostOf h hF)
def f2_leastOfMost_2 (M : Mem) (fu : Nat) : Nat → Int32 → Int32 → Option (Int32)
  | 0 => fun _ _ => none
  | f + 1 => fun x1 x2 =>
    if x1 < x2 then ((some (0 : Int32)))
    else (if (x2 &&& (x1 ^^^ (-1 : Int32))) = 0 then ((f2_isApart M x2).bind fun r4 =>
    if r4 = 0 then (nm (x2 + (1 : Int32)) fun v6 =>
    ((f2_leastOfMost_2 M fu f) x1 v6))
    else ((f2_sumOf M x2).bind fun r8 =>
    (f2_mostOf M x1).bind fun r10 =>
    if r8 = r10 then ((some x2))
    else (nm (x2 + (1 : Int32)) fun v12 =>
    ((f2_leastOfMost_2 M fu f) x1 v12))))
    else (nm (x2 + (1 : Int32)) fun v13 =>
    ((f2_leastOfMost_2 M fu f) x1 v13)))
set_option maxHeartbeats 4000000 in
set_option maxRecDepth 10000 in
theorem w2_leastOfMosti_2 {ad : Nat → Nat} {X : XX} {R : Int32} {M : Mem} {fu : Nat}  (h : Cx layC ad X cX2_leastOfMost RX2 3 3 (some .int) M (some (.int R)))  : ∀ (f : Nat) (x1 : Int32) (x2 : Int32), f2_leastOfMost_2 M fu f x1 x2 = some R → Wp layC ad X M 2 [(0, .ref (ad 35)), (1, .int x1), (2, .int x2)] [] := by
  intro f
  induction f with
  | zero => intro x1 x2 hF; exact absurd hF (by simp [f2_leastOfMost_2])
  | succ f ih =>
    intro x1 x2 hF
    rw [f2_leastOfMost_2] at hF
    refine R_iload_n (pc := 2) h 2 rfl rfl dX2_leastOfMost_2 ?_
    refine R_iload_n (pc := 3) h 1 rfl rfl dX2_leastOfMost_3 ?_
    refine R_icmp_gt (pc := 4) (tgt := 44) h dX2_leastOfMost_4 (by decide) (fun c1 => ?_) (fun c1 => ?_)
    · have hF := itp c1 hF
      refine R_iconst (pc := 44) (v := 0) h (by decide) dX2_leastOfMost_44 ?_
      cases hF
      exact R_ireturn (pc := 45) h rfl rfl rfl dX2_leastOfMost_45
    · have hF := ifn c1 hF
      refine R_iload_n (pc := 7) h 2 rfl rfl dX2_leastOfMost_7 ?_
      refine R_iload_n (pc := 8) h 1 rfl rfl dX2_leastOfMost_8 ?_
      refine R_iconst (pc := 9) (v := (-1)) h (by decide) dX2_leastOfMost_9 ?_
      refine R_ixor (pc := 10) h dX2_leastOfMost_10 ?_
      refine R_iand (pc := 11) h dX2_leastOfMost_11 ?_
      refine R_if_ne (pc := 12) (tgt := 38) h dX2_leastOfMost_12 (by decide) (fun c2 => ?_) (fun c2 => ?_)
      · have hF := ifn c2 hF
        obtain ⟨v13, hv13, hF⟩ := nm_e2 hF
        refine R_iinc (pc := 38) (lv' := [(2, .int v13), (0, .ref (ad 35)), (1, .int x1)]) h 2 rfl (by decide) hv13 (by decide) rfl dX2_leastOfMost_38 ?_
        refine R_goto (pc := 41) (tgt := 2) h dX2_leastOfMost_41 (by decide) ?_
        exact Wp_sub (nX := 0) (lv' := [(0, .ref (ad 35)), (1, .int x1), (2, .int v13)]) [1, 2, 0] rfl (ih _ _ hF)
      · have hF := itp c2 hF
        refine R_aload_n (pc := 15) h 0 rfl rfl dX2_leastOfMost_15 ?_
        refine R_iload_n (pc := 16) h 2 rfl rfl dX2_leastOfMost_16 ?_
        obtain ⟨r4, hc3, hF⟩ := bd hF
        refine R_callV (pc := 17) (st := []) h [.int x2] cvX2_90 (c2_isApart (ad := ad) (z := X.1) hc3) rfl rfl lc_35 (by decide) (by decide) (Nat.le_of_ble_eq_true rfl) dX2_leastOfMost_17 (st1 := [.int r4]) rfl ?_
        refine R_if_eq (pc := 20) (tgt := 38) h dX2_leastOfMost_20 (by decide) (fun c5 => ?_) (fun c5 => ?_)
        · have hF := itp c5 hF
          obtain ⟨v6, hv6, hF⟩ := nm_e2 hF
          refine R_iinc (pc := 38) (lv' := [(2, .int v6), (0, .ref (ad 35)), (1, .int x1)]) h 2 rfl (by decide) hv6 (by decide) rfl dX2_leastOfMost_38 ?_
          refine R_goto (pc := 41) (tgt := 2) h dX2_leastOfMost_41 (by decide) ?_
          exact Wp_sub (nX := 0) (lv' := [(0, .ref (ad 35)), (1, .int x1), (2, .int v6)]) [1, 2, 0] rfl (ih _ _ hF)
        · have hF := ifn c5 hF
          refine R_aload_n (pc := 23) h 0 rfl rfl dX2_leastOfMost_23 ?_
          refine R_iload_n (pc := 24) h 2 rfl rfl dX2_leastOfMost_24 ?_
          obtain ⟨r8, hc7, hF⟩ := bd hF
          refine R_callV (pc := 25) (st := []) h [.int x2] cvX2_93 (c2_sumOf (ad := ad) (z := X.1) hc7) rfl rfl lc_35 (by decide) (by decide) (Nat.le_of_ble_eq_true rfl) dX2_leastOfMost_25 (st1 := [.int r8]) rfl ?_
          refine R_aload_n (pc := 28) h 0 rfl rfl dX2_leastOfMost_28 ?_
          refine R_iload_n (pc := 29) h 1 rfl rfl dX2_leastOfMost_29 ?_
          obtain ⟨r10, hc9, hF⟩ := bd hF
          refine R_callV (pc := 30) (st := [.int r8]) h [.int x1] cvX2_96 (c2_mostOf (ad := ad) (z := X.1) hc9) rfl rfl lc_35 (by decide) (by decide) (Nat.le_of_ble_eq_true rfl) dX2_leastOfMost_30 (st1 := [.int r10, .int r8]) rfl ?_
          refine R_icmp_ne (pc := 33) (tgt := 38) h dX2_leastOfMost_33 (by decide) (fun c11 => ?_) (fun c11 => ?_)
          · have hF := ifn c11 hF
            obtain ⟨v12, hv12, hF⟩ := nm_e2 hF
            refine R_iinc (pc := 38) (lv' := [(2, .int v12), (0, .ref (ad 35)), (1, .int x1)]) h 2 rfl (by decide) hv12 (by decide) rfl dX2_leastOfMost_38 ?_
            refine R_goto (pc := 41) (tgt := 2) h dX2_leastOfMost_41 (by decide) ?_
            exact Wp_sub (nX := 0) (lv' := [(0, .ref (ad 35)), (1, .int x1), (2, .int v12)]) [1, 2, 0] rfl (ih _ _ hF)
          · have hF := itp c11 hF
            refine R_iload_n (pc := 36) h 2 rfl rfl dX2_leastOfMost_36 ?_
            cases hF
            exact R_ireturn (pc := 37) h rfl rfl rfl dX2_leastOfMost_37
theorem w2_leastOfMost_2 {ad : Nat → Nat} {X : XX} {R : Int32} {M : Mem} {fu : Nat}  (h : Cx layC ad X cX2_leastOfMost RX2 3 3 (some .int) M (some (.int R)))  {f : Nat} {x1 : Int32} {x2 : Int32} (hF : f2_leastOfMost_2 M fu f x1 x2 = some R) : Wp layC ad X M 2 [(0, .ref (ad 35)), (1, .int x1), (2, .int x2)] [] := w2_leastOfMosti_2 h  f _ _ hF
def f2_leastOfMost (M : Mem) (fu : Nat) (x1 : Int32) : Option (Int32) :=
    (f2_leastOfMost_2 M fu fu x1 (0 : Int32))
set_option maxHeartbeats 4000000 in
set_option maxRecDepth 10000 in
theorem w2_leastOfMost {ad : Nat → Nat} {X : XX} {R : Int32} {M : Mem} {fu : Nat} (h : Cx layC ad X cX2_leastOfMost RX2 3 3 (some .int) M (some (.int R))) {x1 : Int32} (hF : f2_leastOfMost M fu x1 = some R) : Wp layC ad X M 0 [(0, .ref (ad 35)), (1, .int x1)] [] := by
  unfold f2_leastOfMost at hF
  refine R_iconst (pc := 0) (v := 0) h (by decide) dX2_leastOfMost_0 ?_
  refine R_istore_n (pc := 1) (lv' := [(2, .int (0 : Int32)), (0, .ref (ad 35)), (1, .int x1)]) h rfl rfl (by decide) rfl dX2_leastOfMost_1 ?_
  exact Wp_sub (nX := 0) (lv' := [(0, .ref (ad 35)), (1, .int x1), (2, .int (0 : Int32))]) [1, 2, 0] rfl (w2_leastOfMost_2 h  (hF := hF))
theorem c2_leastOfMost {ad : Nat → Nat} {z : ZZ} {R : Int32} {M : Mem} {fu : Nat} {x1 : Int32} (hF : f2_leastOfMost M fu x1 = some R) : Con layC ad z yX2_leastOfMost cX2_leastOfMost 3 (some .int) 3 M [.ref (ad 35), .int x1] (M) (some (.int R)) := con_of (own := RX2) (lv := [(0, .ref (ad 35)), (1, .int x1)]) (by decide +kernel) rfl (Nat.le_of_ble_eq_true rfl) rfl (fun X hz h => w2_leastOfMost h hF)
def f0_append (p0 : Nat) (x1 : Int32) (M : Mem) : Option (Mem) :=
    (gd (decide (p0 < 10))).bind fun _ =>
    if (M.1 p0 0) < 0 then ((some M))
    else (if (60 : Int32) ≤ (M.1 p0 0) then ((some M))
    else ((wr M (p0 + 10) 60 (M.1 p0 0) x1).bind fun M4 =>
    nm (sI M4 p0 0 ((M4.1 p0 0) + (1 : Int32))) fun M5 =>
    (some M5)))
set_option maxHeartbeats 4000000 in
set_option maxRecDepth 10000 in
theorem w0_append {ad : Nat → Nat} {X : XX} {R : Mem} (h : Cx layC ad X cX0_append RX0 2 1 none (R) none) {p0 : Nat} {x1 : Int32} {M : Mem} (hF : f0_append p0 x1 M = some R) : Wp layC ad X M 0 [(0, .ref (ad p0)), (1, .int x1)] [] := by
  unfold f0_append at hF
  refine R_aload_n (pc := 0) h 0 rfl rfl dX0_append_0 ?_
  obtain ⟨_, hg1, hF⟩ := bd hF
  have hg1 := of_decide_eq_true (gd_s hg1)
  refine R_getI (pc := 1) h flX0_9 (lyCells hg1) rfl dX0_append_1 ?_
  refine R_if_lt (pc := 4) (tgt := 39) h dX0_append_4 (by decide) (fun c2 => ?_) (fun c2 => ?_)
  · have hF := itp c2 hF
    cases hF
    exact R_return (pc := 39) h rfl rfl rfl dX0_append_39
  · have hF := ifn c2 hF
    refine R_aload_n (pc := 7) h 0 rfl rfl dX0_append_7 ?_
    refine R_getI (pc := 8) h flX0_9 (lyCells hg1) rfl dX0_append_8 ?_
    refine R_aload_n (pc := 11) h 0 rfl rfl dX0_append_11 ?_
    refine R_getR (pc := 12) (q1 := p0 + 10) h flX0_15 (lyCells hg1) rfl dX0_append_12 ?_
    refine R_alen (pc := 15) (v := 60) h (by decide) (by decide) (lyCellsA hg1) dX0_append_15 ?_
    refine R_icmp_ge (pc := 16) (tgt := 39) h dX0_append_16 (by decide) (fun c3 => ?_) (fun c3 => ?_)
    · have hF := itp c3 hF
      cases hF
      exact R_return (pc := 39) h rfl rfl rfl dX0_append_39
    · have hF := ifn c3 hF
      refine R_aload_n (pc := 19) h 0 rfl rfl dX0_append_19 ?_
      refine R_getR (pc := 20) (q1 := p0 + 10) h flX0_15 (lyCells hg1) rfl dX0_append_20 ?_
      refine R_aload_n (pc := 23) h 0 rfl rfl dX0_append_23 ?_
      refine R_getI (pc := 24) h flX0_9 (lyCells hg1) rfl dX0_append_24 ?_
      refine R_iload_n (pc := 27) h 1 rfl rfl dX0_append_27 ?_
      obtain ⟨M4, hM4, hF⟩ := bd hF
      refine R_iast (pc := 28) h hM4 (lyCellsA hg1) dX0_append_28 ?_
      refine R_aload_n (pc := 29) h 0 rfl rfl dX0_append_29 ?_
      refine R_dup (pc := 30) h rfl dX0_append_30 ?_
      refine R_getI (pc := 31) h flX0_9 (lyCells hg1) rfl dX0_append_31 ?_
      refine R_iconst (pc := 34) (v := 1) h (by decide) dX0_append_34 ?_
      refine R_iadd (pc := 35) h dX0_append_35 ?_
      obtain ⟨M5, hM5, hF⟩ := nm_e2 hF
      refine R_putI (pc := 36) h hM5 fpX0_9 (lyCells hg1) rfl dX0_append_36 ?_
      cases hF
      exact R_return (pc := 39) h rfl rfl rfl dX0_append_39
theorem c0_append {ad : Nat → Nat} {z : ZZ} {R : Mem} {p0 : Nat} {x1 : Int32} {M : Mem} (hF : f0_append p0 x1 M = some R) : Con layC ad z yX0_append cX0_append 2 none 1 M [.ref (ad p0), .int x1] (R) none := con_of (own := RX0) (lv := [(0, .ref (ad p0)), (1, .int x1)]) (by decide +kernel) rfl (Nat.le_of_ble_eq_true rfl) rfl (fun X hz h => w0_append h hF)
def f2_orderInto_17 (fu : Nat) (k8 : Nat → Int32 → Int32 → Mem → Option (Mem)) : Nat → Nat → Int32 → Int32 → Int32 → Mem → Option (Mem)
  | 0 => fun _ _ _ _ _ => none
  | f + 1 => fun px1 x2 x3 x4 M =>
    if (M.1 35 0) ≤ x4 then (nm (x3 + (1 : Int32)) fun v2 =>
    (k8 px1 x2 v2 M))
    else (if ((x2 >>> (x4 &&& 31)) &&& (1 : Int32)) = 0 then (nm (x4 + (1 : Int32)) fun v4 =>
    ((f2_orderInto_17 fu k8 f) px1 x2 x3 v4 M))
    else ((rd M 38 8 x4).bind fun v5 =>
    if v5 = x3 then ((gd (decide (px1 < 10))).bind fun _ =>
    (f0_append px1 x4 M).bind fun M9 =>
    nm (x4 + (1 : Int32)) fun v10 =>
    ((f2_orderInto_17 fu k8 f) px1 x2 x3 v10 M9))
    else (nm (x4 + (1 : Int32)) fun v11 =>
    ((f2_orderInto_17 fu k8 f) px1 x2 x3 v11 M))))
set_option maxHeartbeats 4000000 in
set_option maxRecDepth 10000 in
theorem w2_orderIntoi_17 {ad : Nat → Nat} {X : XX} {R : Mem} {fu : Nat} {k8 : Nat → Int32 → Int32 → Mem → Option (Mem)} (h : Cx layC ad X cX2_orderInto RX2 5 2 none (R) none) (hk8 : ∀ (px1 : Nat) (x2 : Int32) (x3 : Int32) (M : Mem), k8 px1 x2 x3 M = some R → Wp layC ad X M 8 [(0, .ref (ad 35)), (1, .ref (ad px1)), (2, .int x2), (3, .int x3)] []) : ∀ (f : Nat) (px1 : Nat) (x2 : Int32) (x3 : Int32) (x4 : Int32) (M : Mem), f2_orderInto_17 fu k8 f px1 x2 x3 x4 M = some R → Wp layC ad X M 17 [(0, .ref (ad 35)), (1, .ref (ad px1)), (2, .int x2), (3, .int x3), (4, .int x4)] [] := by
  intro f
  induction f with
  | zero => intro px1 x2 x3 x4 M hF; exact absurd hF (by simp [f2_orderInto_17])
  | succ f ih =>
    intro px1 x2 x3 x4 M hF
    rw [f2_orderInto_17] at hF
    refine R_iload (pc := 17) h 4 rfl dX2_orderInto_17 ?_
    refine R_aload_n (pc := 19) h 0 rfl rfl dX2_orderInto_19 ?_
    refine R_getI (pc := 20) h flX2_9 lc_35 rfl dX2_orderInto_20 ?_
    refine R_icmp_ge (pc := 23) (tgt := 58) h dX2_orderInto_23 (by decide) (fun c1 => ?_) (fun c1 => ?_)
    · have hF := itp c1 hF
      obtain ⟨v2, hv2, hF⟩ := nm_e2 hF
      refine R_iinc (pc := 58) (lv' := [(3, .int v2), (0, .ref (ad 35)), (1, .ref (ad px1)), (2, .int x2), (4, .int x4)]) h 3 rfl (by decide) hv2 (by decide) rfl dX2_orderInto_58 ?_
      refine R_goto (pc := 61) (tgt := 8) h dX2_orderInto_61 (by decide) ?_
      exact Wp_sub (nX := 0) (lv' := [(0, .ref (ad 35)), (1, .ref (ad px1)), (2, .int x2), (3, .int v2)]) [1, 2, 3, 0] rfl (hk8 _ _ _ _ hF)
    · have hF := ifn c1 hF
      refine R_iload_n (pc := 26) h 2 rfl rfl dX2_orderInto_26 ?_
      refine R_iload (pc := 27) h 4 rfl dX2_orderInto_27 ?_
      refine R_ishr (pc := 29) h dX2_orderInto_29 ?_
      refine R_iconst (pc := 30) (v := 1) h (by decide) dX2_orderInto_30 ?_
      refine R_iand (pc := 31) h dX2_orderInto_31 ?_
      refine R_if_eq (pc := 32) (tgt := 52) h dX2_orderInto_32 (by decide) (fun c3 => ?_) (fun c3 => ?_)
      · have hF := itp c3 hF
        obtain ⟨v4, hv4, hF⟩ := nm_e2 hF
        refine R_iinc (pc := 52) (lv' := [(4, .int v4), (0, .ref (ad 35)), (1, .ref (ad px1)), (2, .int x2), (3, .int x3)]) h 4 rfl (by decide) hv4 (by decide) rfl dX2_orderInto_52 ?_
        refine R_goto (pc := 55) (tgt := 17) h dX2_orderInto_55 (by decide) ?_
        exact Wp_sub (nX := 0) (lv' := [(0, .ref (ad 35)), (1, .ref (ad px1)), (2, .int x2), (3, .int x3), (4, .int v4)]) [1, 2, 3, 4, 0] rfl (ih _ _ _ _ _ hF)
      · have hF := ifn c3 hF
        refine R_aload_n (pc := 35) h 0 rfl rfl dX2_orderInto_35 ?_
        refine R_getR (pc := 36) (q1 := 38) h flX2_22 lc_35 rfl dX2_orderInto_36 ?_
        refine R_iload (pc := 39) h 4 rfl dX2_orderInto_39 ?_
        obtain ⟨v5, hv5, hF⟩ := bd hF
        refine R_iald (pc := 41) h hv5 lc_38 dX2_orderInto_41 ?_
        refine R_iload_n (pc := 42) h 3 rfl rfl dX2_orderInto_42 ?_
        refine R_icmp_ne (pc := 43) (tgt := 52) h dX2_orderInto_43 (by decide) (fun c6 => ?_) (fun c6 => ?_)
        · have hF := ifn c6 hF
          obtain ⟨v11, hv11, hF⟩ := nm_e2 hF
          refine R_iinc (pc := 52) (lv' := [(4, .int v11), (0, .ref (ad 35)), (1, .ref (ad px1)), (2, .int x2), (3, .int x3)]) h 4 rfl (by decide) hv11 (by decide) rfl dX2_orderInto_52 ?_
          refine R_goto (pc := 55) (tgt := 17) h dX2_orderInto_55 (by decide) ?_
          exact Wp_sub (nX := 0) (lv' := [(0, .ref (ad 35)), (1, .ref (ad px1)), (2, .int x2), (3, .int x3), (4, .int v11)]) [1, 2, 3, 4, 0] rfl (ih _ _ _ _ _ hF)
        · have hF := itp c6 hF
          refine R_aload_n (pc := 46) h 1 rfl rfl dX2_orderInto_46 ?_
          refine R_iload (pc := 47) h 4 rfl dX2_orderInto_47 ?_
          obtain ⟨_, hg7, hF⟩ := bd hF
          have hg7 := of_decide_eq_true (gd_s hg7)
          obtain ⟨M9, hc8, hF⟩ := bd hF
          refine R_callV (pc := 49) (st := []) h [.int x4] cvX2_102 (c0_append (ad := ad) (z := X.1) hc8) rfl rfl (lyCells hg7) (by decide) (by decide) (Nat.le_of_ble_eq_true rfl) dX2_orderInto_49 (st1 := []) rfl ?_
          obtain ⟨v10, hv10, hF⟩ := nm_e2 hF
          refine R_iinc (pc := 52) (lv' := [(4, .int v10), (0, .ref (ad 35)), (1, .ref (ad px1)), (2, .int x2), (3, .int x3)]) h 4 rfl (by decide) hv10 (by decide) rfl dX2_orderInto_52 ?_
          refine R_goto (pc := 55) (tgt := 17) h dX2_orderInto_55 (by decide) ?_
          exact Wp_sub (nX := 0) (lv' := [(0, .ref (ad 35)), (1, .ref (ad px1)), (2, .int x2), (3, .int x3), (4, .int v10)]) [1, 2, 3, 4, 0] rfl (ih _ _ _ _ _ hF)
theorem w2_orderInto_17 {ad : Nat → Nat} {X : XX} {R : Mem} {fu : Nat} {k8 : Nat → Int32 → Int32 → Mem → Option (Mem)} (h : Cx layC ad X cX2_orderInto RX2 5 2 none (R) none) (hk8 : ∀ (px1 : Nat) (x2 : Int32) (x3 : Int32) (M : Mem), k8 px1 x2 x3 M = some R → Wp layC ad X M 8 [(0, .ref (ad 35)), (1, .ref (ad px1)), (2, .int x2), (3, .int x3)] []) {f : Nat} {px1 : Nat} {x2 : Int32} {x3 : Int32} {x4 : Int32} {M : Mem} (hF : f2_orderInto_17 fu k8 f px1 x2 x3 x4 M = some R) : Wp layC ad X M 17 [(0, .ref (ad 35)), (1, .ref (ad px1)), (2, .int x2), (3, .int x3), (4, .int x4)] [] := w2_orderIntoi_17 h hk8 f _ _ _ _ _ hF
def f2_orderInto_8 (fu : Nat) : Nat → Nat → Int32 → Int32 → Mem → Option (Mem)
  | 0 => fun _ _ _ _ => none
  | f + 1 => fun px1 x2 x3 M =>
    if (13 : Int32) ≤ x3 then ((some M))
    else ((f2_orderInto_17 fu (f2_orderInto_8 fu f) fu px1 x2 x3 (0 : Int32) M))
set_option maxHeartbeats 4000000 in
set_option maxRecDepth 10000 in
theorem w2_orderIntoi_8 {ad : Nat → Nat} {X : XX} {R : Mem} {fu : Nat}  (h : Cx layC ad X cX2_orderInto RX2 5 2 none (R) none)  : ∀ (f : Nat) (px1 : Nat) (x2 : Int32) (x3 : Int32) (M : Mem), f2_orderInto_8 fu f px1 x2 x3 M = some R → Wp layC ad X M 8 [(0, .ref (ad 35)), (1, .ref (ad px1)), (2, .int x2), (3, .int x3)] [] := by
  intro f
  induction f with
  | zero => intro px1 x2 x3 M hF; exact absurd hF (by simp [f2_orderInto_8])
  | succ f ih =>
    intro px1 x2 x3 M hF
    rw [f2_orderInto_8] at hF
    refine R_iload_n (pc := 8) h 3 rfl rfl dX2_orderInto_8 ?_
    refine R_bipush (pc := 9) (v := 13) h (by decide) dX2_orderInto_9 ?_
    refine R_icmp_ge (pc := 11) (tgt := 64) h dX2_orderInto_11 (by decide) (fun c1 => ?_) (fun c1 => ?_)
    · have hF := itp c1 hF
      cases hF
      exact R_return (pc := 64) h rfl rfl rfl dX2_orderInto_64
    · have hF := ifn c1 hF
      refine R_iconst (pc := 14) (v := 0) h (by decide) dX2_orderInto_14 ?_
      refine R_istore (pc := 15) (lv' := [(4, .int (0 : Int32)), (0, .ref (ad 35)), (1, .ref (ad px1)), (2, .int x2), (3, .int x3)]) h rfl (by decide) rfl dX2_orderInto_15 ?_
      exact Wp_sub (nX := 0) (lv' := [(0, .ref (ad 35)), (1, .ref (ad px1)), (2, .int x2), (3, .int x3), (4, .int (0 : Int32))]) [1, 2, 3, 4, 0] rfl (w2_orderInto_17 h (hk8 := fun a0 a1 a2 a3 hF => ih a0 a1 a2 a3 hF) (hF := hF))
theorem w2_orderInto_8 {ad : Nat → Nat} {X : XX} {R : Mem} {fu : Nat}  (h : Cx layC ad X cX2_orderInto RX2 5 2 none (R) none)  {f : Nat} {px1 : Nat} {x2 : Int32} {x3 : Int32} {M : Mem} (hF : f2_orderInto_8 fu f px1 x2 x3 M = some R) : Wp layC ad X M 8 [(0, .ref (ad 35)), (1, .ref (ad px1)), (2, .int x2), (3, .int x3)] [] := w2_orderIntoi_8 h  f _ _ _ _ hF
def f2_orderInto (fu : Nat) (p1 : Nat) (x2 : Int32) (M : Mem) : Option (Mem) :=
    (gd (decide (p1 < 10))).bind fun _ =>
    (f0_begin fu p1 (0 : Int32) (0 : Int32) M).bind fun M3 =>
    (f2_orderInto_8 fu fu p1 x2 (0 : Int32) M3)
set_option maxHeartbeats 4000000 in
set_option maxRecDepth 10000 in
theorem w2_orderInto {ad : Nat → Nat} {X : XX} {R : Mem} {fu : Nat} (h : Cx layC ad X cX2_orderInto RX2 5 2 none (R) none) {p1 : Nat} {x2 : Int32} {M : Mem} (hF : f2_orderInto fu p1 x2 M = some R) : Wp layC ad X M 0 [(0, .ref (ad 35)), (1, .ref (ad p1)), (2, .int x2)] [] := by
  unfold f2_orderInto at hF
  refine R_aload_n (pc := 0) h 1 rfl rfl dX2_orderInto_0 ?_
  refine R_iconst (pc := 1) (v := 0) h (by decide) dX2_orderInto_1 ?_
  refine R_iconst (pc := 2) (v := 0) h (by decide) dX2_orderInto_2 ?_
  obtain ⟨_, hg1, hF⟩ := bd hF
  have hg1 := of_decide_eq_true (gd_s hg1)
  obtain ⟨M3, hc2, hF⟩ := bd hF
  refine R_callV (pc := 3) (st := []) h [.int (0 : Int32), .int (0 : Int32)] cvX2_99 (c0_begin (ad := ad) (z := X.1) hc2) rfl rfl (lyCells hg1) (by decide) (by decide) (Nat.le_of_ble_eq_true rfl) dX2_orderInto_3 (st1 := []) rfl ?_
  refine R_iconst (pc := 6) (v := 0) h (by decide) dX2_orderInto_6 ?_
  refine R_istore_n (pc := 7) (lv' := [(3, .int (0 : Int32)), (0, .ref (ad 35)), (1, .ref (ad p1)), (2, .int x2)]) h rfl rfl (by decide) rfl dX2_orderInto_7 ?_
  exact Wp_sub (nX := 0) (lv' := [(0, .ref (ad 35)), (1, .ref (ad p1)), (2, .int x2), (3, .int (0 : Int32))]) [1, 2, 3, 0] rfl (w2_orderInto_8 h  (hF := hF))
theorem c2_orderInto {ad : Nat → Nat} {z : ZZ} {R : Mem} {fu : Nat} {p1 : Nat} {x2 : Int32} {M : Mem} (hF : f2_orderInto fu p1 x2 M = some R) : Con layC ad z yX2_orderInto cX2_orderInto 5 none 2 M [.ref (ad 35), .ref (ad p1), .int x2] (R) none := con_of (own := RX2) (lv := [(0, .ref (ad 35)), (1, .ref (ad p1)), (2, .int x2)]) (by decide +kernel) rfl (Nat.le_of_ble_eq_true rfl) rfl (fun X hz h => w2_orderInto h hF)
def f4_best (fu : Nat) (x1 : Int32) (M : Mem) : Option (Mem × Int32) :=
    (f4_rowAt x1).bind fun r2 =>
    oc r2 ((some (M, (-1 : Int32))))
    fun q3 => if (M.1 35 0) = 0 then ((some (M, (-4 : Int32))))
    else ((f2_all M).bind fun r6 =>
    nm (r6 &&& ((M.1 33 4) ^^^ (-1 : Int32))) fun v7 =>
    (f2_leastOfMost M fu v7).bind fun r9 =>
    nm (sI M 28 6 r9) fun M10 =>
    (f2_orderInto fu q3 r9 M10).bind fun M12 =>
    (f2_mostOf M12 v7).bind fun r14 =>
    (some (M12, r14)))
set_option maxHeartbeats 4000000 in
set_option maxRecDepth 10000 in
theorem w4_best {ad : Nat → Nat} {X : XX} {R : Mem × Int32} {fu : Nat} (h : Cx layC ad X cX4_best RX4 6 4 (some .int) (R.1) (some (.int R.2))) {x1 : Int32} {M : Mem} (hF : f4_best fu x1 M = some R) : Wp layC ad X M 0 [(0, .ref (ad 28)), (1, .int x1)] [] := by
  unfold f4_best at hF
  refine R_aload_n (pc := 0) h 0 rfl rfl dX4_best_0 ?_
  refine R_iload_n (pc := 1) h 1 rfl rfl dX4_best_1 ?_
  obtain ⟨r2, hc1, hF⟩ := bd hF
  rcases r2 with _ | q3
  · have hF := oc_n hF
    refine R_callV (pc := 2) (st := []) h [.int x1] cvX4_51 (c4_rowAt (ad := ad) (z := X.1) (M := M) hc1) rfl rfl lc_28 (by decide) (by decide) (Nat.le_of_ble_eq_true rfl) dX4_best_2 (st1 := [.null]) rfl ?_
    refine R_astore_nN (pc := 5) (lv' := [(2, .null), (0, .ref (ad 28)), (1, .int x1)]) h rfl (by decide) rfl dX4_best_5 ?_
    refine R_aload_nN (pc := 6) h 0 rfl rfl dX4_best_6 ?_
    refine R_ifnonnullN (pc := 7) h dX4_best_7 ?_
    refine R_iconst (pc := 10) (v := (-1)) h (by decide) dX4_best_10 ?_
    cases hF
    exact R_ireturn (pc := 11) h rfl rfl rfl dX4_best_11
  · have hF := oc_s hF
    refine R_callV (pc := 2) (st := []) h [.int x1] cvX4_51 (c4_rowAt (ad := ad) (z := X.1) (M := M) hc1) rfl rfl lc_28 (by decide) (by decide) (Nat.le_of_ble_eq_true rfl) dX4_best_2 (st1 := [.ref (ad q3)]) rfl ?_
    refine R_astore_n (pc := 5) (lv' := [(2, .ref (ad q3)), (0, .ref (ad 28)), (1, .int x1)]) h rfl rfl (by decide) rfl dX4_best_5 ?_
    refine R_aload_n (pc := 6) h 0 rfl rfl dX4_best_6 ?_
    refine R_ifnonnull (pc := 7) (tgt := 12) h dX4_best_7 (by decide) ?_
    refine R_aload_n (pc := 12) h 1 rfl rfl dX4_best_12 ?_
    refine R_getR (pc := 13) (q1 := 33) h flX4_27 lc_28 rfl dX4_best_13 ?_
    refine R_getR (pc := 16) (q1 := 35) h flX4_104 lc_33 rfl dX4_best_16 ?_
    refine R_astore_n (pc := 19) (lv' := [(3, .ref (ad 35)), (2, .ref (ad q3)), (0, .ref (ad 28)), (1, .int x1)]) h rfl rfl (by decide) rfl dX4_best_19 ?_
    refine R_aload_n (pc := 20) h 0 rfl rfl dX4_best_20 ?_
    refine R_getI (pc := 21) h flX4_121 lc_35 rfl dX4_best_21 ?_
    refine R_if_ne (pc := 24) (tgt := 30) h dX4_best_24 (by decide) (fun c4 => ?_) (fun c4 => ?_)
    · have hF := ifn c4 hF
      refine R_aload_n (pc := 30) h 0 rfl rfl dX4_best_30 ?_
      obtain ⟨r6, hc5, hF⟩ := bd hF
      refine R_callV (pc := 31) (st := []) h [] cvX4_196 (c2_all (ad := ad) (z := X.1) hc5) rfl rfl lc_35 (by decide) (by decide) (Nat.le_of_ble_eq_true rfl) dX4_best_31 (st1 := [.int r6]) rfl ?_
      refine R_aload_n (pc := 34) h 2 rfl rfl dX4_best_34 ?_
      refine R_getR (pc := 35) (q1 := 33) h flX4_27 lc_28 rfl dX4_best_35 ?_
      refine R_getI (pc := 38) h flX4_199 lc_33 rfl dX4_best_38 ?_
      refine R_iconst (pc := 41) (v := (-1)) h (by decide) dX4_best_41 ?_
      refine R_ixor (pc := 42) h dX4_best_42 ?_
      refine R_iand (pc := 43) h dX4_best_43 ?_
      obtain ⟨v7, hv7, hF⟩ := nm_e2 hF
      refine R_istore (pc := 44) (lv' := [(4, .int v7), (3, .ref (ad 35)), (2, .ref (ad q3)), (0, .ref (ad 28)), (1, .int x1)]) h hv7 (by decide) rfl dX4_best_44 ?_
      refine R_aload_n (pc := 46) h 1 rfl rfl dX4_best_46 ?_
      refine R_iload (pc := 47) h 0 rfl dX4_best_47 ?_
      obtain ⟨r9, hc8, hF⟩ := bd hF
      refine R_callV (pc := 49) (st := []) h [.int v7] cvX4_202 (c2_leastOfMost (ad := ad) (z := X.1) hc8) rfl rfl lc_35 (by decide) (by decide) (Nat.le_of_ble_eq_true rfl) dX4_best_49 (st1 := [.int r9]) rfl ?_
      refine R_istore (pc := 52) (lv' := [(5, .int r9), (4, .int v7), (3, .ref (ad 35)), (2, .ref (ad q3)), (0, .ref (ad 28)), (1, .int x1)]) h rfl (by decide) rfl dX4_best_52 ?_
      refine R_aload_n (pc := 54) h 4 rfl rfl dX4_best_54 ?_
      refine R_iload (pc := 55) h 0 rfl dX4_best_55 ?_
      obtain ⟨M10, hM10, hF⟩ := nm_e2 hF
      refine R_putI (pc := 57) h hM10 fpX4_39 lc_28 rfl dX4_best_57 ?_
      refine R_aload_n (pc := 60) h 2 rfl rfl dX4_best_60 ?_
      refine R_aload_n (pc := 61) h 3 rfl rfl dX4_best_61 ?_
      refine R_iload (pc := 62) h 0 rfl dX4_best_62 ?_
      obtain ⟨M12, hc11, hF⟩ := bd hF
      refine R_callV (pc := 64) (st := []) h [.ref (ad q3), .int r9] cvX4_205 (c2_orderInto (ad := ad) (z := X.1) hc11) rfl rfl lc_35 (by decide) (by decide) (Nat.le_of_ble_eq_true rfl) dX4_best_64 (st1 := []) rfl ?_
      refine R_aload_n (pc := 67) h 2 rfl rfl dX4_best_67 ?_
      refine R_iload (pc := 68) h 1 rfl dX4_best_68 ?_
      obtain ⟨r14, hc13, hF⟩ := bd hF
      refine R_callV (pc := 70) (st := []) h [.int v7] cvX4_209 (c2_mostOf (ad := ad) (z := X.1) hc13) rfl rfl lc_35 (by decide) (by decide) (Nat.le_of_ble_eq_true rfl) dX4_best_70 (st1 := [.int r14]) rfl ?_
      cases hF
      exact R_ireturn (pc := 73) h rfl rfl rfl dX4_best_73
    · have hF := itp c4 hF
      refine R_bipush (pc := 27) (v := (-4)) h (by decide) dX4_best_27 ?_
      cases hF
      exact R_ireturn (pc := 29) h rfl rfl rfl dX4_best_29
theorem c4_best {ad : Nat → Nat} {z : ZZ} {R : Mem × Int32} {fu : Nat} {x1 : Int32} {M : Mem} (hF : f4_best fu x1 M = some R) : Con layC ad z yX4_best cX4_best 6 (some .int) 4 M [.ref (ad 28), .int x1] (R.1) (some (.int R.2)) := con_of (own := RX4) (lv := [(0, .ref (ad 28)), (1, .int x1)]) (by decide +kernel) rfl (Nat.le_of_ble_eq_true rfl) rfl (fun X hz h => w4_best h hF)
def f4_at (x1 : Int32) (x2 : Int32) (M : Mem) : Option (Mem × Int32) :=
    (f4_rowAt x1).bind fun r2 =>
    oc r2 ((f4_refusePlace_N x2 M).bind fun ⟨M5, r6⟩ =>
    (some (M5, r6)))
    fun q3 => (f4_refusePlace q3 x2 M).bind fun ⟨M8, r9⟩ =>
    if r9 = 0 then ((gd (decide (q3 < 10))).bind fun _ =>
    (f0_cellAt M8 q3 x2).bind fun r13 =>
    nm (sI M8 28 6 r13) fun M14 =>
    (some (M14, (1 : Int32))))
    else ((some (M8, r9)))
set_option maxHeartbeats 4000000 in
set_option maxRecDepth 10000 in
theorem w4_at {ad : Nat → Nat} {X : XX} {R : Mem × Int32} (h : Cx layC ad X cX4_at RX4 5 4 (some .int) (R.1) (some (.int R.2))) {x1 : Int32} {x2 : Int32} {M : Mem} (hF : f4_at x1 x2 M = some R) : Wp layC ad X M 0 [(0, .ref (ad 28)), (1, .int x1), (2, .int x2)] [] := by
  unfold f4_at at hF
  refine R_aload_n (pc := 0) h 0 rfl rfl dX4_at_0 ?_
  refine R_iload_n (pc := 1) h 1 rfl rfl dX4_at_1 ?_
  obtain ⟨r2, hc1, hF⟩ := bd hF
  rcases r2 with _ | q3
  · have hF := oc_n hF
    refine R_callV (pc := 2) (st := []) h [.int x1] cvX4_51 (c4_rowAt (ad := ad) (z := X.1) (M := M) hc1) rfl rfl lc_28 (by decide) (by decide) (Nat.le_of_ble_eq_true rfl) dX4_at_2 (st1 := [.null]) rfl ?_
    refine R_astore_nN (pc := 5) (lv' := [(3, .null), (0, .ref (ad 28)), (1, .int x1), (2, .int x2)]) h rfl (by decide) rfl dX4_at_5 ?_
    refine R_aload_n (pc := 6) h 1 rfl rfl dX4_at_6 ?_
    refine R_aload_nN (pc := 7) h 0 rfl rfl dX4_at_7 ?_
    refine R_iload_n (pc := 8) h 3 rfl rfl dX4_at_8 ?_
    obtain ⟨⟨M5, r6⟩, hc4, hF⟩ := bd hF
    refine R_callV (pc := 9) (st := []) h [.null, .int x2] cvX4_59 (c4_refusePlace_N (ad := ad) (z := X.1) hc4) rfl rfl lc_28 (by decide) (by decide) (Nat.le_of_ble_eq_true rfl) dX4_at_9 (st1 := [.int r6]) rfl ?_
    refine R_istore (pc := 12) (lv' := [(4, .int r6), (3, .null), (0, .ref (ad 28)), (1, .int x1), (2, .int x2)]) h rfl (by decide) rfl dX4_at_12 ?_
    refine R_aload_nN (pc := 14) h 1 rfl rfl dX4_at_14 ?_
    refine R_ifnullN (pc := 15) (tgt := 23) h dX4_at_15 (by decide) ?_
    refine R_iload (pc := 23) h 0 rfl dX4_at_23 ?_
    cases hF
    exact R_ireturn (pc := 25) h rfl rfl rfl dX4_at_25
  · have hF := oc_s hF
    refine R_callV (pc := 2) (st := []) h [.int x1] cvX4_51 (c4_rowAt (ad := ad) (z := X.1) (M := M) hc1) rfl rfl lc_28 (by decide) (by decide) (Nat.le_of_ble_eq_true rfl) dX4_at_2 (st1 := [.ref (ad q3)]) rfl ?_
    refine R_astore_n (pc := 5) (lv' := [(3, .ref (ad q3)), (0, .ref (ad 28)), (1, .int x1), (2, .int x2)]) h rfl rfl (by decide) rfl dX4_at_5 ?_
    refine R_aload_n (pc := 6) h 1 rfl rfl dX4_at_6 ?_
    refine R_aload_n (pc := 7) h 0 rfl rfl dX4_at_7 ?_
    refine R_iload_n (pc := 8) h 3 rfl rfl dX4_at_8 ?_
    obtain ⟨⟨M8, r9⟩, hc7, hF⟩ := bd hF
    refine R_callV (pc := 9) (st := []) h [.ref (ad q3), .int x2] cvX4_59 (c4_refusePlace (ad := ad) (z := X.1) hc7) rfl rfl lc_28 (by decide) (by decide) (Nat.le_of_ble_eq_true rfl) dX4_at_9 (st1 := [.int r9]) rfl ?_
    refine R_istore (pc := 12) (lv' := [(4, .int r9), (3, .ref (ad q3)), (0, .ref (ad 28)), (1, .int x1), (2, .int x2)]) h rfl (by decide) rfl dX4_at_12 ?_
    refine R_aload_n (pc := 14) h 1 rfl rfl dX4_at_14 ?_
    refine R_ifnull (pc := 15) h dX4_at_15 ?_
    refine R_iload (pc := 18) h 0 rfl dX4_at_18 ?_
    refine R_if_eq (pc := 20) (tgt := 26) h dX4_at_20 (by decide) (fun c10 => ?_) (fun c10 => ?_)
    · have hF := itp c10 hF
      refine R_aload_n (pc := 26) h 2 rfl rfl dX4_at_26 ?_
      refine R_aload_n (pc := 27) h 1 rfl rfl dX4_at_27 ?_
      refine R_iload_n (pc := 28) h 4 rfl rfl dX4_at_28 ?_
      obtain ⟨_, hg11, hF⟩ := bd hF
      have hg11 := of_decide_eq_true (gd_s hg11)
      obtain ⟨r13, hc12, hF⟩ := bd hF
      refine R_callV (pc := 29) (st := [.ref (ad 28)]) h [.int x2] cvX4_63 (c0_cellAt (ad := ad) (z := X.1) hc12) rfl rfl (lyCells hg11) (by decide) (by decide) (Nat.le_of_ble_eq_true rfl) dX4_at_29 (st1 := [.int r13, .ref (ad 28)]) rfl ?_
      obtain ⟨M14, hM14, hF⟩ := nm_e2 hF
      refine R_putI (pc := 32) h hM14 fpX4_39 lc_28 rfl dX4_at_32 ?_
      refine R_iconst (pc := 35) (v := 1) h (by decide) dX4_at_35 ?_
      cases hF
      exact R_ireturn (pc := 36) h rfl rfl rfl dX4_at_36
    · have hF := ifn c10 hF
      refine R_iload (pc := 23) h 0 rfl dX4_at_23 ?_
      cases hF
      exact R_ireturn (pc := 25) h rfl rfl rfl dX4_at_25
theorem c4_at {ad : Nat → Nat} {z : ZZ} {R : Mem × Int32} {x1 : Int32} {x2 : Int32} {M : Mem} (hF : f4_at x1 x2 M = some R) : Con layC ad z yX4_at cX4_at 5 (some .int) 4 M [.ref (ad 28), .int x1, .int x2] (R.1) (some (.int R.2)) := con_of (own := RX4) (lv := [(0, .ref (ad 28)), (1, .int x1), (2, .int x2)]) (by decide +kernel) rfl (Nat.le_of_ble_eq_true rfl) rfl (fun X hz h => w4_at h hF)
def f4_on (fu : Nat) (x1 : Int32) (M : Mem) : Option (Mem × Int32) :=
    (f4_keptAt x1).bind fun r2 =>
    oc r2 ((some (M, (-1 : Int32))))
    fun q3 => (gd (decide (20 ≤ q3 ∧ q3 < 24))).bind fun _ =>
    if 0 ≤ (M.1 q3 0) then ((f1_takeOver fu 23 q3 M).bind fun M7 =>
    (f3_goBackTo fu (M7.1 q3 0) M7).bind fun M9 =>
    (some (M9, (M9.1 q3 0))))
    else ((f4_find (1 : Int32) M).bind fun ⟨M11, r12⟩ =>
    (some (M11, r12)))
set_option maxHeartbeats 4000000 in
set_option maxRecDepth 10000 in
theorem w4_on {ad : Nat → Nat} {X : XX} {R : Mem × Int32} {fu : Nat} (h : Cx layC ad X cX4_on RX4 3 6 (some .int) (R.1) (some (.int R.2))) {x1 : Int32} {M : Mem} (hF : f4_on fu x1 M = some R) : Wp layC ad X M 0 [(0, .ref (ad 28)), (1, .int x1)] [] := by
  unfold f4_on at hF
  refine R_aload_n (pc := 0) h 0 rfl rfl dX4_on_0 ?_
  refine R_iload_n (pc := 1) h 1 rfl rfl dX4_on_1 ?_
  obtain ⟨r2, hc1, hF⟩ := bd hF
  rcases r2 with _ | q3
  · have hF := oc_n hF
    refine R_callV (pc := 2) (st := []) h [.int x1] cvX4_176 (c4_keptAt (ad := ad) (z := X.1) (M := M) hc1) rfl rfl lc_28 (by decide) (by decide) (Nat.le_of_ble_eq_true rfl) dX4_on_2 (st1 := [.null]) rfl ?_
    refine R_astore_nN (pc := 5) (lv' := [(2, .null), (0, .ref (ad 28)), (1, .int x1)]) h rfl (by decide) rfl dX4_on_5 ?_
    refine R_aload_nN (pc := 6) h 0 rfl rfl dX4_on_6 ?_
    refine R_ifnonnullN (pc := 7) h dX4_on_7 ?_
    refine R_iconst (pc := 10) (v := (-1)) h (by decide) dX4_on_10 ?_
    cases hF
    exact R_ireturn (pc := 11) h rfl rfl rfl dX4_on_11
  · have hF := oc_s hF
    refine R_callV (pc := 2) (st := []) h [.int x1] cvX4_176 (c4_keptAt (ad := ad) (z := X.1) (M := M) hc1) rfl rfl lc_28 (by decide) (by decide) (Nat.le_of_ble_eq_true rfl) dX4_on_2 (st1 := [.ref (ad q3)]) rfl ?_
    refine R_astore_n (pc := 5) (lv' := [(2, .ref (ad q3)), (0, .ref (ad 28)), (1, .int x1)]) h rfl rfl (by decide) rfl dX4_on_5 ?_
    refine R_aload_n (pc := 6) h 0 rfl rfl dX4_on_6 ?_
    refine R_ifnonnull (pc := 7) (tgt := 12) h dX4_on_7 (by decide) ?_
    refine R_aload_n (pc := 12) h 0 rfl rfl dX4_on_12 ?_
    obtain ⟨_, hg4, hF⟩ := bd hF
    have hg4 := of_decide_eq_true (gd_s hg4)
    refine R_getI (pc := 13) h flX4_118 (lyDeeds hg4) rfl dX4_on_13 ?_
    refine R_if_ge (pc := 16) (tgt := 25) h dX4_on_16 (by decide) (fun c5 => ?_) (fun c5 => ?_)
    · have hF := itp c5 hF
      refine R_aload_n (pc := 25) h 1 rfl rfl dX4_on_25 ?_
      refine R_getR (pc := 26) (q1 := 33) h flX4_27 lc_28 rfl dX4_on_26 ?_
      refine R_getR (pc := 29) (q1 := 23) h flX4_172 lc_33 rfl dX4_on_29 ?_
      refine R_aload_n (pc := 32) h 0 rfl rfl dX4_on_32 ?_
      obtain ⟨M7, hc6, hF⟩ := bd hF
      refine R_callV (pc := 33) (st := []) h [.ref (ad q3)] cvX4_180 (c1_takeOver (ad := ad) (z := X.1) hc6) rfl rfl lc_23 (by decide) (by decide) (Nat.le_of_ble_eq_true rfl) dX4_on_33 (st1 := []) rfl ?_
      refine R_aload_n (pc := 36) h 1 rfl rfl dX4_on_36 ?_
      refine R_getR (pc := 37) (q1 := 33) h flX4_27 lc_28 rfl dX4_on_37 ?_
      refine R_aload_n (pc := 40) h 0 rfl rfl dX4_on_40 ?_
      refine R_getI (pc := 41) h flX4_118 (lyDeeds hg4) rfl dX4_on_41 ?_
      obtain ⟨M9, hc8, hF⟩ := bd hF
      refine R_callV (pc := 44) (st := []) h [.int (M7.1 q3 0)] cvX4_114 (c3_goBackTo (ad := ad) (z := X.1) hc8) rfl rfl lc_33 (by decide) (by decide) (Nat.le_of_ble_eq_true rfl) dX4_on_44 (st1 := []) rfl ?_
      refine R_aload_n (pc := 47) h 0 rfl rfl dX4_on_47 ?_
      refine R_getI (pc := 48) h flX4_118 (lyDeeds hg4) rfl dX4_on_48 ?_
      cases hF
      exact R_ireturn (pc := 51) h rfl rfl rfl dX4_on_51
    · have hF := ifn c5 hF
      refine R_aload_n (pc := 19) h 1 rfl rfl dX4_on_19 ?_
      refine R_iconst (pc := 20) (v := 1) h (by decide) dX4_on_20 ?_
      obtain ⟨⟨M11, r12⟩, hc10, hF⟩ := bd hF
      refine R_callV (pc := 21) (st := []) h [.int (1 : Int32)] cvX4_78 (c4_find (ad := ad) (z := X.1) hc10) rfl rfl lc_28 (by decide) (by decide) (Nat.le_of_ble_eq_true rfl) dX4_on_21 (st1 := [.int r12]) rfl ?_
      cases hF
      exact R_ireturn (pc := 24) h rfl rfl rfl dX4_on_24
theorem c4_on {ad : Nat → Nat} {z : ZZ} {R : Mem × Int32} {fu : Nat} {x1 : Int32} {M : Mem} (hF : f4_on fu x1 M = some R) : Con layC ad z yX4_on cX4_on 3 (some .int) 6 M [.ref (ad 28), .int x1] (R.1) (some (.int R.2)) := con_of (own := RX4) (lv := [(0, .ref (ad 28)), (1, .int x1)]) (by decide +kernel) rfl (Nat.le_of_ble_eq_true rfl) rfl (fun X hz h => w4_on h hF)
def f3_hasRoomFor (M : Mem) (x1 : Int32) : Option (Int32) :=
    if (40 : Int32) < ((M.1 23 0) + x1) then ((some (0 : Int32)))
    else ((some (1 : Int32)))
set_option maxHeartbeats 4000000 in
set_option maxRecDepth 10000 in
theorem w3_hasRoomFor {ad : Nat → Nat} {X : XX} {R : Int32} {M : Mem} (h : Cx layC ad X cX3_hasRoomFor RX3 2 1 (some .boolean) M (some (.int R))) {x1 : Int32} (hF : f3_hasRoomFor M x1 = some R) : Wp layC ad X M 0 [(0, .ref (ad 33)), (1, .int x1)] [] := by
  unfold f3_hasRoomFor at hF
  refine R_aload_n (pc := 0) h 0 rfl rfl dX3_hasRoomFor_0 ?_
  refine R_getR (pc := 1) (q1 := 23) h flX3_21 lc_33 rfl dX3_hasRoomFor_1 ?_
  refine R_getI (pc := 4) h flX3_39 lc_23 rfl dX3_hasRoomFor_4 ?_
  refine R_iload_n (pc := 7) h 1 rfl rfl dX3_hasRoomFor_7 ?_
  refine R_iadd (pc := 8) h dX3_hasRoomFor_8 ?_
  refine R_bipush (pc := 9) (v := 40) h (by decide) dX3_hasRoomFor_9 ?_
  refine R_icmp_gt (pc := 11) (tgt := 18) h dX3_hasRoomFor_11 (by decide) (fun c1 => ?_) (fun c1 => ?_)
  · have hF := itp c1 hF
    refine R_iconst (pc := 18) (v := 0) h (by decide) dX3_hasRoomFor_18 ?_
    cases hF
    exact R_zreturn (pc := 19) h rfl zr0 rfl rfl dX3_hasRoomFor_19
  · have hF := ifn c1 hF
    refine R_iconst (pc := 14) (v := 1) h (by decide) dX3_hasRoomFor_14 ?_
    refine R_goto (pc := 15) (tgt := 19) h dX3_hasRoomFor_15 (by decide) ?_
    cases hF
    exact R_zreturn (pc := 19) h rfl zr1 rfl rfl dX3_hasRoomFor_19
theorem c3_hasRoomFor {ad : Nat → Nat} {z : ZZ} {R : Int32} {M : Mem} {x1 : Int32} (hF : f3_hasRoomFor M x1 = some R) : Con layC ad z yX3_hasRoomFor cX3_hasRoomFor 2 (some .boolean) 1 M [.ref (ad 33), .int x1] (M) (some (.int R)) := con_of (own := RX3) (lv := [(0, .ref (ad 33)), (1, .int x1)]) (by decide +kernel) rfl (Nat.le_of_ble_eq_true rfl) rfl (fun X hz h => w3_hasRoomFor h hF)
def f3_enact (fu : Nat) (x1 : Int32) (M : Mem) : Option (Mem) :=
    if (M.1 23 0) < 0 then ((some M))
    else (if (40 : Int32) ≤ (M.1 23 0) then ((some M))
    else ((wr M 27 40 (M.1 23 0) x1).bind fun M3 =>
    nm (sI M3 23 0 ((M3.1 23 0) + (1 : Int32))) fun M4 =>
    (f3_change fu x1 M4).bind fun M6 =>
    (some M6)))
set_option maxHeartbeats 4000000 in
set_option maxRecDepth 10000 in
theorem w3_enact {ad : Nat → Nat} {X : XX} {R : Mem} {fu : Nat} (h : Cx layC ad X cX3_enact RX3 2 5 none (R) none) {x1 : Int32} {M : Mem} (hF : f3_enact fu x1 M = some R) : Wp layC ad X M 0 [(0, .ref (ad 33)), (1, .int x1)] [] := by
  unfold f3_enact at hF
  refine R_aload_n (pc := 0) h 0 rfl rfl dX3_enact_0 ?_
  refine R_getR (pc := 1) (q1 := 23) h flX3_21 lc_33 rfl dX3_enact_1 ?_
  refine R_getI (pc := 4) h flX3_39 lc_23 rfl dX3_enact_4 ?_
  refine R_if_lt (pc := 7) (tgt := 56) h dX3_enact_7 (by decide) (fun c1 => ?_) (fun c1 => ?_)
  · have hF := itp c1 hF
    cases hF
    exact R_return (pc := 56) h rfl rfl rfl dX3_enact_56
  · have hF := ifn c1 hF
    refine R_aload_n (pc := 10) h 0 rfl rfl dX3_enact_10 ?_
    refine R_getR (pc := 11) (q1 := 23) h flX3_21 lc_33 rfl dX3_enact_11 ?_
    refine R_getI (pc := 14) h flX3_39 lc_23 rfl dX3_enact_14 ?_
    refine R_bipush (pc := 17) (v := 40) h (by decide) dX3_enact_17 ?_
    refine R_icmp_ge (pc := 19) (tgt := 56) h dX3_enact_19 (by decide) (fun c2 => ?_) (fun c2 => ?_)
    · have hF := itp c2 hF
      cases hF
      exact R_return (pc := 56) h rfl rfl rfl dX3_enact_56
    · have hF := ifn c2 hF
      refine R_aload_n (pc := 22) h 0 rfl rfl dX3_enact_22 ?_
      refine R_getR (pc := 23) (q1 := 23) h flX3_21 lc_33 rfl dX3_enact_23 ?_
      refine R_getR (pc := 26) (q1 := 27) h flX3_52 lc_23 rfl dX3_enact_26 ?_
      refine R_aload_n (pc := 29) h 0 rfl rfl dX3_enact_29 ?_
      refine R_getR (pc := 30) (q1 := 23) h flX3_21 lc_33 rfl dX3_enact_30 ?_
      refine R_getI (pc := 33) h flX3_39 lc_23 rfl dX3_enact_33 ?_
      refine R_iload_n (pc := 36) h 1 rfl rfl dX3_enact_36 ?_
      obtain ⟨M3, hM3, hF⟩ := bd hF
      refine R_iast (pc := 37) h hM3 lc_27 dX3_enact_37 ?_
      refine R_aload_n (pc := 38) h 0 rfl rfl dX3_enact_38 ?_
      refine R_getR (pc := 39) (q1 := 23) h flX3_21 lc_33 rfl dX3_enact_39 ?_
      refine R_dup (pc := 42) h rfl dX3_enact_42 ?_
      refine R_getI (pc := 43) h flX3_39 lc_23 rfl dX3_enact_43 ?_
      refine R_iconst (pc := 46) (v := 1) h (by decide) dX3_enact_46 ?_
      refine R_iadd (pc := 47) h dX3_enact_47 ?_
      obtain ⟨M4, hM4, hF⟩ := nm_e2 hF
      refine R_putI (pc := 48) h hM4 fpX3_39 lc_23 rfl dX3_enact_48 ?_
      refine R_aload_n (pc := 51) h 0 rfl rfl dX3_enact_51 ?_
      refine R_iload_n (pc := 52) h 1 rfl rfl dX3_enact_52 ?_
      obtain ⟨M6, hc5, hF⟩ := bd hF
      refine R_callV (pc := 53) (st := []) h [.int x1] cvX3_55 (c3_change (ad := ad) (z := X.1) hc5) rfl rfl lc_33 (by decide) (by decide) (Nat.le_of_ble_eq_true rfl) dX3_enact_53 (st1 := []) rfl ?_
      cases hF
      exact R_return (pc := 56) h rfl rfl rfl dX3_enact_56
theorem c3_enact {ad : Nat → Nat} {z : ZZ} {R : Mem} {fu : Nat} {x1 : Int32} {M : Mem} (hF : f3_enact fu x1 M = some R) : Con layC ad z yX3_enact cX3_enact 2 none 5 M [.ref (ad 33), .int x1] (R) none := con_of (own := RX3) (lv := [(0, .ref (ad 33)), (1, .int x1)]) (by decide +kernel) rfl (Nat.le_of_ble_eq_true rfl) rfl (fun X hz h => w3_enact h hF)
def f4_drop (fu : Nat) (x1 : Int32) (M : Mem) : Option (Mem × Int32) :=
    (f2_has M x1).bind fun r2 =>
    if r2 = 0 then ((some (M, (-1 : Int32))))
    else (if (((M.1 33 3) >>> (x1 &&& 31)) &&& (1 : Int32)) = 0 then ((some (M, (-4 : Int32))))
    else ((f3_hasRoomFor M (1 : Int32)).bind fun r6 =>
    if r6 = 0 then ((some (M, (-2 : Int32))))
    else ((f3_enact fu ((16 : Int32) + x1) M).bind fun M9 =>
    (f6_bitCount (M9.1 33 3)).bind fun r11 =>
    (some (M9, r11)))))
set_option maxHeartbeats 4000000 in
set_option maxRecDepth 10000 in
theorem w4_drop {ad : Nat → Nat} {X : XX} {R : Mem × Int32} {fu : Nat} (h : Cx layC ad X cX4_drop RX4 2 6 (some .int) (R.1) (some (.int R.2))) {x1 : Int32} {M : Mem} (hF : f4_drop fu x1 M = some R) : Wp layC ad X M 0 [(0, .ref (ad 28)), (1, .int x1)] [] := by
  unfold f4_drop at hF
  refine R_aload_n (pc := 0) h 0 rfl rfl dX4_drop_0 ?_
  refine R_getR (pc := 1) (q1 := 33) h flX4_27 lc_28 rfl dX4_drop_1 ?_
  refine R_getR (pc := 4) (q1 := 35) h flX4_104 lc_33 rfl dX4_drop_4 ?_
  refine R_iload_n (pc := 7) h 1 rfl rfl dX4_drop_7 ?_
  obtain ⟨r2, hc1, hF⟩ := bd hF
  refine R_callV (pc := 8) (st := []) h [.int x1] cvX4_124 (c2_has (ad := ad) (z := X.1) hc1) rfl rfl lc_35 (by decide) (by decide) (Nat.le_of_ble_eq_true rfl) dX4_drop_8 (st1 := [.int r2]) rfl ?_
  refine R_if_ne (pc := 11) (tgt := 16) h dX4_drop_11 (by decide) (fun c3 => ?_) (fun c3 => ?_)
  · have hF := ifn c3 hF
    refine R_aload_n (pc := 16) h 0 rfl rfl dX4_drop_16 ?_
    refine R_getR (pc := 17) (q1 := 33) h flX4_27 lc_28 rfl dX4_drop_17 ?_
    refine R_getI (pc := 20) h flX4_164 lc_33 rfl dX4_drop_20 ?_
    refine R_iload_n (pc := 23) h 1 rfl rfl dX4_drop_23 ?_
    refine R_ishr (pc := 24) h dX4_drop_24 ?_
    refine R_iconst (pc := 25) (v := 1) h (by decide) dX4_drop_25 ?_
    refine R_iand (pc := 26) h dX4_drop_26 ?_
    refine R_if_ne (pc := 27) (tgt := 33) h dX4_drop_27 (by decide) (fun c4 => ?_) (fun c4 => ?_)
    · have hF := ifn c4 hF
      refine R_aload_n (pc := 33) h 0 rfl rfl dX4_drop_33 ?_
      refine R_getR (pc := 34) (q1 := 33) h flX4_27 lc_28 rfl dX4_drop_34 ?_
      refine R_iconst (pc := 37) (v := 1) h (by decide) dX4_drop_37 ?_
      obtain ⟨r6, hc5, hF⟩ := bd hF
      refine R_callV (pc := 38) (st := []) h [.int (1 : Int32)] cvX4_154 (c3_hasRoomFor (ad := ad) (z := X.1) hc5) rfl rfl lc_33 (by decide) (by decide) (Nat.le_of_ble_eq_true rfl) dX4_drop_38 (st1 := [.int r6]) rfl ?_
      refine R_if_ne (pc := 41) (tgt := 47) h dX4_drop_41 (by decide) (fun c7 => ?_) (fun c7 => ?_)
      · have hF := ifn c7 hF
        refine R_aload_n (pc := 47) h 0 rfl rfl dX4_drop_47 ?_
        refine R_getR (pc := 48) (q1 := 33) h flX4_27 lc_28 rfl dX4_drop_48 ?_
        refine R_bipush (pc := 51) (v := 16) h (by decide) dX4_drop_51 ?_
        refine R_iload_n (pc := 53) h 1 rfl rfl dX4_drop_53 ?_
        refine R_iadd (pc := 54) h dX4_drop_54 ?_
        obtain ⟨M9, hc8, hF⟩ := bd hF
        refine R_callV (pc := 55) (st := []) h [.int ((16 : Int32) + x1)] cvX4_157 (c3_enact (ad := ad) (z := X.1) hc8) rfl rfl lc_33 (by decide) (by decide) (Nat.le_of_ble_eq_true rfl) dX4_drop_55 (st1 := []) rfl ?_
        refine R_aload_n (pc := 58) h 0 rfl rfl dX4_drop_58 ?_
        refine R_getR (pc := 59) (q1 := 33) h flX4_27 lc_28 rfl dX4_drop_59 ?_
        refine R_getI (pc := 62) h flX4_164 lc_33 rfl dX4_drop_62 ?_
        obtain ⟨r11, hc10, hF⟩ := bd hF
        refine R_callS (pc := 65) (st := []) h [.int (M9.1 33 3)] csX4_167 (c6_bitCount (ad := ad) (z := X.1) (M := M9) hc10) rfl rfl (by decide) (by decide) (Nat.le_of_ble_eq_true rfl) dX4_drop_65 (st1 := [.int r11]) rfl ?_
        cases hF
        exact R_ireturn (pc := 68) h rfl rfl rfl dX4_drop_68
      · have hF := itp c7 hF
        refine R_bipush (pc := 44) (v := (-2)) h (by decide) dX4_drop_44 ?_
        cases hF
        exact R_ireturn (pc := 46) h rfl rfl rfl dX4_drop_46
    · have hF := itp c4 hF
      refine R_bipush (pc := 30) (v := (-4)) h (by decide) dX4_drop_30 ?_
      cases hF
      exact R_ireturn (pc := 32) h rfl rfl rfl dX4_drop_32
  · have hF := itp c3 hF
    refine R_iconst (pc := 14) (v := (-1)) h (by decide) dX4_drop_14 ?_
    cases hF
    exact R_ireturn (pc := 15) h rfl rfl rfl dX4_drop_15
theorem c4_drop {ad : Nat → Nat} {z : ZZ} {R : Mem × Int32} {fu : Nat} {x1 : Int32} {M : Mem} (hF : f4_drop fu x1 M = some R) : Con layC ad z yX4_drop cX4_drop 2 (some .int) 6 M [.ref (ad 28), .int x1] (R.1) (some (.int R.2)) := con_of (own := RX4) (lv := [(0, .ref (ad 28)), (1, .int x1)]) (by decide +kernel) rfl (Nat.le_of_ble_eq_true rfl) rfl (fun X hz h => w4_drop h hF)
def f4_pick (fu : Nat) (x1 : Int32) (M : Mem) : Option (Mem × Int32) :=
    (f2_has M x1).bind fun r2 =>
    if r2 = 0 then ((some (M, (-1 : Int32))))
    else ((f3_lyingHere M fu).bind fun r5 =>
    if ((r5 >>> (x1 &&& 31)) &&& (1 : Int32)) = 0 then ((some (M, (-4 : Int32))))
    else ((f3_hasRoomFor M (1 : Int32)).bind fun r8 =>
    if r8 = 0 then ((some (M, (-2 : Int32))))
    else ((f3_enact fu ((8 : Int32) + x1) M).bind fun M11 =>
    (f6_bitCount (M11.1 33 3)).bind fun r13 =>
    (some (M11, r13)))))
set_option maxHeartbeats 4000000 in
set_option maxRecDepth 10000 in
theorem w4_pick {ad : Nat → Nat} {X : XX} {R : Mem × Int32} {fu : Nat} (h : Cx layC ad X cX4_pick RX4 2 6 (some .int) (R.1) (some (.int R.2))) {x1 : Int32} {M : Mem} (hF : f4_pick fu x1 M = some R) : Wp layC ad X M 0 [(0, .ref (ad 28)), (1, .int x1)] [] := by
  unfold f4_pick at hF
  refine R_aload_n (pc := 0) h 0 rfl rfl dX4_pick_0 ?_
  refine R_getR (pc := 1) (q1 := 33) h flX4_27 lc_28 rfl dX4_pick_1 ?_
  refine R_getR (pc := 4) (q1 := 35) h flX4_104 lc_33 rfl dX4_pick_4 ?_
  refine R_iload_n (pc := 7) h 1 rfl rfl dX4_pick_7 ?_
  obtain ⟨r2, hc1, hF⟩ := bd hF
  refine R_callV (pc := 8) (st := []) h [.int x1] cvX4_124 (c2_has (ad := ad) (z := X.1) hc1) rfl rfl lc_35 (by decide) (by decide) (Nat.le_of_ble_eq_true rfl) dX4_pick_8 (st1 := [.int r2]) rfl ?_
  refine R_if_ne (pc := 11) (tgt := 16) h dX4_pick_11 (by decide) (fun c3 => ?_) (fun c3 => ?_)
  · have hF := ifn c3 hF
    refine R_aload_n (pc := 16) h 0 rfl rfl dX4_pick_16 ?_
    refine R_getR (pc := 17) (q1 := 33) h flX4_27 lc_28 rfl dX4_pick_17 ?_
    obtain ⟨r5, hc4, hF⟩ := bd hF
    refine R_callV (pc := 20) (st := []) h [] cvX4_160 (c3_lyingHere (ad := ad) (z := X.1) hc4) rfl rfl lc_33 (by decide) (by decide) (Nat.le_of_ble_eq_true rfl) dX4_pick_20 (st1 := [.int r5]) rfl ?_
    refine R_iload_n (pc := 23) h 1 rfl rfl dX4_pick_23 ?_
    refine R_ishr (pc := 24) h dX4_pick_24 ?_
    refine R_iconst (pc := 25) (v := 1) h (by decide) dX4_pick_25 ?_
    refine R_iand (pc := 26) h dX4_pick_26 ?_
    refine R_if_ne (pc := 27) (tgt := 33) h dX4_pick_27 (by decide) (fun c6 => ?_) (fun c6 => ?_)
    · have hF := ifn c6 hF
      refine R_aload_n (pc := 33) h 0 rfl rfl dX4_pick_33 ?_
      refine R_getR (pc := 34) (q1 := 33) h flX4_27 lc_28 rfl dX4_pick_34 ?_
      refine R_iconst (pc := 37) (v := 1) h (by decide) dX4_pick_37 ?_
      obtain ⟨r8, hc7, hF⟩ := bd hF
      refine R_callV (pc := 38) (st := []) h [.int (1 : Int32)] cvX4_154 (c3_hasRoomFor (ad := ad) (z := X.1) hc7) rfl rfl lc_33 (by decide) (by decide) (Nat.le_of_ble_eq_true rfl) dX4_pick_38 (st1 := [.int r8]) rfl ?_
      refine R_if_ne (pc := 41) (tgt := 47) h dX4_pick_41 (by decide) (fun c9 => ?_) (fun c9 => ?_)
      · have hF := ifn c9 hF
        refine R_aload_n (pc := 47) h 0 rfl rfl dX4_pick_47 ?_
        refine R_getR (pc := 48) (q1 := 33) h flX4_27 lc_28 rfl dX4_pick_48 ?_
        refine R_bipush (pc := 51) (v := 8) h (by decide) dX4_pick_51 ?_
        refine R_iload_n (pc := 53) h 1 rfl rfl dX4_pick_53 ?_
        refine R_iadd (pc := 54) h dX4_pick_54 ?_
        obtain ⟨M11, hc10, hF⟩ := bd hF
        refine R_callV (pc := 55) (st := []) h [.int ((8 : Int32) + x1)] cvX4_157 (c3_enact (ad := ad) (z := X.1) hc10) rfl rfl lc_33 (by decide) (by decide) (Nat.le_of_ble_eq_true rfl) dX4_pick_55 (st1 := []) rfl ?_
        refine R_aload_n (pc := 58) h 0 rfl rfl dX4_pick_58 ?_
        refine R_getR (pc := 59) (q1 := 33) h flX4_27 lc_28 rfl dX4_pick_59 ?_
        refine R_getI (pc := 62) h flX4_164 lc_33 rfl dX4_pick_62 ?_
        obtain ⟨r13, hc12, hF⟩ := bd hF
        refine R_callS (pc := 65) (st := []) h [.int (M11.1 33 3)] csX4_167 (c6_bitCount (ad := ad) (z := X.1) (M := M11) hc12) rfl rfl (by decide) (by decide) (Nat.le_of_ble_eq_true rfl) dX4_pick_65 (st1 := [.int r13]) rfl ?_
        cases hF
        exact R_ireturn (pc := 68) h rfl rfl rfl dX4_pick_68
      · have hF := itp c9 hF
        refine R_bipush (pc := 44) (v := (-2)) h (by decide) dX4_pick_44 ?_
        cases hF
        exact R_ireturn (pc := 46) h rfl rfl rfl dX4_pick_46
    · have hF := itp c6 hF
      refine R_bipush (pc := 30) (v := (-4)) h (by decide) dX4_pick_30 ?_
      cases hF
      exact R_ireturn (pc := 32) h rfl rfl rfl dX4_pick_32
  · have hF := itp c3 hF
    refine R_iconst (pc := 14) (v := (-1)) h (by decide) dX4_pick_14 ?_
    cases hF
    exact R_ireturn (pc := 15) h rfl rfl rfl dX4_pick_15
theorem c4_pick {ad : Nat → Nat} {z : ZZ} {R : Mem × Int32} {fu : Nat} {x1 : Int32} {M : Mem} (hF : f4_pick fu x1 M = some R) : Con layC ad z yX4_pick cX4_pick 2 (some .int) 6 M [.ref (ad 28), .int x1] (R.1) (some (.int R.2)) := con_of (own := RX4) (lv := [(0, .ref (ad 28)), (1, .int x1)]) (by decide +kernel) rfl (Nat.le_of_ble_eq_true rfl) rfl (fun X hz h => w4_pick h hF)
def f4_sweep (fu : Nat) (M : Mem) : Option (Mem × Int32) :=
    if (M.1 35 0) = 0 then ((some (M, (-4 : Int32))))
    else ((f3_hasRoomFor M (1 : Int32)).bind fun r3 =>
    if r3 = 0 then ((some (M, (-2 : Int32))))
    else ((f3_lyingHere M fu).bind fun r6 =>
    (f6_bitCount r6).bind fun r8 =>
    (f3_enact fu (2 : Int32) M).bind fun M10 =>
    (some (M10, r8))))
set_option maxHeartbeats 4000000 in
set_option maxRecDepth 10000 in
theorem w4_sweep {ad : Nat → Nat} {X : XX} {R : Mem × Int32} {fu : Nat} (h : Cx layC ad X cX4_sweep RX4 2 6 (some .int) (R.1) (some (.int R.2))) {M : Mem} (hF : f4_sweep fu M = some R) : Wp layC ad X M 0 [(0, .ref (ad 28))] [] := by
  unfold f4_sweep at hF
  refine R_aload_n (pc := 0) h 0 rfl rfl dX4_sweep_0 ?_
  refine R_getR (pc := 1) (q1 := 33) h flX4_27 lc_28 rfl dX4_sweep_1 ?_
  refine R_getR (pc := 4) (q1 := 35) h flX4_104 lc_33 rfl dX4_sweep_4 ?_
  refine R_getI (pc := 7) h flX4_121 lc_35 rfl dX4_sweep_7 ?_
  refine R_if_ne (pc := 10) (tgt := 16) h dX4_sweep_10 (by decide) (fun c1 => ?_) (fun c1 => ?_)
  · have hF := ifn c1 hF
    refine R_aload_n (pc := 16) h 0 rfl rfl dX4_sweep_16 ?_
    refine R_getR (pc := 17) (q1 := 33) h flX4_27 lc_28 rfl dX4_sweep_17 ?_
    refine R_iconst (pc := 20) (v := 1) h (by decide) dX4_sweep_20 ?_
    obtain ⟨r3, hc2, hF⟩ := bd hF
    refine R_callV (pc := 21) (st := []) h [.int (1 : Int32)] cvX4_154 (c3_hasRoomFor (ad := ad) (z := X.1) hc2) rfl rfl lc_33 (by decide) (by decide) (Nat.le_of_ble_eq_true rfl) dX4_sweep_21 (st1 := [.int r3]) rfl ?_
    refine R_if_ne (pc := 24) (tgt := 30) h dX4_sweep_24 (by decide) (fun c4 => ?_) (fun c4 => ?_)
    · have hF := ifn c4 hF
      refine R_aload_n (pc := 30) h 0 rfl rfl dX4_sweep_30 ?_
      refine R_getR (pc := 31) (q1 := 33) h flX4_27 lc_28 rfl dX4_sweep_31 ?_
      obtain ⟨r6, hc5, hF⟩ := bd hF
      refine R_callV (pc := 34) (st := []) h [] cvX4_160 (c3_lyingHere (ad := ad) (z := X.1) hc5) rfl rfl lc_33 (by decide) (by decide) (Nat.le_of_ble_eq_true rfl) dX4_sweep_34 (st1 := [.int r6]) rfl ?_
      obtain ⟨r8, hc7, hF⟩ := bd hF
      refine R_callS (pc := 37) (st := []) h [.int r6] csX4_167 (c6_bitCount (ad := ad) (z := X.1) (M := M) hc7) rfl rfl (by decide) (by decide) (Nat.le_of_ble_eq_true rfl) dX4_sweep_37 (st1 := [.int r8]) rfl ?_
      refine R_istore_n (pc := 40) (lv' := [(1, .int r8), (0, .ref (ad 28))]) h rfl rfl (by decide) rfl dX4_sweep_40 ?_
      refine R_aload_n (pc := 41) h 1 rfl rfl dX4_sweep_41 ?_
      refine R_getR (pc := 42) (q1 := 33) h flX4_27 lc_28 rfl dX4_sweep_42 ?_
      refine R_iconst (pc := 45) (v := 2) h (by decide) dX4_sweep_45 ?_
      obtain ⟨M10, hc9, hF⟩ := bd hF
      refine R_callV (pc := 46) (st := []) h [.int (2 : Int32)] cvX4_157 (c3_enact (ad := ad) (z := X.1) hc9) rfl rfl lc_33 (by decide) (by decide) (Nat.le_of_ble_eq_true rfl) dX4_sweep_46 (st1 := []) rfl ?_
      refine R_iload_n (pc := 49) h 0 rfl rfl dX4_sweep_49 ?_
      cases hF
      exact R_ireturn (pc := 50) h rfl rfl rfl dX4_sweep_50
    · have hF := itp c4 hF
      refine R_bipush (pc := 27) (v := (-2)) h (by decide) dX4_sweep_27 ?_
      cases hF
      exact R_ireturn (pc := 29) h rfl rfl rfl dX4_sweep_29
  · have hF := itp c1 hF
    refine R_bipush (pc := 13) (v := (-4)) h (by decide) dX4_sweep_13 ?_
    cases hF
    exact R_ireturn (pc := 15) h rfl rfl rfl dX4_sweep_15
theorem c4_sweep {ad : Nat → Nat} {z : ZZ} {R : Mem × Int32} {fu : Nat} {M : Mem} (hF : f4_sweep fu M = some R) : Con layC ad z yX4_sweep cX4_sweep 2 (some .int) 6 M [.ref (ad 28)] (R.1) (some (.int R.2)) := con_of (own := RX4) (lv := [(0, .ref (ad 28))]) (by decide +kernel) rfl (Nat.le_of_ble_eq_true rfl) rfl (fun X hz h => w4_sweep h hF)
def f4_step_76 (fu : Nat) (s0 : Int32) (M : Mem) : Option (Mem × Int32) :=
    (f3_enact fu s0 M).bind fun M2 =>
    (some (M2, (M2.1 33 2)))
set_option maxHeartbeats 4000000 in
set_option maxRecDepth 10000 in
theorem w4_step_76 {ad : Nat → Nat} {X : XX} {R : Mem × Int32} {fu : Nat}  (h : Cx layC ad X cX4_step RX4 3 6 (some .int) (R.1) (some (.int R.2)))  {s0 : Int32} {M : Mem} (hF : f4_step_76 fu s0 M = some R) : Wp layC ad X M 76 [(0, .ref (ad 28))] [.int s0, .ref (ad 33)] := by
  unfold f4_step_76 at hF
  obtain ⟨M2, hc1, hF⟩ := bd hF
  refine R_callV (pc := 76) (st := []) h [.int s0] cvX4_157 (c3_enact (ad := ad) (z := X.1) hc1) rfl rfl lc_33 (by decide) (by decide) (Nat.le_of_ble_eq_true rfl) dX4_step_76 (st1 := []) rfl ?_
  refine R_aload_n (pc := 79) h 0 rfl rfl dX4_step_79 ?_
  refine R_getR (pc := 80) (q1 := 33) h flX4_27 lc_28 rfl dX4_step_80 ?_
  refine R_getI (pc := 83) h flX4_151 lc_33 rfl dX4_step_83 ?_
  cases hF
  exact R_ireturn (pc := 86) h rfl rfl rfl dX4_step_86
def f4_step_12 (fu : Nat) (x1 : Int32) (M : Mem) : Option (Mem × Int32) :=
    nm ((M.1 33 2) + x1) fun v1 =>
    if (M.1 35 0) = 0 then ((some (M, (-4 : Int32))))
    else (if v1 < 0 then ((some (M, (-4 : Int32))))
    else (if v1 ≤ (9 : Int32) then ((f3_hasRoomFor M (1 : Int32)).bind fun r6 =>
    if r6 = 0 then ((some (M, (-2 : Int32))))
    else (if x1 = (1 : Int32) then ((f4_step_76 fu (0 : Int32) M))
    else ((f4_step_76 fu (1 : Int32) M))))
    else ((some (M, (-4 : Int32))))))
set_option maxHeartbeats 4000000 in
set_option maxRecDepth 10000 in
theorem w4_step_12 {ad : Nat → Nat} {X : XX} {R : Mem × Int32} {fu : Nat}  (h : Cx layC ad X cX4_step RX4 3 6 (some .int) (R.1) (some (.int R.2)))  {x1 : Int32} {M : Mem} (hF : f4_step_12 fu x1 M = some R) : Wp layC ad X M 12 [(0, .ref (ad 28)), (1, .int x1)] [] := by
  unfold f4_step_12 at hF
  refine R_aload_n (pc := 12) h 0 rfl rfl dX4_step_12 ?_
  refine R_getR (pc := 13) (q1 := 33) h flX4_27 lc_28 rfl dX4_step_13 ?_
  refine R_getI (pc := 16) h flX4_151 lc_33 rfl dX4_step_16 ?_
  refine R_iload_n (pc := 19) h 1 rfl rfl dX4_step_19 ?_
  refine R_iadd (pc := 20) h dX4_step_20 ?_
  obtain ⟨v1, hv1, hF⟩ := nm_e2 hF
  refine R_istore_n (pc := 21) (lv' := [(2, .int v1), (0, .ref (ad 28)), (1, .int x1)]) h hv1 rfl (by decide) rfl dX4_step_21 ?_
  refine R_aload_n (pc := 22) h 1 rfl rfl dX4_step_22 ?_
  refine R_getR (pc := 23) (q1 := 33) h flX4_27 lc_28 rfl dX4_step_23 ?_
  refine R_getR (pc := 26) (q1 := 35) h flX4_104 lc_33 rfl dX4_step_26 ?_
  refine R_getI (pc := 29) h flX4_121 lc_35 rfl dX4_step_29 ?_
  refine R_if_eq (pc := 32) (tgt := 45) h dX4_step_32 (by decide) (fun c2 => ?_) (fun c2 => ?_)
  · have hF := itp c2 hF
    refine R_bipush (pc := 45) (v := (-4)) h (by decide) dX4_step_45 ?_
    cases hF
    exact R_ireturn (pc := 47) h rfl rfl rfl dX4_step_47
  · have hF := ifn c2 hF
    refine R_iload_n (pc := 35) h 0 rfl rfl dX4_step_35 ?_
    refine R_if_lt (pc := 36) (tgt := 45) h dX4_step_36 (by decide) (fun c3 => ?_) (fun c3 => ?_)
    · have hF := itp c3 hF
      refine R_bipush (pc := 45) (v := (-4)) h (by decide) dX4_step_45 ?_
      cases hF
      exact R_ireturn (pc := 47) h rfl rfl rfl dX4_step_47
    · have hF := ifn c3 hF
      refine R_iload_n (pc := 39) h 0 rfl rfl dX4_step_39 ?_
      refine R_bipush (pc := 40) (v := 9) h (by decide) dX4_step_40 ?_
      refine R_icmp_le (pc := 42) (tgt := 48) h dX4_step_42 (by decide) (fun c4 => ?_) (fun c4 => ?_)
      · have hF := itp c4 hF
        refine R_aload_n (pc := 48) h 1 rfl rfl dX4_step_48 ?_
        refine R_getR (pc := 49) (q1 := 33) h flX4_27 lc_28 rfl dX4_step_49 ?_
        refine R_iconst (pc := 52) (v := 1) h (by decide) dX4_step_52 ?_
        obtain ⟨r6, hc5, hF⟩ := bd hF
        refine R_callV (pc := 53) (st := []) h [.int (1 : Int32)] cvX4_154 (c3_hasRoomFor (ad := ad) (z := X.1) hc5) rfl rfl lc_33 (by decide) (by decide) (Nat.le_of_ble_eq_true rfl) dX4_step_53 (st1 := [.int r6]) rfl ?_
        refine R_if_ne (pc := 56) (tgt := 62) h dX4_step_56 (by decide) (fun c7 => ?_) (fun c7 => ?_)
        · have hF := ifn c7 hF
          refine R_aload_n (pc := 62) h 1 rfl rfl dX4_step_62 ?_
          refine R_getR (pc := 63) (q1 := 33) h flX4_27 lc_28 rfl dX4_step_63 ?_
          refine R_iload_n (pc := 66) h 2 rfl rfl dX4_step_66 ?_
          refine R_iconst (pc := 67) (v := 1) h (by decide) dX4_step_67 ?_
          refine R_icmp_ne (pc := 68) (tgt := 75) h dX4_step_68 (by decide) (fun c8 => ?_) (fun c8 => ?_)
          · have hF := ifn c8 hF
            refine R_iconst (pc := 75) (v := 1) h (by decide) dX4_step_75 ?_
            exact Wp_sub (nX := 0) (lv' := [(0, .ref (ad 28))]) [1] rfl (w4_step_76 h  (hF := hF))
          · have hF := itp c8 hF
            refine R_iconst (pc := 71) (v := 0) h (by decide) dX4_step_71 ?_
            refine R_goto (pc := 72) (tgt := 76) h dX4_step_72 (by decide) ?_
            exact Wp_sub (nX := 0) (lv' := [(0, .ref (ad 28))]) [1] rfl (w4_step_76 h  (hF := hF))
        · have hF := itp c7 hF
          refine R_bipush (pc := 59) (v := (-2)) h (by decide) dX4_step_59 ?_
          cases hF
          exact R_ireturn (pc := 61) h rfl rfl rfl dX4_step_61
      · have hF := ifn c4 hF
        refine R_bipush (pc := 45) (v := (-4)) h (by decide) dX4_step_45 ?_
        cases hF
        exact R_ireturn (pc := 47) h rfl rfl rfl dX4_step_47
def f4_step (fu : Nat) (x1 : Int32) (M : Mem) : Option (Mem × Int32) :=
    if x1 = (1 : Int32) then ((f4_step_12 fu x1 M))
    else (if x1 = (-1 : Int32) then ((f4_step_12 fu x1 M))
    else ((some (M, (-1 : Int32)))))
set_option maxHeartbeats 4000000 in
set_option maxRecDepth 10000 in
theorem w4_step {ad : Nat → Nat} {X : XX} {R : Mem × Int32} {fu : Nat} (h : Cx layC ad X cX4_step RX4 3 6 (some .int) (R.1) (some (.int R.2))) {x1 : Int32} {M : Mem} (hF : f4_step fu x1 M = some R) : Wp layC ad X M 0 [(0, .ref (ad 28)), (1, .int x1)] [] := by
  unfold f4_step at hF
  refine R_iload_n (pc := 0) h 1 rfl rfl dX4_step_0 ?_
  refine R_iconst (pc := 1) (v := 1) h (by decide) dX4_step_1 ?_
  refine R_icmp_eq (pc := 2) (tgt := 12) h dX4_step_2 (by decide) (fun c1 => ?_) (fun c1 => ?_)
  · have hF := itp c1 hF
    exact Wp_sub (nX := 0) (lv' := [(0, .ref (ad 28)), (1, .int x1)]) [0, 1] rfl (w4_step_12 h  (hF := hF))
  · have hF := ifn c1 hF
    refine R_iload_n (pc := 5) h 1 rfl rfl dX4_step_5 ?_
    refine R_iconst (pc := 6) (v := (-1)) h (by decide) dX4_step_6 ?_
    refine R_icmp_eq (pc := 7) (tgt := 12) h dX4_step_7 (by decide) (fun c2 => ?_) (fun c2 => ?_)
    · have hF := itp c2 hF
      exact Wp_sub (nX := 0) (lv' := [(0, .ref (ad 28)), (1, .int x1)]) [0, 1] rfl (w4_step_12 h  (hF := hF))
    · have hF := ifn c2 hF
      refine R_iconst (pc := 10) (v := (-1)) h (by decide) dX4_step_10 ?_
      cases hF
      exact R_ireturn (pc := 11) h rfl rfl rfl dX4_step_11
theorem c4_step {ad : Nat → Nat} {z : ZZ} {R : Mem × Int32} {fu : Nat} {x1 : Int32} {M : Mem} (hF : f4_step fu x1 M = some R) : Con layC ad z yX4_step cX4_step 3 (some .int) 6 M [.ref (ad 28), .int x1] (R.1) (some (.int R.2)) := con_of (own := RX4) (lv := [(0, .ref (ad 28)), (1, .int x1)]) (by decide +kernel) rfl (Nat.le_of_ble_eq_true rfl) rfl (fun X hz h => w4_step h hF)
def f2_hoursOf (M : Mem) (x1 : Int32) : Option (Int32) :=
    (f2_isSet x1).bind fun r2 =>
    if r2 = 0 then ((some (0 : Int32)))
    else ((rd M 43 256 x1).bind fun v4 =>
    (some v4))
set_option maxHeartbeats 4000000 in
set_option maxRecDepth 10000 in
theorem w2_hoursOf {ad : Nat → Nat} {X : XX} {R : Int32} {M : Mem} (h : Cx layC ad X cX2_hoursOf RX2 2 2 (some .int) M (some (.int R))) {x1 : Int32} (hF : f2_hoursOf M x1 = some R) : Wp layC ad X M 0 [(0, .ref (ad 35)), (1, .int x1)] [] := by
  unfold f2_hoursOf at hF
  refine R_iload_n (pc := 0) h 1 rfl rfl dX2_hoursOf_0 ?_
  obtain ⟨r2, hc1, hF⟩ := bd hF
  refine R_callS (pc := 1) (st := []) h [.int x1] csX2_50 (c2_isSet (ad := ad) (z := X.1) (M := M) hc1) rfl rfl (by decide) (by decide) (Nat.le_of_ble_eq_true rfl) dX2_hoursOf_1 (st1 := [.int r2]) rfl ?_
  refine R_if_eq (pc := 4) (tgt := 16) h dX2_hoursOf_4 (by decide) (fun c3 => ?_) (fun c3 => ?_)
  · have hF := itp c3 hF
    refine R_iconst (pc := 16) (v := 0) h (by decide) dX2_hoursOf_16 ?_
    cases hF
    exact R_ireturn (pc := 17) h rfl rfl rfl dX2_hoursOf_17
  · have hF := ifn c3 hF
    refine R_aload_n (pc := 7) h 0 rfl rfl dX2_hoursOf_7 ?_
    refine R_getR (pc := 8) (q1 := 43) h flX2_37 lc_35 rfl dX2_hoursOf_8 ?_
    refine R_iload_n (pc := 11) h 1 rfl rfl dX2_hoursOf_11 ?_
    obtain ⟨v4, hv4, hF⟩ := bd hF
    refine R_iald (pc := 12) h hv4 lc_43 dX2_hoursOf_12 ?_
    refine R_goto (pc := 13) (tgt := 17) h dX2_hoursOf_13 (by decide) ?_
    cases hF
    exact R_ireturn (pc := 17) h rfl rfl rfl dX2_hoursOf_17
theorem c2_hoursOf {ad : Nat → Nat} {z : ZZ} {R : Int32} {M : Mem} {x1 : Int32} (hF : f2_hoursOf M x1 = some R) : Con layC ad z yX2_hoursOf cX2_hoursOf 2 (some .int) 2 M [.ref (ad 35), .int x1] (M) (some (.int R)) := con_of (own := RX2) (lv := [(0, .ref (ad 35)), (1, .int x1)]) (by decide +kernel) rfl (Nat.le_of_ble_eq_true rfl) rfl (fun X hz h => w2_hoursOf h hF)
