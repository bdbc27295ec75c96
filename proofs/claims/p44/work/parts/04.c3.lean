theorem dX4_tellFraction_0 : decode cX4_tellFraction 0 = .ok (.lload_n 1, 1) := by decide +kernel
theorem dX4_tellFraction_1 : decode cX4_tellFraction 1 = .ok (.lstore 5, 2) := by decide +kernel
theorem dX4_tellFraction_3 : decode cX4_tellFraction 3 = .ok (.lload_n 3, 1) := by decide +kernel
theorem dX4_tellFraction_4 : decode cX4_tellFraction 4 = .ok (.lstore 7, 2) := by decide +kernel
theorem dX4_tellFraction_6 : decode cX4_tellFraction 6 = .ok (.iconst 0, 1) := by decide +kernel
theorem dX4_tellFraction_7 : decode cX4_tellFraction 7 = .ok (.istore 9, 2) := by decide +kernel
theorem dX4_tellFraction_9 : decode cX4_tellFraction 9 = .ok (.iload 9, 2) := by decide +kernel
theorem dX4_tellFraction_11 : decode cX4_tellFraction 11 = .ok (.sipush 1000, 3) := by decide +kernel
theorem dX4_tellFraction_14 : decode cX4_tellFraction 14 = .ok (.if_icmp .ge 31, 3) := by decide +kernel
theorem dX4_tellFraction_17 : decode cX4_tellFraction 17 = .ok (.lload 5, 2) := by decide +kernel
theorem dX4_tellFraction_19 : decode cX4_tellFraction 19 = .ok (.lconst 0, 1) := by decide +kernel
theorem dX4_tellFraction_20 : decode cX4_tellFraction 20 = .ok (.lcmp, 1) := by decide +kernel
theorem dX4_tellFraction_21 : decode cX4_tellFraction 21 = .ok (.ifCond .eq 24, 3) := by decide +kernel
theorem dX4_tellFraction_24 : decode cX4_tellFraction 24 = .ok (.lload 7, 2) := by decide +kernel
theorem dX4_tellFraction_26 : decode cX4_tellFraction 26 = .ok (.lload 5, 2) := by decide +kernel
theorem dX4_tellFraction_28 : decode cX4_tellFraction 28 = .ok (.lrem, 1) := by decide +kernel
theorem dX4_tellFraction_29 : decode cX4_tellFraction 29 = .ok (.lstore 10, 2) := by decide +kernel
theorem dX4_tellFraction_31 : decode cX4_tellFraction 31 = .ok (.lload 5, 2) := by decide +kernel
theorem dX4_tellFraction_33 : decode cX4_tellFraction 33 = .ok (.lstore 7, 2) := by decide +kernel
theorem dX4_tellFraction_35 : decode cX4_tellFraction 35 = .ok (.lload 10, 2) := by decide +kernel
theorem dX4_tellFraction_37 : decode cX4_tellFraction 37 = .ok (.lstore 5, 2) := by decide +kernel
theorem dX4_tellFraction_39 : decode cX4_tellFraction 39 = .ok (.iinc 9 1, 3) := by decide +kernel
theorem dX4_tellFraction_42 : decode cX4_tellFraction 42 = .ok (.goto (-33), 3) := by decide +kernel
theorem dX4_tellFraction_45 : decode cX4_tellFraction 45 = .ok (.lload 7, 2) := by decide +kernel
theorem dX4_tellFraction_47 : decode cX4_tellFraction 47 = .ok (.lconst 0, 1) := by decide +kernel
theorem dX4_tellFraction_48 : decode cX4_tellFraction 48 = .ok (.lcmp, 1) := by decide +kernel
theorem dX4_tellFraction_49 : decode cX4_tellFraction 49 = .ok (.ifCond .le 19, 3) := by decide +kernel
theorem dX4_tellFraction_52 : decode cX4_tellFraction 52 = .ok (.aload_n 0, 1) := by decide +kernel
theorem dX4_tellFraction_53 : decode cX4_tellFraction 53 = .ok (.lload_n 1, 1) := by decide +kernel
theorem dX4_tellFraction_54 : decode cX4_tellFraction 54 = .ok (.lload 7, 2) := by decide +kernel
theorem dX4_tellFraction_56 : decode cX4_tellFraction 56 = .ok (.ldiv, 1) := by decide +kernel
theorem dX4_tellFraction_57 : decode cX4_tellFraction 57 = .ok (.putfield 42, 3) := by decide +kernel
theorem dX4_tellFraction_60 : decode cX4_tellFraction 60 = .ok (.aload_n 0, 1) := by decide +kernel
theorem dX4_tellFraction_61 : decode cX4_tellFraction 61 = .ok (.lload_n 3, 1) := by decide +kernel
theorem dX4_tellFraction_62 : decode cX4_tellFraction 62 = .ok (.lload 7, 2) := by decide +kernel
theorem dX4_tellFraction_64 : decode cX4_tellFraction 64 = .ok (.ldiv, 1) := by decide +kernel
theorem dX4_tellFraction_65 : decode cX4_tellFraction 65 = .ok (.putfield 46, 3) := by decide +kernel
theorem dX4_tellFraction_68 : decode cX4_tellFraction 68 = .ok (.return_, 1) := by decide +kernel
theorem dX4_weigh_0 : decode cX4_weigh 0 = .ok (.iload_n 1, 1) := by decide +kernel
theorem dX4_weigh_1 : decode cX4_weigh 1 = .ok (.iload_n 0, 1) := by decide +kernel
theorem dX4_weigh_2 : decode cX4_weigh 2 = .ok (.iconst (-1), 1) := by decide +kernel
theorem dX4_weigh_3 : decode cX4_weigh 3 = .ok (.ixor, 1) := by decide +kernel
theorem dX4_weigh_4 : decode cX4_weigh 4 = .ok (.iand, 1) := by decide +kernel
theorem dX4_weigh_5 : decode cX4_weigh 5 = .ok (.istore_n 3, 1) := by decide +kernel
theorem dX4_weigh_6 : decode cX4_weigh 6 = .ok (.bipush 12, 2) := by decide +kernel
theorem dX4_weigh_8 : decode cX4_weigh 8 = .ok (.iload_n 2, 1) := by decide +kernel
theorem dX4_weigh_9 : decode cX4_weigh 9 = .ok (.isub, 1) := by decide +kernel
theorem dX4_weigh_10 : decode cX4_weigh 10 = .ok (.i2l, 1) := by decide +kernel
theorem dX4_weigh_11 : decode cX4_weigh 11 = .ok (.iload_n 0, 1) := by decide +kernel
theorem dX4_weigh_12 : decode cX4_weigh 12 = .ok (.invokestatic 167, 3) := by decide +kernel
theorem dX4_weigh_15 : decode cX4_weigh 15 = .ok (.invokestatic 259, 3) := by decide +kernel
theorem dX4_weigh_18 : decode cX4_weigh 18 = .ok (.iload_n 2, 1) := by decide +kernel
theorem dX4_weigh_19 : decode cX4_weigh 19 = .ok (.i2l, 1) := by decide +kernel
theorem dX4_weigh_20 : decode cX4_weigh 20 = .ok (.iload_n 3, 1) := by decide +kernel
theorem dX4_weigh_21 : decode cX4_weigh 21 = .ok (.invokestatic 167, 3) := by decide +kernel
theorem dX4_weigh_24 : decode cX4_weigh 24 = .ok (.invokestatic 259, 3) := by decide +kernel
theorem dX4_weigh_27 : decode cX4_weigh 27 = .ok (.lmul, 1) := by decide +kernel
theorem dX4_weigh_28 : decode cX4_weigh 28 = .ok (.lreturn, 1) := by decide +kernel
theorem dX4_mid_0 : decode cX4_mid 0 = .ok (.iload_n 1, 1) := by decide +kernel
theorem dX4_mid_1 : decode cX4_mid 1 = .ok (.ifCond .lt 9, 3) := by decide +kernel
theorem dX4_mid_4 : decode cX4_mid 4 = .ok (.iload_n 1, 1) := by decide +kernel
theorem dX4_mid_5 : decode cX4_mid 5 = .ok (.bipush 12, 2) := by decide +kernel
theorem dX4_mid_7 : decode cX4_mid 7 = .ok (.if_icmp .le 5, 3) := by decide +kernel
theorem dX4_mid_10 : decode cX4_mid 10 = .ok (.iconst (-1), 1) := by decide +kernel
theorem dX4_mid_11 : decode cX4_mid 11 = .ok (.ireturn, 1) := by decide +kernel
theorem dX4_mid_12 : decode cX4_mid 12 = .ok (.aload_n 0, 1) := by decide +kernel
theorem dX4_mid_13 : decode cX4_mid 13 = .ok (.getfield 27, 3) := by decide +kernel
theorem dX4_mid_16 : decode cX4_mid 16 = .ok (.getfield 104, 3) := by decide +kernel
theorem dX4_mid_19 : decode cX4_mid 19 = .ok (.getfield 121, 3) := by decide +kernel
theorem dX4_mid_22 : decode cX4_mid 22 = .ok (.ifCond .ne 6, 3) := by decide +kernel
theorem dX4_mid_25 : decode cX4_mid 25 = .ok (.bipush (-4), 2) := by decide +kernel
theorem dX4_mid_27 : decode cX4_mid 27 = .ok (.ireturn, 1) := by decide +kernel
theorem dX4_mid_28 : decode cX4_mid 28 = .ok (.aload_n 0, 1) := by decide +kernel
theorem dX4_mid_29 : decode cX4_mid 29 = .ok (.getfield 27, 3) := by decide +kernel
theorem dX4_mid_32 : decode cX4_mid 32 = .ok (.invokevirtual 212, 3) := by decide +kernel
theorem dX4_mid_35 : decode cX4_mid 35 = .ok (.istore_n 2, 1) := by decide +kernel
theorem dX4_mid_36 : decode cX4_mid 36 = .ok (.lconst 0, 1) := by decide +kernel
theorem dX4_mid_37 : decode cX4_mid 37 = .ok (.lstore_n 3, 1) := by decide +kernel
theorem dX4_mid_38 : decode cX4_mid 38 = .ok (.iconst 0, 1) := by decide +kernel
theorem dX4_mid_39 : decode cX4_mid 39 = .ok (.istore 5, 2) := by decide +kernel
theorem dX4_mid_41 : decode cX4_mid 41 = .ok (.iload 5, 2) := by decide +kernel
theorem dX4_mid_43 : decode cX4_mid 43 = .ok (.iload_n 2, 1) := by decide +kernel
theorem dX4_mid_44 : decode cX4_mid 44 = .ok (.if_icmp .gt 50, 3) := by decide +kernel
theorem dX4_mid_47 : decode cX4_mid 47 = .ok (.iload 5, 2) := by decide +kernel
theorem dX4_mid_49 : decode cX4_mid 49 = .ok (.iload_n 2, 1) := by decide +kernel
theorem dX4_mid_50 : decode cX4_mid 50 = .ok (.iconst (-1), 1) := by decide +kernel
theorem dX4_mid_51 : decode cX4_mid 51 = .ok (.ixor, 1) := by decide +kernel
theorem dX4_mid_52 : decode cX4_mid 52 = .ok (.iand, 1) := by decide +kernel
theorem dX4_mid_53 : decode cX4_mid 53 = .ok (.ifCond .ne 35, 3) := by decide +kernel
theorem dX4_mid_56 : decode cX4_mid 56 = .ok (.lload_n 3, 1) := by decide +kernel
theorem dX4_mid_57 : decode cX4_mid 57 = .ok (.iload 5, 2) := by decide +kernel
theorem dX4_mid_59 : decode cX4_mid 59 = .ok (.iload_n 2, 1) := by decide +kernel
theorem dX4_mid_60 : decode cX4_mid 60 = .ok (.iload_n 1, 1) := by decide +kernel
theorem dX4_mid_61 : decode cX4_mid 61 = .ok (.invokestatic 253, 3) := by decide +kernel
theorem dX4_mid_64 : decode cX4_mid 64 = .ok (.aload_n 0, 1) := by decide +kernel
theorem dX4_mid_65 : decode cX4_mid 65 = .ok (.getfield 27, 3) := by decide +kernel
theorem dX4_mid_68 : decode cX4_mid 68 = .ok (.getfield 104, 3) := by decide +kernel
theorem dX4_mid_71 : decode cX4_mid 71 = .ok (.aload_n 0, 1) := by decide +kernel
theorem dX4_mid_72 : decode cX4_mid 72 = .ok (.getfield 27, 3) := by decide +kernel
theorem dX4_mid_75 : decode cX4_mid 75 = .ok (.getfield 164, 3) := by decide +kernel
theorem dX4_mid_78 : decode cX4_mid 78 = .ok (.iload 5, 2) := by decide +kernel
theorem dX4_mid_80 : decode cX4_mid 80 = .ok (.ior, 1) := by decide +kernel
theorem dX4_mid_81 : decode cX4_mid 81 = .ok (.invokevirtual 209, 3) := by decide +kernel
theorem dX4_mid_84 : decode cX4_mid 84 = .ok (.i2l, 1) := by decide +kernel
theorem dX4_mid_85 : decode cX4_mid 85 = .ok (.lmul, 1) := by decide +kernel
theorem dX4_mid_86 : decode cX4_mid 86 = .ok (.ladd, 1) := by decide +kernel
theorem dX4_mid_87 : decode cX4_mid 87 = .ok (.lstore_n 3, 1) := by decide +kernel
theorem dX4_mid_88 : decode cX4_mid 88 = .ok (.iinc 5 1, 3) := by decide +kernel
theorem dX4_mid_91 : decode cX4_mid 91 = .ok (.goto (-50), 3) := by decide +kernel
theorem dX4_mid_94 : decode cX4_mid 94 = .ok (.aload_n 0, 1) := by decide +kernel
theorem dX4_mid_95 : decode cX4_mid 95 = .ok (.lload_n 3, 1) := by decide +kernel
theorem dX4_mid_96 : decode cX4_mid 96 = .ok (.ldc2_w 257, 3) := by decide +kernel
theorem dX4_mid_99 : decode cX4_mid 99 = .ok (.iload_n 2, 1) := by decide +kernel
theorem dX4_mid_100 : decode cX4_mid 100 = .ok (.invokestatic 167, 3) := by decide +kernel
theorem dX4_mid_103 : decode cX4_mid 103 = .ok (.invokestatic 259, 3) := by decide +kernel
theorem dX4_mid_106 : decode cX4_mid 106 = .ok (.invokevirtual 263, 3) := by decide +kernel
theorem dX4_mid_109 : decode cX4_mid 109 = .ok (.iconst 1, 1) := by decide +kernel
theorem dX4_mid_110 : decode cX4_mid 110 = .ok (.ireturn, 1) := by decide +kernel
theorem dX4_upper_0 : decode cX4_upper 0 = .ok (.aload_n 0, 1) := by decide +kernel
theorem dX4_upper_1 : decode cX4_upper 1 = .ok (.getfield 42, 3) := by decide +kernel
theorem dX4_upper_4 : decode cX4_upper 4 = .ok (.lreturn, 1) := by decide +kernel
theorem dX4_lower_0 : decode cX4_lower 0 = .ok (.aload_n 0, 1) := by decide +kernel
theorem dX4_lower_1 : decode cX4_lower 1 = .ok (.getfield 46, 3) := by decide +kernel
theorem dX4_lower_4 : decode cX4_lower 4 = .ok (.lreturn, 1) := by decide +kernel
theorem dX3_deedByLot_0 : decode cX3_deedByLot 0 = .ok (.aload_n 0, 1) := by decide +kernel
theorem dX3_deedByLot_1 : decode cX3_deedByLot 1 = .ok (.getfield 12, 3) := by decide +kernel
theorem dX3_deedByLot_4 : decode cX3_deedByLot 4 = .ok (.getfield 46, 3) := by decide +kernel
theorem dX3_deedByLot_7 : decode cX3_deedByLot 7 = .ok (.ifCond .le 21, 3) := by decide +kernel
theorem dX3_deedByLot_10 : decode cX3_deedByLot 10 = .ok (.lload_n 1, 1) := by decide +kernel
theorem dX3_deedByLot_11 : decode cX3_deedByLot 11 = .ok (.ldc2_w 68, 3) := by decide +kernel
theorem dX3_deedByLot_14 : decode cX3_deedByLot 14 = .ok (.ldiv, 1) := by decide +kernel
theorem dX3_deedByLot_15 : decode cX3_deedByLot 15 = .ok (.aload_n 0, 1) := by decide +kernel
theorem dX3_deedByLot_16 : decode cX3_deedByLot 16 = .ok (.getfield 12, 3) := by decide +kernel
theorem dX3_deedByLot_19 : decode cX3_deedByLot 19 = .ok (.getfield 46, 3) := by decide +kernel
theorem dX3_deedByLot_22 : decode cX3_deedByLot 22 = .ok (.i2l, 1) := by decide +kernel
theorem dX3_deedByLot_23 : decode cX3_deedByLot 23 = .ok (.lrem, 1) := by decide +kernel
theorem dX3_deedByLot_24 : decode cX3_deedByLot 24 = .ok (.l2i, 1) := by decide +kernel
theorem dX3_deedByLot_25 : decode cX3_deedByLot 25 = .ok (.goto 4, 3) := by decide +kernel
theorem dX3_deedByLot_28 : decode cX3_deedByLot 28 = .ok (.iconst 0, 1) := by decide +kernel
theorem dX3_deedByLot_29 : decode cX3_deedByLot 29 = .ok (.istore_n 3, 1) := by decide +kernel
theorem dX3_deedByLot_30 : decode cX3_deedByLot 30 = .ok (.aload_n 0, 1) := by decide +kernel
theorem dX3_deedByLot_31 : decode cX3_deedByLot 31 = .ok (.getfield 29, 3) := by decide +kernel
theorem dX3_deedByLot_34 : decode cX3_deedByLot 34 = .ok (.iload_n 3, 1) := by decide +kernel
theorem dX3_deedByLot_35 : decode cX3_deedByLot 35 = .ok (.ishr, 1) := by decide +kernel
theorem dX3_deedByLot_36 : decode cX3_deedByLot 36 = .ok (.iconst 1, 1) := by decide +kernel
theorem dX3_deedByLot_37 : decode cX3_deedByLot 37 = .ok (.iand, 1) := by decide +kernel
theorem dX3_deedByLot_38 : decode cX3_deedByLot 38 = .ok (.ifCond .eq 8, 3) := by decide +kernel
theorem dX3_deedByLot_41 : decode cX3_deedByLot 41 = .ok (.bipush 16, 2) := by decide +kernel
theorem dX3_deedByLot_43 : decode cX3_deedByLot 43 = .ok (.iload_n 3, 1) := by decide +kernel
theorem dX3_deedByLot_44 : decode cX3_deedByLot 44 = .ok (.iadd, 1) := by decide +kernel
theorem dX3_deedByLot_45 : decode cX3_deedByLot 45 = .ok (.ireturn, 1) := by decide +kernel
theorem dX3_deedByLot_46 : decode cX3_deedByLot 46 = .ok (.aload_n 0, 1) := by decide +kernel
theorem dX3_deedByLot_47 : decode cX3_deedByLot 47 = .ok (.invokevirtual 61, 3) := by decide +kernel
theorem dX3_deedByLot_50 : decode cX3_deedByLot 50 = .ok (.iload_n 3, 1) := by decide +kernel
theorem dX3_deedByLot_51 : decode cX3_deedByLot 51 = .ok (.ishr, 1) := by decide +kernel
theorem dX3_deedByLot_52 : decode cX3_deedByLot 52 = .ok (.iconst 1, 1) := by decide +kernel
theorem dX3_deedByLot_53 : decode cX3_deedByLot 53 = .ok (.iand, 1) := by decide +kernel
theorem dX3_deedByLot_54 : decode cX3_deedByLot 54 = .ok (.ifCond .eq 8, 3) := by decide +kernel
theorem dX3_deedByLot_57 : decode cX3_deedByLot 57 = .ok (.bipush 8, 2) := by decide +kernel
theorem dX3_deedByLot_59 : decode cX3_deedByLot 59 = .ok (.iload_n 3, 1) := by decide +kernel
theorem dX3_deedByLot_60 : decode cX3_deedByLot 60 = .ok (.iadd, 1) := by decide +kernel
theorem dX3_deedByLot_61 : decode cX3_deedByLot 61 = .ok (.ireturn, 1) := by decide +kernel
theorem dX3_deedByLot_62 : decode cX3_deedByLot 62 = .ok (.aload_n 0, 1) := by decide +kernel
theorem dX3_deedByLot_63 : decode cX3_deedByLot 63 = .ok (.getfield 25, 3) := by decide +kernel
theorem dX3_deedByLot_66 : decode cX3_deedByLot 66 = .ok (.ifCond .eq 22, 3) := by decide +kernel
theorem dX3_deedByLot_69 : decode cX3_deedByLot 69 = .ok (.lload_n 1, 1) := by decide +kernel
theorem dX3_deedByLot_70 : decode cX3_deedByLot 70 = .ok (.ldc2_w 70, 3) := by decide +kernel
theorem dX3_deedByLot_73 : decode cX3_deedByLot 73 = .ok (.lrem, 1) := by decide +kernel
theorem dX3_deedByLot_74 : decode cX3_deedByLot 74 = .ok (.lconst 0, 1) := by decide +kernel
theorem dX3_deedByLot_75 : decode cX3_deedByLot 75 = .ok (.lcmp, 1) := by decide +kernel
theorem dX3_deedByLot_76 : decode cX3_deedByLot 76 = .ok (.ifCond .ne 16, 3) := by decide +kernel
theorem dX3_deedByLot_79 : decode cX3_deedByLot 79 = .ok (.aload_n 0, 1) := by decide +kernel
theorem dX3_deedByLot_80 : decode cX3_deedByLot 80 = .ok (.getfield 25, 3) := by decide +kernel
theorem dX3_deedByLot_83 : decode cX3_deedByLot 83 = .ok (.bipush 9, 2) := by decide +kernel
theorem dX3_deedByLot_85 : decode cX3_deedByLot 85 = .ok (.if_icmp .eq 7, 3) := by decide +kernel
theorem dX3_deedByLot_88 : decode cX3_deedByLot 88 = .ok (.iconst 1, 1) := by decide +kernel
theorem dX3_deedByLot_89 : decode cX3_deedByLot 89 = .ok (.goto 4, 3) := by decide +kernel
theorem dX3_deedByLot_92 : decode cX3_deedByLot 92 = .ok (.iconst 0, 1) := by decide +kernel
theorem dX3_deedByLot_93 : decode cX3_deedByLot 93 = .ok (.istore 4, 2) := by decide +kernel
theorem dX3_deedByLot_95 : decode cX3_deedByLot 95 = .ok (.iload 4, 2) := by decide +kernel
theorem dX3_deedByLot_97 : decode cX3_deedByLot 97 = .ok (.ifCond .eq 7, 3) := by decide +kernel
theorem dX3_deedByLot_100 : decode cX3_deedByLot 100 = .ok (.iconst 0, 1) := by decide +kernel
theorem dX3_deedByLot_101 : decode cX3_deedByLot 101 = .ok (.goto 4, 3) := by decide +kernel
theorem dX3_deedByLot_104 : decode cX3_deedByLot 104 = .ok (.iconst 1, 1) := by decide +kernel
theorem dX3_deedByLot_105 : decode cX3_deedByLot 105 = .ok (.ireturn, 1) := by decide +kernel
theorem dX4_lots_0 : decode cX4_lots 0 = .ok (.iload_n 1, 1) := by decide +kernel
theorem dX4_lots_1 : decode cX4_lots 1 = .ok (.iconst 1, 1) := by decide +kernel
theorem dX4_lots_2 : decode cX4_lots 2 = .ok (.if_icmp .lt 21, 3) := by decide +kernel
theorem dX4_lots_5 : decode cX4_lots 5 = .ok (.iload_n 1, 1) := by decide +kernel
theorem dX4_lots_6 : decode cX4_lots 6 = .ok (.bipush 20, 2) := by decide +kernel
theorem dX4_lots_8 : decode cX4_lots 8 = .ok (.if_icmp .gt 15, 3) := by decide +kernel
theorem dX4_lots_11 : decode cX4_lots 11 = .ok (.iload_n 2, 1) := by decide +kernel
theorem dX4_lots_12 : decode cX4_lots 12 = .ok (.iconst 1, 1) := by decide +kernel
theorem dX4_lots_13 : decode cX4_lots 13 = .ok (.if_icmp .lt 10, 3) := by decide +kernel
theorem dX4_lots_16 : decode cX4_lots 16 = .ok (.iload_n 2, 1) := by decide +kernel
theorem dX4_lots_17 : decode cX4_lots 17 = .ok (.ldc_w 267, 3) := by decide +kernel
theorem dX4_lots_20 : decode cX4_lots 20 = .ok (.if_icmp .lt 5, 3) := by decide +kernel
theorem dX4_lots_23 : decode cX4_lots 23 = .ok (.iconst (-1), 1) := by decide +kernel
theorem dX4_lots_24 : decode cX4_lots 24 = .ok (.ireturn, 1) := by decide +kernel
theorem dX4_lots_25 : decode cX4_lots 25 = .ok (.aload_n 0, 1) := by decide +kernel
theorem dX4_lots_26 : decode cX4_lots 26 = .ok (.getfield 27, 3) := by decide +kernel
theorem dX4_lots_29 : decode cX4_lots 29 = .ok (.getfield 104, 3) := by decide +kernel
theorem dX4_lots_32 : decode cX4_lots 32 = .ok (.getfield 121, 3) := by decide +kernel
theorem dX4_lots_35 : decode cX4_lots 35 = .ok (.ifCond .ne 6, 3) := by decide +kernel
theorem dX4_lots_38 : decode cX4_lots 38 = .ok (.bipush (-4), 2) := by decide +kernel
theorem dX4_lots_40 : decode cX4_lots 40 = .ok (.ireturn, 1) := by decide +kernel
theorem dX4_lots_41 : decode cX4_lots 41 = .ok (.aload_n 0, 1) := by decide +kernel
theorem dX4_lots_42 : decode cX4_lots 42 = .ok (.getfield 27, 3) := by decide +kernel
theorem dX4_lots_45 : decode cX4_lots 45 = .ok (.iload_n 1, 1) := by decide +kernel
theorem dX4_lots_46 : decode cX4_lots 46 = .ok (.invokevirtual 154, 3) := by decide +kernel
theorem dX4_lots_49 : decode cX4_lots 49 = .ok (.ifCond .ne 6, 3) := by decide +kernel
theorem dX4_lots_52 : decode cX4_lots 52 = .ok (.bipush (-2), 2) := by decide +kernel
theorem dX4_lots_54 : decode cX4_lots 54 = .ok (.ireturn, 1) := by decide +kernel
theorem dX4_lots_55 : decode cX4_lots 55 = .ok (.iload_n 2, 1) := by decide +kernel
theorem dX4_lots_56 : decode cX4_lots 56 = .ok (.i2l, 1) := by decide +kernel
theorem dX4_lots_57 : decode cX4_lots 57 = .ok (.lstore_n 3, 1) := by decide +kernel
theorem dX4_lots_58 : decode cX4_lots 58 = .ok (.iconst 0, 1) := by decide +kernel
theorem dX4_lots_59 : decode cX4_lots 59 = .ok (.istore 5, 2) := by decide +kernel
theorem dX4_lots_61 : decode cX4_lots 61 = .ok (.iload 5, 2) := by decide +kernel
theorem dX4_lots_63 : decode cX4_lots 63 = .ok (.iload_n 1, 1) := by decide +kernel
theorem dX4_lots_64 : decode cX4_lots 64 = .ok (.if_icmp .ge 34, 3) := by decide +kernel
theorem dX4_lots_67 : decode cX4_lots 67 = .ok (.lload_n 3, 1) := by decide +kernel
theorem dX4_lots_68 : decode cX4_lots 68 = .ok (.ldc2_w 268, 3) := by decide +kernel
theorem dX4_lots_71 : decode cX4_lots 71 = .ok (.lmul, 1) := by decide +kernel
theorem dX4_lots_72 : decode cX4_lots 72 = .ok (.ldc2_w 270, 3) := by decide +kernel
theorem dX4_lots_75 : decode cX4_lots 75 = .ok (.lrem, 1) := by decide +kernel
theorem dX4_lots_76 : decode cX4_lots 76 = .ok (.lstore_n 3, 1) := by decide +kernel
theorem dX4_lots_77 : decode cX4_lots 77 = .ok (.aload_n 0, 1) := by decide +kernel
theorem dX4_lots_78 : decode cX4_lots 78 = .ok (.getfield 27, 3) := by decide +kernel
theorem dX4_lots_81 : decode cX4_lots 81 = .ok (.aload_n 0, 1) := by decide +kernel
theorem dX4_lots_82 : decode cX4_lots 82 = .ok (.getfield 27, 3) := by decide +kernel
theorem dX4_lots_85 : decode cX4_lots 85 = .ok (.lload_n 3, 1) := by decide +kernel
theorem dX4_lots_86 : decode cX4_lots 86 = .ok (.invokevirtual 272, 3) := by decide +kernel
theorem dX4_lots_89 : decode cX4_lots 89 = .ok (.invokevirtual 157, 3) := by decide +kernel
theorem dX4_lots_92 : decode cX4_lots 92 = .ok (.iinc 5 1, 3) := by decide +kernel
theorem dX4_lots_95 : decode cX4_lots 95 = .ok (.goto (-34), 3) := by decide +kernel
theorem dX4_lots_98 : decode cX4_lots 98 = .ok (.aload_n 0, 1) := by decide +kernel
theorem dX4_lots_99 : decode cX4_lots 99 = .ok (.getfield 27, 3) := by decide +kernel
theorem dX4_lots_102 : decode cX4_lots 102 = .ok (.getfield 151, 3) := by decide +kernel
theorem dX4_lots_105 : decode cX4_lots 105 = .ok (.ireturn, 1) := by decide +kernel
theorem dX4_odds_0 : decode cX4_odds 0 = .ok (.iload_n 1, 1) := by decide +kernel
theorem dX4_odds_1 : decode cX4_odds 1 = .ok (.ifCond .lt 20, 3) := by decide +kernel
theorem dX4_odds_4 : decode cX4_odds 4 = .ok (.iload_n 1, 1) := by decide +kernel
theorem dX4_odds_5 : decode cX4_odds 5 = .ok (.sipush 200, 3) := by decide +kernel
theorem dX4_odds_8 : decode cX4_odds 8 = .ok (.if_icmp .gt 13, 3) := by decide +kernel
theorem dX4_odds_11 : decode cX4_odds 11 = .ok (.iload_n 2, 1) := by decide +kernel
theorem dX4_odds_12 : decode cX4_odds 12 = .ok (.ifCond .lt 9, 3) := by decide +kernel
theorem dX4_odds_15 : decode cX4_odds 15 = .ok (.iload_n 2, 1) := by decide +kernel
theorem dX4_odds_16 : decode cX4_odds 16 = .ok (.bipush 12, 2) := by decide +kernel
theorem dX4_odds_18 : decode cX4_odds 18 = .ok (.if_icmp .le 5, 3) := by decide +kernel
theorem dX4_odds_21 : decode cX4_odds 21 = .ok (.iconst (-1), 1) := by decide +kernel
theorem dX4_odds_22 : decode cX4_odds 22 = .ok (.ireturn, 1) := by decide +kernel
theorem dX4_odds_23 : decode cX4_odds 23 = .ok (.aload_n 0, 1) := by decide +kernel
theorem dX4_odds_24 : decode cX4_odds 24 = .ok (.getfield 27, 3) := by decide +kernel
theorem dX4_odds_27 : decode cX4_odds 27 = .ok (.getfield 104, 3) := by decide +kernel
theorem dX4_odds_30 : decode cX4_odds 30 = .ok (.getfield 121, 3) := by decide +kernel
theorem dX4_odds_33 : decode cX4_odds 33 = .ok (.ifCond .ne 6, 3) := by decide +kernel
theorem dX4_odds_36 : decode cX4_odds 36 = .ok (.bipush (-4), 2) := by decide +kernel
theorem dX4_odds_38 : decode cX4_odds 38 = .ok (.ireturn, 1) := by decide +kernel
theorem dX4_odds_39 : decode cX4_odds 39 = .ok (.aload_n 0, 1) := by decide +kernel
theorem dX4_odds_40 : decode cX4_odds 40 = .ok (.getfield 27, 3) := by decide +kernel
theorem dX4_odds_43 : decode cX4_odds 43 = .ok (.invokevirtual 212, 3) := by decide +kernel
theorem dX4_odds_46 : decode cX4_odds 46 = .ok (.istore_n 3, 1) := by decide +kernel
theorem dX4_odds_47 : decode cX4_odds 47 = .ok (.lconst 0, 1) := by decide +kernel
theorem dX4_odds_48 : decode cX4_odds 48 = .ok (.lstore 4, 2) := by decide +kernel
theorem dX4_odds_50 : decode cX4_odds 50 = .ok (.iconst 0, 1) := by decide +kernel
theorem dX4_odds_51 : decode cX4_odds 51 = .ok (.istore 6, 2) := by decide +kernel
theorem dX4_odds_53 : decode cX4_odds 53 = .ok (.iload 6, 2) := by decide +kernel
theorem dX4_odds_55 : decode cX4_odds 55 = .ok (.iload_n 3, 1) := by decide +kernel
theorem dX4_odds_56 : decode cX4_odds 56 = .ok (.if_icmp .gt 54, 3) := by decide +kernel
theorem dX4_odds_59 : decode cX4_odds 59 = .ok (.iload 6, 2) := by decide +kernel
theorem dX4_odds_61 : decode cX4_odds 61 = .ok (.iload_n 3, 1) := by decide +kernel
theorem dX4_odds_62 : decode cX4_odds 62 = .ok (.iconst (-1), 1) := by decide +kernel
theorem dX4_odds_63 : decode cX4_odds 63 = .ok (.ixor, 1) := by decide +kernel
theorem dX4_odds_64 : decode cX4_odds 64 = .ok (.iand, 1) := by decide +kernel
theorem dX4_odds_65 : decode cX4_odds 65 = .ok (.ifCond .ne 39, 3) := by decide +kernel
theorem dX4_odds_68 : decode cX4_odds 68 = .ok (.aload_n 0, 1) := by decide +kernel
theorem dX4_odds_69 : decode cX4_odds 69 = .ok (.getfield 27, 3) := by decide +kernel
theorem dX4_odds_72 : decode cX4_odds 72 = .ok (.getfield 104, 3) := by decide +kernel
theorem dX4_odds_75 : decode cX4_odds 75 = .ok (.aload_n 0, 1) := by decide +kernel
theorem dX4_odds_76 : decode cX4_odds 76 = .ok (.getfield 27, 3) := by decide +kernel
theorem dX4_odds_79 : decode cX4_odds 79 = .ok (.getfield 164, 3) := by decide +kernel
theorem dX4_odds_82 : decode cX4_odds 82 = .ok (.iload 6, 2) := by decide +kernel
theorem dX4_odds_84 : decode cX4_odds 84 = .ok (.ior, 1) := by decide +kernel
theorem dX4_odds_85 : decode cX4_odds 85 = .ok (.invokevirtual 209, 3) := by decide +kernel
theorem dX4_odds_88 : decode cX4_odds 88 = .ok (.iload_n 1, 1) := by decide +kernel
theorem dX4_odds_89 : decode cX4_odds 89 = .ok (.if_icmp .lt 15, 3) := by decide +kernel
theorem dX4_odds_92 : decode cX4_odds 92 = .ok (.lload 4, 2) := by decide +kernel
theorem dX4_odds_94 : decode cX4_odds 94 = .ok (.iload 6, 2) := by decide +kernel
theorem dX4_odds_96 : decode cX4_odds 96 = .ok (.iload_n 3, 1) := by decide +kernel
theorem dX4_odds_97 : decode cX4_odds 97 = .ok (.iload_n 2, 1) := by decide +kernel
theorem dX4_odds_98 : decode cX4_odds 98 = .ok (.invokestatic 253, 3) := by decide +kernel
theorem dX4_odds_101 : decode cX4_odds 101 = .ok (.ladd, 1) := by decide +kernel
theorem dX4_odds_102 : decode cX4_odds 102 = .ok (.lstore 4, 2) := by decide +kernel
theorem dX4_odds_104 : decode cX4_odds 104 = .ok (.iinc 6 1, 3) := by decide +kernel
theorem dX4_odds_107 : decode cX4_odds 107 = .ok (.goto (-54), 3) := by decide +kernel
theorem dX4_odds_110 : decode cX4_odds 110 = .ok (.aload_n 0, 1) := by decide +kernel
theorem dX4_odds_111 : decode cX4_odds 111 = .ok (.lload 4, 2) := by decide +kernel
theorem dX4_odds_113 : decode cX4_odds 113 = .ok (.ldc2_w 257, 3) := by decide +kernel
theorem dX4_odds_116 : decode cX4_odds 116 = .ok (.iload_n 3, 1) := by decide +kernel
theorem dX4_odds_117 : decode cX4_odds 117 = .ok (.invokestatic 167, 3) := by decide +kernel
theorem dX4_odds_120 : decode cX4_odds 120 = .ok (.invokestatic 259, 3) := by decide +kernel
theorem dX4_odds_123 : decode cX4_odds 123 = .ok (.invokevirtual 263, 3) := by decide +kernel
theorem dX4_odds_126 : decode cX4_odds 126 = .ok (.iconst 1, 1) := by decide +kernel
theorem dX4_odds_127 : decode cX4_odds 127 = .ok (.ireturn, 1) := by decide +kernel
def f4_tellFraction_45 (fu : Nat) (x1 : Int64) (x3 : Int64) (x7 : Int64) (M : Mem) : Option (Mem) :=
    if (lg_cmp x7 (0 : Int64)) ≤ 0 then ((some M))
    else ((dvL x1 x7).bind fun v2 =>
    nm (sL M 28 7 v2) fun M3 =>
    (dvL x3 x7).bind fun v4 =>
    nm (sL M3 28 8 v4) fun M5 =>
    (some M5))
set_option maxHeartbeats 4000000 in
set_option maxRecDepth 10000 in
theorem w4_tellFraction_45 {ad : Nat → Nat} {X : XX} {R : Mem} {fu : Nat}  (h : Cx layC ad X cX4_tellFraction RX4 12 1 none (R) none)  {x1 : Int64} {x3 : Int64} {x7 : Int64} {M : Mem} (hF : f4_tellFraction_45 fu x1 x3 x7 M = some R) : Wp layC ad X M 45 [(0, .ref (ad 28)), (1, .long x1), (3, .long x3), (7, .long x7)] [] := by
  unfold f4_tellFraction_45 at hF
  refine R_lload (pc := 45) h 3 rfl dX4_tellFraction_45 ?_
  refine R_lconst (pc := 47) (v := 0) h (by decide) dX4_tellFraction_47 ?_
  refine R_lcmp (pc := 48) h dX4_tellFraction_48 ?_
  refine R_if_le (pc := 49) (tgt := 68) h dX4_tellFraction_49 (by decide) (fun c1 => ?_) (fun c1 => ?_)
  · have hF := itp c1 hF
    cases hF
    exact R_return (pc := 68) h rfl rfl rfl dX4_tellFraction_68
  · have hF := ifn c1 hF
    refine R_aload_n (pc := 52) h 0 rfl rfl dX4_tellFraction_52 ?_
    refine R_lload_n (pc := 53) h 1 rfl rfl dX4_tellFraction_53 ?_
    refine R_lload (pc := 54) h 3 rfl dX4_tellFraction_54 ?_
    obtain ⟨v2, hv2, hF⟩ := bd hF
    refine R_ldiv (pc := 56) h hv2 dX4_tellFraction_56 ?_
    obtain ⟨M3, hM3, hF⟩ := nm_e2 hF
    refine R_putL (pc := 57) h hM3 fpX4_42 lc_28 rfl dX4_tellFraction_57 ?_
    refine R_aload_n (pc := 60) h 0 rfl rfl dX4_tellFraction_60 ?_
    refine R_lload_n (pc := 61) h 2 rfl rfl dX4_tellFraction_61 ?_
    refine R_lload (pc := 62) h 3 rfl dX4_tellFraction_62 ?_
    obtain ⟨v4, hv4, hF⟩ := bd hF
    refine R_ldiv (pc := 64) h hv4 dX4_tellFraction_64 ?_
    obtain ⟨M5, hM5, hF⟩ := nm_e2 hF
    refine R_putL (pc := 65) h hM5 fpX4_46 lc_28 rfl dX4_tellFraction_65 ?_
    cases hF
    exact R_return (pc := 68) h rfl rfl rfl dX4_tellFraction_68
def f4_tellFraction_9 (fu : Nat) : Nat → Int64 → Int64 → Int64 → Int64 → Int32 → Mem → Option (Mem)
  | 0 => fun _ _ _ _ _ _ => none
  | f + 1 => fun x1 x3 x5 x7 x9 M =>
    if (1000 : Int32) ≤ x9 then ((f4_tellFraction_45 fu x1 x3 x7 M))
    else (if (lg_cmp x5 (0 : Int64)) = 0 then ((f4_tellFraction_45 fu x1 x3 x7 M))
    else ((rmLo x7 x5).bind fun v3 =>
    nm (x9 + (1 : Int32)) fun v4 =>
    ((f4_tellFraction_9 fu f) x1 x3 v3 x5 v4 M)))
set_option maxHeartbeats 4000000 in
set_option maxRecDepth 10000 in
theorem w4_tellFractioni_9 {ad : Nat → Nat} {X : XX} {R : Mem} {fu : Nat}  (h : Cx layC ad X cX4_tellFraction RX4 12 1 none (R) none)  : ∀ (f : Nat) (x1 : Int64) (x3 : Int64) (x5 : Int64) (x7 : Int64) (x9 : Int32) (M : Mem), f4_tellFraction_9 fu f x1 x3 x5 x7 x9 M = some R → Wp layC ad X M 9 [(0, .ref (ad 28)), (1, .long x1), (3, .long x3), (5, .long x5), (7, .long x7), (9, .int x9)] [] := by
  intro f
  induction f with
  | zero => intro x1 x3 x5 x7 x9 M hF; exact absurd hF (by simp [f4_tellFraction_9])
  | succ f ih =>
    intro x1 x3 x5 x7 x9 M hF
    rw [f4_tellFraction_9] at hF
    refine R_iload (pc := 9) h 5 rfl dX4_tellFraction_9 ?_
    refine R_sipush (pc := 11) (v := 1000) h (by decide) dX4_tellFraction_11 ?_
    refine R_icmp_ge (pc := 14) (tgt := 45) h dX4_tellFraction_14 (by decide) (fun c1 => ?_) (fun c1 => ?_)
    · have hF := itp c1 hF
      exact Wp_sub (nX := 0) (lv' := [(0, .ref (ad 28)), (1, .long x1), (3, .long x3), (7, .long x7)]) [0, 1, 2, 4] rfl (w4_tellFraction_45 h  (hF := hF))
    · have hF := ifn c1 hF
      refine R_lload (pc := 17) h 3 rfl dX4_tellFraction_17 ?_
      refine R_lconst (pc := 19) (v := 0) h (by decide) dX4_tellFraction_19 ?_
      refine R_lcmp (pc := 20) h dX4_tellFraction_20 ?_
      refine R_if_eq (pc := 21) (tgt := 45) h dX4_tellFraction_21 (by decide) (fun c2 => ?_) (fun c2 => ?_)
      · have hF := itp c2 hF
        exact Wp_sub (nX := 0) (lv' := [(0, .ref (ad 28)), (1, .long x1), (3, .long x3), (7, .long x7)]) [0, 1, 2, 4] rfl (w4_tellFraction_45 h  (hF := hF))
      · have hF := ifn c2 hF
        refine R_lload (pc := 24) h 4 rfl dX4_tellFraction_24 ?_
        refine R_lload (pc := 26) h 3 rfl dX4_tellFraction_26 ?_
        obtain ⟨v3, hv3, hF⟩ := bd hF
        refine R_lrem (pc := 28) h hv3 dX4_tellFraction_28 ?_
        refine R_lstore (pc := 29) (lv' := [(10, .long v3), (0, .ref (ad 28)), (1, .long x1), (3, .long x3), (5, .long x5), (7, .long x7), (9, .int x9)]) h rfl (by decide) rfl dX4_tellFraction_29 ?_
        refine R_lload (pc := 31) h 4 rfl dX4_tellFraction_31 ?_
        refine R_lstore (pc := 33) (lv' := [(7, .long x5), (10, .long v3), (0, .ref (ad 28)), (1, .long x1), (3, .long x3), (5, .long x5), (9, .int x9)]) h rfl (by decide) rfl dX4_tellFraction_33 ?_
        refine R_lload (pc := 35) h 1 rfl dX4_tellFraction_35 ?_
        refine R_lstore (pc := 37) (lv' := [(5, .long v3), (7, .long x5), (10, .long v3), (0, .ref (ad 28)), (1, .long x1), (3, .long x3), (9, .int x9)]) h rfl (by decide) rfl dX4_tellFraction_37 ?_
        obtain ⟨v4, hv4, hF⟩ := nm_e2 hF
        refine R_iinc (pc := 39) (lv' := [(9, .int v4), (5, .long v3), (7, .long x5), (10, .long v3), (0, .ref (ad 28)), (1, .long x1), (3, .long x3)]) h 6 rfl (by decide) hv4 (by decide) rfl dX4_tellFraction_39 ?_
        refine R_goto (pc := 42) (tgt := 9) h dX4_tellFraction_42 (by decide) ?_
        exact Wp_sub (nX := 0) (lv' := [(0, .ref (ad 28)), (1, .long x1), (3, .long x3), (5, .long v3), (7, .long x5), (9, .int v4)]) [4, 5, 6, 1, 2, 0] rfl (ih _ _ _ _ _ _ hF)
theorem w4_tellFraction_9 {ad : Nat → Nat} {X : XX} {R : Mem} {fu : Nat}  (h : Cx layC ad X cX4_tellFraction RX4 12 1 none (R) none)  {f : Nat} {x1 : Int64} {x3 : Int64} {x5 : Int64} {x7 : Int64} {x9 : Int32} {M : Mem} (hF : f4_tellFraction_9 fu f x1 x3 x5 x7 x9 M = some R) : Wp layC ad X M 9 [(0, .ref (ad 28)), (1, .long x1), (3, .long x3), (5, .long x5), (7, .long x7), (9, .int x9)] [] := w4_tellFractioni_9 h  f _ _ _ _ _ _ hF
def f4_tellFraction (fu : Nat) (x1 : Int64) (x3 : Int64) (M : Mem) : Option (Mem) :=
    (f4_tellFraction_9 fu fu x1 x3 x1 x3 (0 : Int32) M)
set_option maxHeartbeats 4000000 in
set_option maxRecDepth 10000 in
theorem w4_tellFraction {ad : Nat → Nat} {X : XX} {R : Mem} {fu : Nat} (h : Cx layC ad X cX4_tellFraction RX4 12 1 none (R) none) {x1 : Int64} {x3 : Int64} {M : Mem} (hF : f4_tellFraction fu x1 x3 M = some R) : Wp layC ad X M 0 [(0, .ref (ad 28)), (1, .long x1), (3, .long x3)] [] := by
  unfold f4_tellFraction at hF
  refine R_lload_n (pc := 0) h 1 rfl rfl dX4_tellFraction_0 ?_
  refine R_lstore (pc := 1) (lv' := [(5, .long x1), (0, .ref (ad 28)), (1, .long x1), (3, .long x3)]) h rfl (by decide) rfl dX4_tellFraction_1 ?_
  refine R_lload_n (pc := 3) h 3 rfl rfl dX4_tellFraction_3 ?_
  refine R_lstore (pc := 4) (lv' := [(7, .long x3), (5, .long x1), (0, .ref (ad 28)), (1, .long x1), (3, .long x3)]) h rfl (by decide) rfl dX4_tellFraction_4 ?_
  refine R_iconst (pc := 6) (v := 0) h (by decide) dX4_tellFraction_6 ?_
  refine R_istore (pc := 7) (lv' := [(9, .int (0 : Int32)), (7, .long x3), (5, .long x1), (0, .ref (ad 28)), (1, .long x1), (3, .long x3)]) h rfl (by decide) rfl dX4_tellFraction_7 ?_
  exact Wp_sub (nX := 0) (lv' := [(0, .ref (ad 28)), (1, .long x1), (3, .long x3), (5, .long x1), (7, .long x3), (9, .int (0 : Int32))]) [3, 4, 5, 2, 1, 0] rfl (w4_tellFraction_9 h  (hF := hF))
theorem c4_tellFraction {ad : Nat → Nat} {z : ZZ} {R : Mem} {fu : Nat} {x1 : Int64} {x3 : Int64} {M : Mem} (hF : f4_tellFraction fu x1 x3 M = some R) : Con layC ad z yX4_tellFraction cX4_tellFraction 12 none 1 M [.ref (ad 28), .long x1, .long x3] (R) none := con_of (own := RX4) (lv := [(0, .ref (ad 28)), (1, .long x1), (3, .long x3)]) (by decide +kernel) rfl (Nat.le_of_ble_eq_true rfl) rfl (fun X hz h => w4_tellFraction h hF)
def f4_weigh (fu : Nat) (x0 : Int32) (x1 : Int32) (x2 : Int32) : Option (Int64) :=
    nm (x1 &&& (x0 ^^^ (-1 : Int32))) fun v1 =>
    (f6_bitCount x0).bind fun r3 =>
    (f4_power fu ((12 : Int32) - x2).toInt64 r3).bind fun r5 =>
    (f6_bitCount v1).bind fun r7 =>
    (f4_power fu x2.toInt64 r7).bind fun r9 =>
    (some (r5 * r9))
set_option maxHeartbeats 4000000 in
set_option maxRecDepth 10000 in
theorem w4_weigh {ad : Nat → Nat} {X : XX} {R : Int64} {M : Mem} {fu : Nat} (h : Cx layC ad X cX4_weigh RX4 4 2 (some .long) M (some (.long R))) {x0 : Int32} {x1 : Int32} {x2 : Int32} (hF : f4_weigh fu x0 x1 x2 = some R) : Wp layC ad X M 0 [(0, .int x0), (1, .int x1), (2, .int x2)] [] := by
  unfold f4_weigh at hF
  refine R_iload_n (pc := 0) h 1 rfl rfl dX4_weigh_0 ?_
  refine R_iload_n (pc := 1) h 0 rfl rfl dX4_weigh_1 ?_
  refine R_iconst (pc := 2) (v := (-1)) h (by decide) dX4_weigh_2 ?_
  refine R_ixor (pc := 3) h dX4_weigh_3 ?_
  refine R_iand (pc := 4) h dX4_weigh_4 ?_
  obtain ⟨v1, hv1, hF⟩ := nm_e2 hF
  refine R_istore_n (pc := 5) (lv' := [(3, .int v1), (0, .int x0), (1, .int x1), (2, .int x2)]) h hv1 rfl (by decide) rfl dX4_weigh_5 ?_
  refine R_bipush (pc := 6) (v := 12) h (by decide) dX4_weigh_6 ?_
  refine R_iload_n (pc := 8) h 3 rfl rfl dX4_weigh_8 ?_
  refine R_isub (pc := 9) h dX4_weigh_9 ?_
  refine R_i2l (pc := 10) h dX4_weigh_10 ?_
  refine R_iload_n (pc := 11) h 1 rfl rfl dX4_weigh_11 ?_
  obtain ⟨r3, hc2, hF⟩ := bd hF
  refine R_callS (pc := 12) (st := [.long ((12 : Int32) - x2).toInt64]) h [.int x0] csX4_167 (c6_bitCount (ad := ad) (z := X.1) (M := M) hc2) rfl rfl (by decide) (by decide) (Nat.le_of_ble_eq_true rfl) dX4_weigh_12 (st1 := [.int r3, .long ((12 : Int32) - x2).toInt64]) rfl ?_
  obtain ⟨r5, hc4, hF⟩ := bd hF
  refine R_callS (pc := 15) (st := []) h [.long ((12 : Int32) - x2).toInt64, .int r3] csX4_259 (c4_power (ad := ad) (z := X.1) (M := M) hc4) rfl rfl (by decide) (by decide) (Nat.le_of_ble_eq_true rfl) dX4_weigh_15 (st1 := [.long r5]) rfl ?_
  refine R_iload_n (pc := 18) h 3 rfl rfl dX4_weigh_18 ?_
  refine R_i2l (pc := 19) h dX4_weigh_19 ?_
  refine R_iload_n (pc := 20) h 0 rfl rfl dX4_weigh_20 ?_
  obtain ⟨r7, hc6, hF⟩ := bd hF
  refine R_callS (pc := 21) (st := [.long x2.toInt64, .long r5]) h [.int v1] csX4_167 (c6_bitCount (ad := ad) (z := X.1) (M := M) hc6) rfl rfl (by decide) (by decide) (Nat.le_of_ble_eq_true rfl) dX4_weigh_21 (st1 := [.int r7, .long x2.toInt64, .long r5]) rfl ?_
  obtain ⟨r9, hc8, hF⟩ := bd hF
  refine R_callS (pc := 24) (st := [.long r5]) h [.long x2.toInt64, .int r7] csX4_259 (c4_power (ad := ad) (z := X.1) (M := M) hc8) rfl rfl (by decide) (by decide) (Nat.le_of_ble_eq_true rfl) dX4_weigh_24 (st1 := [.long r9, .long r5]) rfl ?_
  refine R_lmul (pc := 27) h dX4_weigh_27 ?_
  cases hF
  exact R_lreturn (pc := 28) h rfl rfl rfl dX4_weigh_28
theorem c4_weigh {ad : Nat → Nat} {z : ZZ} {R : Int64} {M : Mem} {fu : Nat} {x0 : Int32} {x1 : Int32} {x2 : Int32} (hF : f4_weigh fu x0 x1 x2 = some R) : Con layC ad z yX4_weigh cX4_weigh 4 (some .long) 2 M [.int x0, .int x1, .int x2] (M) (some (.long R)) := con_of (own := RX4) (lv := [(0, .int x0), (1, .int x1), (2, .int x2)]) (by decide +kernel) rfl (Nat.le_of_ble_eq_true rfl) rfl (fun X hz h => w4_weigh h hF)
def f4_mid_41 (fu : Nat) : Nat → Int32 → Int32 → Int64 → Int32 → Mem → Option (Mem × Int32)
  | 0 => fun _ _ _ _ _ => none
  | f + 1 => fun x1 x2 x3 x5 M =>
    if x2 < x5 then ((f6_bitCount x2).bind fun r3 =>
    (f4_power fu (12 : Int64) r3).bind fun r5 =>
    (f4_tellFraction fu x3 r5 M).bind fun M7 =>
    (some (M7, (1 : Int32))))
    else (if (x5 &&& (x2 ^^^ (-1 : Int32))) = 0 then ((f4_weigh fu x5 x2 x1).bind fun r10 =>
    (f2_mostOf M ((M.1 33 3) ||| x5)).bind fun r12 =>
    nm (x3 + (r10 * r12.toInt64)) fun v13 =>
    nm (x5 + (1 : Int32)) fun v14 =>
    ((f4_mid_41 fu f) x1 x2 v13 v14 M))
    else (nm (x5 + (1 : Int32)) fun v15 =>
    ((f4_mid_41 fu f) x1 x2 x3 v15 M)))
set_option maxHeartbeats 4000000 in
set_option maxRecDepth 10000 in
theorem w4_midi_41 {ad : Nat → Nat} {X : XX} {R : Mem × Int32} {fu : Nat}  (h : Cx layC ad X cX4_mid RX4 6 3 (some .int) (R.1) (some (.int R.2)))  : ∀ (f : Nat) (x1 : Int32) (x2 : Int32) (x3 : Int64) (x5 : Int32) (M : Mem), f4_mid_41 fu f x1 x2 x3 x5 M = some R → Wp layC ad X M 41 [(0, .ref (ad 28)), (1, .int x1), (2, .int x2), (3, .long x3), (5, .int x5)] [] := by
  intro f
  induction f with
  | zero => intro x1 x2 x3 x5 M hF; exact absurd hF (by simp [f4_mid_41])
  | succ f ih =>
    intro x1 x2 x3 x5 M hF
    rw [f4_mid_41] at hF
    refine R_iload (pc := 41) h 4 rfl dX4_mid_41 ?_
    refine R_iload_n (pc := 43) h 2 rfl rfl dX4_mid_43 ?_
    refine R_icmp_gt (pc := 44) (tgt := 94) h dX4_mid_44 (by decide) (fun c1 => ?_) (fun c1 => ?_)
    · have hF := itp c1 hF
      refine R_aload_n (pc := 94) h 0 rfl rfl dX4_mid_94 ?_
      refine R_lload_n (pc := 95) h 3 rfl rfl dX4_mid_95 ?_
      refine R_ldc2 (pc := 96) h klX4_257 dX4_mid_96 ?_
      refine R_iload_n (pc := 99) h 2 rfl rfl dX4_mid_99 ?_
      obtain ⟨r3, hc2, hF⟩ := bd hF
      refine R_callS (pc := 100) (st := [.long (12 : Int64), .long x3, .ref (ad 28)]) h [.int x2] csX4_167 (c6_bitCount (ad := ad) (z := X.1) (M := M) hc2) rfl rfl (by decide) (by decide) (Nat.le_of_ble_eq_true rfl) dX4_mid_100 (st1 := [.int r3, .long (12 : Int64), .long x3, .ref (ad 28)]) rfl ?_
      obtain ⟨r5, hc4, hF⟩ := bd hF
      refine R_callS (pc := 103) (st := [.long x3, .ref (ad 28)]) h [.long (12 : Int64), .int r3] csX4_259 (c4_power (ad := ad) (z := X.1) (M := M) hc4) rfl rfl (by decide) (by decide) (Nat.le_of_ble_eq_true rfl) dX4_mid_103 (st1 := [.long r5, .long x3, .ref (ad 28)]) rfl ?_
      obtain ⟨M7, hc6, hF⟩ := bd hF
      refine R_callV (pc := 106) (st := []) h [.long x3, .long r5] cvX4_263 (c4_tellFraction (ad := ad) (z := X.1) hc6) rfl rfl lc_28 (by decide) (by decide) (Nat.le_of_ble_eq_true rfl) dX4_mid_106 (st1 := []) rfl ?_
      refine R_iconst (pc := 109) (v := 1) h (by decide) dX4_mid_109 ?_
      cases hF
      exact R_ireturn (pc := 110) h rfl rfl rfl dX4_mid_110
    · have hF := ifn c1 hF
      refine R_iload (pc := 47) h 4 rfl dX4_mid_47 ?_
      refine R_iload_n (pc := 49) h 2 rfl rfl dX4_mid_49 ?_
      refine R_iconst (pc := 50) (v := (-1)) h (by decide) dX4_mid_50 ?_
      refine R_ixor (pc := 51) h dX4_mid_51 ?_
      refine R_iand (pc := 52) h dX4_mid_52 ?_
      refine R_if_ne (pc := 53) (tgt := 88) h dX4_mid_53 (by decide) (fun c8 => ?_) (fun c8 => ?_)
      · have hF := ifn c8 hF
        obtain ⟨v15, hv15, hF⟩ := nm_e2 hF
        refine R_iinc (pc := 88) (lv' := [(5, .int v15), (0, .ref (ad 28)), (1, .int x1), (2, .int x2), (3, .long x3)]) h 4 rfl (by decide) hv15 (by decide) rfl dX4_mid_88 ?_
        refine R_goto (pc := 91) (tgt := 41) h dX4_mid_91 (by decide) ?_
        exact Wp_sub (nX := 0) (lv' := [(0, .ref (ad 28)), (1, .int x1), (2, .int x2), (3, .long x3), (5, .int v15)]) [1, 2, 3, 4, 0] rfl (ih _ _ _ _ _ hF)
      · have hF := itp c8 hF
        refine R_lload_n (pc := 56) h 3 rfl rfl dX4_mid_56 ?_
        refine R_iload (pc := 57) h 4 rfl dX4_mid_57 ?_
        refine R_iload_n (pc := 59) h 2 rfl rfl dX4_mid_59 ?_
        refine R_iload_n (pc := 60) h 1 rfl rfl dX4_mid_60 ?_
        obtain ⟨r10, hc9, hF⟩ := bd hF
        refine R_callS (pc := 61) (st := [.long x3]) h [.int x5, .int x2, .int x1] csX4_253 (c4_weigh (ad := ad) (z := X.1) (M := M) hc9) rfl rfl (by decide) (by decide) (Nat.le_of_ble_eq_true rfl) dX4_mid_61 (st1 := [.long r10, .long x3]) rfl ?_
        refine R_aload_n (pc := 64) h 0 rfl rfl dX4_mid_64 ?_
        refine R_getR (pc := 65) (q1 := 33) h flX4_27 lc_28 rfl dX4_mid_65 ?_
        refine R_getR (pc := 68) (q1 := 35) h flX4_104 lc_33 rfl dX4_mid_68 ?_
        refine R_aload_n (pc := 71) h 0 rfl rfl dX4_mid_71 ?_
        refine R_getR (pc := 72) (q1 := 33) h flX4_27 lc_28 rfl dX4_mid_72 ?_
        refine R_getI (pc := 75) h flX4_164 lc_33 rfl dX4_mid_75 ?_
        refine R_iload (pc := 78) h 4 rfl dX4_mid_78 ?_
        refine R_ior (pc := 80) h dX4_mid_80 ?_
        obtain ⟨r12, hc11, hF⟩ := bd hF
        refine R_callV (pc := 81) (st := [.long r10, .long x3]) h [.int ((M.1 33 3) ||| x5)] cvX4_209 (c2_mostOf (ad := ad) (z := X.1) hc11) rfl rfl lc_35 (by decide) (by decide) (Nat.le_of_ble_eq_true rfl) dX4_mid_81 (st1 := [.int r12, .long r10, .long x3]) rfl ?_
        refine R_i2l (pc := 84) h dX4_mid_84 ?_
        refine R_lmul (pc := 85) h dX4_mid_85 ?_
        refine R_ladd (pc := 86) h dX4_mid_86 ?_
        obtain ⟨v13, hv13, hF⟩ := nm_e2 hF
        refine R_lstore_n (pc := 87) (lv' := [(3, .long v13), (0, .ref (ad 28)), (1, .int x1), (2, .int x2), (5, .int x5)]) h hv13 rfl (by decide) rfl dX4_mid_87 ?_
        obtain ⟨v14, hv14, hF⟩ := nm_e2 hF
        refine R_iinc (pc := 88) (lv' := [(5, .int v14), (3, .long v13), (0, .ref (ad 28)), (1, .int x1), (2, .int x2)]) h 4 rfl (by decide) hv14 (by decide) rfl dX4_mid_88 ?_
        refine R_goto (pc := 91) (tgt := 41) h dX4_mid_91 (by decide) ?_
        exact Wp_sub (nX := 0) (lv' := [(0, .ref (ad 28)), (1, .int x1), (2, .int x2), (3, .long v13), (5, .int v14)]) [2, 3, 4, 1, 0] rfl (ih _ _ _ _ _ hF)
theorem w4_mid_41 {ad : Nat → Nat} {X : XX} {R : Mem × Int32} {fu : Nat}  (h : Cx layC ad X cX4_mid RX4 6 3 (some .int) (R.1) (some (.int R.2)))  {f : Nat} {x1 : Int32} {x2 : Int32} {x3 : Int64} {x5 : Int32} {M : Mem} (hF : f4_mid_41 fu f x1 x2 x3 x5 M = some R) : Wp layC ad X M 41 [(0, .ref (ad 28)), (1, .int x1), (2, .int x2), (3, .long x3), (5, .int x5)] [] := w4_midi_41 h  f _ _ _ _ _ hF
def f4_mid (fu : Nat) (x1 : Int32) (M : Mem) : Option (Mem × Int32) :=
    if x1 < 0 then ((some (M, (-1 : Int32))))
    else (if x1 ≤ (12 : Int32) then (if (M.1 35 0) = 0 then ((some (M, (-4 : Int32))))
    else ((f3_lying M).bind fun r5 =>
    (f4_mid_41 fu fu x1 r5 (0 : Int64) (0 : Int32) M)))
    else ((some (M, (-1 : Int32)))))
set_option maxHeartbeats 4000000 in
set_option maxRecDepth 10000 in
theorem w4_mid {ad : Nat → Nat} {X : XX} {R : Mem × Int32} {fu : Nat} (h : Cx layC ad X cX4_mid RX4 6 3 (some .int) (R.1) (some (.int R.2))) {x1 : Int32} {M : Mem} (hF : f4_mid fu x1 M = some R) : Wp layC ad X M 0 [(0, .ref (ad 28)), (1, .int x1)] [] := by
  unfold f4_mid at hF
  refine R_iload_n (pc := 0) h 1 rfl rfl dX4_mid_0 ?_
  refine R_if_lt (pc := 1) (tgt := 10) h dX4_mid_1 (by decide) (fun c1 => ?_) (fun c1 => ?_)
  · have hF := itp c1 hF
    refine R_iconst (pc := 10) (v := (-1)) h (by decide) dX4_mid_10 ?_
    cases hF
    exact R_ireturn (pc := 11) h rfl rfl rfl dX4_mid_11
  · have hF := ifn c1 hF
    refine R_iload_n (pc := 4) h 1 rfl rfl dX4_mid_4 ?_
    refine R_bipush (pc := 5) (v := 12) h (by decide) dX4_mid_5 ?_
    refine R_icmp_le (pc := 7) (tgt := 12) h dX4_mid_7 (by decide) (fun c2 => ?_) (fun c2 => ?_)
    · have hF := itp c2 hF
      refine R_aload_n (pc := 12) h 0 rfl rfl dX4_mid_12 ?_
      refine R_getR (pc := 13) (q1 := 33) h flX4_27 lc_28 rfl dX4_mid_13 ?_
      refine R_getR (pc := 16) (q1 := 35) h flX4_104 lc_33 rfl dX4_mid_16 ?_
      refine R_getI (pc := 19) h flX4_121 lc_35 rfl dX4_mid_19 ?_
      refine R_if_ne (pc := 22) (tgt := 28) h dX4_mid_22 (by decide) (fun c3 => ?_) (fun c3 => ?_)
      · have hF := ifn c3 hF
        refine R_aload_n (pc := 28) h 0 rfl rfl dX4_mid_28 ?_
        refine R_getR (pc := 29) (q1 := 33) h flX4_27 lc_28 rfl dX4_mid_29 ?_
        obtain ⟨r5, hc4, hF⟩ := bd hF
        refine R_callV (pc := 32) (st := []) h [] cvX4_212 (c3_lying (ad := ad) (z := X.1) hc4) rfl rfl lc_33 (by decide) (by decide) (Nat.le_of_ble_eq_true rfl) dX4_mid_32 (st1 := [.int r5]) rfl ?_
        refine R_istore_n (pc := 35) (lv' := [(2, .int r5), (0, .ref (ad 28)), (1, .int x1)]) h rfl rfl (by decide) rfl dX4_mid_35 ?_
        refine R_lconst (pc := 36) (v := 0) h (by decide) dX4_mid_36 ?_
        refine R_lstore_n (pc := 37) (lv' := [(3, .long (0 : Int64)), (2, .int r5), (0, .ref (ad 28)), (1, .int x1)]) h rfl rfl (by decide) rfl dX4_mid_37 ?_
        refine R_iconst (pc := 38) (v := 0) h (by decide) dX4_mid_38 ?_
        refine R_istore (pc := 39) (lv' := [(5, .int (0 : Int32)), (3, .long (0 : Int64)), (2, .int r5), (0, .ref (ad 28)), (1, .int x1)]) h rfl (by decide) rfl dX4_mid_39 ?_
        exact Wp_sub (nX := 0) (lv' := [(0, .ref (ad 28)), (1, .int x1), (2, .int r5), (3, .long (0 : Int64)), (5, .int (0 : Int32))]) [3, 4, 2, 1, 0] rfl (w4_mid_41 h  (hF := hF))
      · have hF := itp c3 hF
        refine R_bipush (pc := 25) (v := (-4)) h (by decide) dX4_mid_25 ?_
        cases hF
        exact R_ireturn (pc := 27) h rfl rfl rfl dX4_mid_27
    · have hF := ifn c2 hF
      refine R_iconst (pc := 10) (v := (-1)) h (by decide) dX4_mid_10 ?_
      cases hF
      exact R_ireturn (pc := 11) h rfl rfl rfl dX4_mid_11
theorem c4_mid {ad : Nat → Nat} {z : ZZ} {R : Mem × Int32} {fu : Nat} {x1 : Int32} {M : Mem} (hF : f4_mid fu x1 M = some R) : Con layC ad z yX4_mid cX4_mid 6 (some .int) 3 M [.ref (ad 28), .int x1] (R.1) (some (.int R.2)) := con_of (own := RX4) (lv := [(0, .ref (ad 28)), (1, .int x1)]) (by decide +kernel) rfl (Nat.le_of_ble_eq_true rfl) rfl (fun X hz h => w4_mid h hF)
def f4_upper (M : Mem) : Option (Int64) :=
    (some (M.2 28 7))
set_option maxHeartbeats 4000000 in
set_option maxRecDepth 10000 in
theorem w4_upper {ad : Nat → Nat} {X : XX} {R : Int64} {M : Mem} (h : Cx layC ad X cX4_upper RX4 1 1 (some .long) M (some (.long R)))  (hF : f4_upper M = some R) : Wp layC ad X M 0 [(0, .ref (ad 28))] [] := by
  unfold f4_upper at hF
  refine R_aload_n (pc := 0) h 0 rfl rfl dX4_upper_0 ?_
  refine R_getL (pc := 1) h flX4_42 lc_28 rfl dX4_upper_1 ?_
  cases hF
  exact R_lreturn (pc := 4) h rfl rfl rfl dX4_upper_4
theorem c4_upper {ad : Nat → Nat} {z : ZZ} {R : Int64} {M : Mem}  (hF : f4_upper M = some R) : Con layC ad z yX4_upper cX4_upper 1 (some .long) 1 M [.ref (ad 28)] (M) (some (.long R)) := con_of (own := RX4) (lv := [(0, .ref (ad 28))]) (by decide +kernel) rfl (Nat.le_of_ble_eq_true rfl) rfl (fun X hz h => w4_upper h hF)
def f4_lower (M : Mem) : Option (Int64) :=
    (some (M.2 28 8))
set_option maxHeartbeats 4000000 in
set_option maxRecDepth 10000 in
theorem w4_lower {ad : Nat → Nat} {X : XX} {R : Int64} {M : Mem} (h : Cx layC ad X cX4_lower RX4 1 1 (some .long) M (some (.long R)))  (hF : f4_lower M = some R) : Wp layC ad X M 0 [(0, .ref (ad 28))] [] := by
  unfold f4_lower at hF
  refine R_aload_n (pc := 0) h 0 rfl rfl dX4_lower_0 ?_
  refine R_getL (pc := 1) h flX4_46 lc_28 rfl dX4_lower_1 ?_
  cases hF
  exact R_lreturn (pc := 4) h rfl rfl rfl dX4_lower_4
theorem c4_lower {ad : Nat → Nat} {z : ZZ} {R : Int64} {M : Mem}  (hF : f4_lower M = some R) : Con layC ad z yX4_lower cX4_lower 1 (some .long) 1 M [.ref (ad 28)] (M) (some (.long R)) := con_of (own := RX4) (lv := [(0, .ref (ad 28))]) (by decide +kernel) rfl (Nat.le_of_ble_eq_true rfl) rfl (fun X hz h => w4_lower h hF)
def f3_deedByLot_93 (M : Mem) (fu : Nat) (s0 : Int32) : Option (Int32) :=
    if s0 = 0 then ((some (1 : Int32)))
    else ((some (0 : Int32)))
set_option maxHeartbeats 4000000 in
set_option maxRecDepth 10000 in
theorem w3_deedByLot_93 {ad : Nat → Nat} {X : XX} {R : Int32} {M : Mem} {fu : Nat}  (h : Cx layC ad X cX3_deedByLot RX3 5 4 (some .int) M (some (.int R)))  {s0 : Int32} (hF : f3_deedByLot_93 M fu s0 = some R) : Wp layC ad X M 93 [] [.int s0] := by
  unfold f3_deedByLot_93 at hF
  refine R_istore (pc := 93) (lv' := [(4, .int s0)]) h rfl (by decide) rfl dX3_deedByLot_93 ?_
  refine R_iload (pc := 95) h 0 rfl dX3_deedByLot_95 ?_
  refine R_if_eq (pc := 97) (tgt := 104) h dX3_deedByLot_97 (by decide) (fun c1 => ?_) (fun c1 => ?_)
  · have hF := itp c1 hF
    refine R_iconst (pc := 104) (v := 1) h (by decide) dX3_deedByLot_104 ?_
    cases hF
    exact R_ireturn (pc := 105) h rfl rfl rfl dX3_deedByLot_105
  · have hF := ifn c1 hF
    refine R_iconst (pc := 100) (v := 0) h (by decide) dX3_deedByLot_100 ?_
    refine R_goto (pc := 101) (tgt := 105) h dX3_deedByLot_101 (by decide) ?_
    cases hF
    exact R_ireturn (pc := 105) h rfl rfl rfl dX3_deedByLot_105
def f3_deedByLot_29 (M : Mem) (fu : Nat) (x1 : Int64) (s0 : Int32) : Option (Int32) :=
    if (((M.1 33 3) >>> (s0 &&& 31)) &&& (1 : Int32)) = 0 then ((f3_lyingHere M fu).bind fun r3 =>
    if ((r3 >>> (s0 &&& 31)) &&& (1 : Int32)) = 0 then (if (M.1 33 2) = 0 then ((f3_deedByLot_93 M fu (1 : Int32)))
    else ((rmLo x1 (2 : Int64)).bind fun v6 =>
    if (lg_cmp v6 (0 : Int64)) = 0 then (if (M.1 33 2) = (9 : Int32) then ((f3_deedByLot_93 M fu (0 : Int32)))
    else ((f3_deedByLot_93 M fu (1 : Int32))))
    else ((f3_deedByLot_93 M fu (0 : Int32)))))
    else ((some ((8 : Int32) + s0))))
    else ((some ((16 : Int32) + s0)))
set_option maxHeartbeats 4000000 in
set_option maxRecDepth 10000 in
theorem w3_deedByLot_29 {ad : Nat → Nat} {X : XX} {R : Int32} {M : Mem} {fu : Nat}  (h : Cx layC ad X cX3_deedByLot RX3 5 4 (some .int) M (some (.int R)))  {x1 : Int64} {s0 : Int32} (hF : f3_deedByLot_29 M fu x1 s0 = some R) : Wp layC ad X M 29 [(0, .ref (ad 33)), (1, .long x1)] [.int s0] := by
  unfold f3_deedByLot_29 at hF
  refine R_istore_n (pc := 29) (lv' := [(3, .int s0), (0, .ref (ad 33)), (1, .long x1)]) h rfl rfl (by decide) rfl dX3_deedByLot_29 ?_
  refine R_aload_n (pc := 30) h 1 rfl rfl dX3_deedByLot_30 ?_
  refine R_getI (pc := 31) h flX3_29 lc_33 rfl dX3_deedByLot_31 ?_
  refine R_iload_n (pc := 34) h 0 rfl rfl dX3_deedByLot_34 ?_
  refine R_ishr (pc := 35) h dX3_deedByLot_35 ?_
  refine R_iconst (pc := 36) (v := 1) h (by decide) dX3_deedByLot_36 ?_
  refine R_iand (pc := 37) h dX3_deedByLot_37 ?_
  refine R_if_eq (pc := 38) (tgt := 46) h dX3_deedByLot_38 (by decide) (fun c1 => ?_) (fun c1 => ?_)
  · have hF := itp c1 hF
    refine R_aload_n (pc := 46) h 1 rfl rfl dX3_deedByLot_46 ?_
    obtain ⟨r3, hc2, hF⟩ := bd hF
    refine R_callV (pc := 47) (st := []) h [] cvX3_61 (c3_lyingHere (ad := ad) (z := X.1) hc2) rfl rfl lc_33 (by decide) (by decide) (Nat.le_of_ble_eq_true rfl) dX3_deedByLot_47 (st1 := [.int r3]) rfl ?_
    refine R_iload_n (pc := 50) h 0 rfl rfl dX3_deedByLot_50 ?_
    refine R_ishr (pc := 51) h dX3_deedByLot_51 ?_
    refine R_iconst (pc := 52) (v := 1) h (by decide) dX3_deedByLot_52 ?_
    refine R_iand (pc := 53) h dX3_deedByLot_53 ?_
    refine R_if_eq (pc := 54) (tgt := 62) h dX3_deedByLot_54 (by decide) (fun c4 => ?_) (fun c4 => ?_)
    · have hF := itp c4 hF
      refine R_aload_n (pc := 62) h 1 rfl rfl dX3_deedByLot_62 ?_
      refine R_getI (pc := 63) h flX3_25 lc_33 rfl dX3_deedByLot_63 ?_
      refine R_if_eq (pc := 66) (tgt := 88) h dX3_deedByLot_66 (by decide) (fun c5 => ?_) (fun c5 => ?_)
      · have hF := itp c5 hF
        refine R_iconst (pc := 88) (v := 1) h (by decide) dX3_deedByLot_88 ?_
        refine R_goto (pc := 89) (tgt := 93) h dX3_deedByLot_89 (by decide) ?_
        exact Wp_sub (nX := 0) (lv' := []) [] rfl (w3_deedByLot_93 h  (hF := hF))
      · have hF := ifn c5 hF
        refine R_lload_n (pc := 69) h 2 rfl rfl dX3_deedByLot_69 ?_
        refine R_ldc2 (pc := 70) h klX3_70 dX3_deedByLot_70 ?_
        obtain ⟨v6, hv6, hF⟩ := bd hF
        refine R_lrem (pc := 73) h hv6 dX3_deedByLot_73 ?_
        refine R_lconst (pc := 74) (v := 0) h (by decide) dX3_deedByLot_74 ?_
        refine R_lcmp (pc := 75) h dX3_deedByLot_75 ?_
        refine R_if_ne (pc := 76) (tgt := 92) h dX3_deedByLot_76 (by decide) (fun c7 => ?_) (fun c7 => ?_)
        · have hF := ifn c7 hF
          refine R_iconst (pc := 92) (v := 0) h (by decide) dX3_deedByLot_92 ?_
          exact Wp_sub (nX := 0) (lv' := []) [] rfl (w3_deedByLot_93 h  (hF := hF))
        · have hF := itp c7 hF
          refine R_aload_n (pc := 79) h 1 rfl rfl dX3_deedByLot_79 ?_
          refine R_getI (pc := 80) h flX3_25 lc_33 rfl dX3_deedByLot_80 ?_
          refine R_bipush (pc := 83) (v := 9) h (by decide) dX3_deedByLot_83 ?_
          refine R_icmp_eq (pc := 85) (tgt := 92) h dX3_deedByLot_85 (by decide) (fun c8 => ?_) (fun c8 => ?_)
          · have hF := itp c8 hF
            refine R_iconst (pc := 92) (v := 0) h (by decide) dX3_deedByLot_92 ?_
            exact Wp_sub (nX := 0) (lv' := []) [] rfl (w3_deedByLot_93 h  (hF := hF))
          · have hF := ifn c8 hF
            refine R_iconst (pc := 88) (v := 1) h (by decide) dX3_deedByLot_88 ?_
            refine R_goto (pc := 89) (tgt := 93) h dX3_deedByLot_89 (by decide) ?_
            exact Wp_sub (nX := 0) (lv' := []) [] rfl (w3_deedByLot_93 h  (hF := hF))
    · have hF := ifn c4 hF
      refine R_bipush (pc := 57) (v := 8) h (by decide) dX3_deedByLot_57 ?_
      refine R_iload_n (pc := 59) h 0 rfl rfl dX3_deedByLot_59 ?_
      refine R_iadd (pc := 60) h dX3_deedByLot_60 ?_
      cases hF
      exact R_ireturn (pc := 61) h rfl rfl rfl dX3_deedByLot_61
  · have hF := ifn c1 hF
    refine R_bipush (pc := 41) (v := 16) h (by decide) dX3_deedByLot_41 ?_
    refine R_iload_n (pc := 43) h 0 rfl rfl dX3_deedByLot_43 ?_
    refine R_iadd (pc := 44) h dX3_deedByLot_44 ?_
    cases hF
    exact R_ireturn (pc := 45) h rfl rfl rfl dX3_deedByLot_45
def f3_deedByLot (M : Mem) (fu : Nat) (x1 : Int64) : Option (Int32) :=
    if (M.1 35 0) ≤ 0 then ((f3_deedByLot_29 M fu x1 (0 : Int32)))
    else ((dvL x1 (8 : Int64)).bind fun v2 =>
    (rmLo v2 (M.1 35 0).toInt64).bind fun v3 =>
    (f3_deedByLot_29 M fu x1 v3.toInt32))
set_option maxHeartbeats 4000000 in
set_option maxRecDepth 10000 in
theorem w3_deedByLot {ad : Nat → Nat} {X : XX} {R : Int32} {M : Mem} {fu : Nat} (h : Cx layC ad X cX3_deedByLot RX3 5 4 (some .int) M (some (.int R))) {x1 : Int64} (hF : f3_deedByLot M fu x1 = some R) : Wp layC ad X M 0 [(0, .ref (ad 33)), (1, .long x1)] [] := by
  unfold f3_deedByLot at hF
  refine R_aload_n (pc := 0) h 0 rfl rfl dX3_deedByLot_0 ?_
  refine R_getR (pc := 1) (q1 := 35) h flX3_12 lc_33 rfl dX3_deedByLot_1 ?_
  refine R_getI (pc := 4) h flX3_46 lc_35 rfl dX3_deedByLot_4 ?_
  refine R_if_le (pc := 7) (tgt := 28) h dX3_deedByLot_7 (by decide) (fun c1 => ?_) (fun c1 => ?_)
  · have hF := itp c1 hF
    refine R_iconst (pc := 28) (v := 0) h (by decide) dX3_deedByLot_28 ?_
    exact Wp_sub (nX := 0) (lv' := [(0, .ref (ad 33)), (1, .long x1)]) [0, 1] rfl (w3_deedByLot_29 h  (hF := hF))
  · have hF := ifn c1 hF
    refine R_lload_n (pc := 10) h 1 rfl rfl dX3_deedByLot_10 ?_
    refine R_ldc2 (pc := 11) h klX3_68 dX3_deedByLot_11 ?_
    obtain ⟨v2, hv2, hF⟩ := bd hF
    refine R_ldiv (pc := 14) h hv2 dX3_deedByLot_14 ?_
    refine R_aload_n (pc := 15) h 0 rfl rfl dX3_deedByLot_15 ?_
    refine R_getR (pc := 16) (q1 := 35) h flX3_12 lc_33 rfl dX3_deedByLot_16 ?_
    refine R_getI (pc := 19) h flX3_46 lc_35 rfl dX3_deedByLot_19 ?_
    refine R_i2l (pc := 22) h dX3_deedByLot_22 ?_
    obtain ⟨v3, hv3, hF⟩ := bd hF
    refine R_lrem (pc := 23) h hv3 dX3_deedByLot_23 ?_
    refine R_l2i (pc := 24) h dX3_deedByLot_24 ?_
    refine R_goto (pc := 25) (tgt := 29) h dX3_deedByLot_25 (by decide) ?_
    exact Wp_sub (nX := 0) (lv' := [(0, .ref (ad 33)), (1, .long x1)]) [0, 1] rfl (w3_deedByLot_29 h  (hF := hF))
theorem c3_deedByLot {ad : Nat → Nat} {z : ZZ} {R : Int32} {M : Mem} {fu : Nat} {x1 : Int64} (hF : f3_deedByLot M fu x1 = some R) : Con layC ad z yX3_deedByLot cX3_deedByLot 5 (some .int) 4 M [.ref (ad 33), .long x1] (M) (some (.int R)) := con_of (own := RX3) (lv := [(0, .ref (ad 33)), (1, .long x1)]) (by decide +kernel) rfl (Nat.le_of_ble_eq_true rfl) rfl (fun X hz h => w3_deedByLot h hF)
def f4_lots_61 (fu : Nat) : Nat → Int32 → Int64 → Int32 → Mem → Option (Mem × Int32)
  | 0 => fun _ _ _ _ => none
  | f + 1 => fun x1 x3 x5 M =>
    if x1 ≤ x5 then ((some (M, (M.1 33 2))))
    else ((rmLo (x3 * (48271 : Int64)) (2147483647 : Int64)).bind fun v2 =>
    (f3_deedByLot M fu v2).bind fun r4 =>
    (f3_enact fu r4 M).bind fun M6 =>
    nm (x5 + (1 : Int32)) fun v7 =>
    ((f4_lots_61 fu f) x1 v2 v7 M6))
set_option maxHeartbeats 4000000 in
set_option maxRecDepth 10000 in
theorem w4_lotsi_61 {ad : Nat → Nat} {X : XX} {R : Mem × Int32} {fu : Nat}  (h : Cx layC ad X cX4_lots RX4 6 6 (some .int) (R.1) (some (.int R.2)))  : ∀ (f : Nat) (x1 : Int32) (x3 : Int64) (x5 : Int32) (M : Mem), f4_lots_61 fu f x1 x3 x5 M = some R → Wp layC ad X M 61 [(0, .ref (ad 28)), (1, .int x1), (3, .long x3), (5, .int x5)] [] := by
  intro f
  induction f with
  | zero => intro x1 x3 x5 M hF; exact absurd hF (by simp [f4_lots_61])
  | succ f ih =>
    intro x1 x3 x5 M hF
    rw [f4_lots_61] at hF
    refine R_iload (pc := 61) h 3 rfl dX4_lots_61 ?_
    refine R_iload_n (pc := 63) h 1 rfl rfl dX4_lots_63 ?_
    refine R_icmp_ge (pc := 64) (tgt := 98) h dX4_lots_64 (by decide) (fun c1 => ?_) (fun c1 => ?_)
    · have hF := itp c1 hF
      refine R_aload_n (pc := 98) h 0 rfl rfl dX4_lots_98 ?_
      refine R_getR (pc := 99) (q1 := 33) h flX4_27 lc_28 rfl dX4_lots_99 ?_
      refine R_getI (pc := 102) h flX4_151 lc_33 rfl dX4_lots_102 ?_
      cases hF
      exact R_ireturn (pc := 105) h rfl rfl rfl dX4_lots_105
    · have hF := ifn c1 hF
      refine R_lload_n (pc := 67) h 2 rfl rfl dX4_lots_67 ?_
      refine R_ldc2 (pc := 68) h klX4_268 dX4_lots_68 ?_
      refine R_lmul (pc := 71) h dX4_lots_71 ?_
      refine R_ldc2 (pc := 72) h klX4_270 dX4_lots_72 ?_
      obtain ⟨v2, hv2, hF⟩ := bd hF
      refine R_lrem (pc := 75) h hv2 dX4_lots_75 ?_
      refine R_lstore_n (pc := 76) (lv' := [(3, .long v2), (0, .ref (ad 28)), (1, .int x1), (5, .int x5)]) h rfl rfl (by decide) rfl dX4_lots_76 ?_
      refine R_aload_n (pc := 77) h 1 rfl rfl dX4_lots_77 ?_
      refine R_getR (pc := 78) (q1 := 33) h flX4_27 lc_28 rfl dX4_lots_78 ?_
      refine R_aload_n (pc := 81) h 1 rfl rfl dX4_lots_81 ?_
      refine R_getR (pc := 82) (q1 := 33) h flX4_27 lc_28 rfl dX4_lots_82 ?_
      refine R_lload_n (pc := 85) h 0 rfl rfl dX4_lots_85 ?_
      obtain ⟨r4, hc3, hF⟩ := bd hF
      refine R_callV (pc := 86) (st := [.ref (ad 33)]) h [.long v2] cvX4_272 (c3_deedByLot (ad := ad) (z := X.1) hc3) rfl rfl lc_33 (by decide) (by decide) (Nat.le_of_ble_eq_true rfl) dX4_lots_86 (st1 := [.int r4, .ref (ad 33)]) rfl ?_
      obtain ⟨M6, hc5, hF⟩ := bd hF
      refine R_callV (pc := 89) (st := []) h [.int r4] cvX4_157 (c3_enact (ad := ad) (z := X.1) hc5) rfl rfl lc_33 (by decide) (by decide) (Nat.le_of_ble_eq_true rfl) dX4_lots_89 (st1 := []) rfl ?_
      obtain ⟨v7, hv7, hF⟩ := nm_e2 hF
      refine R_iinc (pc := 92) (lv' := [(5, .int v7), (3, .long v2), (0, .ref (ad 28)), (1, .int x1)]) h 3 rfl (by decide) hv7 (by decide) rfl dX4_lots_92 ?_
      refine R_goto (pc := 95) (tgt := 61) h dX4_lots_95 (by decide) ?_
      exact Wp_sub (nX := 0) (lv' := [(0, .ref (ad 28)), (1, .int x1), (3, .long v2), (5, .int v7)]) [2, 3, 1, 0] rfl (ih _ _ _ _ hF)
theorem w4_lots_61 {ad : Nat → Nat} {X : XX} {R : Mem × Int32} {fu : Nat}  (h : Cx layC ad X cX4_lots RX4 6 6 (some .int) (R.1) (some (.int R.2)))  {f : Nat} {x1 : Int32} {x3 : Int64} {x5 : Int32} {M : Mem} (hF : f4_lots_61 fu f x1 x3 x5 M = some R) : Wp layC ad X M 61 [(0, .ref (ad 28)), (1, .int x1), (3, .long x3), (5, .int x5)] [] := w4_lotsi_61 h  f _ _ _ _ hF
def f4_lots (fu : Nat) (x1 : Int32) (x2 : Int32) (M : Mem) : Option (Mem × Int32) :=
    if x1 < (1 : Int32) then ((some (M, (-1 : Int32))))
    else (if (20 : Int32) < x1 then ((some (M, (-1 : Int32))))
    else (if x2 < (1 : Int32) then ((some (M, (-1 : Int32))))
    else (if x2 < (2147483647 : Int32) then (if (M.1 35 0) = 0 then ((some (M, (-4 : Int32))))
    else ((f3_hasRoomFor M x1).bind fun r7 =>
    if r7 = 0 then ((some (M, (-2 : Int32))))
    else (nm x2.toInt64 fun v9 =>
    (f4_lots_61 fu fu x1 v9 (0 : Int32) M))))
    else ((some (M, (-1 : Int32)))))))
set_option maxHeartbeats 4000000 in
set_option maxRecDepth 10000 in
theorem w4_lots {ad : Nat → Nat} {X : XX} {R : Mem × Int32} {fu : Nat} (h : Cx layC ad X cX4_lots RX4 6 6 (some .int) (R.1) (some (.int R.2))) {x1 : Int32} {x2 : Int32} {M : Mem} (hF : f4_lots fu x1 x2 M = some R) : Wp layC ad X M 0 [(0, .ref (ad 28)), (1, .int x1), (2, .int x2)] [] := by
  unfold f4_lots at hF
  refine R_iload_n (pc := 0) h 1 rfl rfl dX4_lots_0 ?_
  refine R_iconst (pc := 1) (v := 1) h (by decide) dX4_lots_1 ?_
  refine R_icmp_lt (pc := 2) (tgt := 23) h dX4_lots_2 (by decide) (fun c1 => ?_) (fun c1 => ?_)
  · have hF := itp c1 hF
    refine R_iconst (pc := 23) (v := (-1)) h (by decide) dX4_lots_23 ?_
    cases hF
    exact R_ireturn (pc := 24) h rfl rfl rfl dX4_lots_24
  · have hF := ifn c1 hF
    refine R_iload_n (pc := 5) h 1 rfl rfl dX4_lots_5 ?_
    refine R_bipush (pc := 6) (v := 20) h (by decide) dX4_lots_6 ?_
    refine R_icmp_gt (pc := 8) (tgt := 23) h dX4_lots_8 (by decide) (fun c2 => ?_) (fun c2 => ?_)
    · have hF := itp c2 hF
      refine R_iconst (pc := 23) (v := (-1)) h (by decide) dX4_lots_23 ?_
      cases hF
      exact R_ireturn (pc := 24) h rfl rfl rfl dX4_lots_24
    · have hF := ifn c2 hF
      refine R_iload_n (pc := 11) h 2 rfl rfl dX4_lots_11 ?_
      refine R_iconst (pc := 12) (v := 1) h (by decide) dX4_lots_12 ?_
      refine R_icmp_lt (pc := 13) (tgt := 23) h dX4_lots_13 (by decide) (fun c3 => ?_) (fun c3 => ?_)
      · have hF := itp c3 hF
        refine R_iconst (pc := 23) (v := (-1)) h (by decide) dX4_lots_23 ?_
        cases hF
        exact R_ireturn (pc := 24) h rfl rfl rfl dX4_lots_24
      · have hF := ifn c3 hF
        refine R_iload_n (pc := 16) h 2 rfl rfl dX4_lots_16 ?_
        refine R_ldcw (pc := 17) h kiX4_267 dX4_lots_17 ?_
        refine R_icmp_lt (pc := 20) (tgt := 25) h dX4_lots_20 (by decide) (fun c4 => ?_) (fun c4 => ?_)
        · have hF := itp c4 hF
          refine R_aload_n (pc := 25) h 0 rfl rfl dX4_lots_25 ?_
          refine R_getR (pc := 26) (q1 := 33) h flX4_27 lc_28 rfl dX4_lots_26 ?_
          refine R_getR (pc := 29) (q1 := 35) h flX4_104 lc_33 rfl dX4_lots_29 ?_
          refine R_getI (pc := 32) h flX4_121 lc_35 rfl dX4_lots_32 ?_
          refine R_if_ne (pc := 35) (tgt := 41) h dX4_lots_35 (by decide) (fun c5 => ?_) (fun c5 => ?_)
          · have hF := ifn c5 hF
            refine R_aload_n (pc := 41) h 0 rfl rfl dX4_lots_41 ?_
            refine R_getR (pc := 42) (q1 := 33) h flX4_27 lc_28 rfl dX4_lots_42 ?_
            refine R_iload_n (pc := 45) h 1 rfl rfl dX4_lots_45 ?_
            obtain ⟨r7, hc6, hF⟩ := bd hF
            refine R_callV (pc := 46) (st := []) h [.int x1] cvX4_154 (c3_hasRoomFor (ad := ad) (z := X.1) hc6) rfl rfl lc_33 (by decide) (by decide) (Nat.le_of_ble_eq_true rfl) dX4_lots_46 (st1 := [.int r7]) rfl ?_
            refine R_if_ne (pc := 49) (tgt := 55) h dX4_lots_49 (by decide) (fun c8 => ?_) (fun c8 => ?_)
            · have hF := ifn c8 hF
              refine R_iload_n (pc := 55) h 2 rfl rfl dX4_lots_55 ?_
              refine R_i2l (pc := 56) h dX4_lots_56 ?_
              obtain ⟨v9, hv9, hF⟩ := nm_e2 hF
              refine R_lstore_n (pc := 57) (lv' := [(3, .long v9), (0, .ref (ad 28)), (1, .int x1), (2, .int x2)]) h hv9 rfl (by decide) rfl dX4_lots_57 ?_
              refine R_iconst (pc := 58) (v := 0) h (by decide) dX4_lots_58 ?_
              refine R_istore (pc := 59) (lv' := [(5, .int (0 : Int32)), (3, .long v9), (0, .ref (ad 28)), (1, .int x1), (2, .int x2)]) h rfl (by decide) rfl dX4_lots_59 ?_
              exact Wp_sub (nX := 0) (lv' := [(0, .ref (ad 28)), (1, .int x1), (3, .long v9), (5, .int (0 : Int32))]) [2, 3, 1, 0] rfl (w4_lots_61 h  (hF := hF))
            · have hF := itp c8 hF
              refine R_bipush (pc := 52) (v := (-2)) h (by decide) dX4_lots_52 ?_
              cases hF
              exact R_ireturn (pc := 54) h rfl rfl rfl dX4_lots_54
          · have hF := itp c5 hF
            refine R_bipush (pc := 38) (v := (-4)) h (by decide) dX4_lots_38 ?_
            cases hF
            exact R_ireturn (pc := 40) h rfl rfl rfl dX4_lots_40
        · have hF := ifn c4 hF
          refine R_iconst (pc := 23) (v := (-1)) h (by decide) dX4_lots_23 ?_
          cases hF
          exact R_ireturn (pc := 24) h rfl rfl rfl dX4_lots_24
theorem c4_lots {ad : Nat → Nat} {z : ZZ} {R : Mem × Int32} {fu : Nat} {x1 : Int32} {x2 : Int32} {M : Mem} (hF : f4_lots fu x1 x2 M = some R) : Con layC ad z yX4_lots cX4_lots 6 (some .int) 6 M [.ref (ad 28), .int x1, .int x2] (R.1) (some (.int R.2)) := con_of (own := RX4) (lv := [(0, .ref (ad 28)), (1, .int x1), (2, .int x2)]) (by decide +kernel) rfl (Nat.le_of_ble_eq_true rfl) rfl (fun X hz h => w4_lots h hF)
def f4_odds_53 (fu : Nat) : Nat → Int32 → Int32 → Int32 → Int64 → Int32 → Mem → Option (Mem × Int32)
  | 0 => fun _ _ _ _ _ _ => none
  | f + 1 => fun x1 x2 x3 x4 x6 M =>
    if x3 < x6 then ((f6_bitCount x3).bind fun r3 =>
    (f4_power fu (12 : Int64) r3).bind fun r5 =>
    (f4_tellFraction fu x4 r5 M).bind fun M7 =>
    (some (M7, (1 : Int32))))
    else (if (x6 &&& (x3 ^^^ (-1 : Int32))) = 0 then ((f2_mostOf M ((M.1 33 3) ||| x6)).bind fun r10 =>
    if r10 < x1 then (nm (x6 + (1 : Int32)) fun v12 =>
    ((f4_odds_53 fu f) x1 x2 x3 x4 v12 M))
    else ((f4_weigh fu x6 x3 x2).bind fun r14 =>
    nm (x4 + r14) fun v15 =>
    nm (x6 + (1 : Int32)) fun v16 =>
    ((f4_odds_53 fu f) x1 x2 x3 v15 v16 M)))
    else (nm (x6 + (1 : Int32)) fun v17 =>
    ((f4_odds_53 fu f) x1 x2 x3 x4 v17 M)))
set_option maxHeartbeats 4000000 in
set_option maxRecDepth 10000 in
theorem w4_oddsi_53 {ad : Nat → Nat} {X : XX} {R : Mem × Int32} {fu : Nat}  (h : Cx layC ad X cX4_odds RX4 7 3 (some .int) (R.1) (some (.int R.2)))  : ∀ (f : Nat) (x1 : Int32) (x2 : Int32) (x3 : Int32) (x4 : Int64) (x6 : Int32) (M : Mem), f4_odds_53 fu f x1 x2 x3 x4 x6 M = some R → Wp layC ad X M 53 [(0, .ref (ad 28)), (1, .int x1), (2, .int x2), (3, .int x3), (4, .long x4), (6, .int x6)] [] := by
  intro f
  induction f with
  | zero => intro x1 x2 x3 x4 x6 M hF; exact absurd hF (by simp [f4_odds_53])
  | succ f ih =>
    intro x1 x2 x3 x4 x6 M hF
    rw [f4_odds_53] at hF
    refine R_iload (pc := 53) h 5 rfl dX4_odds_53 ?_
    refine R_iload_n (pc := 55) h 3 rfl rfl dX4_odds_55 ?_
    refine R_icmp_gt (pc := 56) (tgt := 110) h dX4_odds_56 (by decide) (fun c1 => ?_) (fun c1 => ?_)
    · have hF := itp c1 hF
      refine R_aload_n (pc := 110) h 0 rfl rfl dX4_odds_110 ?_
      refine R_lload (pc := 111) h 4 rfl dX4_odds_111 ?_
      refine R_ldc2 (pc := 113) h klX4_257 dX4_odds_113 ?_
      refine R_iload_n (pc := 116) h 3 rfl rfl dX4_odds_116 ?_
      obtain ⟨r3, hc2, hF⟩ := bd hF
      refine R_callS (pc := 117) (st := [.long (12 : Int64), .long x4, .ref (ad 28)]) h [.int x3] csX4_167 (c6_bitCount (ad := ad) (z := X.1) (M := M) hc2) rfl rfl (by decide) (by decide) (Nat.le_of_ble_eq_true rfl) dX4_odds_117 (st1 := [.int r3, .long (12 : Int64), .long x4, .ref (ad 28)]) rfl ?_
      obtain ⟨r5, hc4, hF⟩ := bd hF
      refine R_callS (pc := 120) (st := [.long x4, .ref (ad 28)]) h [.long (12 : Int64), .int r3] csX4_259 (c4_power (ad := ad) (z := X.1) (M := M) hc4) rfl rfl (by decide) (by decide) (Nat.le_of_ble_eq_true rfl) dX4_odds_120 (st1 := [.long r5, .long x4, .ref (ad 28)]) rfl ?_
      obtain ⟨M7, hc6, hF⟩ := bd hF
      refine R_callV (pc := 123) (st := []) h [.long x4, .long r5] cvX4_263 (c4_tellFraction (ad := ad) (z := X.1) hc6) rfl rfl lc_28 (by decide) (by decide) (Nat.le_of_ble_eq_true rfl) dX4_odds_123 (st1 := []) rfl ?_
      refine R_iconst (pc := 126) (v := 1) h (by decide) dX4_odds_126 ?_
      cases hF
      exact R_ireturn (pc := 127) h rfl rfl rfl dX4_odds_127
    · have hF := ifn c1 hF
      refine R_iload (pc := 59) h 5 rfl dX4_odds_59 ?_
      refine R_iload_n (pc := 61) h 3 rfl rfl dX4_odds_61 ?_
      refine R_iconst (pc := 62) (v := (-1)) h (by decide) dX4_odds_62 ?_
      refine R_ixor (pc := 63) h dX4_odds_63 ?_
      refine R_iand (pc := 64) h dX4_odds_64 ?_
      refine R_if_ne (pc := 65) (tgt := 104) h dX4_odds_65 (by decide) (fun c8 => ?_) (fun c8 => ?_)
      · have hF := ifn c8 hF
        obtain ⟨v17, hv17, hF⟩ := nm_e2 hF
        refine R_iinc (pc := 104) (lv' := [(6, .int v17), (0, .ref (ad 28)), (1, .int x1), (2, .int x2), (3, .int x3), (4, .long x4)]) h 5 rfl (by decide) hv17 (by decide) rfl dX4_odds_104 ?_
        refine R_goto (pc := 107) (tgt := 53) h dX4_odds_107 (by decide) ?_
        exact Wp_sub (nX := 0) (lv' := [(0, .ref (ad 28)), (1, .int x1), (2, .int x2), (3, .int x3), (4, .long x4), (6, .int v17)]) [1, 2, 3, 4, 5, 0] rfl (ih _ _ _ _ _ _ hF)
      · have hF := itp c8 hF
        refine R_aload_n (pc := 68) h 0 rfl rfl dX4_odds_68 ?_
        refine R_getR (pc := 69) (q1 := 33) h flX4_27 lc_28 rfl dX4_odds_69 ?_
        refine R_getR (pc := 72) (q1 := 35) h flX4_104 lc_33 rfl dX4_odds_72 ?_
        refine R_aload_n (pc := 75) h 0 rfl rfl dX4_odds_75 ?_
        refine R_getR (pc := 76) (q1 := 33) h flX4_27 lc_28 rfl dX4_odds_76 ?_
        refine R_getI (pc := 79) h flX4_164 lc_33 rfl dX4_odds_79 ?_
        refine R_iload (pc := 82) h 5 rfl dX4_odds_82 ?_
        refine R_ior (pc := 84) h dX4_odds_84 ?_
        obtain ⟨r10, hc9, hF⟩ := bd hF
        refine R_callV (pc := 85) (st := []) h [.int ((M.1 33 3) ||| x6)] cvX4_209 (c2_mostOf (ad := ad) (z := X.1) hc9) rfl rfl lc_35 (by decide) (by decide) (Nat.le_of_ble_eq_true rfl) dX4_odds_85 (st1 := [.int r10]) rfl ?_
        refine R_iload_n (pc := 88) h 1 rfl rfl dX4_odds_88 ?_
        refine R_icmp_lt (pc := 89) (tgt := 104) h dX4_odds_89 (by decide) (fun c11 => ?_) (fun c11 => ?_)
        · have hF := itp c11 hF
          obtain ⟨v12, hv12, hF⟩ := nm_e2 hF
          refine R_iinc (pc := 104) (lv' := [(6, .int v12), (0, .ref (ad 28)), (1, .int x1), (2, .int x2), (3, .int x3), (4, .long x4)]) h 5 rfl (by decide) hv12 (by decide) rfl dX4_odds_104 ?_
          refine R_goto (pc := 107) (tgt := 53) h dX4_odds_107 (by decide) ?_
          exact Wp_sub (nX := 0) (lv' := [(0, .ref (ad 28)), (1, .int x1), (2, .int x2), (3, .int x3), (4, .long x4), (6, .int v12)]) [1, 2, 3, 4, 5, 0] rfl (ih _ _ _ _ _ _ hF)
        · have hF := ifn c11 hF
          refine R_lload (pc := 92) h 4 rfl dX4_odds_92 ?_
          refine R_iload (pc := 94) h 5 rfl dX4_odds_94 ?_
          refine R_iload_n (pc := 96) h 3 rfl rfl dX4_odds_96 ?_
          refine R_iload_n (pc := 97) h 2 rfl rfl dX4_odds_97 ?_
          obtain ⟨r14, hc13, hF⟩ := bd hF
          refine R_callS (pc := 98) (st := [.long x4]) h [.int x6, .int x3, .int x2] csX4_253 (c4_weigh (ad := ad) (z := X.1) (M := M) hc13) rfl rfl (by decide) (by decide) (Nat.le_of_ble_eq_true rfl) dX4_odds_98 (st1 := [.long r14, .long x4]) rfl ?_
          refine R_ladd (pc := 101) h dX4_odds_101 ?_
          obtain ⟨v15, hv15, hF⟩ := nm_e2 hF
          refine R_lstore (pc := 102) (lv' := [(4, .long v15), (0, .ref (ad 28)), (1, .int x1), (2, .int x2), (3, .int x3), (6, .int x6)]) h hv15 (by decide) rfl dX4_odds_102 ?_
          obtain ⟨v16, hv16, hF⟩ := nm_e2 hF
          refine R_iinc (pc := 104) (lv' := [(6, .int v16), (4, .long v15), (0, .ref (ad 28)), (1, .int x1), (2, .int x2), (3, .int x3)]) h 5 rfl (by decide) hv16 (by decide) rfl dX4_odds_104 ?_
          refine R_goto (pc := 107) (tgt := 53) h dX4_odds_107 (by decide) ?_
          exact Wp_sub (nX := 0) (lv' := [(0, .ref (ad 28)), (1, .int x1), (2, .int x2), (3, .int x3), (4, .long v15), (6, .int v16)]) [2, 3, 4, 5, 1, 0] rfl (ih _ _ _ _ _ _ hF)
theorem w4_odds_53 {ad : Nat → Nat} {X : XX} {R : Mem × Int32} {fu : Nat}  (h : Cx layC ad X cX4_odds RX4 7 3 (some .int) (R.1) (some (.int R.2)))  {f : Nat} {x1 : Int32} {x2 : Int32} {x3 : Int32} {x4 : Int64} {x6 : Int32} {M : Mem} (hF : f4_odds_53 fu f x1 x2 x3 x4 x6 M = some R) : Wp layC ad X M 53 [(0, .ref (ad 28)), (1, .int x1), (2, .int x2), (3, .int x3), (4, .long x4), (6, .int x6)] [] := w4_oddsi_53 h  f _ _ _ _ _ _ hF
def f4_odds (fu : Nat) (x1 : Int32) (x2 : Int32) (M : Mem) : Option (Mem × Int32) :=
    if x1 < 0 then ((some (M, (-1 : Int32))))
    else (if (200 : Int32) < x1 then ((some (M, (-1 : Int32))))
    else (if x2 < 0 then ((some (M, (-1 : Int32))))
    else (if x2 ≤ (12 : Int32) then (if (M.1 35 0) = 0 then ((some (M, (-4 : Int32))))
    else ((f3_lying M).bind fun r7 =>
    (f4_odds_53 fu fu x1 x2 r7 (0 : Int64) (0 : Int32) M)))
    else ((some (M, (-1 : Int32)))))))
set_option maxHeartbeats 4000000 in
set_option maxRecDepth 10000 in
theorem w4_odds {ad : Nat → Nat} {X : XX} {R : Mem × Int32} {fu : Nat} (h : Cx layC ad X cX4_odds RX4 7 3 (some .int) (R.1) (some (.int R.2))) {x1 : Int32} {x2 : Int32} {M : Mem} (hF : f4_odds fu x1 x2 M = some R) : Wp layC ad X M 0 [(0, .ref (ad 28)), (1, .int x1), (2, .int x2)] [] := by
  unfold f4_odds at hF
  refine R_iload_n (pc := 0) h 1 rfl rfl dX4_odds_0 ?_
  refine R_if_lt (pc := 1) (tgt := 21) h dX4_odds_1 (by decide) (fun c1 => ?_) (fun c1 => ?_)
  · have hF := itp c1 hF
    refine R_iconst (pc := 21) (v := (-1)) h (by decide) dX4_odds_21 ?_
    cases hF
    exact R_ireturn (pc := 22) h rfl rfl rfl dX4_odds_22
  · have hF := ifn c1 hF
    refine R_iload_n (pc := 4) h 1 rfl rfl dX4_odds_4 ?_
    refine R_sipush (pc := 5) (v := 200) h (by decide) dX4_odds_5 ?_
    refine R_icmp_gt (pc := 8) (tgt := 21) h dX4_odds_8 (by decide) (fun c2 => ?_) (fun c2 => ?_)
    · have hF := itp c2 hF
      refine R_iconst (pc := 21) (v := (-1)) h (by decide) dX4_odds_21 ?_
      cases hF
      exact R_ireturn (pc := 22) h rfl rfl rfl dX4_odds_22
    · have hF := ifn c2 hF
      refine R_iload_n (pc := 11) h 2 rfl rfl dX4_odds_11 ?_
      refine R_if_lt (pc := 12) (tgt := 21) h dX4_odds_12 (by decide) (fun c3 => ?_) (fun c3 => ?_)
      · have hF := itp c3 hF
        refine R_iconst (pc := 21) (v := (-1)) h (by decide) dX4_odds_21 ?_
        cases hF
        exact R_ireturn (pc := 22) h rfl rfl rfl dX4_odds_22
      · have hF := ifn c3 hF
        refine R_iload_n (pc := 15) h 2 rfl rfl dX4_odds_15 ?_
        refine R_bipush (pc := 16) (v := 12) h (by decide) dX4_odds_16 ?_
        refine R_icmp_le (pc := 18) (tgt := 23) h dX4_odds_18 (by decide) (fun c4 => ?_) (fun c4 => ?_)
        · have hF := itp c4 hF
          refine R_aload_n (pc := 23) h 0 rfl rfl dX4_odds_23 ?_
          refine R_getR (pc := 24) (q1 := 33) h flX4_27 lc_28 rfl dX4_odds_24 ?_
          refine R_getR (pc := 27) (q1 := 35) h flX4_104 lc_33 rfl dX4_odds_27 ?_
          refine R_getI (pc := 30) h flX4_121 lc_35 rfl dX4_odds_30 ?_
          refine R_if_ne (pc := 33) (tgt := 39) h dX4_odds_33 (by decide) (fun c5 => ?_) (fun c5 => ?_)
          · have hF := ifn c5 hF
            refine R_aload_n (pc := 39) h 0 rfl rfl dX4_odds_39 ?_
            refine R_getR (pc := 40) (q1 := 33) h flX4_27 lc_28 rfl dX4_odds_40 ?_
            obtain ⟨r7, hc6, hF⟩ := bd hF
            refine R_callV (pc := 43) (st := []) h [] cvX4_212 (c3_lying (ad := ad) (z := X.1) hc6) rfl rfl lc_33 (by decide) (by decide) (Nat.le_of_ble_eq_true rfl) dX4_odds_43 (st1 := [.int r7]) rfl ?_
            refine R_istore_n (pc := 46) (lv' := [(3, .int r7), (0, .ref (ad 28)), (1, .int x1), (2, .int x2)]) h rfl rfl (by decide) rfl dX4_odds_46 ?_
            refine R_lconst (pc := 47) (v := 0) h (by decide) dX4_odds_47 ?_
            refine R_lstore (pc := 48) (lv' := [(4, .long (0 : Int64)), (3, .int r7), (0, .ref (ad 28)), (1, .int x1), (2, .int x2)]) h rfl (by decide) rfl dX4_odds_48 ?_
            refine R_iconst (pc := 50) (v := 0) h (by decide) dX4_odds_50 ?_
            refine R_istore (pc := 51) (lv' := [(6, .int (0 : Int32)), (4, .long (0 : Int64)), (3, .int r7), (0, .ref (ad 28)), (1, .int x1), (2, .int x2)]) h rfl (by decide) rfl dX4_odds_51 ?_
            exact Wp_sub (nX := 0) (lv' := [(0, .ref (ad 28)), (1, .int x1), (2, .int x2), (3, .int r7), (4, .long (0 : Int64)), (6, .int (0 : Int32))]) [3, 4, 5, 2, 1, 0] rfl (w4_odds_53 h  (hF := hF))
          · have hF := itp c5 hF
            refine R_bipush (pc := 36) (v := (-4)) h (by decide) dX4_odds_36 ?_
            cases hF
            exact R_ireturn (pc := 38) h rfl rfl rfl dX4_odds_38
        · have hF := ifn c4 hF
          refine R_iconst (pc := 21) (v := (-1)) h (by decide) dX4_odds_21 ?_
          cases hF
          exact R_ireturn (pc := 22) h rfl rfl rfl dX4_odds_22
theorem c4_odds {ad : Nat → Nat} {z : ZZ} {R : Mem × Int32} {fu : Nat} {x1 : Int32} {x2 : Int32} {M : Mem} (hF : f4_odds fu x1 x2 M = some R) : Con layC ad z yX4_odds cX4_odds 7 (some .int) 3 M [.ref (ad 28), .int x1, .int x2] (R.1) (some (.int R.2)) := con_of (own := RX4) (lv := [(0, .ref (ad 28)), (1, .int x1), (2, .int x2)]) (by decide +kernel) rfl (Nat.le_of_ble_eq_true rfl) rfl (fun X hz h => w4_odds h hF)
