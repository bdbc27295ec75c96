theorem dX4_gainByTurns_0 : decode cX4_gainByTurns 0 = .ok (.iload_n 1, 1) := by decide +kernel
theorem dX4_gainByTurns_1 : decode cX4_gainByTurns 1 = .ok (.ifCond .gt 5, 3) := by decide +kernel
theorem dX4_gainByTurns_4 : decode cX4_gainByTurns 4 = .ok (.iconst 0, 1) := by decide +kernel
theorem dX4_gainByTurns_5 : decode cX4_gainByTurns 5 = .ok (.ireturn, 1) := by decide +kernel
theorem dX4_gainByTurns_6 : decode cX4_gainByTurns 6 = .ok (.aload_n 0, 1) := by decide +kernel
theorem dX4_gainByTurns_7 : decode cX4_gainByTurns 7 = .ok (.iload_n 1, 1) := by decide +kernel
theorem dX4_gainByTurns_8 : decode cX4_gainByTurns 8 = .ok (.iconst 1, 1) := by decide +kernel
theorem dX4_gainByTurns_9 : decode cX4_gainByTurns 9 = .ok (.isub, 1) := by decide +kernel
theorem dX4_gainByTurns_10 : decode cX4_gainByTurns 10 = .ok (.iload_n 2, 1) := by decide +kernel
theorem dX4_gainByTurns_11 : decode cX4_gainByTurns 11 = .ok (.iload 4, 2) := by decide +kernel
theorem dX4_gainByTurns_13 : decode cX4_gainByTurns 13 = .ok (.iload_n 3, 1) := by decide +kernel
theorem dX4_gainByTurns_14 : decode cX4_gainByTurns 14 = .ok (.invokestatic 249, 3) := by decide +kernel
theorem dX4_gainByTurns_17 : decode cX4_gainByTurns 17 = .ok (.ineg, 1) := by decide +kernel
theorem dX4_gainByTurns_18 : decode cX4_gainByTurns 18 = .ok (.istore 5, 2) := by decide +kernel
theorem dX4_gainByTurns_20 : decode cX4_gainByTurns 20 = .ok (.iconst 0, 1) := by decide +kernel
theorem dX4_gainByTurns_21 : decode cX4_gainByTurns 21 = .ok (.istore 6, 2) := by decide +kernel
theorem dX4_gainByTurns_23 : decode cX4_gainByTurns 23 = .ok (.iload 6, 2) := by decide +kernel
theorem dX4_gainByTurns_25 : decode cX4_gainByTurns 25 = .ok (.aload_n 0, 1) := by decide +kernel
theorem dX4_gainByTurns_26 : decode cX4_gainByTurns 26 = .ok (.getfield 121, 3) := by decide +kernel
theorem dX4_gainByTurns_29 : decode cX4_gainByTurns 29 = .ok (.if_icmp .ge 87, 3) := by decide +kernel
theorem dX4_gainByTurns_32 : decode cX4_gainByTurns 32 = .ok (.iload_n 2, 1) := by decide +kernel
theorem dX4_gainByTurns_33 : decode cX4_gainByTurns 33 = .ok (.iload 6, 2) := by decide +kernel
theorem dX4_gainByTurns_35 : decode cX4_gainByTurns 35 = .ok (.ishr, 1) := by decide +kernel
theorem dX4_gainByTurns_36 : decode cX4_gainByTurns 36 = .ok (.iconst 1, 1) := by decide +kernel
theorem dX4_gainByTurns_37 : decode cX4_gainByTurns 37 = .ok (.iand, 1) := by decide +kernel
theorem dX4_gainByTurns_38 : decode cX4_gainByTurns 38 = .ok (.ifCond .eq 19, 3) := by decide +kernel
theorem dX4_gainByTurns_41 : decode cX4_gainByTurns 41 = .ok (.aload_n 0, 1) := by decide +kernel
theorem dX4_gainByTurns_42 : decode cX4_gainByTurns 42 = .ok (.getfield 184, 3) := by decide +kernel
theorem dX4_gainByTurns_45 : decode cX4_gainByTurns 45 = .ok (.iload 6, 2) := by decide +kernel
theorem dX4_gainByTurns_47 : decode cX4_gainByTurns 47 = .ok (.iaload, 1) := by decide +kernel
theorem dX4_gainByTurns_48 : decode cX4_gainByTurns 48 = .ok (.iload_n 3, 1) := by decide +kernel
theorem dX4_gainByTurns_49 : decode cX4_gainByTurns 49 = .ok (.iand, 1) := by decide +kernel
theorem dX4_gainByTurns_50 : decode cX4_gainByTurns 50 = .ok (.ifCond .ne 7, 3) := by decide +kernel
theorem dX4_gainByTurns_53 : decode cX4_gainByTurns 53 = .ok (.iconst 1, 1) := by decide +kernel
theorem dX4_gainByTurns_54 : decode cX4_gainByTurns 54 = .ok (.goto 4, 3) := by decide +kernel
theorem dX4_gainByTurns_57 : decode cX4_gainByTurns 57 = .ok (.iconst 0, 1) := by decide +kernel
theorem dX4_gainByTurns_58 : decode cX4_gainByTurns 58 = .ok (.istore 7, 2) := by decide +kernel
theorem dX4_gainByTurns_60 : decode cX4_gainByTurns 60 = .ok (.iload 7, 2) := by decide +kernel
theorem dX4_gainByTurns_62 : decode cX4_gainByTurns 62 = .ok (.ifCond .eq 48, 3) := by decide +kernel
theorem dX4_gainByTurns_65 : decode cX4_gainByTurns 65 = .ok (.aload_n 0, 1) := by decide +kernel
theorem dX4_gainByTurns_66 : decode cX4_gainByTurns 66 = .ok (.iload_n 1, 1) := by decide +kernel
theorem dX4_gainByTurns_67 : decode cX4_gainByTurns 67 = .ok (.iconst 1, 1) := by decide +kernel
theorem dX4_gainByTurns_68 : decode cX4_gainByTurns 68 = .ok (.isub, 1) := by decide +kernel
theorem dX4_gainByTurns_69 : decode cX4_gainByTurns 69 = .ok (.iload_n 2, 1) := by decide +kernel
theorem dX4_gainByTurns_70 : decode cX4_gainByTurns 70 = .ok (.iconst 1, 1) := by decide +kernel
theorem dX4_gainByTurns_71 : decode cX4_gainByTurns 71 = .ok (.iload 6, 2) := by decide +kernel
theorem dX4_gainByTurns_73 : decode cX4_gainByTurns 73 = .ok (.ishl, 1) := by decide +kernel
theorem dX4_gainByTurns_74 : decode cX4_gainByTurns 74 = .ok (.iconst (-1), 1) := by decide +kernel
theorem dX4_gainByTurns_75 : decode cX4_gainByTurns 75 = .ok (.ixor, 1) := by decide +kernel
theorem dX4_gainByTurns_76 : decode cX4_gainByTurns 76 = .ok (.iand, 1) := by decide +kernel
theorem dX4_gainByTurns_77 : decode cX4_gainByTurns 77 = .ok (.iload 4, 2) := by decide +kernel
theorem dX4_gainByTurns_79 : decode cX4_gainByTurns 79 = .ok (.iload_n 3, 1) := by decide +kernel
theorem dX4_gainByTurns_80 : decode cX4_gainByTurns 80 = .ok (.aload_n 0, 1) := by decide +kernel
theorem dX4_gainByTurns_81 : decode cX4_gainByTurns 81 = .ok (.getfield 184, 3) := by decide +kernel
theorem dX4_gainByTurns_84 : decode cX4_gainByTurns 84 = .ok (.iload 6, 2) := by decide +kernel
theorem dX4_gainByTurns_86 : decode cX4_gainByTurns 86 = .ok (.iaload, 1) := by decide +kernel
theorem dX4_gainByTurns_87 : decode cX4_gainByTurns 87 = .ok (.ior, 1) := by decide +kernel
theorem dX4_gainByTurns_88 : decode cX4_gainByTurns 88 = .ok (.invokestatic 249, 3) := by decide +kernel
theorem dX4_gainByTurns_91 : decode cX4_gainByTurns 91 = .ok (.istore 8, 2) := by decide +kernel
theorem dX4_gainByTurns_93 : decode cX4_gainByTurns 93 = .ok (.iload 5, 2) := by decide +kernel
theorem dX4_gainByTurns_95 : decode cX4_gainByTurns 95 = .ok (.aload_n 0, 1) := by decide +kernel
theorem dX4_gainByTurns_96 : decode cX4_gainByTurns 96 = .ok (.getfield 138, 3) := by decide +kernel
theorem dX4_gainByTurns_99 : decode cX4_gainByTurns 99 = .ok (.iload 6, 2) := by decide +kernel
theorem dX4_gainByTurns_101 : decode cX4_gainByTurns 101 = .ok (.iaload, 1) := by decide +kernel
theorem dX4_gainByTurns_102 : decode cX4_gainByTurns 102 = .ok (.iload 8, 2) := by decide +kernel
theorem dX4_gainByTurns_104 : decode cX4_gainByTurns 104 = .ok (.isub, 1) := by decide +kernel
theorem dX4_gainByTurns_105 : decode cX4_gainByTurns 105 = .ok (.invokestatic 303, 3) := by decide +kernel
theorem dX4_gainByTurns_108 : decode cX4_gainByTurns 108 = .ok (.istore 5, 2) := by decide +kernel
theorem dX4_gainByTurns_110 : decode cX4_gainByTurns 110 = .ok (.iinc 6 1, 3) := by decide +kernel
theorem dX4_gainByTurns_113 : decode cX4_gainByTurns 113 = .ok (.goto (-90), 3) := by decide +kernel
theorem dX4_gainByTurns_116 : decode cX4_gainByTurns 116 = .ok (.iload 5, 2) := by decide +kernel
theorem dX4_gainByTurns_118 : decode cX4_gainByTurns 118 = .ok (.ireturn, 1) := by decide +kernel
theorem dX4_duel_0 : decode cX4_duel 0 = .ok (.iload_n 1, 1) := by decide +kernel
theorem dX4_duel_1 : decode cX4_duel 1 = .ok (.ifCond .lt 8, 3) := by decide +kernel
theorem dX4_duel_4 : decode cX4_duel 4 = .ok (.iload_n 1, 1) := by decide +kernel
theorem dX4_duel_5 : decode cX4_duel 5 = .ok (.iconst 4, 1) := by decide +kernel
theorem dX4_duel_6 : decode cX4_duel 6 = .ok (.if_icmp .le 5, 3) := by decide +kernel
theorem dX4_duel_9 : decode cX4_duel 9 = .ok (.iconst (-1), 1) := by decide +kernel
theorem dX4_duel_10 : decode cX4_duel 10 = .ok (.ireturn, 1) := by decide +kernel
theorem dX4_duel_11 : decode cX4_duel 11 = .ok (.aload_n 0, 1) := by decide +kernel
theorem dX4_duel_12 : decode cX4_duel 12 = .ok (.getfield 27, 3) := by decide +kernel
theorem dX4_duel_15 : decode cX4_duel 15 = .ok (.getfield 104, 3) := by decide +kernel
theorem dX4_duel_18 : decode cX4_duel 18 = .ok (.getfield 121, 3) := by decide +kernel
theorem dX4_duel_21 : decode cX4_duel 21 = .ok (.ifCond .ne 6, 3) := by decide +kernel
theorem dX4_duel_24 : decode cX4_duel 24 = .ok (.bipush (-4), 2) := by decide +kernel
theorem dX4_duel_26 : decode cX4_duel 26 = .ok (.ireturn, 1) := by decide +kernel
theorem dX4_duel_27 : decode cX4_duel 27 = .ok (.sipush 500, 3) := by decide +kernel
theorem dX4_duel_30 : decode cX4_duel 30 = .ok (.aload_n 0, 1) := by decide +kernel
theorem dX4_duel_31 : decode cX4_duel 31 = .ok (.getfield 27, 3) := by decide +kernel
theorem dX4_duel_34 : decode cX4_duel 34 = .ok (.getfield 104, 3) := by decide +kernel
theorem dX4_duel_37 : decode cX4_duel 37 = .ok (.iload_n 1, 1) := by decide +kernel
theorem dX4_duel_38 : decode cX4_duel 38 = .ok (.aload_n 0, 1) := by decide +kernel
theorem dX4_duel_39 : decode cX4_duel 39 = .ok (.getfield 27, 3) := by decide +kernel
theorem dX4_duel_42 : decode cX4_duel 42 = .ok (.invokevirtual 212, 3) := by decide +kernel
theorem dX4_duel_45 : decode cX4_duel 45 = .ok (.iconst 0, 1) := by decide +kernel
theorem dX4_duel_46 : decode cX4_duel 46 = .ok (.iconst 0, 1) := by decide +kernel
theorem dX4_duel_47 : decode cX4_duel 47 = .ok (.invokestatic 249, 3) := by decide +kernel
theorem dX4_duel_50 : decode cX4_duel 50 = .ok (.iadd, 1) := by decide +kernel
theorem dX4_duel_51 : decode cX4_duel 51 = .ok (.ireturn, 1) := by decide +kernel
theorem dX4_power_0 : decode cX4_power 0 = .ok (.lconst 1, 1) := by decide +kernel
theorem dX4_power_1 : decode cX4_power 1 = .ok (.lstore_n 3, 1) := by decide +kernel
theorem dX4_power_2 : decode cX4_power 2 = .ok (.iconst 0, 1) := by decide +kernel
theorem dX4_power_3 : decode cX4_power 3 = .ok (.istore 5, 2) := by decide +kernel
theorem dX4_power_5 : decode cX4_power 5 = .ok (.iload 5, 2) := by decide +kernel
theorem dX4_power_7 : decode cX4_power 7 = .ok (.iload_n 2, 1) := by decide +kernel
theorem dX4_power_8 : decode cX4_power 8 = .ok (.if_icmp .ge 13, 3) := by decide +kernel
theorem dX4_power_11 : decode cX4_power 11 = .ok (.lload_n 3, 1) := by decide +kernel
theorem dX4_power_12 : decode cX4_power 12 = .ok (.lload_n 0, 1) := by decide +kernel
theorem dX4_power_13 : decode cX4_power 13 = .ok (.lmul, 1) := by decide +kernel
theorem dX4_power_14 : decode cX4_power 14 = .ok (.lstore_n 3, 1) := by decide +kernel
theorem dX4_power_15 : decode cX4_power 15 = .ok (.iinc 5 1, 3) := by decide +kernel
theorem dX4_power_18 : decode cX4_power 18 = .ok (.goto (-13), 3) := by decide +kernel
theorem dX4_power_21 : decode cX4_power 21 = .ok (.lload_n 3, 1) := by decide +kernel
theorem dX4_power_22 : decode cX4_power 22 = .ok (.lreturn, 1) := by decide +kernel
theorem dX4_tellFraction_0 : decode cX4_tellFraction 0 = .ok (.lload_n 1, 1) := by decide +kernel
theorem dX4_tellFraction_1 : decode cX4_tellFraction 1 = .ok (.lstore 5, 2) := by decide +kernel
theorem dX4_tellFraction_3 : decode cX4_tellFraction 3 = .ok (.lload_n 3, 1) := by decide +kernel
theorem dX4_tellFraction_4 : decode cX4_tellFraction 4 = .ok (.lstore 7, 2) := by decide +kernel
theorem dX4_tellFraction_6 : decode cX4_tellFraction 6 = .ok (.iconst 0, 1) := by decide +kernel
theorem dX4_tellFraction_7 : decode cX4_tellFraction 7 = .ok (.istore 9, 2) := by decide +kernel
theorem dX4_tellFraction_9 : decode cX4_tellFraction 9 = .ok (.iload 9, 2) := by decide +kernel
theorem dX4_tellFraction_11 : decode cX4_tellFraction 11 = .ok (.sipush 1000, 3) := by decide +kernel
theorem dX4_tellFraction_14 : decode cX4_tellFraction 14 = .ok (.if_icmp .ge 31, 3) := by decide +kernel
theorem dX4_tellFraction_17 : decode cX4_tellFraction 17 = .ok (.lload 5, 2) := by decide +kernel
theorem dX4_tellFraction_19 : decode cX4_tellFraction 19 = .ok (.lconst 0, 1) := by decide +kernel
theorem dX4_tellFraction_20 : decode cX4_tellFraction 20 = .ok (.lcmp, 1) := by decide +kernel
theorem dX4_tellFraction_21 : decode cX4_tellFraction 21 = .ok (.ifCond .eq 24, 3) := by decide +kernel
theorem dX4_tellFraction_24 : decode cX4_tellFraction 24 = .ok (.lload 7, 2) := by decide +kernel
theorem dX4_tellFraction_26 : decode cX4_tellFraction 26 = .ok (.lload 5, 2) := by decide +kernel
theorem dX4_tellFraction_28 : decode cX4_tellFraction 28 = .ok (.lrem, 1) := by decide +kernel
theorem dX4_tellFraction_29 : decode cX4_tellFraction 29 = .ok (.lstore 10, 2) := by decide +kernel
theorem dX4_tellFraction_31 : decode cX4_tellFraction 31 = .ok (.lload 5, 2) := by decide +kernel
theorem dX4_tellFraction_33 : decode cX4_tellFraction 33 = .ok (.lstore 7, 2) := by decide +kernel
theorem dX4_tellFraction_35 : decode cX4_tellFraction 35 = .ok (.lload 10, 2) := by decide +kernel
theorem dX4_tellFraction_37 : decode cX4_tellFraction 37 = .ok (.lstore 5, 2) := by decide +kernel
theorem dX4_tellFraction_39 : decode cX4_tellFraction 39 = .ok (.iinc 9 1, 3) := by decide +kernel
theorem dX4_tellFraction_42 : decode cX4_tellFraction 42 = .ok (.goto (-33), 3) := by decide +kernel
theorem dX4_tellFraction_45 : decode cX4_tellFraction 45 = .ok (.lload 7, 2) := by decide +kernel
theorem dX4_tellFraction_47 : decode cX4_tellFraction 47 = .ok (.lconst 0, 1) := by decide +kernel
theorem dX4_tellFraction_48 : decode cX4_tellFraction 48 = .ok (.lcmp, 1) := by decide +kernel
theorem dX4_tellFraction_49 : decode cX4_tellFraction 49 = .ok (.ifCond .le 19, 3) := by decide +kernel
theorem dX4_tellFraction_52 : decode cX4_tellFraction 52 = .ok (.aload_n 0, 1) := by decide +kernel
theorem dX4_tellFraction_53 : decode cX4_tellFraction 53 = .ok (.lload_n 1, 1) := by decide +kernel
theorem dX4_tellFraction_54 : decode cX4_tellFraction 54 = .ok (.lload 7, 2) := by decide +kernel
theorem dX4_tellFraction_56 : decode cX4_tellFraction 56 = .ok (.ldiv, 1) := by decide +kernel
theorem dX4_tellFraction_57 : decode cX4_tellFraction 57 = .ok (.putfield 42, 3) := by decide +kernel
theorem dX4_tellFraction_60 : decode cX4_tellFraction 60 = .ok (.aload_n 0, 1) := by decide +kernel
theorem dX4_tellFraction_61 : decode cX4_tellFraction 61 = .ok (.lload_n 3, 1) := by decide +kernel
theorem dX4_tellFraction_62 : decode cX4_tellFraction 62 = .ok (.lload 7, 2) := by decide +kernel
theorem dX4_tellFraction_64 : decode cX4_tellFraction 64 = .ok (.ldiv, 1) := by decide +kernel
theorem dX4_tellFraction_65 : decode cX4_tellFraction 65 = .ok (.putfield 46, 3) := by decide +kernel
theorem dX4_tellFraction_68 : decode cX4_tellFraction 68 = .ok (.return_, 1) := by decide +kernel
theorem dX4_weigh_0 : decode cX4_weigh 0 = .ok (.iload_n 1, 1) := by decide +kernel
theorem dX4_weigh_1 : decode cX4_weigh 1 = .ok (.iload_n 0, 1) := by decide +kernel
theorem dX4_weigh_2 : decode cX4_weigh 2 = .ok (.iconst (-1), 1) := by decide +kernel
theorem dX4_weigh_3 : decode cX4_weigh 3 = .ok (.ixor, 1) := by decide +kernel
theorem dX4_weigh_4 : decode cX4_weigh 4 = .ok (.iand, 1) := by decide +kernel
theorem dX4_weigh_5 : decode cX4_weigh 5 = .ok (.istore_n 3, 1) := by decide +kernel
theorem dX4_weigh_6 : decode cX4_weigh 6 = .ok (.bipush 12, 2) := by decide +kernel
theorem dX4_weigh_8 : decode cX4_weigh 8 = .ok (.iload_n 2, 1) := by decide +kernel
theorem dX4_weigh_9 : decode cX4_weigh 9 = .ok (.isub, 1) := by decide +kernel
theorem dX4_weigh_10 : decode cX4_weigh 10 = .ok (.i2l, 1) := by decide +kernel
theorem dX4_weigh_11 : decode cX4_weigh 11 = .ok (.iload_n 0, 1) := by decide +kernel
theorem dX4_weigh_12 : decode cX4_weigh 12 = .ok (.invokestatic 167, 3) := by decide +kernel
theorem dX4_weigh_15 : decode cX4_weigh 15 = .ok (.invokestatic 259, 3) := by decide +kernel
theorem dX4_weigh_18 : decode cX4_weigh 18 = .ok (.iload_n 2, 1) := by decide +kernel
theorem dX4_weigh_19 : decode cX4_weigh 19 = .ok (.i2l, 1) := by decide +kernel
theorem dX4_weigh_20 : decode cX4_weigh 20 = .ok (.iload_n 3, 1) := by decide +kernel
theorem dX4_weigh_21 : decode cX4_weigh 21 = .ok (.invokestatic 167, 3) := by decide +kernel
theorem dX4_weigh_24 : decode cX4_weigh 24 = .ok (.invokestatic 259, 3) := by decide +kernel
theorem dX4_weigh_27 : decode cX4_weigh 27 = .ok (.lmul, 1) := by decide +kernel
theorem dX4_weigh_28 : decode cX4_weigh 28 = .ok (.lreturn, 1) := by decide +kernel
theorem dX4_odds_0 : decode cX4_odds 0 = .ok (.iload_n 1, 1) := by decide +kernel
theorem dX4_odds_1 : decode cX4_odds 1 = .ok (.ifCond .lt 20, 3) := by decide +kernel
theorem dX4_odds_4 : decode cX4_odds 4 = .ok (.iload_n 1, 1) := by decide +kernel
theorem dX4_odds_5 : decode cX4_odds 5 = .ok (.sipush 200, 3) := by decide +kernel
theorem dX4_odds_8 : decode cX4_odds 8 = .ok (.if_icmp .gt 13, 3) := by decide +kernel
theorem dX4_odds_11 : decode cX4_odds 11 = .ok (.iload_n 2, 1) := by decide +kernel
theorem dX4_odds_12 : decode cX4_odds 12 = .ok (.ifCond .lt 9, 3) := by decide +kernel
theorem dX4_odds_15 : decode cX4_odds 15 = .ok (.iload_n 2, 1) := by decide +kernel
theorem dX4_odds_16 : decode cX4_odds 16 = .ok (.bipush 12, 2) := by decide +kernel
theorem dX4_odds_18 : decode cX4_odds 18 = .ok (.if_icmp .le 5, 3) := by decide +kernel
theorem dX4_odds_21 : decode cX4_odds 21 = .ok (.iconst (-1), 1) := by decide +kernel
theorem dX4_odds_22 : decode cX4_odds 22 = .ok (.ireturn, 1) := by decide +kernel
theorem dX4_odds_23 : decode cX4_odds 23 = .ok (.aload_n 0, 1) := by decide +kernel
theorem dX4_odds_24 : decode cX4_odds 24 = .ok (.getfield 27, 3) := by decide +kernel
theorem dX4_odds_27 : decode cX4_odds 27 = .ok (.getfield 104, 3) := by decide +kernel
theorem dX4_odds_30 : decode cX4_odds 30 = .ok (.getfield 121, 3) := by decide +kernel
theorem dX4_odds_33 : decode cX4_odds 33 = .ok (.ifCond .ne 6, 3) := by decide +kernel
theorem dX4_odds_36 : decode cX4_odds 36 = .ok (.bipush (-4), 2) := by decide +kernel
theorem dX4_odds_38 : decode cX4_odds 38 = .ok (.ireturn, 1) := by decide +kernel
theorem dX4_odds_39 : decode cX4_odds 39 = .ok (.aload_n 0, 1) := by decide +kernel
theorem dX4_odds_40 : decode cX4_odds 40 = .ok (.getfield 27, 3) := by decide +kernel
theorem dX4_odds_43 : decode cX4_odds 43 = .ok (.invokevirtual 212, 3) := by decide +kernel
theorem dX4_odds_46 : decode cX4_odds 46 = .ok (.istore_n 3, 1) := by decide +kernel
theorem dX4_odds_47 : decode cX4_odds 47 = .ok (.lconst 0, 1) := by decide +kernel
theorem dX4_odds_48 : decode cX4_odds 48 = .ok (.lstore 4, 2) := by decide +kernel
theorem dX4_odds_50 : decode cX4_odds 50 = .ok (.iconst 0, 1) := by decide +kernel
theorem dX4_odds_51 : decode cX4_odds 51 = .ok (.istore 6, 2) := by decide +kernel
theorem dX4_odds_53 : decode cX4_odds 53 = .ok (.iload 6, 2) := by decide +kernel
theorem dX4_odds_55 : decode cX4_odds 55 = .ok (.iload_n 3, 1) := by decide +kernel
theorem dX4_odds_56 : decode cX4_odds 56 = .ok (.if_icmp .gt 54, 3) := by decide +kernel
theorem dX4_odds_59 : decode cX4_odds 59 = .ok (.iload 6, 2) := by decide +kernel
theorem dX4_odds_61 : decode cX4_odds 61 = .ok (.iload_n 3, 1) := by decide +kernel
theorem dX4_odds_62 : decode cX4_odds 62 = .ok (.iconst (-1), 1) := by decide +kernel
theorem dX4_odds_63 : decode cX4_odds 63 = .ok (.ixor, 1) := by decide +kernel
theorem dX4_odds_64 : decode cX4_odds 64 = .ok (.iand, 1) := by decide +kernel
theorem dX4_odds_65 : decode cX4_odds 65 = .ok (.ifCond .ne 39, 3) := by decide +kernel
theorem dX4_odds_68 : decode cX4_odds 68 = .ok (.aload_n 0, 1) := by decide +kernel
theorem dX4_odds_69 : decode cX4_odds 69 = .ok (.getfield 27, 3) := by decide +kernel
theorem dX4_odds_72 : decode cX4_odds 72 = .ok (.getfield 104, 3) := by decide +kernel
theorem dX4_odds_75 : decode cX4_odds 75 = .ok (.aload_n 0, 1) := by decide +kernel
theorem dX4_odds_76 : decode cX4_odds 76 = .ok (.getfield 27, 3) := by decide +kernel
theorem dX4_odds_79 : decode cX4_odds 79 = .ok (.getfield 164, 3) := by decide +kernel
theorem dX4_odds_82 : decode cX4_odds 82 = .ok (.iload 6, 2) := by decide +kernel
theorem dX4_odds_84 : decode cX4_odds 84 = .ok (.ior, 1) := by decide +kernel
theorem dX4_odds_85 : decode cX4_odds 85 = .ok (.invokevirtual 209, 3) := by decide +kernel
theorem dX4_odds_88 : decode cX4_odds 88 = .ok (.iload_n 1, 1) := by decide +kernel
theorem dX4_odds_89 : decode cX4_odds 89 = .ok (.if_icmp .lt 15, 3) := by decide +kernel
theorem dX4_odds_92 : decode cX4_odds 92 = .ok (.lload 4, 2) := by decide +kernel
theorem dX4_odds_94 : decode cX4_odds 94 = .ok (.iload 6, 2) := by decide +kernel
theorem dX4_odds_96 : decode cX4_odds 96 = .ok (.iload_n 3, 1) := by decide +kernel
theorem dX4_odds_97 : decode cX4_odds 97 = .ok (.iload_n 2, 1) := by decide +kernel
theorem dX4_odds_98 : decode cX4_odds 98 = .ok (.invokestatic 253, 3) := by decide +kernel
theorem dX4_odds_101 : decode cX4_odds 101 = .ok (.ladd, 1) := by decide +kernel
theorem dX4_odds_102 : decode cX4_odds 102 = .ok (.lstore 4, 2) := by decide +kernel
theorem dX4_odds_104 : decode cX4_odds 104 = .ok (.iinc 6 1, 3) := by decide +kernel
theorem dX4_odds_107 : decode cX4_odds 107 = .ok (.goto (-54), 3) := by decide +kernel
theorem dX4_odds_110 : decode cX4_odds 110 = .ok (.aload_n 0, 1) := by decide +kernel
theorem dX4_odds_111 : decode cX4_odds 111 = .ok (.lload 4, 2) := by decide +kernel
theorem dX4_odds_113 : decode cX4_odds 113 = .ok (.ldc2_w 257, 3) := by decide +kernel
theorem dX4_odds_116 : decode cX4_odds 116 = .ok (.iload_n 3, 1) := by decide +kernel
theorem dX4_odds_117 : decode cX4_odds 117 = .ok (.invokestatic 167, 3) := by decide +kernel
theorem dX4_odds_120 : decode cX4_odds 120 = .ok (.invokestatic 259, 3) := by decide +kernel
theorem dX4_odds_123 : decode cX4_odds 123 = .ok (.invokevirtual 263, 3) := by decide +kernel
theorem dX4_odds_126 : decode cX4_odds 126 = .ok (.iconst 1, 1) := by decide +kernel
theorem dX4_odds_127 : decode cX4_odds 127 = .ok (.ireturn, 1) := by decide +kernel
theorem dX4_mid_0 : decode cX4_mid 0 = .ok (.iload_n 1, 1) := by decide +kernel
theorem dX4_mid_1 : decode cX4_mid 1 = .ok (.ifCond .lt 9, 3) := by decide +kernel
theorem dX4_mid_4 : decode cX4_mid 4 = .ok (.iload_n 1, 1) := by decide +kernel
theorem dX4_mid_5 : decode cX4_mid 5 = .ok (.bipush 12, 2) := by decide +kernel
theorem dX4_mid_7 : decode cX4_mid 7 = .ok (.if_icmp .le 5, 3) := by decide +kernel
theorem dX4_mid_10 : decode cX4_mid 10 = .ok (.iconst (-1), 1) := by decide +kernel
theorem dX4_mid_11 : decode cX4_mid 11 = .ok (.ireturn, 1) := by decide +kernel
theorem dX4_mid_12 : decode cX4_mid 12 = .ok (.aload_n 0, 1) := by decide +kernel
theorem dX4_mid_13 : decode cX4_mid 13 = .ok (.getfield 27, 3) := by decide +kernel
theorem dX4_mid_16 : decode cX4_mid 16 = .ok (.getfield 104, 3) := by decide +kernel
theorem dX4_mid_19 : decode cX4_mid 19 = .ok (.getfield 121, 3) := by decide +kernel
theorem dX4_mid_22 : decode cX4_mid 22 = .ok (.ifCond .ne 6, 3) := by decide +kernel
theorem dX4_mid_25 : decode cX4_mid 25 = .ok (.bipush (-4), 2) := by decide +kernel
theorem dX4_mid_27 : decode cX4_mid 27 = .ok (.ireturn, 1) := by decide +kernel
theorem dX4_mid_28 : decode cX4_mid 28 = .ok (.aload_n 0, 1) := by decide +kernel
theorem dX4_mid_29 : decode cX4_mid 29 = .ok (.getfield 27, 3) := by decide +kernel
theorem dX4_mid_32 : decode cX4_mid 32 = .ok (.invokevirtual 212, 3) := by decide +kernel
theorem dX4_mid_35 : decode cX4_mid 35 = .ok (.istore_n 2, 1) := by decide +kernel
theorem dX4_mid_36 : decode cX4_mid 36 = .ok (.lconst 0, 1) := by decide +kernel
theorem dX4_mid_37 : decode cX4_mid 37 = .ok (.lstore_n 3, 1) := by decide +kernel
theorem dX4_mid_38 : decode cX4_mid 38 = .ok (.iconst 0, 1) := by decide +kernel
theorem dX4_mid_39 : decode cX4_mid 39 = .ok (.istore 5, 2) := by decide +kernel
theorem dX4_mid_41 : decode cX4_mid 41 = .ok (.iload 5, 2) := by decide +kernel
theorem dX4_mid_43 : decode cX4_mid 43 = .ok (.iload_n 2, 1) := by decide +kernel
theorem dX4_mid_44 : decode cX4_mid 44 = .ok (.if_icmp .gt 50, 3) := by decide +kernel
theorem dX4_mid_47 : decode cX4_mid 47 = .ok (.iload 5, 2) := by decide +kernel
theorem dX4_mid_49 : decode cX4_mid 49 = .ok (.iload_n 2, 1) := by decide +kernel
theorem dX4_mid_50 : decode cX4_mid 50 = .ok (.iconst (-1), 1) := by decide +kernel
theorem dX4_mid_51 : decode cX4_mid 51 = .ok (.ixor, 1) := by decide +kernel
theorem dX4_mid_52 : decode cX4_mid 52 = .ok (.iand, 1) := by decide +kernel
theorem dX4_mid_53 : decode cX4_mid 53 = .ok (.ifCond .ne 35, 3) := by decide +kernel
theorem dX4_mid_56 : decode cX4_mid 56 = .ok (.lload_n 3, 1) := by decide +kernel
theorem dX4_mid_57 : decode cX4_mid 57 = .ok (.iload 5, 2) := by decide +kernel
theorem dX4_mid_59 : decode cX4_mid 59 = .ok (.iload_n 2, 1) := by decide +kernel
theorem dX4_mid_60 : decode cX4_mid 60 = .ok (.iload_n 1, 1) := by decide +kernel
theorem dX4_mid_61 : decode cX4_mid 61 = .ok (.invokestatic 253, 3) := by decide +kernel
theorem dX4_mid_64 : decode cX4_mid 64 = .ok (.aload_n 0, 1) := by decide +kernel
theorem dX4_mid_65 : decode cX4_mid 65 = .ok (.getfield 27, 3) := by decide +kernel
theorem dX4_mid_68 : decode cX4_mid 68 = .ok (.getfield 104, 3) := by decide +kernel
theorem dX4_mid_71 : decode cX4_mid 71 = .ok (.aload_n 0, 1) := by decide +kernel
theorem dX4_mid_72 : decode cX4_mid 72 = .ok (.getfield 27, 3) := by decide +kernel
theorem dX4_mid_75 : decode cX4_mid 75 = .ok (.getfield 164, 3) := by decide +kernel
theorem dX4_mid_78 : decode cX4_mid 78 = .ok (.iload 5, 2) := by decide +kernel
theorem dX4_mid_80 : decode cX4_mid 80 = .ok (.ior, 1) := by decide +kernel
theorem dX4_mid_81 : decode cX4_mid 81 = .ok (.invokevirtual 209, 3) := by decide +kernel
theorem dX4_mid_84 : decode cX4_mid 84 = .ok (.i2l, 1) := by decide +kernel
theorem dX4_mid_85 : decode cX4_mid 85 = .ok (.lmul, 1) := by decide +kernel
theorem dX4_mid_86 : decode cX4_mid 86 = .ok (.ladd, 1) := by decide +kernel
theorem dX4_mid_87 : decode cX4_mid 87 = .ok (.lstore_n 3, 1) := by decide +kernel
theorem dX4_mid_88 : decode cX4_mid 88 = .ok (.iinc 5 1, 3) := by decide +kernel
theorem dX4_mid_91 : decode cX4_mid 91 = .ok (.goto (-50), 3) := by decide +kernel
theorem dX4_mid_94 : decode cX4_mid 94 = .ok (.aload_n 0, 1) := by decide +kernel
theorem dX4_mid_95 : decode cX4_mid 95 = .ok (.lload_n 3, 1) := by decide +kernel
theorem dX4_mid_96 : decode cX4_mid 96 = .ok (.ldc2_w 257, 3) := by decide +kernel
theorem dX4_mid_99 : decode cX4_mid 99 = .ok (.iload_n 2, 1) := by decide +kernel
theorem dX4_mid_100 : decode cX4_mid 100 = .ok (.invokestatic 167, 3) := by decide +kernel
theorem dX4_mid_103 : decode cX4_mid 103 = .ok (.invokestatic 259, 3) := by decide +kernel
theorem dX4_mid_106 : decode cX4_mid 106 = .ok (.invokevirtual 263, 3) := by decide +kernel
theorem dX4_mid_109 : decode cX4_mid 109 = .ok (.iconst 1, 1) := by decide +kernel
theorem dX4_mid_110 : decode cX4_mid 110 = .ok (.ireturn, 1) := by decide +kernel
theorem dX3_deedByLot_0 : decode cX3_deedByLot 0 = .ok (.aload_n 0, 1) := by decide +kernel
theorem dX3_deedByLot_1 : decode cX3_deedByLot 1 = .ok (.getfield 12, 3) := by decide +kernel
theorem dX3_deedByLot_4 : decode cX3_deedByLot 4 = .ok (.getfield 46, 3) := by decide +kernel
theorem dX3_deedByLot_7 : decode cX3_deedByLot 7 = .ok (.ifCond .le 21, 3) := by decide +kernel
theorem dX3_deedByLot_10 : decode cX3_deedByLot 10 = .ok (.lload_n 1, 1) := by decide +kernel
theorem dX3_deedByLot_11 : decode cX3_deedByLot 11 = .ok (.ldc2_w 68, 3) := by decide +kernel
theorem dX3_deedByLot_14 : decode cX3_deedByLot 14 = .ok (.ldiv, 1) := by decide +kernel
theorem dX3_deedByLot_15 : decode cX3_deedByLot 15 = .ok (.aload_n 0, 1) := by decide +kernel
theorem dX3_deedByLot_16 : decode cX3_deedByLot 16 = .ok (.getfield 12, 3) := by decide +kernel
theorem dX3_deedByLot_19 : decode cX3_deedByLot 19 = .ok (.getfield 46, 3) := by decide +kernel
theorem dX3_deedByLot_22 : decode cX3_deedByLot 22 = .ok (.i2l, 1) := by decide +kernel
theorem dX3_deedByLot_23 : decode cX3_deedByLot 23 = .ok (.lrem, 1) := by decide +kernel
theorem dX3_deedByLot_24 : decode cX3_deedByLot 24 = .ok (.l2i, 1) := by decide +kernel
theorem dX3_deedByLot_25 : decode cX3_deedByLot 25 = .ok (.goto 4, 3) := by decide +kernel
theorem dX3_deedByLot_28 : decode cX3_deedByLot 28 = .ok (.iconst 0, 1) := by decide +kernel
theorem dX3_deedByLot_29 : decode cX3_deedByLot 29 = .ok (.istore_n 3, 1) := by decide +kernel
theorem dX3_deedByLot_30 : decode cX3_deedByLot 30 = .ok (.aload_n 0, 1) := by decide +kernel
theorem dX3_deedByLot_31 : decode cX3_deedByLot 31 = .ok (.getfield 29, 3) := by decide +kernel
theorem dX3_deedByLot_34 : decode cX3_deedByLot 34 = .ok (.iload_n 3, 1) := by decide +kernel
theorem dX3_deedByLot_35 : decode cX3_deedByLot 35 = .ok (.ishr, 1) := by decide +kernel
theorem dX3_deedByLot_36 : decode cX3_deedByLot 36 = .ok (.iconst 1, 1) := by decide +kernel
theorem dX3_deedByLot_37 : decode cX3_deedByLot 37 = .ok (.iand, 1) := by decide +kernel
theorem dX3_deedByLot_38 : decode cX3_deedByLot 38 = .ok (.ifCond .eq 8, 3) := by decide +kernel
theorem dX3_deedByLot_41 : decode cX3_deedByLot 41 = .ok (.bipush 16, 2) := by decide +kernel
theorem dX3_deedByLot_43 : decode cX3_deedByLot 43 = .ok (.iload_n 3, 1) := by decide +kernel
theorem dX3_deedByLot_44 : decode cX3_deedByLot 44 = .ok (.iadd, 1) := by decide +kernel
theorem dX3_deedByLot_45 : decode cX3_deedByLot 45 = .ok (.ireturn, 1) := by decide +kernel
theorem dX3_deedByLot_46 : decode cX3_deedByLot 46 = .ok (.aload_n 0, 1) := by decide +kernel
theorem dX3_deedByLot_47 : decode cX3_deedByLot 47 = .ok (.invokevirtual 61, 3) := by decide +kernel
theorem dX3_deedByLot_50 : decode cX3_deedByLot 50 = .ok (.iload_n 3, 1) := by decide +kernel
theorem dX3_deedByLot_51 : decode cX3_deedByLot 51 = .ok (.ishr, 1) := by decide +kernel
theorem dX3_deedByLot_52 : decode cX3_deedByLot 52 = .ok (.iconst 1, 1) := by decide +kernel
theorem dX3_deedByLot_53 : decode cX3_deedByLot 53 = .ok (.iand, 1) := by decide +kernel
theorem dX3_deedByLot_54 : decode cX3_deedByLot 54 = .ok (.ifCond .eq 8, 3) := by decide +kernel
theorem dX3_deedByLot_57 : decode cX3_deedByLot 57 = .ok (.bipush 8, 2) := by decide +kernel
theorem dX3_deedByLot_59 : decode cX3_deedByLot 59 = .ok (.iload_n 3, 1) := by decide +kernel
theorem dX3_deedByLot_60 : decode cX3_deedByLot 60 = .ok (.iadd, 1) := by decide +kernel
theorem dX3_deedByLot_61 : decode cX3_deedByLot 61 = .ok (.ireturn, 1) := by decide +kernel
theorem dX3_deedByLot_62 : decode cX3_deedByLot 62 = .ok (.aload_n 0, 1) := by decide +kernel
theorem dX3_deedByLot_63 : decode cX3_deedByLot 63 = .ok (.getfield 25, 3) := by decide +kernel
theorem dX3_deedByLot_66 : decode cX3_deedByLot 66 = .ok (.ifCond .eq 22, 3) := by decide +kernel
theorem dX3_deedByLot_69 : decode cX3_deedByLot 69 = .ok (.lload_n 1, 1) := by decide +kernel
theorem dX3_deedByLot_70 : decode cX3_deedByLot 70 = .ok (.ldc2_w 70, 3) := by decide +kernel
theorem dX3_deedByLot_73 : decode cX3_deedByLot 73 = .ok (.lrem, 1) := by decide +kernel
theorem dX3_deedByLot_74 : decode cX3_deedByLot 74 = .ok (.lconst 0, 1) := by decide +kernel
theorem dX3_deedByLot_75 : decode cX3_deedByLot 75 = .ok (.lcmp, 1) := by decide +kernel
theorem dX3_deedByLot_76 : decode cX3_deedByLot 76 = .ok (.ifCond .ne 16, 3) := by decide +kernel
theorem dX3_deedByLot_79 : decode cX3_deedByLot 79 = .ok (.aload_n 0, 1) := by decide +kernel
theorem dX3_deedByLot_80 : decode cX3_deedByLot 80 = .ok (.getfield 25, 3) := by decide +kernel
theorem dX3_deedByLot_83 : decode cX3_deedByLot 83 = .ok (.bipush 9, 2) := by decide +kernel
theorem dX3_deedByLot_85 : decode cX3_deedByLot 85 = .ok (.if_icmp .eq 7, 3) := by decide +kernel
theorem dX3_deedByLot_88 : decode cX3_deedByLot 88 = .ok (.iconst 1, 1) := by decide +kernel
theorem dX3_deedByLot_89 : decode cX3_deedByLot 89 = .ok (.goto 4, 3) := by decide +kernel
theorem dX3_deedByLot_92 : decode cX3_deedByLot 92 = .ok (.iconst 0, 1) := by decide +kernel
theorem dX3_deedByLot_93 : decode cX3_deedByLot 93 = .ok (.istore 4, 2) := by decide +kernel
theorem dX3_deedByLot_95 : decode cX3_deedByLot 95 = .ok (.iload 4, 2) := by decide +kernel
theorem dX3_deedByLot_97 : decode cX3_deedByLot 97 = .ok (.ifCond .eq 7, 3) := by decide +kernel
theorem dX3_deedByLot_100 : decode cX3_deedByLot 100 = .ok (.iconst 0, 1) := by decide +kernel
theorem dX3_deedByLot_101 : decode cX3_deedByLot 101 = .ok (.goto 4, 3) := by decide +kernel
theorem dX3_deedByLot_104 : decode cX3_deedByLot 104 = .ok (.iconst 1, 1) := by decide +kernel
theorem dX3_deedByLot_105 : decode cX3_deedByLot 105 = .ok (.ireturn, 1) := by decide +kernel
theorem dX4_lots_0 : decode cX4_lots 0 = .ok (.iload_n 1, 1) := by decide +kernel
theorem dX4_lots_1 : decode cX4_lots 1 = .ok (.iconst 1, 1) := by decide +kernel
theorem dX4_lots_2 : decode cX4_lots 2 = .ok (.if_icmp .lt 21, 3) := by decide +kernel
theorem dX4_lots_5 : decode cX4_lots 5 = .ok (.iload_n 1, 1) := by decide +kernel
theorem dX4_lots_6 : decode cX4_lots 6 = .ok (.bipush 20, 2) := by decide +kernel
theorem dX4_lots_8 : decode cX4_lots 8 = .ok (.if_icmp .gt 15, 3) := by decide +kernel
theorem dX4_lots_11 : decode cX4_lots 11 = .ok (.iload_n 2, 1) := by decide +kernel
theorem dX4_lots_12 : decode cX4_lots 12 = .ok (.iconst 1, 1) := by decide +kernel
theorem dX4_lots_13 : decode cX4_lots 13 = .ok (.if_icmp .lt 10, 3) := by decide +kernel
theorem dX4_lots_16 : decode cX4_lots 16 = .ok (.iload_n 2, 1) := by decide +kernel
theorem dX4_lots_17 : decode cX4_lots 17 = .ok (.ldc_w 267, 3) := by decide +kernel
theorem dX4_lots_20 : decode cX4_lots 20 = .ok (.if_icmp .lt 5, 3) := by decide +kernel
theorem dX4_lots_23 : decode cX4_lots 23 = .ok (.iconst (-1), 1) := by decide +kernel
theorem dX4_lots_24 : decode cX4_lots 24 = .ok (.ireturn, 1) := by decide +kernel
theorem dX4_lots_25 : decode cX4_lots 25 = .ok (.aload_n 0, 1) := by decide +kernel
theorem dX4_lots_26 : decode cX4_lots 26 = .ok (.getfield 27, 3) := by decide +kernel
theorem dX4_lots_29 : decode cX4_lots 29 = .ok (.getfield 104, 3) := by decide +kernel
theorem dX4_lots_32 : decode cX4_lots 32 = .ok (.getfield 121, 3) := by decide +kernel
theorem dX4_lots_35 : decode cX4_lots 35 = .ok (.ifCond .ne 6, 3) := by decide +kernel
theorem dX4_lots_38 : decode cX4_lots 38 = .ok (.bipush (-4), 2) := by decide +kernel
theorem dX4_lots_40 : decode cX4_lots 40 = .ok (.ireturn, 1) := by decide +kernel
theorem dX4_lots_41 : decode cX4_lots 41 = .ok (.aload_n 0, 1) := by decide +kernel
theorem dX4_lots_42 : decode cX4_lots 42 = .ok (.getfield 27, 3) := by decide +kernel
theorem dX4_lots_45 : decode cX4_lots 45 = .ok (.iload_n 1, 1) := by decide +kernel
theorem dX4_lots_46 : decode cX4_lots 46 = .ok (.invokevirtual 154, 3) := by decide +kernel
theorem dX4_lots_49 : decode cX4_lots 49 = .ok (.ifCond .ne 6, 3) := by decide +kernel
theorem dX4_lots_52 : decode cX4_lots 52 = .ok (.bipush (-2), 2) := by decide +kernel
theorem dX4_lots_54 : decode cX4_lots 54 = .ok (.ireturn, 1) := by decide +kernel
theorem dX4_lots_55 : decode cX4_lots 55 = .ok (.iload_n 2, 1) := by decide +kernel
theorem dX4_lots_56 : decode cX4_lots 56 = .ok (.i2l, 1) := by decide +kernel
theorem dX4_lots_57 : decode cX4_lots 57 = .ok (.lstore_n 3, 1) := by decide +kernel
theorem dX4_lots_58 : decode cX4_lots 58 = .ok (.iconst 0, 1) := by decide +kernel
theorem dX4_lots_59 : decode cX4_lots 59 = .ok (.istore 5, 2) := by decide +kernel
theorem dX4_lots_61 : decode cX4_lots 61 = .ok (.iload 5, 2) := by decide +kernel
theorem dX4_lots_63 : decode cX4_lots 63 = .ok (.iload_n 1, 1) := by decide +kernel
theorem dX4_lots_64 : decode cX4_lots 64 = .ok (.if_icmp .ge 34, 3) := by decide +kernel
theorem dX4_lots_67 : decode cX4_lots 67 = .ok (.lload_n 3, 1) := by decide +kernel
theorem dX4_lots_68 : decode cX4_lots 68 = .ok (.ldc2_w 268, 3) := by decide +kernel
theorem dX4_lots_71 : decode cX4_lots 71 = .ok (.lmul, 1) := by decide +kernel
theorem dX4_lots_72 : decode cX4_lots 72 = .ok (.ldc2_w 270, 3) := by decide +kernel
theorem dX4_lots_75 : decode cX4_lots 75 = .ok (.lrem, 1) := by decide +kernel
theorem dX4_lots_76 : decode cX4_lots 76 = .ok (.lstore_n 3, 1) := by decide +kernel
theorem dX4_lots_77 : decode cX4_lots 77 = .ok (.aload_n 0, 1) := by decide +kernel
theorem dX4_lots_78 : decode cX4_lots 78 = .ok (.getfield 27, 3) := by decide +kernel
theorem dX4_lots_81 : decode cX4_lots 81 = .ok (.aload_n 0, 1) := by decide +kernel
theorem dX4_lots_82 : decode cX4_lots 82 = .ok (.getfield 27, 3) := by decide +kernel
theorem dX4_lots_85 : decode cX4_lots 85 = .ok (.lload_n 3, 1) := by decide +kernel
theorem dX4_lots_86 : decode cX4_lots 86 = .ok (.invokevirtual 272, 3) := by decide +kernel
theorem dX4_lots_89 : decode cX4_lots 89 = .ok (.invokevirtual 157, 3) := by decide +kernel
theorem dX4_lots_92 : decode cX4_lots 92 = .ok (.iinc 5 1, 3) := by decide +kernel
theorem dX4_lots_95 : decode cX4_lots 95 = .ok (.goto (-34), 3) := by decide +kernel
theorem dX4_lots_98 : decode cX4_lots 98 = .ok (.aload_n 0, 1) := by decide +kernel
theorem dX4_lots_99 : decode cX4_lots 99 = .ok (.getfield 27, 3) := by decide +kernel
theorem dX4_lots_102 : decode cX4_lots 102 = .ok (.getfield 151, 3) := by decide +kernel
theorem dX4_lots_105 : decode cX4_lots 105 = .ok (.ireturn, 1) := by decide +kernel
theorem dX4_asked_0 : decode cX4_asked 0 = .ok (.aload_n 0, 1) := by decide +kernel
theorem dX4_asked_1 : decode cX4_asked 1 = .ok (.getfield 39, 3) := by decide +kernel
theorem dX4_asked_4 : decode cX4_asked 4 = .ok (.ireturn, 1) := by decide +kernel
theorem dX4_upper_0 : decode cX4_upper 0 = .ok (.aload_n 0, 1) := by decide +kernel
theorem dX4_upper_1 : decode cX4_upper 1 = .ok (.getfield 42, 3) := by decide +kernel
theorem dX4_upper_4 : decode cX4_upper 4 = .ok (.lreturn, 1) := by decide +kernel
theorem dX4_lower_0 : decode cX4_lower 0 = .ok (.aload_n 0, 1) := by decide +kernel
theorem dX4_lower_1 : decode cX4_lower 1 = .ok (.getfield 46, 3) := by decide +kernel
theorem dX4_lower_4 : decode cX4_lower 4 = .ok (.lreturn, 1) := by decide +kernel
theorem dX4_countThere_0 : decode cX4_countThere 0 = .ok (.iconst 0, 1) := by decide +kernel
theorem dX4_countThere_1 : decode cX4_countThere 1 = .ok (.istore_n 1, 1) := by decide +kernel
theorem dX4_countThere_2 : decode cX4_countThere 2 = .ok (.iconst 0, 1) := by decide +kernel
theorem dX4_countThere_3 : decode cX4_countThere 3 = .ok (.istore_n 2, 1) := by decide +kernel
theorem dX4_countThere_4 : decode cX4_countThere 4 = .ok (.iload_n 2, 1) := by decide +kernel
theorem dX4_countThere_5 : decode cX4_countThere 5 = .ok (.aload_n 0, 1) := by decide +kernel
theorem dX4_countThere_6 : decode cX4_countThere 6 = .ok (.arraylength, 1) := by decide +kernel
theorem dX4_countThere_7 : decode cX4_countThere 7 = .ok (.if_icmp .ge 21, 3) := by decide +kernel
theorem dX4_countThere_10 : decode cX4_countThere 10 = .ok (.aload_n 0, 1) := by decide +kernel
theorem dX4_countThere_11 : decode cX4_countThere 11 = .ok (.iload_n 2, 1) := by decide +kernel
theorem dX4_countThere_12 : decode cX4_countThere 12 = .ok (.aaload, 1) := by decide +kernel
theorem dX4_countThere_13 : decode cX4_countThere 13 = .ok (.invokevirtual 81, 3) := by decide +kernel
theorem dX4_countThere_16 : decode cX4_countThere 16 = .ok (.ifCond .ne 6, 3) := by decide +kernel
theorem dX4_countThere_19 : decode cX4_countThere 19 = .ok (.iinc 1 1, 3) := by decide +kernel
theorem dX4_countThere_22 : decode cX4_countThere 22 = .ok (.iinc 2 1, 3) := by decide +kernel
theorem dX4_countThere_25 : decode cX4_countThere 25 = .ok (.goto (-21), 3) := by decide +kernel
theorem dX4_countThere_28 : decode cX4_countThere 28 = .ok (.iload_n 1, 1) := by decide +kernel
theorem dX4_countThere_29 : decode cX4_countThere 29 = .ok (.ireturn, 1) := by decide +kernel
theorem dX4_countKept_0 : decode cX4_countKept 0 = .ok (.iconst 0, 1) := by decide +kernel
theorem dX4_countKept_1 : decode cX4_countKept 1 = .ok (.istore_n 1, 1) := by decide +kernel
theorem dX4_countKept_2 : decode cX4_countKept 2 = .ok (.iconst 0, 1) := by decide +kernel
theorem dX4_countKept_3 : decode cX4_countKept 3 = .ok (.istore_n 2, 1) := by decide +kernel
theorem dX4_countKept_4 : decode cX4_countKept 4 = .ok (.iload_n 2, 1) := by decide +kernel
theorem dX4_countKept_5 : decode cX4_countKept 5 = .ok (.iconst 3, 1) := by decide +kernel
theorem dX4_countKept_6 : decode cX4_countKept 6 = .ok (.if_icmp .ge 24, 3) := by decide +kernel
theorem dX4_countKept_9 : decode cX4_countKept 9 = .ok (.aload_n 0, 1) := by decide +kernel
theorem dX4_countKept_10 : decode cX4_countKept 10 = .ok (.getfield 20, 3) := by decide +kernel
theorem dX4_countKept_13 : decode cX4_countKept 13 = .ok (.iload_n 2, 1) := by decide +kernel
theorem dX4_countKept_14 : decode cX4_countKept 14 = .ok (.aaload, 1) := by decide +kernel
theorem dX4_countKept_15 : decode cX4_countKept 15 = .ok (.getfield 118, 3) := by decide +kernel
theorem dX4_countKept_18 : decode cX4_countKept 18 = .ok (.ifCond .lt 6, 3) := by decide +kernel
theorem dX4_countKept_21 : decode cX4_countKept 21 = .ok (.iinc 1 1, 3) := by decide +kernel
theorem dX4_countKept_24 : decode cX4_countKept 24 = .ok (.iinc 2 1, 3) := by decide +kernel
theorem dX4_countKept_27 : decode cX4_countKept 27 = .ok (.goto (-23), 3) := by decide +kernel
theorem dX4_countKept_30 : decode cX4_countKept 30 = .ok (.iload_n 1, 1) := by decide +kernel
theorem dX4_countKept_31 : decode cX4_countKept 31 = .ok (.ireturn, 1) := by decide +kernel
theorem dX2_countOfKind_0 : decode cX2_countOfKind 0 = .ok (.iconst 0, 1) := by decide +kernel
theorem dX2_countOfKind_1 : decode cX2_countOfKind 1 = .ok (.istore_n 2, 1) := by decide +kernel
theorem dX2_countOfKind_2 : decode cX2_countOfKind 2 = .ok (.iconst 0, 1) := by decide +kernel
theorem dX2_countOfKind_3 : decode cX2_countOfKind 3 = .ok (.istore_n 3, 1) := by decide +kernel
theorem dX2_countOfKind_4 : decode cX2_countOfKind 4 = .ok (.iload_n 3, 1) := by decide +kernel
theorem dX2_countOfKind_5 : decode cX2_countOfKind 5 = .ok (.aload_n 0, 1) := by decide +kernel
theorem dX2_countOfKind_6 : decode cX2_countOfKind 6 = .ok (.getfield 9, 3) := by decide +kernel
theorem dX2_countOfKind_9 : decode cX2_countOfKind 9 = .ok (.if_icmp .ge 25, 3) := by decide +kernel
theorem dX2_countOfKind_12 : decode cX2_countOfKind 12 = .ok (.aload_n 0, 1) := by decide +kernel
theorem dX2_countOfKind_13 : decode cX2_countOfKind 13 = .ok (.getfield 15, 3) := by decide +kernel
theorem dX2_countOfKind_16 : decode cX2_countOfKind 16 = .ok (.iload_n 3, 1) := by decide +kernel
theorem dX2_countOfKind_17 : decode cX2_countOfKind 17 = .ok (.iaload, 1) := by decide +kernel
theorem dX2_countOfKind_18 : decode cX2_countOfKind 18 = .ok (.iload_n 1, 1) := by decide +kernel
theorem dX2_countOfKind_19 : decode cX2_countOfKind 19 = .ok (.invokestatic 105, 3) := by decide +kernel
theorem dX2_countOfKind_22 : decode cX2_countOfKind 22 = .ok (.ifCond .eq 6, 3) := by decide +kernel
theorem dX2_countOfKind_25 : decode cX2_countOfKind 25 = .ok (.iinc 2 1, 3) := by decide +kernel
theorem dX2_countOfKind_28 : decode cX2_countOfKind 28 = .ok (.iinc 3 1, 3) := by decide +kernel
theorem dX2_countOfKind_31 : decode cX2_countOfKind 31 = .ok (.goto (-27), 3) := by decide +kernel
theorem dX2_countOfKind_34 : decode cX2_countOfKind 34 = .ok (.iload_n 2, 1) := by decide +kernel
theorem dX2_countOfKind_35 : decode cX2_countOfKind 35 = .ok (.ireturn, 1) := by decide +kernel
theorem dX4_countOf_0 : decode cX4_countOf 0 = .ok (.iload_n 1, 1) := by decide +kernel
theorem dX4_countOf_1 : decode cX4_countOf 1 = .ok (.tableswitch 142 0 9 #[55, 66, 74, 85, 93, 101, 109, 117, 125, 130], 55) := by decide +kernel
theorem dX4_countOf_56 : decode cX4_countOf 56 = .ok (.aload_n 0, 1) := by decide +kernel
theorem dX4_countOf_57 : decode cX4_countOf 57 = .ok (.getfield 27, 3) := by decide +kernel
theorem dX4_countOf_60 : decode cX4_countOf 60 = .ok (.getfield 104, 3) := by decide +kernel
theorem dX4_countOf_63 : decode cX4_countOf 63 = .ok (.getfield 121, 3) := by decide +kernel
theorem dX4_countOf_66 : decode cX4_countOf 66 = .ok (.ireturn, 1) := by decide +kernel
theorem dX4_countOf_67 : decode cX4_countOf 67 = .ok (.aload_n 0, 1) := by decide +kernel
theorem dX4_countOf_68 : decode cX4_countOf 68 = .ok (.getfield 27, 3) := by decide +kernel
theorem dX4_countOf_71 : decode cX4_countOf 71 = .ok (.getfield 151, 3) := by decide +kernel
theorem dX4_countOf_74 : decode cX4_countOf 74 = .ok (.ireturn, 1) := by decide +kernel
theorem dX4_countOf_75 : decode cX4_countOf 75 = .ok (.aload_n 0, 1) := by decide +kernel
theorem dX4_countOf_76 : decode cX4_countOf 76 = .ok (.getfield 27, 3) := by decide +kernel
theorem dX4_countOf_79 : decode cX4_countOf 79 = .ok (.getfield 172, 3) := by decide +kernel
theorem dX4_countOf_82 : decode cX4_countOf 82 = .ok (.getfield 118, 3) := by decide +kernel
theorem dX4_countOf_85 : decode cX4_countOf 85 = .ok (.ireturn, 1) := by decide +kernel
theorem dX4_countOf_86 : decode cX4_countOf 86 = .ok (.aload_n 0, 1) := by decide +kernel
theorem dX4_countOf_87 : decode cX4_countOf 87 = .ok (.getfield 27, 3) := by decide +kernel
theorem dX4_countOf_90 : decode cX4_countOf 90 = .ok (.getfield 164, 3) := by decide +kernel
theorem dX4_countOf_93 : decode cX4_countOf 93 = .ok (.ireturn, 1) := by decide +kernel
theorem dX4_countOf_94 : decode cX4_countOf 94 = .ok (.aload_n 0, 1) := by decide +kernel
theorem dX4_countOf_95 : decode cX4_countOf 95 = .ok (.getfield 27, 3) := by decide +kernel
theorem dX4_countOf_98 : decode cX4_countOf 98 = .ok (.invokevirtual 212, 3) := by decide +kernel
theorem dX4_countOf_101 : decode cX4_countOf 101 = .ok (.ireturn, 1) := by decide +kernel
theorem dX4_countOf_102 : decode cX4_countOf 102 = .ok (.aload_n 0, 1) := by decide +kernel
theorem dX4_countOf_103 : decode cX4_countOf 103 = .ok (.getfield 27, 3) := by decide +kernel
theorem dX4_countOf_106 : decode cX4_countOf 106 = .ok (.getfield 199, 3) := by decide +kernel
theorem dX4_countOf_109 : decode cX4_countOf 109 = .ok (.ireturn, 1) := by decide +kernel
theorem dX4_countOf_110 : decode cX4_countOf 110 = .ok (.aload_n 0, 1) := by decide +kernel
theorem dX4_countOf_111 : decode cX4_countOf 111 = .ok (.getfield 11, 3) := by decide +kernel
theorem dX4_countOf_114 : decode cX4_countOf 114 = .ok (.invokestatic 293, 3) := by decide +kernel
theorem dX4_countOf_117 : decode cX4_countOf 117 = .ok (.ireturn, 1) := by decide +kernel
theorem dX4_countOf_118 : decode cX4_countOf 118 = .ok (.aload_n 0, 1) := by decide +kernel
theorem dX4_countOf_119 : decode cX4_countOf 119 = .ok (.getfield 15, 3) := by decide +kernel
theorem dX4_countOf_122 : decode cX4_countOf 122 = .ok (.invokestatic 293, 3) := by decide +kernel
theorem dX4_countOf_125 : decode cX4_countOf 125 = .ok (.ireturn, 1) := by decide +kernel
theorem dX4_countOf_126 : decode cX4_countOf 126 = .ok (.aload_n 0, 1) := by decide +kernel
theorem dX4_countOf_127 : decode cX4_countOf 127 = .ok (.invokevirtual 297, 3) := by decide +kernel
theorem dX4_countOf_130 : decode cX4_countOf 130 = .ok (.ireturn, 1) := by decide +kernel
theorem dX4_countOf_131 : decode cX4_countOf 131 = .ok (.aload_n 0, 1) := by decide +kernel
theorem dX4_countOf_132 : decode cX4_countOf 132 = .ok (.getfield 27, 3) := by decide +kernel
theorem dX4_countOf_135 : decode cX4_countOf 135 = .ok (.getfield 104, 3) := by decide +kernel
theorem dX4_countOf_138 : decode cX4_countOf 138 = .ok (.iconst 1, 1) := by decide +kernel
theorem dX4_countOf_139 : decode cX4_countOf 139 = .ok (.invokevirtual 300, 3) := by decide +kernel
theorem dX4_countOf_142 : decode cX4_countOf 142 = .ok (.ireturn, 1) := by decide +kernel
theorem dX4_countOf_143 : decode cX4_countOf 143 = .ok (.aload_n 0, 1) := by decide +kernel
theorem dX4_countOf_144 : decode cX4_countOf 144 = .ok (.getfield 27, 3) := by decide +kernel
theorem dX4_countOf_147 : decode cX4_countOf 147 = .ok (.getfield 104, 3) := by decide +kernel
theorem dX4_countOf_150 : decode cX4_countOf 150 = .ok (.iconst 2, 1) := by decide +kernel
theorem dX4_countOf_151 : decode cX4_countOf 151 = .ok (.invokevirtual 300, 3) := by decide +kernel
theorem dX4_countOf_154 : decode cX4_countOf 154 = .ok (.ireturn, 1) := by decide +kernel
theorem dX4_count_0 : decode cX4_count 0 = .ok (.iload_n 1, 1) := by decide +kernel
theorem dX4_count_1 : decode cX4_count 1 = .ok (.ifCond .lt 9, 3) := by decide +kernel
theorem dX4_count_4 : decode cX4_count 4 = .ok (.iload_n 1, 1) := by decide +kernel
theorem dX4_count_5 : decode cX4_count 5 = .ok (.bipush 11, 2) := by decide +kernel
theorem dX4_count_7 : decode cX4_count 7 = .ok (.if_icmp .lt 7, 3) := by decide +kernel
theorem dX4_count_10 : decode cX4_count 10 = .ok (.iconst (-1), 1) := by decide +kernel
theorem dX4_count_11 : decode cX4_count 11 = .ok (.goto 8, 3) := by decide +kernel
theorem dX4_count_14 : decode cX4_count 14 = .ok (.aload_n 0, 1) := by decide +kernel
theorem dX4_count_15 : decode cX4_count 15 = .ok (.iload_n 1, 1) := by decide +kernel
theorem dX4_count_16 : decode cX4_count 16 = .ok (.invokevirtual 276, 3) := by decide +kernel
theorem dX4_count_19 : decode cX4_count 19 = .ok (.ireturn, 1) := by decide +kernel
theorem dX4_finding_0 : decode cX4_finding 0 = .ok (.aload_n 0, 1) := by decide +kernel
theorem dX4_finding_1 : decode cX4_finding 1 = .ok (.getfield 35, 3) := by decide +kernel
theorem dX4_finding_4 : decode cX4_finding 4 = .ok (.ireturn, 1) := by decide +kernel
theorem dX4_findings_0 : decode cX4_findings 0 = .ok (.iload_n 1, 1) := by decide +kernel
theorem dX4_findings_1 : decode cX4_findings 1 = .ok (.iconst 1, 1) := by decide +kernel
theorem dX4_findings_2 : decode cX4_findings 2 = .ok (.if_icmp .lt 8, 3) := by decide +kernel
theorem dX4_findings_5 : decode cX4_findings 5 = .ok (.iload_n 1, 1) := by decide +kernel
theorem dX4_findings_6 : decode cX4_findings 6 = .ok (.iconst 5, 1) := by decide +kernel
theorem dX4_findings_7 : decode cX4_findings 7 = .ok (.if_icmp .le 7, 3) := by decide +kernel
theorem dX4_findings_10 : decode cX4_findings 10 = .ok (.iconst (-1), 1) := by decide +kernel
theorem dX4_findings_11 : decode cX4_findings 11 = .ok (.goto 9, 3) := by decide +kernel
theorem dX4_findings_14 : decode cX4_findings 14 = .ok (.aload_n 0, 1) := by decide +kernel
theorem dX4_findings_15 : decode cX4_findings 15 = .ok (.getfield 31, 3) := by decide +kernel
theorem dX4_findings_18 : decode cX4_findings 18 = .ok (.iload_n 1, 1) := by decide +kernel
theorem dX4_findings_19 : decode cX4_findings 19 = .ok (.iaload, 1) := by decide +kernel
theorem dX4_findings_20 : decode cX4_findings 20 = .ok (.ireturn, 1) := by decide +kernel
theorem dX0_digestFrom_0 : decode cX0_digestFrom 0 = .ok (.ldc2_w 25, 3) := by decide +kernel
theorem dX0_digestFrom_3 : decode cX0_digestFrom 3 = .ok (.lload_n 1, 1) := by decide +kernel
theorem dX0_digestFrom_4 : decode cX0_digestFrom 4 = .ok (.lmul, 1) := by decide +kernel
theorem dX0_digestFrom_5 : decode cX0_digestFrom 5 = .ok (.aload_n 0, 1) := by decide +kernel
theorem dX0_digestFrom_6 : decode cX0_digestFrom 6 = .ok (.getfield 9, 3) := by decide +kernel
theorem dX0_digestFrom_9 : decode cX0_digestFrom 9 = .ok (.i2l, 1) := by decide +kernel
theorem dX0_digestFrom_10 : decode cX0_digestFrom 10 = .ok (.ladd, 1) := by decide +kernel
theorem dX0_digestFrom_11 : decode cX0_digestFrom 11 = .ok (.lstore_n 3, 1) := by decide +kernel
theorem dX0_digestFrom_12 : decode cX0_digestFrom 12 = .ok (.iconst 0, 1) := by decide +kernel
theorem dX0_digestFrom_13 : decode cX0_digestFrom 13 = .ok (.istore 5, 2) := by decide +kernel
theorem dX0_digestFrom_15 : decode cX0_digestFrom 15 = .ok (.iload 5, 2) := by decide +kernel
theorem dX0_digestFrom_17 : decode cX0_digestFrom 17 = .ok (.aload_n 0, 1) := by decide +kernel
theorem dX0_digestFrom_18 : decode cX0_digestFrom 18 = .ok (.getfield 9, 3) := by decide +kernel
theorem dX0_digestFrom_21 : decode cX0_digestFrom 21 = .ok (.if_icmp .ge 24, 3) := by decide +kernel
theorem dX0_digestFrom_24 : decode cX0_digestFrom 24 = .ok (.ldc2_w 25, 3) := by decide +kernel
theorem dX0_digestFrom_27 : decode cX0_digestFrom 27 = .ok (.lload_n 3, 1) := by decide +kernel
theorem dX0_digestFrom_28 : decode cX0_digestFrom 28 = .ok (.lmul, 1) := by decide +kernel
theorem dX0_digestFrom_29 : decode cX0_digestFrom 29 = .ok (.aload_n 0, 1) := by decide +kernel
theorem dX0_digestFrom_30 : decode cX0_digestFrom 30 = .ok (.getfield 15, 3) := by decide +kernel
theorem dX0_digestFrom_33 : decode cX0_digestFrom 33 = .ok (.iload 5, 2) := by decide +kernel
theorem dX0_digestFrom_35 : decode cX0_digestFrom 35 = .ok (.iaload, 1) := by decide +kernel
theorem dX0_digestFrom_36 : decode cX0_digestFrom 36 = .ok (.i2l, 1) := by decide +kernel
theorem dX0_digestFrom_37 : decode cX0_digestFrom 37 = .ok (.ladd, 1) := by decide +kernel
theorem dX0_digestFrom_38 : decode cX0_digestFrom 38 = .ok (.lstore_n 3, 1) := by decide +kernel
theorem dX0_digestFrom_39 : decode cX0_digestFrom 39 = .ok (.iinc 5 1, 3) := by decide +kernel
theorem dX0_digestFrom_42 : decode cX0_digestFrom 42 = .ok (.goto (-27), 3) := by decide +kernel
theorem dX0_digestFrom_45 : decode cX0_digestFrom 45 = .ok (.lload_n 3, 1) := by decide +kernel
theorem dX0_digestFrom_46 : decode cX0_digestFrom 46 = .ok (.lreturn, 1) := by decide +kernel
theorem dX4_digest_0 : decode cX4_digest 0 = .ok (.ldc2_w 279, 3) := by decide +kernel
theorem dX4_digest_3 : decode cX4_digest 3 = .ok (.lstore_n 1, 1) := by decide +kernel
theorem dX4_digest_4 : decode cX4_digest 4 = .ok (.iconst 0, 1) := by decide +kernel
theorem dX4_digest_5 : decode cX4_digest 5 = .ok (.istore_n 3, 1) := by decide +kernel
theorem dX4_digest_6 : decode cX4_digest 6 = .ok (.iload_n 3, 1) := by decide +kernel
theorem dX4_digest_7 : decode cX4_digest 7 = .ok (.bipush 11, 2) := by decide +kernel
theorem dX4_digest_9 : decode cX4_digest 9 = .ok (.if_icmp .ge 22, 3) := by decide +kernel
theorem dX4_digest_12 : decode cX4_digest 12 = .ok (.ldc2_w 281, 3) := by decide +kernel
theorem dX4_digest_15 : decode cX4_digest 15 = .ok (.lload_n 1, 1) := by decide +kernel
theorem dX4_digest_16 : decode cX4_digest 16 = .ok (.lmul, 1) := by decide +kernel
theorem dX4_digest_17 : decode cX4_digest 17 = .ok (.aload_n 0, 1) := by decide +kernel
theorem dX4_digest_18 : decode cX4_digest 18 = .ok (.iload_n 3, 1) := by decide +kernel
theorem dX4_digest_19 : decode cX4_digest 19 = .ok (.invokevirtual 276, 3) := by decide +kernel
theorem dX4_digest_22 : decode cX4_digest 22 = .ok (.i2l, 1) := by decide +kernel
theorem dX4_digest_23 : decode cX4_digest 23 = .ok (.ladd, 1) := by decide +kernel
theorem dX4_digest_24 : decode cX4_digest 24 = .ok (.lstore_n 1, 1) := by decide +kernel
theorem dX4_digest_25 : decode cX4_digest 25 = .ok (.iinc 3 1, 3) := by decide +kernel
theorem dX4_digest_28 : decode cX4_digest 28 = .ok (.goto (-22), 3) := by decide +kernel
theorem dX4_digest_31 : decode cX4_digest 31 = .ok (.iconst 0, 1) := by decide +kernel
theorem dX4_digest_32 : decode cX4_digest 32 = .ok (.istore_n 3, 1) := by decide +kernel
theorem dX4_digest_33 : decode cX4_digest 33 = .ok (.iload_n 3, 1) := by decide +kernel
theorem dX4_digest_34 : decode cX4_digest 34 = .ok (.aload_n 0, 1) := by decide +kernel
theorem dX4_digest_35 : decode cX4_digest 35 = .ok (.getfield 27, 3) := by decide +kernel
theorem dX4_digest_38 : decode cX4_digest 38 = .ok (.getfield 104, 3) := by decide +kernel
theorem dX4_digest_41 : decode cX4_digest 41 = .ok (.getfield 121, 3) := by decide +kernel
theorem dX4_digest_44 : decode cX4_digest 44 = .ok (.if_icmp .ge 43, 3) := by decide +kernel
theorem dX4_digest_47 : decode cX4_digest 47 = .ok (.iconst 0, 1) := by decide +kernel
theorem dX4_digest_48 : decode cX4_digest 48 = .ok (.istore 4, 2) := by decide +kernel
theorem dX4_digest_50 : decode cX4_digest 50 = .ok (.iload 4, 2) := by decide +kernel
theorem dX4_digest_52 : decode cX4_digest 52 = .ok (.bipush 7, 2) := by decide +kernel
theorem dX4_digest_54 : decode cX4_digest 54 = .ok (.if_icmp .gt 27, 3) := by decide +kernel
theorem dX4_digest_57 : decode cX4_digest 57 = .ok (.ldc2_w 281, 3) := by decide +kernel
theorem dX4_digest_60 : decode cX4_digest 60 = .ok (.lload_n 1, 1) := by decide +kernel
theorem dX4_digest_61 : decode cX4_digest 61 = .ok (.lmul, 1) := by decide +kernel
theorem dX4_digest_62 : decode cX4_digest 62 = .ok (.aload_n 0, 1) := by decide +kernel
theorem dX4_digest_63 : decode cX4_digest 63 = .ok (.getfield 27, 3) := by decide +kernel
theorem dX4_digest_66 : decode cX4_digest 66 = .ok (.iload_n 3, 1) := by decide +kernel
theorem dX4_digest_67 : decode cX4_digest 67 = .ok (.iload 4, 2) := by decide +kernel
theorem dX4_digest_69 : decode cX4_digest 69 = .ok (.invokevirtual 128, 3) := by decide +kernel
theorem dX4_digest_72 : decode cX4_digest 72 = .ok (.i2l, 1) := by decide +kernel
theorem dX4_digest_73 : decode cX4_digest 73 = .ok (.ladd, 1) := by decide +kernel
theorem dX4_digest_74 : decode cX4_digest 74 = .ok (.lstore_n 1, 1) := by decide +kernel
theorem dX4_digest_75 : decode cX4_digest 75 = .ok (.iinc 4 1, 3) := by decide +kernel
theorem dX4_digest_78 : decode cX4_digest 78 = .ok (.goto (-28), 3) := by decide +kernel
theorem dX4_digest_81 : decode cX4_digest 81 = .ok (.iinc 3 1, 3) := by decide +kernel
theorem dX4_digest_84 : decode cX4_digest 84 = .ok (.goto (-51), 3) := by decide +kernel
theorem dX4_digest_87 : decode cX4_digest 87 = .ok (.iconst 0, 1) := by decide +kernel
theorem dX4_digest_88 : decode cX4_digest 88 = .ok (.istore_n 3, 1) := by decide +kernel
theorem dX4_digest_89 : decode cX4_digest 89 = .ok (.iload_n 3, 1) := by decide +kernel
theorem dX4_digest_90 : decode cX4_digest 90 = .ok (.iconst 3, 1) := by decide +kernel
theorem dX4_digest_91 : decode cX4_digest 91 = .ok (.if_icmp .ge 26, 3) := by decide +kernel
theorem dX4_digest_94 : decode cX4_digest 94 = .ok (.ldc2_w 281, 3) := by decide +kernel
theorem dX4_digest_97 : decode cX4_digest 97 = .ok (.lload_n 1, 1) := by decide +kernel
theorem dX4_digest_98 : decode cX4_digest 98 = .ok (.lmul, 1) := by decide +kernel
theorem dX4_digest_99 : decode cX4_digest 99 = .ok (.aload_n 0, 1) := by decide +kernel
theorem dX4_digest_100 : decode cX4_digest 100 = .ok (.getfield 20, 3) := by decide +kernel
theorem dX4_digest_103 : decode cX4_digest 103 = .ok (.iload_n 3, 1) := by decide +kernel
theorem dX4_digest_104 : decode cX4_digest 104 = .ok (.aaload, 1) := by decide +kernel
theorem dX4_digest_105 : decode cX4_digest 105 = .ok (.getfield 118, 3) := by decide +kernel
theorem dX4_digest_108 : decode cX4_digest 108 = .ok (.i2l, 1) := by decide +kernel
theorem dX4_digest_109 : decode cX4_digest 109 = .ok (.ladd, 1) := by decide +kernel
theorem dX4_digest_110 : decode cX4_digest 110 = .ok (.lstore_n 1, 1) := by decide +kernel
theorem dX4_digest_111 : decode cX4_digest 111 = .ok (.iinc 3 1, 3) := by decide +kernel
theorem dX4_digest_114 : decode cX4_digest 114 = .ok (.goto (-25), 3) := by decide +kernel
theorem dX4_digest_117 : decode cX4_digest 117 = .ok (.iconst 0, 1) := by decide +kernel
theorem dX4_digest_118 : decode cX4_digest 118 = .ok (.istore_n 3, 1) := by decide +kernel
theorem dX4_digest_119 : decode cX4_digest 119 = .ok (.iload_n 3, 1) := by decide +kernel
theorem dX4_digest_120 : decode cX4_digest 120 = .ok (.bipush 6, 2) := by decide +kernel
theorem dX4_digest_122 : decode cX4_digest 122 = .ok (.if_icmp .ge 20, 3) := by decide +kernel
theorem dX4_digest_125 : decode cX4_digest 125 = .ok (.aload_n 0, 1) := by decide +kernel
theorem dX4_digest_126 : decode cX4_digest 126 = .ok (.getfield 11, 3) := by decide +kernel
theorem dX4_digest_129 : decode cX4_digest 129 = .ok (.iload_n 3, 1) := by decide +kernel
theorem dX4_digest_130 : decode cX4_digest 130 = .ok (.aaload, 1) := by decide +kernel
theorem dX4_digest_131 : decode cX4_digest 131 = .ok (.lload_n 1, 1) := by decide +kernel
theorem dX4_digest_132 : decode cX4_digest 132 = .ok (.invokevirtual 283, 3) := by decide +kernel
theorem dX4_digest_135 : decode cX4_digest 135 = .ok (.lstore_n 1, 1) := by decide +kernel
theorem dX4_digest_136 : decode cX4_digest 136 = .ok (.iinc 3 1, 3) := by decide +kernel
theorem dX4_digest_139 : decode cX4_digest 139 = .ok (.goto (-20), 3) := by decide +kernel
theorem dX4_digest_142 : decode cX4_digest 142 = .ok (.iconst 0, 1) := by decide +kernel
theorem dX4_digest_143 : decode cX4_digest 143 = .ok (.istore_n 3, 1) := by decide +kernel
theorem dX4_digest_144 : decode cX4_digest 144 = .ok (.iload_n 3, 1) := by decide +kernel
theorem dX4_digest_145 : decode cX4_digest 145 = .ok (.iconst 4, 1) := by decide +kernel
theorem dX4_digest_146 : decode cX4_digest 146 = .ok (.if_icmp .ge 20, 3) := by decide +kernel
theorem dX4_digest_149 : decode cX4_digest 149 = .ok (.aload_n 0, 1) := by decide +kernel
theorem dX4_digest_150 : decode cX4_digest 150 = .ok (.getfield 15, 3) := by decide +kernel
theorem dX4_digest_153 : decode cX4_digest 153 = .ok (.iload_n 3, 1) := by decide +kernel
theorem dX4_digest_154 : decode cX4_digest 154 = .ok (.aaload, 1) := by decide +kernel
theorem dX4_digest_155 : decode cX4_digest 155 = .ok (.lload_n 1, 1) := by decide +kernel
theorem dX4_digest_156 : decode cX4_digest 156 = .ok (.invokevirtual 283, 3) := by decide +kernel
theorem dX4_digest_159 : decode cX4_digest 159 = .ok (.lstore_n 1, 1) := by decide +kernel
theorem dX4_digest_160 : decode cX4_digest 160 = .ok (.iinc 3 1, 3) := by decide +kernel
theorem dX4_digest_163 : decode cX4_digest 163 = .ok (.goto (-19), 3) := by decide +kernel
theorem dX4_digest_166 : decode cX4_digest 166 = .ok (.lload_n 1, 1) := by decide +kernel
theorem dX4_digest_167 : decode cX4_digest 167 = .ok (.lreturn, 1) := by decide +kernel
def f4_gainByTurns_35_58 (M : Mem) (fu : Nat) (rc : Int32 → Int32 → Int32 → Int32 → Option Int32) (k23 : Int32 → Int32 → Int32 → Int32 → Int32 → Int32 → Option (Int32)) (x1 : Int32) (x2 : Int32) (x3 : Int32) (x4 : Int32) (x5 : Int32) (x6 : Int32) (s0 : Int32) : Option (Int32) :=
    if s0 = 0 then (nm (x6 + (1 : Int32)) fun v2 =>
    (k23 x1 x2 x3 x4 x5 v2))
    else ((rd M 41 8 x6).bind fun v3 =>
    (rc (x1 - (1 : Int32)) (x2 &&& (((1 : Int32) <<< (x6 &&& 31)) ^^^ (-1 : Int32))) x4 (x3 ||| v3)).bind fun r5 =>
    (rd M 42 8 x6).bind fun v6 =>
    nm (if x5 < (v6 - r5) then (v6 - r5) else x5) fun v7 =>
    nm (x6 + (1 : Int32)) fun v8 =>
    (k23 x1 x2 x3 x4 v7 v8))
set_option maxHeartbeats 4000000 in
set_option maxRecDepth 10000 in
theorem w4_gainByTurns_35_58 {ad : Nat → Nat} {X : XX} {R : Int32} {M : Mem} {fu : Nat} {rc : Int32 → Int32 → Int32 → Int32 → Option Int32} {lv0 lev : Nat} (hlv : lv0 + 1 ≤ lev) (hrc : ∀ (a0 a1 a2 a3 : Int32) (r : Int32), rc a0 a1 a2 a3 = some r → Con layC ad X.1 yX4_gainByTurns cX4_gainByTurns 9 (some .int) lv0 M [.ref (ad 35), .int a0, .int a1, .int a2, .int a3] M (some (.int r))) {k23 : Int32 → Int32 → Int32 → Int32 → Int32 → Int32 → Option (Int32)} (h : Cx layC ad X cX4_gainByTurns RX4 9 lev (some .int) M (some (.int R))) (hk23 : ∀ (x1 : Int32) (x2 : Int32) (x3 : Int32) (x4 : Int32) (x5 : Int32) (x6 : Int32), k23 x1 x2 x3 x4 x5 x6 = some R → Wp layC ad X M 23 [(0, .ref (ad 35)), (1, .int x1), (2, .int x2), (3, .int x3), (4, .int x4), (5, .int x5), (6, .int x6)] []) {x1 : Int32} {x2 : Int32} {x3 : Int32} {x4 : Int32} {x5 : Int32} {x6 : Int32} {s0 : Int32} (hF : f4_gainByTurns_35_58 M fu rc k23 x1 x2 x3 x4 x5 x6 s0 = some R) : Wp layC ad X M 58 [(0, .ref (ad 35)), (1, .int x1), (2, .int x2), (3, .int x3), (4, .int x4), (5, .int x5), (6, .int x6)] [.int s0] := by
  unfold f4_gainByTurns_35_58 at hF
  refine R_istore (pc := 58) (lv' := [(7, .int s0), (0, .ref (ad 35)), (1, .int x1), (2, .int x2), (3, .int x3), (4, .int x4), (5, .int x5), (6, .int x6)]) h rfl (by decide) rfl dX4_gainByTurns_58 ?_
  refine R_iload (pc := 60) h 0 rfl dX4_gainByTurns_60 ?_
  refine R_if_eq (pc := 62) (tgt := 110) h dX4_gainByTurns_62 (by decide) (fun c1 => ?_) (fun c1 => ?_)
  · have hF := itp c1 hF
    obtain ⟨v2, hv2, hF⟩ := nm_e2 hF
    refine R_iinc (pc := 110) (lv' := [(6, .int v2), (7, .int s0), (0, .ref (ad 35)), (1, .int x1), (2, .int x2), (3, .int x3), (4, .int x4), (5, .int x5)]) h 7 rfl (by decide) hv2 (by decide) rfl dX4_gainByTurns_110 ?_
    refine R_goto (pc := 113) (tgt := 23) h dX4_gainByTurns_113 (by decide) ?_
    exact Wp_sub (nX := 0) (lv' := [(0, .ref (ad 35)), (1, .int x1), (2, .int x2), (3, .int x3), (4, .int x4), (5, .int x5), (6, .int v2)]) [2, 3, 4, 5, 6, 7, 0] rfl (hk23 _ _ _ _ _ _ hF)
  · have hF := ifn c1 hF
    refine R_aload_n (pc := 65) h 1 rfl rfl dX4_gainByTurns_65 ?_
    refine R_iload_n (pc := 66) h 2 rfl rfl dX4_gainByTurns_66 ?_
    refine R_iconst (pc := 67) (v := 1) h (by decide) dX4_gainByTurns_67 ?_
    refine R_isub (pc := 68) h dX4_gainByTurns_68 ?_
    refine R_iload_n (pc := 69) h 3 rfl rfl dX4_gainByTurns_69 ?_
    refine R_iconst (pc := 70) (v := 1) h (by decide) dX4_gainByTurns_70 ?_
    refine R_iload (pc := 71) h 7 rfl dX4_gainByTurns_71 ?_
    refine R_ishl (pc := 73) h dX4_gainByTurns_73 ?_
    refine R_iconst (pc := 74) (v := (-1)) h (by decide) dX4_gainByTurns_74 ?_
    refine R_ixor (pc := 75) h dX4_gainByTurns_75 ?_
    refine R_iand (pc := 76) h dX4_gainByTurns_76 ?_
    refine R_iload (pc := 77) h 5 rfl dX4_gainByTurns_77 ?_
    refine R_iload_n (pc := 79) h 4 rfl rfl dX4_gainByTurns_79 ?_
    refine R_aload_n (pc := 80) h 1 rfl rfl dX4_gainByTurns_80 ?_
    refine R_getR (pc := 81) (q1 := 41) h flX4_184 lc_35 rfl dX4_gainByTurns_81 ?_
    refine R_iload (pc := 84) h 7 rfl dX4_gainByTurns_84 ?_
    obtain ⟨v3, hv3, hF⟩ := bd hF
    refine R_iald (pc := 86) h hv3 lc_41 dX4_gainByTurns_86 ?_
    refine R_ior (pc := 87) h dX4_gainByTurns_87 ?_
    obtain ⟨r5, hc4, hF⟩ := bd hF
    refine R_callS (pc := 88) (st := []) h [.ref (ad 35), .int (x1 - (1 : Int32)), .int (x2 &&& (((1 : Int32) <<< (x6 &&& 31)) ^^^ (-1 : Int32))), .int x4, .int (x3 ||| v3)] csX4_249 (hrc _ _ _ _ _ hc4) rfl rfl hlv (by decide) (Nat.le_of_ble_eq_true rfl) dX4_gainByTurns_88 (st1 := [.int r5]) rfl ?_
    refine R_istore (pc := 91) (lv' := [(8, .int r5), (7, .int s0), (0, .ref (ad 35)), (1, .int x1), (2, .int x2), (3, .int x3), (4, .int x4), (5, .int x5), (6, .int x6)]) h rfl (by decide) rfl dX4_gainByTurns_91 ?_
    refine R_iload (pc := 93) h 7 rfl dX4_gainByTurns_93 ?_
    refine R_aload_n (pc := 95) h 2 rfl rfl dX4_gainByTurns_95 ?_
    refine R_getR (pc := 96) (q1 := 42) h flX4_138 lc_35 rfl dX4_gainByTurns_96 ?_
    refine R_iload (pc := 99) h 8 rfl dX4_gainByTurns_99 ?_
    obtain ⟨v6, hv6, hF⟩ := bd hF
    refine R_iald (pc := 101) h hv6 lc_42 dX4_gainByTurns_101 ?_
    refine R_iload (pc := 102) h 0 rfl dX4_gainByTurns_102 ?_
    refine R_isub (pc := 104) h dX4_gainByTurns_104 ?_
    refine R_mmax (pc := 105) h mlX4_303 (by omega) (Nat.le_of_ble_eq_true rfl) dX4_gainByTurns_105 ?_
    obtain ⟨v7, hv7, hF⟩ := nm_e2 hF
    refine R_istore (pc := 108) (lv' := [(5, .int v7), (8, .int r5), (7, .int s0), (0, .ref (ad 35)), (1, .int x1), (2, .int x2), (3, .int x3), (4, .int x4), (6, .int x6)]) h hv7 (by decide) rfl dX4_gainByTurns_108 ?_
    obtain ⟨v8, hv8, hF⟩ := nm_e2 hF
    refine R_iinc (pc := 110) (lv' := [(6, .int v8), (5, .int v7), (8, .int r5), (7, .int s0), (0, .ref (ad 35)), (1, .int x1), (2, .int x2), (3, .int x3), (4, .int x4)]) h 8 rfl (by decide) hv8 (by decide) rfl dX4_gainByTurns_110 ?_
    refine R_goto (pc := 113) (tgt := 23) h dX4_gainByTurns_113 (by decide) ?_
    exact Wp_sub (nX := 0) (lv' := [(0, .ref (ad 35)), (1, .int x1), (2, .int x2), (3, .int x3), (4, .int x4), (5, .int v7), (6, .int v8)]) [4, 5, 6, 7, 8, 1, 0] rfl (hk23 _ _ _ _ _ _ hF)
def f4_gainByTurns_35_23 (M : Mem) (fu : Nat) (rc : Int32 → Int32 → Int32 → Int32 → Option Int32) : Nat → Int32 → Int32 → Int32 → Int32 → Int32 → Int32 → Option (Int32)
  | 0 => fun _ _ _ _ _ _ => none
  | f + 1 => fun x1 x2 x3 x4 x5 x6 =>
    if (M.1 35 0) ≤ x6 then ((some x5))
    else (if ((x2 >>> (x6 &&& 31)) &&& (1 : Int32)) = 0 then ((f4_gainByTurns_35_58 M fu rc (f4_gainByTurns_35_23 M fu rc f) x1 x2 x3 x4 x5 x6 (0 : Int32)))
    else ((rd M 41 8 x6).bind fun v3 =>
    if (v3 &&& x3) = 0 then ((f4_gainByTurns_35_58 M fu rc (f4_gainByTurns_35_23 M fu rc f) x1 x2 x3 x4 x5 x6 (1 : Int32)))
    else ((f4_gainByTurns_35_58 M fu rc (f4_gainByTurns_35_23 M fu rc f) x1 x2 x3 x4 x5 x6 (0 : Int32)))))
set_option maxHeartbeats 4000000 in
set_option maxRecDepth 10000 in
theorem w4_gainByTurns_35i_23 {ad : Nat → Nat} {X : XX} {R : Int32} {M : Mem} {fu : Nat} {rc : Int32 → Int32 → Int32 → Int32 → Option Int32} {lv0 lev : Nat} (hlv : lv0 + 1 ≤ lev) (hrc : ∀ (a0 a1 a2 a3 : Int32) (r : Int32), rc a0 a1 a2 a3 = some r → Con layC ad X.1 yX4_gainByTurns cX4_gainByTurns 9 (some .int) lv0 M [.ref (ad 35), .int a0, .int a1, .int a2, .int a3] M (some (.int r)))  (h : Cx layC ad X cX4_gainByTurns RX4 9 lev (some .int) M (some (.int R)))  : ∀ (f : Nat) (x1 : Int32) (x2 : Int32) (x3 : Int32) (x4 : Int32) (x5 : Int32) (x6 : Int32), f4_gainByTurns_35_23 M fu rc f x1 x2 x3 x4 x5 x6 = some R → Wp layC ad X M 23 [(0, .ref (ad 35)), (1, .int x1), (2, .int x2), (3, .int x3), (4, .int x4), (5, .int x5), (6, .int x6)] [] := by
  intro f
  induction f with
  | zero => intro x1 x2 x3 x4 x5 x6 hF; exact absurd hF (by simp [f4_gainByTurns_35_23])
  | succ f ih =>
    intro x1 x2 x3 x4 x5 x6 hF
    rw [f4_gainByTurns_35_23] at hF
    refine R_iload (pc := 23) h 6 rfl dX4_gainByTurns_23 ?_
    refine R_aload_n (pc := 25) h 0 rfl rfl dX4_gainByTurns_25 ?_
    refine R_getI (pc := 26) h flX4_121 lc_35 rfl dX4_gainByTurns_26 ?_
    refine R_icmp_ge (pc := 29) (tgt := 116) h dX4_gainByTurns_29 (by decide) (fun c1 => ?_) (fun c1 => ?_)
    · have hF := itp c1 hF
      refine R_iload (pc := 116) h 5 rfl dX4_gainByTurns_116 ?_
      cases hF
      exact R_ireturn (pc := 118) h rfl rfl rfl dX4_gainByTurns_118
    · have hF := ifn c1 hF
      refine R_iload_n (pc := 32) h 2 rfl rfl dX4_gainByTurns_32 ?_
      refine R_iload (pc := 33) h 6 rfl dX4_gainByTurns_33 ?_
      refine R_ishr (pc := 35) h dX4_gainByTurns_35 ?_
      refine R_iconst (pc := 36) (v := 1) h (by decide) dX4_gainByTurns_36 ?_
      refine R_iand (pc := 37) h dX4_gainByTurns_37 ?_
      refine R_if_eq (pc := 38) (tgt := 57) h dX4_gainByTurns_38 (by decide) (fun c2 => ?_) (fun c2 => ?_)
      · have hF := itp c2 hF
        refine R_iconst (pc := 57) (v := 0) h (by decide) dX4_gainByTurns_57 ?_
        exact Wp_sub (nX := 0) (lv' := [(0, .ref (ad 35)), (1, .int x1), (2, .int x2), (3, .int x3), (4, .int x4), (5, .int x5), (6, .int x6)]) [0, 1, 2, 3, 4, 5, 6] rfl (w4_gainByTurns_35_58 h (hrc := hrc) (hlv := hlv) (hk23 := fun a0 a1 a2 a3 a4 a5 hF => ih a0 a1 a2 a3 a4 a5 hF) (hF := hF))
      · have hF := ifn c2 hF
        refine R_aload_n (pc := 41) h 0 rfl rfl dX4_gainByTurns_41 ?_
        refine R_getR (pc := 42) (q1 := 41) h flX4_184 lc_35 rfl dX4_gainByTurns_42 ?_
        refine R_iload (pc := 45) h 6 rfl dX4_gainByTurns_45 ?_
        obtain ⟨v3, hv3, hF⟩ := bd hF
        refine R_iald (pc := 47) h hv3 lc_41 dX4_gainByTurns_47 ?_
        refine R_iload_n (pc := 48) h 3 rfl rfl dX4_gainByTurns_48 ?_
        refine R_iand (pc := 49) h dX4_gainByTurns_49 ?_
        refine R_if_ne (pc := 50) (tgt := 57) h dX4_gainByTurns_50 (by decide) (fun c4 => ?_) (fun c4 => ?_)
        · have hF := ifn c4 hF
          refine R_iconst (pc := 57) (v := 0) h (by decide) dX4_gainByTurns_57 ?_
          exact Wp_sub (nX := 0) (lv' := [(0, .ref (ad 35)), (1, .int x1), (2, .int x2), (3, .int x3), (4, .int x4), (5, .int x5), (6, .int x6)]) [0, 1, 2, 3, 4, 5, 6] rfl (w4_gainByTurns_35_58 h (hrc := hrc) (hlv := hlv) (hk23 := fun a0 a1 a2 a3 a4 a5 hF => ih a0 a1 a2 a3 a4 a5 hF) (hF := hF))
        · have hF := itp c4 hF
          refine R_iconst (pc := 53) (v := 1) h (by decide) dX4_gainByTurns_53 ?_
          refine R_goto (pc := 54) (tgt := 58) h dX4_gainByTurns_54 (by decide) ?_
          exact Wp_sub (nX := 0) (lv' := [(0, .ref (ad 35)), (1, .int x1), (2, .int x2), (3, .int x3), (4, .int x4), (5, .int x5), (6, .int x6)]) [0, 1, 2, 3, 4, 5, 6] rfl (w4_gainByTurns_35_58 h (hrc := hrc) (hlv := hlv) (hk23 := fun a0 a1 a2 a3 a4 a5 hF => ih a0 a1 a2 a3 a4 a5 hF) (hF := hF))
theorem w4_gainByTurns_35_23 {ad : Nat → Nat} {X : XX} {R : Int32} {M : Mem} {fu : Nat} {rc : Int32 → Int32 → Int32 → Int32 → Option Int32} {lv0 lev : Nat} (hlv : lv0 + 1 ≤ lev) (hrc : ∀ (a0 a1 a2 a3 : Int32) (r : Int32), rc a0 a1 a2 a3 = some r → Con layC ad X.1 yX4_gainByTurns cX4_gainByTurns 9 (some .int) lv0 M [.ref (ad 35), .int a0, .int a1, .int a2, .int a3] M (some (.int r)))  (h : Cx layC ad X cX4_gainByTurns RX4 9 lev (some .int) M (some (.int R)))  {f : Nat} {x1 : Int32} {x2 : Int32} {x3 : Int32} {x4 : Int32} {x5 : Int32} {x6 : Int32} (hF : f4_gainByTurns_35_23 M fu rc f x1 x2 x3 x4 x5 x6 = some R) : Wp layC ad X M 23 [(0, .ref (ad 35)), (1, .int x1), (2, .int x2), (3, .int x3), (4, .int x4), (5, .int x5), (6, .int x6)] [] := w4_gainByTurns_35i_23 hlv hrc h  f _ _ _ _ _ _ hF
def f4_gainByTurns_35_e (M : Mem) (fu : Nat) (rc : Int32 → Int32 → Int32 → Int32 → Option Int32) (x1 : Int32) (x2 : Int32) (x3 : Int32) (x4 : Int32) : Option (Int32) :=
    if 0 < x1 then ((rc (x1 - (1 : Int32)) x2 x4 x3).bind fun r3 =>
    nm (-r3) fun v4 =>
    (f4_gainByTurns_35_23 M fu rc fu x1 x2 x3 x4 v4 (0 : Int32)))
    else ((some (0 : Int32)))
set_option maxHeartbeats 4000000 in
set_option maxRecDepth 10000 in
theorem w4_gainByTurns_35 {ad : Nat → Nat} {X : XX} {R : Int32} {M : Mem} {fu : Nat} {rc : Int32 → Int32 → Int32 → Int32 → Option Int32} {lv0 lev : Nat} (hlv : lv0 + 1 ≤ lev) (hrc : ∀ (a0 a1 a2 a3 : Int32) (r : Int32), rc a0 a1 a2 a3 = some r → Con layC ad X.1 yX4_gainByTurns cX4_gainByTurns 9 (some .int) lv0 M [.ref (ad 35), .int a0, .int a1, .int a2, .int a3] M (some (.int r))) (h : Cx layC ad X cX4_gainByTurns RX4 9 lev (some .int) M (some (.int R))) {x1 : Int32} {x2 : Int32} {x3 : Int32} {x4 : Int32} (hF : f4_gainByTurns_35_e M fu rc x1 x2 x3 x4 = some R) : Wp layC ad X M 0 [(0, .ref (ad 35)), (1, .int x1), (2, .int x2), (3, .int x3), (4, .int x4)] [] := by
  unfold f4_gainByTurns_35_e at hF
  refine R_iload_n (pc := 0) h 1 rfl rfl dX4_gainByTurns_0 ?_
  refine R_if_gt (pc := 1) (tgt := 6) h dX4_gainByTurns_1 (by decide) (fun c1 => ?_) (fun c1 => ?_)
  · have hF := itp c1 hF
    refine R_aload_n (pc := 6) h 0 rfl rfl dX4_gainByTurns_6 ?_
    refine R_iload_n (pc := 7) h 1 rfl rfl dX4_gainByTurns_7 ?_
    refine R_iconst (pc := 8) (v := 1) h (by decide) dX4_gainByTurns_8 ?_
    refine R_isub (pc := 9) h dX4_gainByTurns_9 ?_
    refine R_iload_n (pc := 10) h 2 rfl rfl dX4_gainByTurns_10 ?_
    refine R_iload (pc := 11) h 4 rfl dX4_gainByTurns_11 ?_
    refine R_iload_n (pc := 13) h 3 rfl rfl dX4_gainByTurns_13 ?_
    obtain ⟨r3, hc2, hF⟩ := bd hF
    refine R_callS (pc := 14) (st := []) h [.ref (ad 35), .int (x1 - (1 : Int32)), .int x2, .int x4, .int x3] csX4_249 (hrc _ _ _ _ _ hc2) rfl rfl hlv (by decide) (Nat.le_of_ble_eq_true rfl) dX4_gainByTurns_14 (st1 := [.int r3]) rfl ?_
    refine R_ineg (pc := 17) h dX4_gainByTurns_17 ?_
    obtain ⟨v4, hv4, hF⟩ := nm_e2 hF
    refine R_istore (pc := 18) (lv' := [(5, .int v4), (0, .ref (ad 35)), (1, .int x1), (2, .int x2), (3, .int x3), (4, .int x4)]) h hv4 (by decide) rfl dX4_gainByTurns_18 ?_
    refine R_iconst (pc := 20) (v := 0) h (by decide) dX4_gainByTurns_20 ?_
    refine R_istore (pc := 21) (lv' := [(6, .int (0 : Int32)), (5, .int v4), (0, .ref (ad 35)), (1, .int x1), (2, .int x2), (3, .int x3), (4, .int x4)]) h rfl (by decide) rfl dX4_gainByTurns_21 ?_
    exact Wp_sub (nX := 0) (lv' := [(0, .ref (ad 35)), (1, .int x1), (2, .int x2), (3, .int x3), (4, .int x4), (5, .int v4), (6, .int (0 : Int32))]) [2, 3, 4, 5, 6, 1, 0] rfl (w4_gainByTurns_35_23 h (hrc := hrc) (hlv := hlv)  (hF := hF))
  · have hF := ifn c1 hF
    refine R_iconst (pc := 4) (v := 0) h (by decide) dX4_gainByTurns_4 ?_
    cases hF
    exact R_ireturn (pc := 5) h rfl rfl rfl dX4_gainByTurns_5
def f4_gainByTurns_35 (M : Mem) (fu : Nat) : Nat → Int32 → Int32 → Int32 → Int32 → Option (Int32)
  | 0 => fun _ _ _ _ => none
  | d + 1 => fun x1 x2 x3 x4 => f4_gainByTurns_35_e M fu (f4_gainByTurns_35 M fu d) x1 x2 x3 x4
theorem c4_gainByTurns_35 {ad : Nat → Nat} {z : ZZ} {M : Mem} {fu : Nat} : ∀ (d : Nat) (x1 : Int32) (x2 : Int32) (x3 : Int32) (x4 : Int32) (R : Int32), f4_gainByTurns_35 M fu d x1 x2 x3 x4 = some R → Con layC ad z yX4_gainByTurns cX4_gainByTurns 9 (some .int) (1 + d) M [.ref (ad 35), .int x1, .int x2, .int x3, .int x4] M (some (.int R)) := by
  intro d
  induction d with
  | zero => intro x1 x2 x3 x4 R hF; exact absurd hF (by simp [f4_gainByTurns_35])
  | succ d ih =>
    intro x1 x2 x3 x4 R hF
    rw [f4_gainByTurns_35] at hF
    exact con_of (own := RX4) (lv := [(0, .ref (ad 35)), (1, .int x1), (2, .int x2), (3, .int x3), (4, .int x4)]) (by decide +kernel) rfl (Nat.le_of_ble_eq_true rfl) rfl (fun X hz h => w4_gainByTurns_35 (lv0 := 1 + d) (Nat.le_refl _) (fun x1 x2 x3 x4 r hr => by rw [hz]; exact ih x1 x2 x3 x4 r hr) h hF)
def f4_gainByTurns_35D (M : Mem) (fu : Nat) (x1 : Int32) (x2 : Int32) (x3 : Int32) (x4 : Int32) : Option Int32 := f4_gainByTurns_35 M fu 6 x1 x2 x3 x4
theorem c4_gainByTurns_35D {ad : Nat → Nat} {z : ZZ} {M : Mem} {fu : Nat} {R : Int32} {x1 : Int32} {x2 : Int32} {x3 : Int32} {x4 : Int32} (hF : f4_gainByTurns_35D M fu x1 x2 x3 x4 = some R) : Con layC ad z yX4_gainByTurns cX4_gainByTurns 9 (some .int) 7 M [.ref (ad 35), .int x1, .int x2, .int x3, .int x4] M (some (.int R)) := c4_gainByTurns_35 6 x1 x2 x3 x4 R hF
def f4_duel (M : Mem) (fu : Nat) (x1 : Int32) : Option (Int32) :=
    if x1 < 0 then ((some (-1 : Int32)))
    else (if x1 ≤ (4 : Int32) then (if (M.1 35 0) = 0 then ((some (-4 : Int32)))
    else ((f3_lying M).bind fun r5 =>
    (f4_gainByTurns_35D M fu x1 r5 (0 : Int32) (0 : Int32)).bind fun r7 =>
    (some ((500 : Int32) + r7))))
    else ((some (-1 : Int32))))
set_option maxHeartbeats 4000000 in
set_option maxRecDepth 10000 in
theorem w4_duel {ad : Nat → Nat} {X : XX} {R : Int32} {M : Mem} {fu : Nat} (h : Cx layC ad X cX4_duel RX4 2 8 (some .int) M (some (.int R))) {x1 : Int32} (hF : f4_duel M fu x1 = some R) : Wp layC ad X M 0 [(0, .ref (ad 28)), (1, .int x1)] [] := by
  unfold f4_duel at hF
  refine R_iload_n (pc := 0) h 1 rfl rfl dX4_duel_0 ?_
  refine R_if_lt (pc := 1) (tgt := 9) h dX4_duel_1 (by decide) (fun c1 => ?_) (fun c1 => ?_)
  · have hF := itp c1 hF
    refine R_iconst (pc := 9) (v := (-1)) h (by decide) dX4_duel_9 ?_
    cases hF
    exact R_ireturn (pc := 10) h rfl rfl rfl dX4_duel_10
  · have hF := ifn c1 hF
    refine R_iload_n (pc := 4) h 1 rfl rfl dX4_duel_4 ?_
    refine R_iconst (pc := 5) (v := 4) h (by decide) dX4_duel_5 ?_
    refine R_icmp_le (pc := 6) (tgt := 11) h dX4_duel_6 (by decide) (fun c2 => ?_) (fun c2 => ?_)
    · have hF := itp c2 hF
      refine R_aload_n (pc := 11) h 0 rfl rfl dX4_duel_11 ?_
      refine R_getR (pc := 12) (q1 := 33) h flX4_27 lc_28 rfl dX4_duel_12 ?_
      refine R_getR (pc := 15) (q1 := 35) h flX4_104 lc_33 rfl dX4_duel_15 ?_
      refine R_getI (pc := 18) h flX4_121 lc_35 rfl dX4_duel_18 ?_
      refine R_if_ne (pc := 21) (tgt := 27) h dX4_duel_21 (by decide) (fun c3 => ?_) (fun c3 => ?_)
      · have hF := ifn c3 hF
        refine R_sipush (pc := 27) (v := 500) h (by decide) dX4_duel_27 ?_
        refine R_aload_n (pc := 30) h 0 rfl rfl dX4_duel_30 ?_
        refine R_getR (pc := 31) (q1 := 33) h flX4_27 lc_28 rfl dX4_duel_31 ?_
        refine R_getR (pc := 34) (q1 := 35) h flX4_104 lc_33 rfl dX4_duel_34 ?_
        refine R_iload_n (pc := 37) h 1 rfl rfl dX4_duel_37 ?_
        refine R_aload_n (pc := 38) h 0 rfl rfl dX4_duel_38 ?_
        refine R_getR (pc := 39) (q1 := 33) h flX4_27 lc_28 rfl dX4_duel_39 ?_
        obtain ⟨r5, hc4, hF⟩ := bd hF
        refine R_callV (pc := 42) (st := [.int x1, .ref (ad 35), .int (500 : Int32)]) h [] cvX4_212 (c3_lying (ad := ad) (z := X.1) hc4) rfl rfl lc_33 (by decide) (by decide) (Nat.le_of_ble_eq_true rfl) dX4_duel_42 (st1 := [.int r5, .int x1, .ref (ad 35), .int (500 : Int32)]) rfl ?_
        refine R_iconst (pc := 45) (v := 0) h (by decide) dX4_duel_45 ?_
        refine R_iconst (pc := 46) (v := 0) h (by decide) dX4_duel_46 ?_
        obtain ⟨r7, hc6, hF⟩ := bd hF
        refine R_callS (pc := 47) (st := [.int (500 : Int32)]) h [.ref (ad 35), .int x1, .int r5, .int (0 : Int32), .int (0 : Int32)] csX4_249 (c4_gainByTurns_35D (ad := ad) (z := X.1) hc6) rfl rfl (by decide) (by decide) (Nat.le_of_ble_eq_true rfl) dX4_duel_47 (st1 := [.int r7, .int (500 : Int32)]) rfl ?_
        refine R_iadd (pc := 50) h dX4_duel_50 ?_
        cases hF
        exact R_ireturn (pc := 51) h rfl rfl rfl dX4_duel_51
      · have hF := itp c3 hF
        refine R_bipush (pc := 24) (v := (-4)) h (by decide) dX4_duel_24 ?_
        cases hF
        exact R_ireturn (pc := 26) h rfl rfl rfl dX4_duel_26
    · have hF := ifn c2 hF
      refine R_iconst (pc := 9) (v := (-1)) h (by decide) dX4_duel_9 ?_
      cases hF
      exact R_ireturn (pc := 10) h rfl rfl rfl dX4_duel_10
theorem c4_duel {ad : Nat → Nat} {z : ZZ} {R : Int32} {M : Mem} {fu : Nat} {x1 : Int32} (hF : f4_duel M fu x1 = some R) : Con layC ad z yX4_duel cX4_duel 2 (some .int) 8 M [.ref (ad 28), .int x1] (M) (some (.int R)) := con_of (own := RX4) (lv := [(0, .ref (ad 28)), (1, .int x1)]) (by decide +kernel) rfl (Nat.le_of_ble_eq_true rfl) rfl (fun X hz h => w4_duel h hF)
def f4_power_5 (fu : Nat) : Nat → Int64 → Int32 → Int64 → Int32 → Option (Int64)
  | 0 => fun _ _ _ _ => none
  | f + 1 => fun x0 x2 x3 x5 =>
    if x2 ≤ x5 then ((some x3))
    else (nm (x3 * x0) fun v2 =>
    nm (x5 + (1 : Int32)) fun v3 =>
    ((f4_power_5 fu f) x0 x2 v2 v3))
set_option maxHeartbeats 4000000 in
set_option maxRecDepth 10000 in
theorem w4_poweri_5 {ad : Nat → Nat} {X : XX} {R : Int64} {M : Mem} {fu : Nat}  (h : Cx layC ad X cX4_power RX4 6 1 (some .long) M (some (.long R)))  : ∀ (f : Nat) (x0 : Int64) (x2 : Int32) (x3 : Int64) (x5 : Int32), f4_power_5 fu f x0 x2 x3 x5 = some R → Wp layC ad X M 5 [(0, .long x0), (2, .int x2), (3, .long x3), (5, .int x5)] [] := by
  intro f
  induction f with
  | zero => intro x0 x2 x3 x5 hF; exact absurd hF (by simp [f4_power_5])
  | succ f ih =>
    intro x0 x2 x3 x5 hF
    rw [f4_power_5] at hF
    refine R_iload (pc := 5) h 3 rfl dX4_power_5 ?_
    refine R_iload_n (pc := 7) h 1 rfl rfl dX4_power_7 ?_
    refine R_icmp_ge (pc := 8) (tgt := 21) h dX4_power_8 (by decide) (fun c1 => ?_) (fun c1 => ?_)
    · have hF := itp c1 hF
      refine R_lload_n (pc := 21) h 2 rfl rfl dX4_power_21 ?_
      cases hF
      exact R_lreturn (pc := 22) h rfl rfl rfl dX4_power_22
    · have hF := ifn c1 hF
      refine R_lload_n (pc := 11) h 2 rfl rfl dX4_power_11 ?_
      refine R_lload_n (pc := 12) h 0 rfl rfl dX4_power_12 ?_
      refine R_lmul (pc := 13) h dX4_power_13 ?_
      obtain ⟨v2, hv2, hF⟩ := nm_e2 hF
      refine R_lstore_n (pc := 14) (lv' := [(3, .long v2), (0, .long x0), (2, .int x2), (5, .int x5)]) h hv2 rfl (by decide) rfl dX4_power_14 ?_
      obtain ⟨v3, hv3, hF⟩ := nm_e2 hF
      refine R_iinc (pc := 15) (lv' := [(5, .int v3), (3, .long v2), (0, .long x0), (2, .int x2)]) h 3 rfl (by decide) hv3 (by decide) rfl dX4_power_15 ?_
      refine R_goto (pc := 18) (tgt := 5) h dX4_power_18 (by decide) ?_
      exact Wp_sub (nX := 0) (lv' := [(0, .long x0), (2, .int x2), (3, .long v2), (5, .int v3)]) [2, 3, 1, 0] rfl (ih _ _ _ _ hF)
theorem w4_power_5 {ad : Nat → Nat} {X : XX} {R : Int64} {M : Mem} {fu : Nat}  (h : Cx layC ad X cX4_power RX4 6 1 (some .long) M (some (.long R)))  {f : Nat} {x0 : Int64} {x2 : Int32} {x3 : Int64} {x5 : Int32} (hF : f4_power_5 fu f x0 x2 x3 x5 = some R) : Wp layC ad X M 5 [(0, .long x0), (2, .int x2), (3, .long x3), (5, .int x5)] [] := w4_poweri_5 h  f _ _ _ _ hF
def f4_power (fu : Nat) (x0 : Int64) (x2 : Int32) : Option (Int64) :=
    (f4_power_5 fu fu x0 x2 (1 : Int64) (0 : Int32))
set_option maxHeartbeats 4000000 in
set_option maxRecDepth 10000 in
theorem w4_power {ad : Nat → Nat} {X : XX} {R : Int64} {M : Mem} {fu : Nat} (h : Cx layC ad X cX4_power RX4 6 1 (some .long) M (some (.long R))) {x0 : Int64} {x2 : Int32} (hF : f4_power fu x0 x2 = some R) : Wp layC ad X M 0 [(0, .long x0), (2, .int x2)] [] := by
  unfold f4_power at hF
  refine R_lconst (pc := 0) (v := 1) h (by decide) dX4_power_0 ?_
  refine R_lstore_n (pc := 1) (lv' := [(3, .long (1 : Int64)), (0, .long x0), (2, .int x2)]) h rfl rfl (by decide) rfl dX4_power_1 ?_
  refine R_iconst (pc := 2) (v := 0) h (by decide) dX4_power_2 ?_
  refine R_istore (pc := 3) (lv' := [(5, .int (0 : Int32)), (3, .long (1 : Int64)), (0, .long x0), (2, .int x2)]) h rfl (by decide) rfl dX4_power_3 ?_
  exact Wp_sub (nX := 0) (lv' := [(0, .long x0), (2, .int x2), (3, .long (1 : Int64)), (5, .int (0 : Int32))]) [2, 3, 1, 0] rfl (w4_power_5 h  (hF := hF))
theorem c4_power {ad : Nat → Nat} {z : ZZ} {R : Int64} {M : Mem} {fu : Nat} {x0 : Int64} {x2 : Int32} (hF : f4_power fu x0 x2 = some R) : Con layC ad z yX4_power cX4_power 6 (some .long) 1 M [.long x0, .int x2] (M) (some (.long R)) := con_of (own := RX4) (lv := [(0, .long x0), (2, .int x2)]) (by decide +kernel) rfl (Nat.le_of_ble_eq_true rfl) rfl (fun X hz h => w4_power h hF)
def f4_tellFraction_45 (fu : Nat) (x1 : Int64) (x3 : Int64) (x7 : Int64) (M : Mem) : Option (Mem) :=
    if (lg_cmp x7 (0 : Int64)) ≤ 0 then ((some M))
    else ((dvL x1 x7).bind fun v2 =>
    nm (sL M 28 7 v2) fun M3 =>
    (dvL x3 x7).bind fun v4 =>
    nm (sL M3 28 8 v4) fun M5 =>
    (some M5))
set_option maxHeartbeats 4000000 in
set_option maxRecDepth 10000 in
theorem w4_tellFraction_45 {ad : Nat → Nat} {X : XX} {R : Mem} {fu : Nat}  (h : Cx layC ad X cX4_tellFraction RX4 12 1 none (R) none)  {x1 : Int64} {x3 : Int64} {x7 : Int64} {M : Mem} (hF : f4_tellFraction_45 fu x1 x3 x7 M = some R) : Wp layC ad X M 45 [(0, .ref (ad 28)), (1, .long x1), (3, .long x3), (7, .long x7)] [] := by
  unfold f4_tellFraction_45 at hF
  refine R_lload (pc := 45) h 3 rfl dX4_tellFraction_45 ?_
  refine R_lconst (pc := 47) (v := 0) h (by decide) dX4_tellFraction_47 ?_
  refine R_lcmp (pc := 48) h dX4_tellFraction_48 ?_
  refine R_if_le (pc := 49) (tgt := 68) h dX4_tellFraction_49 (by decide) (fun c1 => ?_) (fun c1 => ?_)
  · have hF := itp c1 hF
    cases hF
    exact R_return (pc := 68) h rfl rfl rfl dX4_tellFraction_68
  · have hF := ifn c1 hF
    refine R_aload_n (pc := 52) h 0 rfl rfl dX4_tellFraction_52 ?_
    refine R_lload_n (pc := 53) h 1 rfl rfl dX4_tellFraction_53 ?_
    refine R_lload (pc := 54) h 3 rfl dX4_tellFraction_54 ?_
    obtain ⟨v2, hv2, hF⟩ := bd hF
    refine R_ldiv (pc := 56) h hv2 dX4_tellFraction_56 ?_
    obtain ⟨M3, hM3, hF⟩ := nm_e2 hF
    refine R_putL (pc := 57) h hM3 fpX4_42 lc_28 rfl dX4_tellFraction_57 ?_
    refine R_aload_n (pc := 60) h 0 rfl rfl dX4_tellFraction_60 ?_
    refine R_lload_n (pc := 61) h 2 rfl rfl dX4_tellFraction_61 ?_
    refine R_lload (pc := 62) h 3 rfl dX4_tellFraction_62 ?_
    obtain ⟨v4, hv4, hF⟩ := bd hF
    refine R_ldiv (pc := 64) h hv4 dX4_tellFraction_64 ?_
    obtain ⟨M5, hM5, hF⟩ := nm_e2 hF
    refine R_putL (pc := 65) h hM5 fpX4_46 lc_28 rfl dX4_tellFraction_65 ?_
    cases hF
    exact R_return (pc := 68) h rfl rfl rfl dX4_tellFraction_68
def f4_tellFraction_9 (fu : Nat) : Nat → Int64 → Int64 → Int64 → Int64 → Int32 → Mem → Option (Mem)
  | 0 => fun _ _ _ _ _ _ => none
  | f + 1 => fun x1 x3 x5 x7 x9 M =>
    if (1000 : Int32) ≤ x9 then ((f4_tellFraction_45 fu x1 x3 x7 M))
    else (if (lg_cmp x5 (0 : Int64)) = 0 then ((f4_tellFraction_45 fu x1 x3 x7 M))
    else ((rmLo x7 x5).bind fun v3 =>
    nm (x9 + (1 : Int32)) fun v4 =>
    ((f4_tellFraction_9 fu f) x1 x3 v3 x5 v4 M)))
set_option maxHeartbeats 4000000 in
set_option maxRecDepth 10000 in
theorem w4_tellFractioni_9 {ad : Nat → Nat} {X : XX} {R : Mem} {fu : Nat}  (h : Cx layC ad X cX4_tellFraction RX4 12 1 none (R) none)  : ∀ (f : Nat) (x1 : Int64) (x3 : Int64) (x5 : Int64) (x7 : Int64) (x9 : Int32) (M : Mem), f4_tellFraction_9 fu f x1 x3 x5 x7 x9 M = some R → Wp layC ad X M 9 [(0, .ref (ad 28)), (1, .long x1), (3, .long x3), (5, .long x5), (7, .long x7), (9, .int x9)] [] := by
  intro f
  induction f with
  | zero => intro x1 x3 x5 x7 x9 M hF; exact absurd hF (by simp [f4_tellFraction_9])
  | succ f ih =>
    intro x1 x3 x5 x7 x9 M hF
    rw [f4_tellFraction_9] at hF
    refine R_iload (pc := 9) h 5 rfl dX4_tellFraction_9 ?_
    refine R_sipush (pc := 11) (v := 1000) h (by decide) dX4_tellFraction_11 ?_
    refine R_icmp_ge (pc := 14) (tgt := 45) h dX4_tellFraction_14 (by decide) (fun c1 => ?_) (fun c1 => ?_)
    · have hF := itp c1 hF
      exact Wp_sub (nX := 0) (lv' := [(0, .ref (ad 28)), (1, .long x1), (3, .long x3), (7, .long x7)]) [0, 1, 2, 4] rfl (w4_tellFraction_45 h  (hF := hF))
    · have hF := ifn c1 hF
      refine R_lload (pc := 17) h 3 rfl dX4_tellFraction_17 ?_
      refine R_lconst (pc := 19) (v := 0) h (by decide) dX4_tellFraction_19 ?_
      refine R_lcmp (pc := 20) h dX4_tellFraction_20 ?_
      refine R_if_eq (pc := 21) (tgt := 45) h dX4_tellFraction_21 (by decide) (fun c2 => ?_) (fun c2 => ?_)
      · have hF := itp c2 hF
        exact Wp_sub (nX := 0) (lv' := [(0, .ref (ad 28)), (1, .long x1), (3, .long x3), (7, .long x7)]) [0, 1, 2, 4] rfl (w4_tellFraction_45 h  (hF := hF))
      · have hF := ifn c2 hF
        refine R_lload (pc := 24) h 4 rfl dX4_tellFraction_24 ?_
        refine R_lload (pc := 26) h 3 rfl dX4_tellFraction_26 ?_
        obtain ⟨v3, hv3, hF⟩ := bd hF
        refine R_lrem (pc := 28) h hv3 dX4_tellFraction_28 ?_
        refine R_lstore (pc := 29) (lv' := [(10, .long v3), (0, .ref (ad 28)), (1, .long x1), (3, .long x3), (5, .long x5), (7, .long x7), (9, .int x9)]) h rfl (by decide) rfl dX4_tellFraction_29 ?_
        refine R_lload (pc := 31) h 4 rfl dX4_tellFraction_31 ?_
        refine R_lstore (pc := 33) (lv' := [(7, .long x5), (10, .long v3), (0, .ref (ad 28)), (1, .long x1), (3, .long x3), (5, .long x5), (9, .int x9)]) h rfl (by decide) rfl dX4_tellFraction_33 ?_
        refine R_lload (pc := 35) h 1 rfl dX4_tellFraction_35 ?_
        refine R_lstore (pc := 37) (lv' := [(5, .long v3), (7, .long x5), (10, .long v3), (0, .ref (ad 28)), (1, .long x1), (3, .long x3), (9, .int x9)]) h rfl (by decide) rfl dX4_tellFraction_37 ?_
        obtain ⟨v4, hv4, hF⟩ := nm_e2 hF
        refine R_iinc (pc := 39) (lv' := [(9, .int v4), (5, .long v3), (7, .long x5), (10, .long v3), (0, .ref (ad 28)), (1, .long x1), (3, .long x3)]) h 6 rfl (by decide) hv4 (by decide) rfl dX4_tellFraction_39 ?_
        refine R_goto (pc := 42) (tgt := 9) h dX4_tellFraction_42 (by decide) ?_
        exact Wp_sub (nX := 0) (lv' := [(0, .ref (ad 28)), (1, .long x1), (3, .long x3), (5, .long v3), (7, .long x5), (9, .int v4)]) [4, 5, 6, 1, 2, 0] rfl (ih _ _ _ _ _ _ hF)
theorem w4_tellFraction_9 {ad : Nat → Nat} {X : XX} {R : Mem} {fu : Nat}  (h : Cx layC ad X cX4_tellFraction RX4 12 1 none (R) none)  {f : Nat} {x1 : Int64} {x3 : Int64} {x5 : Int64} {x7 : Int64} {x9 : Int32} {M : Mem} (hF : f4_tellFraction_9 fu f x1 x3 x5 x7 x9 M = some R) : Wp layC ad X M 9 [(0, .ref (ad 28)), (1, .long x1), (3, .long x3), (5, .long x5), (7, .long x7), (9, .int x9)] [] := w4_tellFractioni_9 h  f _ _ _ _ _ _ hF
def f4_tellFraction (fu : Nat) (x1 : Int64) (x3 : Int64) (M : Mem) : Option (Mem) :=
    (f4_tellFraction_9 fu fu x1 x3 x1 x3 (0 : Int32) M)
set_option maxHeartbeats 4000000 in
set_option maxRecDepth 10000 in
theorem w4_tellFraction {ad : Nat → Nat} {X : XX} {R : Mem} {fu : Nat} (h : Cx layC ad X cX4_tellFraction RX4 12 1 none (R) none) {x1 : Int64} {x3 : Int64} {M : Mem} (hF : f4_tellFraction fu x1 x3 M = some R) : Wp layC ad X M 0 [(0, .ref (ad 28)), (1, .long x1), (3, .long x3)] [] := by
  unfold f4_tellFraction at hF
  refine R_lload_n (pc := 0) h 1 rfl rfl dX4_tellFraction_0 ?_
  refine R_lstore (pc := 1) (lv' := [(5, .long x1), (0, .ref (ad 28)), (1, .long x1), (3, .long x3)]) h rfl (by decide) rfl dX4_tellFraction_1 ?_
  refine R_lload_n (pc := 3) h 3 rfl rfl dX4_tellFraction_3 ?_
  refine R_lstore (pc := 4) (lv' := [(7, .long x3), (5, .long x1), (0, .ref (ad 28)), (1, .long x1), (3, .long x3)]) h rfl (by decide) rfl dX4_tellFraction_4 ?_
  refine R_iconst (pc := 6) (v := 0) h (by decide) dX4_tellFraction_6 ?_
  refine R_istore (pc := 7) (lv' := [(9, .int (0 : Int32)), (7, .long x3), (5, .long x1), (0, .ref (ad 28)), (1, .long x1), (3, .long x3)]) h rfl (by decide) rfl dX4_tellFraction_7 ?_
  exact Wp_sub (nX := 0) (lv' := [(0, .ref (ad 28)), (1, .long x1), (3, .long x3), (5, .long x1), (7, .long x3), (9, .int (0 : Int32))]) [3, 4, 5, 2, 1, 0] rfl (w4_tellFraction_9 h  (hF := hF))
theorem c4_tellFraction {ad : Nat → Nat} {z : ZZ} {R : Mem} {fu : Nat} {x1 : Int64} {x3 : Int64} {M : Mem} (hF : f4_tellFraction fu x1 x3 M = some R) : Con layC ad z yX4_tellFraction cX4_tellFraction 12 none 1 M [.ref (ad 28), .long x1, .long x3] (R) none := con_of (own := RX4) (lv := [(0, .ref (ad 28)), (1, .long x1), (3, .long x3)]) (by decide +kernel) rfl (Nat.le_of_ble_eq_true rfl) rfl (fun X hz h => w4_tellFraction h hF)
def f4_weigh (fu : Nat) (x0 : Int32) (x1 : Int32) (x2 : Int32) : Option (Int64) :=
    nm (x1 &&& (x0 ^^^ (-1 : Int32))) fun v1 =>
    (f6_bitCount x0).bind fun r3 =>
    (f4_power fu ((12 : Int32) - x2).toInt64 r3).bind fun r5 =>
    (f6_bitCount v1).bind fun r7 =>
    (f4_power fu x2.toInt64 r7).bind fun r9 =>
    (some (r5 * r9))
set_option maxHeartbeats 4000000 in
set_option maxRecDepth 10000 in
theorem w4_weigh {ad : Nat → Nat} {X : XX} {R : Int64} {M : Mem} {fu : Nat} (h : Cx layC ad X cX4_weigh RX4 4 2 (some .long) M (some (.long R))) {x0 : Int32} {x1 : Int32} {x2 : Int32} (hF : f4_weigh fu x0 x1 x2 = some R) : Wp layC ad X M 0 [(0, .int x0), (1, .int x1), (2, .int x2)] [] := by
  unfold f4_weigh at hF
  refine R_iload_n (pc := 0) h 1 rfl rfl dX4_weigh_0 ?_
  refine R_iload_n (pc := 1) h 0 rfl rfl dX4_weigh_1 ?_
  refine R_iconst (pc := 2) (v := (-1)) h (by decide) dX4_weigh_2 ?_
  refine R_ixor (pc := 3) h dX4_weigh_3 ?_
  refine R_iand (pc := 4) h dX4_weigh_4 ?_
  obtain ⟨v1, hv1, hF⟩ := nm_e2 hF
  refine R_istore_n (pc := 5) (lv' := [(3, .int v1), (0, .int x0), (1, .int x1), (2, .int x2)]) h hv1 rfl (by decide) rfl dX4_weigh_5 ?_
  refine R_bipush (pc := 6) (v := 12) h (by decide) dX4_weigh_6 ?_
  refine R_iload_n (pc := 8) h 3 rfl rfl dX4_weigh_8 ?_
  refine R_isub (pc := 9) h dX4_weigh_9 ?_
  refine R_i2l (pc := 10) h dX4_weigh_10 ?_
  refine R_iload_n (pc := 11) h 1 rfl rfl dX4_weigh_11 ?_
  obtain ⟨r3, hc2, hF⟩ := bd hF
  refine R_callS (pc := 12) (st := [.long ((12 : Int32) - x2).toInt64]) h [.int x0] csX4_167 (c6_bitCount (ad := ad) (z := X.1) (M := M) hc2) rfl rfl (by decide) (by decide) (Nat.le_of_ble_eq_true rfl) dX4_weigh_12 (st1 := [.int r3, .long ((12 : Int32) - x2).toInt64]) rfl ?_
  obtain ⟨r5, hc4, hF⟩ := bd hF
  refine R_callS (pc := 15) (st := []) h [.long ((12 : Int32) - x2).toInt64, .int r3] csX4_259 (c4_power (ad := ad) (z := X.1) (M := M) hc4) rfl rfl (by decide) (by decide) (Nat.le_of_ble_eq_true rfl) dX4_weigh_15 (st1 := [.long r5]) rfl ?_
  refine R_iload_n (pc := 18) h 3 rfl rfl dX4_weigh_18 ?_
  refine R_i2l (pc := 19) h dX4_weigh_19 ?_
  refine R_iload_n (pc := 20) h 0 rfl rfl dX4_weigh_20 ?_
  obtain ⟨r7, hc6, hF⟩ := bd hF
  refine R_callS (pc := 21) (st := [.long x2.toInt64, .long r5]) h [.int v1] csX4_167 (c6_bitCount (ad := ad) (z := X.1) (M := M) hc6) rfl rfl (by decide) (by decide) (Nat.le_of_ble_eq_true rfl) dX4_weigh_21 (st1 := [.int r7, .long x2.toInt64, .long r5]) rfl ?_
  obtain ⟨r9, hc8, hF⟩ := bd hF
  refine R_callS (pc := 24) (st := [.long r5]) h [.long x2.toInt64, .int r7] csX4_259 (c4_power (ad := ad) (z := X.1) (M := M) hc8) rfl rfl (by decide) (by decide) (Nat.le_of_ble_eq_true rfl) dX4_weigh_24 (st1 := [.long r9, .long r5]) rfl ?_
  refine R_lmul (pc := 27) h dX4_weigh_27 ?_
  cases hF
  exact R_lreturn (pc := 28) h rfl rfl rfl dX4_weigh_28
theorem c4_weigh {ad : Nat → Nat} {z : ZZ} {R : Int64} {M : Mem} {fu : Nat} {x0 : Int32} {x1 : Int32} {x2 : Int32} (hF : f4_weigh fu x0 x1 x2 = some R) : Con layC ad z yX4_weigh cX4_weigh 4 (some .long) 2 M [.int x0, .int x1, .int x2] (M) (some (.long R)) := con_of (own := RX4) (lv := [(0, .int x0), (1, .int x1), (2, .int x2)]) (by decide +kernel) rfl (Nat.le_of_ble_eq_true rfl) rfl (fun X hz h => w4_weigh h hF)
def f4_odds_53 (fu : Nat) : Nat → Int32 → Int32 → Int32 → Int64 → Int32 → Mem → Option (Mem × Int32)
  | 0 => fun _ _ _ _ _ _ => none
  | f + 1 => fun x1 x2 x3 x4 x6 M =>
    if x3 < x6 then ((f6_bitCount x3).bind fun r3 =>
    (f4_power fu (12 : Int64) r3).bind fun r5 =>
    (f4_tellFraction fu x4 r5 M).bind fun M7 =>
    (some (M7, (1 : Int32))))
    else (if (x6 &&& (x3 ^^^ (-1 : Int32))) = 0 then ((f2_mostOf M ((M.1 33 3) ||| x6)).bind fun r10 =>
    if r10 < x1 then (nm (x6 + (1 : Int32)) fun v12 =>
    ((f4_odds_53 fu f) x1 x2 x3 x4 v12 M))
    else ((f4_weigh fu x6 x3 x2).bind fun r14 =>
    nm (x4 + r14) fun v15 =>
    nm (x6 + (1 : Int32)) fun v16 =>
    ((f4_odds_53 fu f) x1 x2 x3 v15 v16 M)))
    else (nm (x6 + (1 : Int32)) fun v17 =>
    ((f4_odds_53 fu f) x1 x2 x3 x4 v17 M)))
set_option maxHeartbeats 4000000 in
set_option maxRecDepth 10000 in
theorem w4_oddsi_53 {ad : Nat → Nat} {X : XX} {R : Mem × Int32} {fu : Nat}  (h : Cx layC ad X cX4_odds RX4 7 3 (some .int) (R.1) (some (.int R.2)))  : ∀ (f : Nat) (x1 : Int32) (x2 : Int32) (x3 : Int32) (x4 : Int64) (x6 : Int32) (M : Mem), f4_odds_53 fu f x1 x2 x3 x4 x6 M = some R → Wp layC ad X M 53 [(0, .ref (ad 28)), (1, .int x1), (2, .int x2), (3, .int x3), (4, .long x4), (6, .int x6)] [] := by
  intro f
  induction f with
  | zero => intro x1 x2 x3 x4 x6 M hF; exact absurd hF (by simp [f4_odds_53])
  | succ f ih =>
    intro x1 x2 x3 x4 x6 M hF
    rw [f4_odds_53] at hF
    refine R_iload (pc := 53) h 5 rfl dX4_odds_53 ?_
    refine R_iload_n (pc := 55) h 3 rfl rfl dX4_odds_55 ?_
    refine R_icmp_gt (pc := 56) (tgt := 110) h dX4_odds_56 (by decide) (fun c1 => ?_) (fun c1 => ?_)
    · have hF := itp c1 hF
      refine R_aload_n (pc := 110) h 0 rfl rfl dX4_odds_110 ?_
      refine R_lload (pc := 111) h 4 rfl dX4_odds_111 ?_
      refine R_ldc2 (pc := 113) h klX4_257 dX4_odds_113 ?_
      refine R_iload_n (pc := 116) h 3 rfl rfl dX4_odds_116 ?_
      obtain ⟨r3, hc2, hF⟩ := bd hF
      refine R_callS (pc := 117) (st := [.long (12 : Int64), .long x4, .ref (ad 28)]) h [.int x3] csX4_167 (c6_bitCount (ad := ad) (z := X.1) (M := M) hc2) rfl rfl (by decide) (by decide) (Nat.le_of_ble_eq_true rfl) dX4_odds_117 (st1 := [.int r3, .long (12 : Int64), .long x4, .ref (ad 28)]) rfl ?_
      obtain ⟨r5, hc4, hF⟩ := bd hF
      refine R_callS (pc := 120) (st := [.long x4, .ref (ad 28)]) h [.long (12 : Int64), .int r3] csX4_259 (c4_power (ad := ad) (z := X.1) (M := M) hc4) rfl rfl (by decide) (by decide) (Nat.le_of_ble_eq_true rfl) dX4_odds_120 (st1 := [.long r5, .long x4, .ref (ad 28)]) rfl ?_
      obtain ⟨M7, hc6, hF⟩ := bd hF
      refine R_callV (pc := 123) (st := []) h [.long x4, .long r5] cvX4_263 (c4_tellFraction (ad := ad) (z := X.1) hc6) rfl rfl lc_28 (by decide) (by decide) (Nat.le_of_ble_eq_true rfl) dX4_odds_123 (st1 := []) rfl ?_
      refine R_iconst (pc := 126) (v := 1) h (by decide) dX4_odds_126 ?_
      cases hF
      exact R_ireturn (pc := 127) h rfl rfl rfl dX4_odds_127
    · have hF := ifn c1 hF
      refine R_iload (pc := 59) h 5 rfl dX4_odds_59 ?_
      refine R_iload_n (pc := 61) h 3 rfl rfl dX4_odds_61 ?_
      refine R_iconst (pc := 62) (v := (-1)) h (by decide) dX4_odds_62 ?_
      refine R_ixor (pc := 63) h dX4_odds_63 ?_
      refine R_iand (pc := 64) h dX4_odds_64 ?_
      refine R_if_ne (pc := 65) (tgt := 104) h dX4_odds_65 (by decide) (fun c8 => ?_) (fun c8 => ?_)
      · have hF := ifn c8 hF
        obtain ⟨v17, hv17, hF⟩ := nm_e2 hF
        refine R_iinc (pc := 104) (lv' := [(6, .int v17), (0, .ref (ad 28)), (1, .int x1), (2, .int x2), (3, .int x3), (4, .long x4)]) h 5 rfl (by decide) hv17 (by decide) rfl dX4_odds_104 ?_
        refine R_goto (pc := 107) (tgt := 53) h dX4_odds_107 (by decide) ?_
        exact Wp_sub (nX := 0) (lv' := [(0, .ref (ad 28)), (1, .int x1), (2, .int x2), (3, .int x3), (4, .long x4), (6, .int v17)]) [1, 2, 3, 4, 5, 0] rfl (ih _ _ _ _ _ _ hF)
      · have hF := itp c8 hF
        refine R_aload_n (pc := 68) h 0 rfl rfl dX4_odds_68 ?_
        refine R_getR (pc := 69) (q1 := 33) h flX4_27 lc_28 rfl dX4_odds_69 ?_
        refine R_getR (pc := 72) (q1 := 35) h flX4_104 lc_33 rfl dX4_odds_72 ?_
        refine R_aload_n (pc := 75) h 0 rfl rfl dX4_odds_75 ?_
        refine R_getR (pc := 76) (q1 := 33) h flX4_27 lc_28 rfl dX4_odds_76 ?_
        refine R_getI (pc := 79) h flX4_164 lc_33 rfl dX4_odds_79 ?_
        refine R_iload (pc := 82) h 5 rfl dX4_odds_82 ?_
        refine R_ior (pc := 84) h dX4_odds_84 ?_
        obtain ⟨r10, hc9, hF⟩ := bd hF
        refine R_callV (pc := 85) (st := []) h [.int ((M.1 33 3) ||| x6)] cvX4_209 (c2_mostOf (ad := ad) (z := X.1) hc9) rfl rfl lc_35 (by decide) (by decide) (Nat.le_of_ble_eq_true rfl) dX4_odds_85 (st1 := [.int r10]) rfl ?_
        refine R_iload_n (pc := 88) h 1 rfl rfl dX4_odds_88 ?_
        refine R_icmp_lt (pc := 89) (tgt := 104) h dX4_odds_89 (by decide) (fun c11 => ?_) (fun c11 => ?_)
        · have hF := itp c11 hF
          obtain ⟨v12, hv12, hF⟩ := nm_e2 hF
          refine R_iinc (pc := 104) (lv' := [(6, .int v12), (0, .ref (ad 28)), (1, .int x1), (2, .int x2), (3, .int x3), (4, .long x4)]) h 5 rfl (by decide) hv12 (by decide) rfl dX4_odds_104 ?_
          refine R_goto (pc := 107) (tgt := 53) h dX4_odds_107 (by decide) ?_
          exact Wp_sub (nX := 0) (lv' := [(0, .ref (ad 28)), (1, .int x1), (2, .int x2), (3, .int x3), (4, .long x4), (6, .int v12)]) [1, 2, 3, 4, 5, 0] rfl (ih _ _ _ _ _ _ hF)
        · have hF := ifn c11 hF
          refine R_lload (pc := 92) h 4 rfl dX4_odds_92 ?_
          refine R_iload (pc := 94) h 5 rfl dX4_odds_94 ?_
          refine R_iload_n (pc := 96) h 3 rfl rfl dX4_odds_96 ?_
          refine R_iload_n (pc := 97) h 2 rfl rfl dX4_odds_97 ?_
          obtain ⟨r14, hc13, hF⟩ := bd hF
          refine R_callS (pc := 98) (st := [.long x4]) h [.int x6, .int x3, .int x2] csX4_253 (c4_weigh (ad := ad) (z := X.1) (M := M) hc13) rfl rfl (by decide) (by decide) (Nat.le_of_ble_eq_true rfl) dX4_odds_98 (st1 := [.long r14, .long x4]) rfl ?_
          refine R_ladd (pc := 101) h dX4_odds_101 ?_
          obtain ⟨v15, hv15, hF⟩ := nm_e2 hF
          refine R_lstore (pc := 102) (lv' := [(4, .long v15), (0, .ref (ad 28)), (1, .int x1), (2, .int x2), (3, .int x3), (6, .int x6)]) h hv15 (by decide) rfl dX4_odds_102 ?_
          obtain ⟨v16, hv16, hF⟩ := nm_e2 hF
          refine R_iinc (pc := 104) (lv' := [(6, .int v16), (4, .long v15), (0, .ref (ad 28)), (1, .int x1), (2, .int x2), (3, .int x3)]) h 5 rfl (by decide) hv16 (by decide) rfl dX4_odds_104 ?_
          refine R_goto (pc := 107) (tgt := 53) h dX4_odds_107 (by decide) ?_
          exact Wp_sub (nX := 0) (lv' := [(0, .ref (ad 28)), (1, .int x1), (2, .int x2), (3, .int x3), (4, .long v15), (6, .int v16)]) [2, 3, 4, 5, 1, 0] rfl (ih _ _ _ _ _ _ hF)
theorem w4_odds_53 {ad : Nat → Nat} {X : XX} {R : Mem × Int32} {fu : Nat}  (h : Cx layC ad X cX4_odds RX4 7 3 (some .int) (R.1) (some (.int R.2)))  {f : Nat} {x1 : Int32} {x2 : Int32} {x3 : Int32} {x4 : Int64} {x6 : Int32} {M : Mem} (hF : f4_odds_53 fu f x1 x2 x3 x4 x6 M = some R) : Wp layC ad X M 53 [(0, .ref (ad 28)), (1, .int x1), (2, .int x2), (3, .int x3), (4, .long x4), (6, .int x6)] [] := w4_oddsi_53 h  f _ _ _ _ _ _ hF
def f4_odds (fu : Nat) (x1 : Int32) (x2 : Int32) (M : Mem) : Option (Mem × Int32) :=
    if x1 < 0 then ((some (M, (-1 : Int32))))
    else (if (200 : Int32) < x1 then ((some (M, (-1 : Int32))))
    else (if x2 < 0 then ((some (M, (-1 : Int32))))
    else (if x2 ≤ (12 : Int32) then (if (M.1 35 0) = 0 then ((some (M, (-4 : Int32))))
    else ((f3_lying M).bind fun r7 =>
    (f4_odds_53 fu fu x1 x2 r7 (0 : Int64) (0 : Int32) M)))
    else ((some (M, (-1 : Int32)))))))
set_option maxHeartbeats 4000000 in
set_option maxRecDepth 10000 in
theorem w4_odds {ad : Nat → Nat} {X : XX} {R : Mem × Int32} {fu : Nat} (h : Cx layC ad X cX4_odds RX4 7 3 (some .int) (R.1) (some (.int R.2))) {x1 : Int32} {x2 : Int32} {M : Mem} (hF : f4_odds fu x1 x2 M = some R) : Wp layC ad X M 0 [(0, .ref (ad 28)), (1, .int x1), (2, .int x2)] [] := by
  unfold f4_odds at hF
  refine R_iload_n (pc := 0) h 1 rfl rfl dX4_odds_0 ?_
  refine R_if_lt (pc := 1) (tgt := 21) h dX4_odds_1 (by decide) (fun c1 => ?_) (fun c1 => ?_)
  · have hF := itp c1 hF
    refine R_iconst (pc := 21) (v := (-1)) h (by decide) dX4_odds_21 ?_
    cases hF
    exact R_ireturn (pc := 22) h rfl rfl rfl dX4_odds_22
  · have hF := ifn c1 hF
    refine R_iload_n (pc := 4) h 1 rfl rfl dX4_odds_4 ?_
    refine R_sipush (pc := 5) (v := 200) h (by decide) dX4_odds_5 ?_
    refine R_icmp_gt (pc := 8) (tgt := 21) h dX4_odds_8 (by decide) (fun c2 => ?_) (fun c2 => ?_)
    · have hF := itp c2 hF
      refine R_iconst (pc := 21) (v := (-1)) h (by decide) dX4_odds_21 ?_
      cases hF
      exact R_ireturn (pc := 22) h rfl rfl rfl dX4_odds_22
    · have hF := ifn c2 hF
      refine R_iload_n (pc := 11) h 2 rfl rfl dX4_odds_11 ?_
      refine R_if_lt (pc := 12) (tgt := 21) h dX4_odds_12 (by decide) (fun c3 => ?_) (fun c3 => ?_)
      · have hF := itp c3 hF
        refine R_iconst (pc := 21) (v := (-1)) h (by decide) dX4_odds_21 ?_
        cases hF
        exact R_ireturn (pc := 22) h rfl rfl rfl dX4_odds_22
      · have hF := ifn c3 hF
        refine R_iload_n (pc := 15) h 2 rfl rfl dX4_odds_15 ?_
        refine R_bipush (pc := 16) (v := 12) h (by decide) dX4_odds_16 ?_
        refine R_icmp_le (pc := 18) (tgt := 23) h dX4_odds_18 (by decide) (fun c4 => ?_) (fun c4 => ?_)
        · have hF := itp c4 hF
          refine R_aload_n (pc := 23) h 0 rfl rfl dX4_odds_23 ?_
          refine R_getR (pc := 24) (q1 := 33) h flX4_27 lc_28 rfl dX4_odds_24 ?_
          refine R_getR (pc := 27) (q1 := 35) h flX4_104 lc_33 rfl dX4_odds_27 ?_
          refine R_getI (pc := 30) h flX4_121 lc_35 rfl dX4_odds_30 ?_
          refine R_if_ne (pc := 33) (tgt := 39) h dX4_odds_33 (by decide) (fun c5 => ?_) (fun c5 => ?_)
          · have hF := ifn c5 hF
            refine R_aload_n (pc := 39) h 0 rfl rfl dX4_odds_39 ?_
            refine R_getR (pc := 40) (q1 := 33) h flX4_27 lc_28 rfl dX4_odds_40 ?_
            obtain ⟨r7, hc6, hF⟩ := bd hF
            refine R_callV (pc := 43) (st := []) h [] cvX4_212 (c3_lying (ad := ad) (z := X.1) hc6) rfl rfl lc_33 (by decide) (by decide) (Nat.le_of_ble_eq_true rfl) dX4_odds_43 (st1 := [.int r7]) rfl ?_
            refine R_istore_n (pc := 46) (lv' := [(3, .int r7), (0, .ref (ad 28)), (1, .int x1), (2, .int x2)]) h rfl rfl (by decide) rfl dX4_odds_46 ?_
            refine R_lconst (pc := 47) (v := 0) h (by decide) dX4_odds_47 ?_
            refine R_lstore (pc := 48) (lv' := [(4, .long (0 : Int64)), (3, .int r7), (0, .ref (ad 28)), (1, .int x1), (2, .int x2)]) h rfl (by decide) rfl dX4_odds_48 ?_
            refine R_iconst (pc := 50) (v := 0) h (by decide) dX4_odds_50 ?_
            refine R_istore (pc := 51) (lv' := [(6, .int (0 : Int32)), (4, .long (0 : Int64)), (3, .int r7), (0, .ref (ad 28)), (1, .int x1), (2, .int x2)]) h rfl (by decide) rfl dX4_odds_51 ?_
            exact Wp_sub (nX := 0) (lv' := [(0, .ref (ad 28)), (1, .int x1), (2, .int x2), (3, .int r7), (4, .long (0 : Int64)), (6, .int (0 : Int32))]) [3, 4, 5, 2, 1, 0] rfl (w4_odds_53 h  (hF := hF))
          · have hF := itp c5 hF
            refine R_bipush (pc := 36) (v := (-4)) h (by decide) dX4_odds_36 ?_
            cases hF
            exact R_ireturn (pc := 38) h rfl rfl rfl dX4_odds_38
        · have hF := ifn c4 hF
          refine R_iconst (pc := 21) (v := (-1)) h (by decide) dX4_odds_21 ?_
          cases hF
          exact R_ireturn (pc := 22) h rfl rfl rfl dX4_odds_22
theorem c4_odds {ad : Nat → Nat} {z : ZZ} {R : Mem × Int32} {fu : Nat} {x1 : Int32} {x2 : Int32} {M : Mem} (hF : f4_odds fu x1 x2 M = some R) : Con layC ad z yX4_odds cX4_odds 7 (some .int) 3 M [.ref (ad 28), .int x1, .int x2] (R.1) (some (.int R.2)) := con_of (own := RX4) (lv := [(0, .ref (ad 28)), (1, .int x1), (2, .int x2)]) (by decide +kernel) rfl (Nat.le_of_ble_eq_true rfl) rfl (fun X hz h => w4_odds h hF)
def f4_mid_41 (fu : Nat) : Nat → Int32 → Int32 → Int64 → Int32 → Mem → Option (Mem × Int32)
  | 0 => fun _ _ _ _ _ => none
  | f + 1 => fun x1 x2 x3 x5 M =>
    if x2 < x5 then ((f6_bitCount x2).bind fun r3 =>
    (f4_power fu (12 : Int64) r3).bind fun r5 =>
    (f4_tellFraction fu x3 r5 M).bind fun M7 =>
    (some (M7, (1 : Int32))))
    else (if (x5 &&& (x2 ^^^ (-1 : Int32))) = 0 then ((f4_weigh fu x5 x2 x1).bind fun r10 =>
    (f2_mostOf M ((M.1 33 3) ||| x5)).bind fun r12 =>
    nm (x3 + (r10 * r12.toInt64)) fun v13 =>
    nm (x5 + (1 : Int32)) fun v14 =>
    ((f4_mid_41 fu f) x1 x2 v13 v14 M))
    else (nm (x5 + (1 : Int32)) fun v15 =>
    ((f4_mid_41 fu f) x1 x2 x3 v15 M)))
set_option maxHeartbeats 4000000 in
set_option maxRecDepth 10000 in
theorem w4_midi_41 {ad : Nat → Nat} {X : XX} {R : Mem × Int32} {fu : Nat}  (h : Cx layC ad X cX4_mid RX4 6 3 (some .int) (R.1) (some (.int R.2)))  : ∀ (f : Nat) (x1 : Int32) (x2 : Int32) (x3 : Int64) (x5 : Int32) (M : Mem), f4_mid_41 fu f x1 x2 x3 x5 M = some R → Wp layC ad X M 41 [(0, .ref (ad 28)), (1, .int x1), (2, .int x2), (3, .long x3), (5, .int x5)] [] := by
  intro f
  induction f with
  | zero => intro x1 x2 x3 x5 M hF; exact absurd hF (by simp [f4_mid_41])
  | succ f ih =>
    intro x1 x2 x3 x5 M hF
    rw [f4_mid_41] at hF
    refine R_iload (pc := 41) h 4 rfl dX4_mid_41 ?_
    refine R_iload_n (pc := 43) h 2 rfl rfl dX4_mid_43 ?_
    refine R_icmp_gt (pc := 44) (tgt := 94) h dX4_mid_44 (by decide) (fun c1 => ?_) (fun c1 => ?_)
    · have hF := itp c1 hF
      refine R_aload_n (pc := 94) h 0 rfl rfl dX4_mid_94 ?_
      refine R_lload_n (pc := 95) h 3 rfl rfl dX4_mid_95 ?_
      refine R_ldc2 (pc := 96) h klX4_257 dX4_mid_96 ?_
      refine R_iload_n (pc := 99) h 2 rfl rfl dX4_mid_99 ?_
      obtain ⟨r3, hc2, hF⟩ := bd hF
      refine R_callS (pc := 100) (st := [.long (12 : Int64), .long x3, .ref (ad 28)]) h [.int x2] csX4_167 (c6_bitCount (ad := ad) (z := X.1) (M := M) hc2) rfl rfl (by decide) (by decide) (Nat.le_of_ble_eq_true rfl) dX4_mid_100 (st1 := [.int r3, .long (12 : Int64), .long x3, .ref (ad 28)]) rfl ?_
      obtain ⟨r5, hc4, hF⟩ := bd hF
      refine R_callS (pc := 103) (st := [.long x3, .ref (ad 28)]) h [.long (12 : Int64), .int r3] csX4_259 (c4_power (ad := ad) (z := X.1) (M := M) hc4) rfl rfl (by decide) (by decide) (Nat.le_of_ble_eq_true rfl) dX4_mid_103 (st1 := [.long r5, .long x3, .ref (ad 28)]) rfl ?_
      obtain ⟨M7, hc6, hF⟩ := bd hF
      refine R_callV (pc := 106) (st := []) h [.long x3, .long r5] cvX4_263 (c4_tellFraction (ad := ad) (z := X.1) hc6) rfl rfl lc_28 (by decide) (by decide) (Nat.le_of_ble_eq_true rfl) dX4_mid_106 (st1 := []) rfl ?_
      refine R_iconst (pc := 109) (v := 1) h (by decide) dX4_mid_109 ?_
      cases hF
      exact R_ireturn (pc := 110) h rfl rfl rfl dX4_mid_110
    · have hF := ifn c1 hF
      refine R_iload (pc := 47) h 4 rfl dX4_mid_47 ?_
      refine R_iload_n (pc := 49) h 2 rfl rfl dX4_mid_49 ?_
      refine R_iconst (pc := 50) (v := (-1)) h (by decide) dX4_mid_50 ?_
      refine R_ixor (pc := 51) h dX4_mid_51 ?_
      refine R_iand (pc := 52) h dX4_mid_52 ?_
      refine R_if_ne (pc := 53) (tgt := 88) h dX4_mid_53 (by decide) (fun c8 => ?_) (fun c8 => ?_)
      · have hF := ifn c8 hF
        obtain ⟨v15, hv15, hF⟩ := nm_e2 hF
        refine R_iinc (pc := 88) (lv' := [(5, .int v15), (0, .ref (ad 28)), (1, .int x1), (2, .int x2), (3, .long x3)]) h 4 rfl (by decide) hv15 (by decide) rfl dX4_mid_88 ?_
        refine R_goto (pc := 91) (tgt := 41) h dX4_mid_91 (by decide) ?_
        exact Wp_sub (nX := 0) (lv' := [(0, .ref (ad 28)), (1, .int x1), (2, .int x2), (3, .long x3), (5, .int v15)]) [1, 2, 3, 4, 0] rfl (ih _ _ _ _ _ hF)
      · have hF := itp c8 hF
        refine R_lload_n (pc := 56) h 3 rfl rfl dX4_mid_56 ?_
        refine R_iload (pc := 57) h 4 rfl dX4_mid_57 ?_
        refine R_iload_n (pc := 59) h 2 rfl rfl dX4_mid_59 ?_
        refine R_iload_n (pc := 60) h 1 rfl rfl dX4_mid_60 ?_
        obtain ⟨r10, hc9, hF⟩ := bd hF
        refine R_callS (pc := 61) (st := [.long x3]) h [.int x5, .int x2, .int x1] csX4_253 (c4_weigh (ad := ad) (z := X.1) (M := M) hc9) rfl rfl (by decide) (by decide) (Nat.le_of_ble_eq_true rfl) dX4_mid_61 (st1 := [.long r10, .long x3]) rfl ?_
        refine R_aload_n (pc := 64) h 0 rfl rfl dX4_mid_64 ?_
        refine R_getR (pc := 65) (q1 := 33) h flX4_27 lc_28 rfl dX4_mid_65 ?_
        refine R_getR (pc := 68) (q1 := 35) h flX4_104 lc_33 rfl dX4_mid_68 ?_
        refine R_aload_n (pc := 71) h 0 rfl rfl dX4_mid_71 ?_
        refine R_getR (pc := 72) (q1 := 33) h flX4_27 lc_28 rfl dX4_mid_72 ?_
        refine R_getI (pc := 75) h flX4_164 lc_33 rfl dX4_mid_75 ?_
        refine R_iload (pc := 78) h 4 rfl dX4_mid_78 ?_
        refine R_ior (pc := 80) h dX4_mid_80 ?_
        obtain ⟨r12, hc11, hF⟩ := bd hF
        refine R_callV (pc := 81) (st := [.long r10, .long x3]) h [.int ((M.1 33 3) ||| x5)] cvX4_209 (c2_mostOf (ad := ad) (z := X.1) hc11) rfl rfl lc_35 (by decide) (by decide) (Nat.le_of_ble_eq_true rfl) dX4_mid_81 (st1 := [.int r12, .long r10, .long x3]) rfl ?_
        refine R_i2l (pc := 84) h dX4_mid_84 ?_
        refine R_lmul (pc := 85) h dX4_mid_85 ?_
        refine R_ladd (pc := 86) h dX4_mid_86 ?_
        obtain ⟨v13, hv13, hF⟩ := nm_e2 hF
        refine R_lstore_n (pc := 87) (lv' := [(3, .long v13), (0, .ref (ad 28)), (1, .int x1), (2, .int x2), (5, .int x5)]) h hv13 rfl (by decide) rfl dX4_mid_87 ?_
        obtain ⟨v14, hv14, hF⟩ := nm_e2 hF
        refine R_iinc (pc := 88) (lv' := [(5, .int v14), (3, .long v13), (0, .ref (ad 28)), (1, .int x1), (2, .int x2)]) h 4 rfl (by decide) hv14 (by decide) rfl dX4_mid_88 ?_
        refine R_goto (pc := 91) (tgt := 41) h dX4_mid_91 (by decide) ?_
        exact Wp_sub (nX := 0) (lv' := [(0, .ref (ad 28)), (1, .int x1), (2, .int x2), (3, .long v13), (5, .int v14)]) [2, 3, 4, 1, 0] rfl (ih _ _ _ _ _ hF)
theorem w4_mid_41 {ad : Nat → Nat} {X : XX} {R : Mem × Int32} {fu : Nat}  (h : Cx layC ad X cX4_mid RX4 6 3 (some .int) (R.1) (some (.int R.2)))  {f : Nat} {x1 : Int32} {x2 : Int32} {x3 : Int64} {x5 : Int32} {M : Mem} (hF : f4_mid_41 fu f x1 x2 x3 x5 M = some R) : Wp layC ad X M 41 [(0, .ref (ad 28)), (1, .int x1), (2, .int x2), (3, .long x3), (5, .int x5)] [] := w4_midi_41 h  f _ _ _ _ _ hF
def f4_mid (fu : Nat) (x1 : Int32) (M : Mem) : Option (Mem × Int32) :=
    if x1 < 0 then ((some (M, (-1 : Int32))))
    else (if x1 ≤ (12 : Int32) then (if (M.1 35 0) = 0 then ((some (M, (-4 : Int32))))
    else ((f3_lying M).bind fun r5 =>
    (f4_mid_41 fu fu x1 r5 (0 : Int64) (0 : Int32) M)))
    else ((some (M, (-1 : Int32)))))
set_option maxHeartbeats 4000000 in
set_option maxRecDepth 10000 in
theorem w4_mid {ad : Nat → Nat} {X : XX} {R : Mem × Int32} {fu : Nat} (h : Cx layC ad X cX4_mid RX4 6 3 (some .int) (R.1) (some (.int R.2))) {x1 : Int32} {M : Mem} (hF : f4_mid fu x1 M = some R) : Wp layC ad X M 0 [(0, .ref (ad 28)), (1, .int x1)] [] := by
  unfold f4_mid at hF
  refine R_iload_n (pc := 0) h 1 rfl rfl dX4_mid_0 ?_
  refine R_if_lt (pc := 1) (tgt := 10) h dX4_mid_1 (by decide) (fun c1 => ?_) (fun c1 => ?_)
  · have hF := itp c1 hF
    refine R_iconst (pc := 10) (v := (-1)) h (by decide) dX4_mid_10 ?_
    cases hF
    exact R_ireturn (pc := 11) h rfl rfl rfl dX4_mid_11
  · have hF := ifn c1 hF
    refine R_iload_n (pc := 4) h 1 rfl rfl dX4_mid_4 ?_
    refine R_bipush (pc := 5) (v := 12) h (by decide) dX4_mid_5 ?_
    refine R_icmp_le (pc := 7) (tgt := 12) h dX4_mid_7 (by decide) (fun c2 => ?_) (fun c2 => ?_)
    · have hF := itp c2 hF
      refine R_aload_n (pc := 12) h 0 rfl rfl dX4_mid_12 ?_
      refine R_getR (pc := 13) (q1 := 33) h flX4_27 lc_28 rfl dX4_mid_13 ?_
      refine R_getR (pc := 16) (q1 := 35) h flX4_104 lc_33 rfl dX4_mid_16 ?_
      refine R_getI (pc := 19) h flX4_121 lc_35 rfl dX4_mid_19 ?_
      refine R_if_ne (pc := 22) (tgt := 28) h dX4_mid_22 (by decide) (fun c3 => ?_) (fun c3 => ?_)
      · have hF := ifn c3 hF
        refine R_aload_n (pc := 28) h 0 rfl rfl dX4_mid_28 ?_
        refine R_getR (pc := 29) (q1 := 33) h flX4_27 lc_28 rfl dX4_mid_29 ?_
        obtain ⟨r5, hc4, hF⟩ := bd hF
        refine R_callV (pc := 32) (st := []) h [] cvX4_212 (c3_lying (ad := ad) (z := X.1) hc4) rfl rfl lc_33 (by decide) (by decide) (Nat.le_of_ble_eq_true rfl) dX4_mid_32 (st1 := [.int r5]) rfl ?_
        refine R_istore_n (pc := 35) (lv' := [(2, .int r5), (0, .ref (ad 28)), (1, .int x1)]) h rfl rfl (by decide) rfl dX4_mid_35 ?_
        refine R_lconst (pc := 36) (v := 0) h (by decide) dX4_mid_36 ?_
        refine R_lstore_n (pc := 37) (lv' := [(3, .long (0 : Int64)), (2, .int r5), (0, .ref (ad 28)), (1, .int x1)]) h rfl rfl (by decide) rfl dX4_mid_37 ?_
        refine R_iconst (pc := 38) (v := 0) h (by decide) dX4_mid_38 ?_
        refine R_istore (pc := 39) (lv' := [(5, .int (0 : Int32)), (3, .long (0 : Int64)), (2, .int r5), (0, .ref (ad 28)), (1, .int x1)]) h rfl (by decide) rfl dX4_mid_39 ?_
        exact Wp_sub (nX := 0) (lv' := [(0, .ref (ad 28)), (1, .int x1), (2, .int r5), (3, .long (0 : Int64)), (5, .int (0 : Int32))]) [3, 4, 2, 1, 0] rfl (w4_mid_41 h  (hF := hF))
      · have hF := itp c3 hF
        refine R_bipush (pc := 25) (v := (-4)) h (by decide) dX4_mid_25 ?_
        cases hF
        exact R_ireturn (pc := 27) h rfl rfl rfl dX4_mid_27
    · have hF := ifn c2 hF
      refine R_iconst (pc := 10) (v := (-1)) h (by decide) dX4_mid_10 ?_
      cases hF
      exact R_ireturn (pc := 11) h rfl rfl rfl dX4_mid_11
theorem c4_mid {ad : Nat → Nat} {z : ZZ} {R : Mem × Int32} {fu : Nat} {x1 : Int32} {M : Mem} (hF : f4_mid fu x1 M = some R) : Con layC ad z yX4_mid cX4_mid 6 (some .int) 3 M [.ref (ad 28), .int x1] (R.1) (some (.int R.2)) := con_of (own := RX4) (lv := [(0, .ref (ad 28)), (1, .int x1)]) (by decide +kernel) rfl (Nat.le_of_ble_eq_true rfl) rfl (fun X hz h => w4_mid h hF)
def f3_deedByLot_93 (M : Mem) (fu : Nat) (s0 : Int32) : Option (Int32) :=
    if s0 = 0 then ((some (1 : Int32)))
    else ((some (0 : Int32)))
set_option maxHeartbeats 4000000 in
set_option maxRecDepth 10000 in
theorem w3_deedByLot_93 {ad : Nat → Nat} {X : XX} {R : Int32} {M : Mem} {fu : Nat}  (h : Cx layC ad X cX3_deedByLot RX3 5 4 (some .int) M (some (.int R)))  {s0 : Int32} (hF : f3_deedByLot_93 M fu s0 = some R) : Wp layC ad X M 93 [] [.int s0] := by
  unfold f3_deedByLot_93 at hF
  refine R_istore (pc := 93) (lv' := [(4, .int s0)]) h rfl (by decide) rfl dX3_deedByLot_93 ?_
  refine R_iload (pc := 95) h 0 rfl dX3_deedByLot_95 ?_
  refine R_if_eq (pc := 97) (tgt := 104) h dX3_deedByLot_97 (by decide) (fun c1 => ?_) (fun c1 => ?_)
  · have hF := itp c1 hF
    refine R_iconst (pc := 104) (v := 1) h (by decide) dX3_deedByLot_104 ?_
    cases hF
    exact R_ireturn (pc := 105) h rfl rfl rfl dX3_deedByLot_105
  · have hF := ifn c1 hF
    refine R_iconst (pc := 100) (v := 0) h (by decide) dX3_deedByLot_100 ?_
    refine R_goto (pc := 101) (tgt := 105) h dX3_deedByLot_101 (by decide) ?_
    cases hF
    exact R_ireturn (pc := 105) h rfl rfl rfl dX3_deedByLot_105
def f3_deedByLot_29 (M : Mem) (fu : Nat) (x1 : Int64) (s0 : Int32) : Option (Int32) :=
    if (((M.1 33 3) >>> (s0 &&& 31)) &&& (1 : Int32)) = 0 then ((f3_lyingHere M fu).bind fun r3 =>
    if ((r3 >>> (s0 &&& 31)) &&& (1 : Int32)) = 0 then (if (M.1 33 2) = 0 then ((f3_deedByLot_93 M fu (1 : Int32)))
    else ((rmLo x1 (2 : Int64)).bind fun v6 =>
    if (lg_cmp v6 (0 : Int64)) = 0 then (if (M.1 33 2) = (9 : Int32) then ((f3_deedByLot_93 M fu (0 : Int32)))
    else ((f3_deedByLot_93 M fu (1 : Int32))))
    else ((f3_deedByLot_93 M fu (0 : Int32)))))
    else ((some ((8 : Int32) + s0))))
    else ((some ((16 : Int32) + s0)))
set_option maxHeartbeats 4000000 in
set_option maxRecDepth 10000 in
theorem w3_deedByLot_29 {ad : Nat → Nat} {X : XX} {R : Int32} {M : Mem} {fu : Nat}  (h : Cx layC ad X cX3_deedByLot RX3 5 4 (some .int) M (some (.int R)))  {x1 : Int64} {s0 : Int32} (hF : f3_deedByLot_29 M fu x1 s0 = some R) : Wp layC ad X M 29 [(0, .ref (ad 33)), (1, .long x1)] [.int s0] := by
  unfold f3_deedByLot_29 at hF
  refine R_istore_n (pc := 29) (lv' := [(3, .int s0), (0, .ref (ad 33)), (1, .long x1)]) h rfl rfl (by decide) rfl dX3_deedByLot_29 ?_
  refine R_aload_n (pc := 30) h 1 rfl rfl dX3_deedByLot_30 ?_
  refine R_getI (pc := 31) h flX3_29 lc_33 rfl dX3_deedByLot_31 ?_
  refine R_iload_n (pc := 34) h 0 rfl rfl dX3_deedByLot_34 ?_
  refine R_ishr (pc := 35) h dX3_deedByLot_35 ?_
  refine R_iconst (pc := 36) (v := 1) h (by decide) dX3_deedByLot_36 ?_
  refine R_iand (pc := 37) h dX3_deedByLot_37 ?_
  refine R_if_eq (pc := 38) (tgt := 46) h dX3_deedByLot_38 (by decide) (fun c1 => ?_) (fun c1 => ?_)
  · have hF := itp c1 hF
    refine R_aload_n (pc := 46) h 1 rfl rfl dX3_deedByLot_46 ?_
    obtain ⟨r3, hc2, hF⟩ := bd hF
    refine R_callV (pc := 47) (st := []) h [] cvX3_61 (c3_lyingHere (ad := ad) (z := X.1) hc2) rfl rfl lc_33 (by decide) (by decide) (Nat.le_of_ble_eq_true rfl) dX3_deedByLot_47 (st1 := [.int r3]) rfl ?_
    refine R_iload_n (pc := 50) h 0 rfl rfl dX3_deedByLot_50 ?_
    refine R_ishr (pc := 51) h dX3_deedByLot_51 ?_
    refine R_iconst (pc := 52) (v := 1) h (by decide) dX3_deedByLot_52 ?_
    refine R_iand (pc := 53) h dX3_deedByLot_53 ?_
    refine R_if_eq (pc := 54) (tgt := 62) h dX3_deedByLot_54 (by decide) (fun c4 => ?_) (fun c4 => ?_)
    · have hF := itp c4 hF
      refine R_aload_n (pc := 62) h 1 rfl rfl dX3_deedByLot_62 ?_
      refine R_getI (pc := 63) h flX3_25 lc_33 rfl dX3_deedByLot_63 ?_
      refine R_if_eq (pc := 66) (tgt := 88) h dX3_deedByLot_66 (by decide) (fun c5 => ?_) (fun c5 => ?_)
      · have hF := itp c5 hF
        refine R_iconst (pc := 88) (v := 1) h (by decide) dX3_deedByLot_88 ?_
        refine R_goto (pc := 89) (tgt := 93) h dX3_deedByLot_89 (by decide) ?_
        exact Wp_sub (nX := 0) (lv' := []) [] rfl (w3_deedByLot_93 h  (hF := hF))
      · have hF := ifn c5 hF
        refine R_lload_n (pc := 69) h 2 rfl rfl dX3_deedByLot_69 ?_
        refine R_ldc2 (pc := 70) h klX3_70 dX3_deedByLot_70 ?_
        obtain ⟨v6, hv6, hF⟩ := bd hF
        refine R_lrem (pc := 73) h hv6 dX3_deedByLot_73 ?_
        refine R_lconst (pc := 74) (v := 0) h (by decide) dX3_deedByLot_74 ?_
        refine R_lcmp (pc := 75) h dX3_deedByLot_75 ?_
        refine R_if_ne (pc := 76) (tgt := 92) h dX3_deedByLot_76 (by decide) (fun c7 => ?_) (fun c7 => ?_)
        · have hF := ifn c7 hF
          refine R_iconst (pc := 92) (v := 0) h (by decide) dX3_deedByLot_92 ?_
          exact Wp_sub (nX := 0) (lv' := []) [] rfl (w3_deedByLot_93 h  (hF := hF))
        · have hF := itp c7 hF
          refine R_aload_n (pc := 79) h 1 rfl rfl dX3_deedByLot_79 ?_
          refine R_getI (pc := 80) h flX3_25 lc_33 rfl dX3_deedByLot_80 ?_
          refine R_bipush (pc := 83) (v := 9) h (by decide) dX3_deedByLot_83 ?_
          refine R_icmp_eq (pc := 85) (tgt := 92) h dX3_deedByLot_85 (by decide) (fun c8 => ?_) (fun c8 => ?_)
          · have hF := itp c8 hF
            refine R_iconst (pc := 92) (v := 0) h (by decide) dX3_deedByLot_92 ?_
            exact Wp_sub (nX := 0) (lv' := []) [] rfl (w3_deedByLot_93 h  (hF := hF))
          · have hF := ifn c8 hF
            refine R_iconst (pc := 88) (v := 1) h (by decide) dX3_deedByLot_88 ?_
            refine R_goto (pc := 89) (tgt := 93) h dX3_deedByLot_89 (by decide) ?_
            exact Wp_sub (nX := 0) (lv' := []) [] rfl (w3_deedByLot_93 h  (hF := hF))
    · have hF := ifn c4 hF
      refine R_bipush (pc := 57) (v := 8) h (by decide) dX3_deedByLot_57 ?_
      refine R_iload_n (pc := 59) h 0 rfl rfl dX3_deedByLot_59 ?_
      refine R_iadd (pc := 60) h dX3_deedByLot_60 ?_
      cases hF
      exact R_ireturn (pc := 61) h rfl rfl rfl dX3_deedByLot_61
  · have hF := ifn c1 hF
    refine R_bipush (pc := 41) (v := 16) h (by decide) dX3_deedByLot_41 ?_
    refine R_iload_n (pc := 43) h 0 rfl rfl dX3_deedByLot_43 ?_
    refine R_iadd (pc := 44) h dX3_deedByLot_44 ?_
    cases hF
    exact R_ireturn (pc := 45) h rfl rfl rfl dX3_deedByLot_45
def f3_deedByLot (M : Mem) (fu : Nat) (x1 : Int64) : Option (Int32) :=
    if (M.1 35 0) ≤ 0 then ((f3_deedByLot_29 M fu x1 (0 : Int32)))
    else ((dvL x1 (8 : Int64)).bind fun v2 =>
    (rmLo v2 (M.1 35 0).toInt64).bind fun v3 =>
    (f3_deedByLot_29 M fu x1 v3.toInt32))
set_option maxHeartbeats 4000000 in
set_option maxRecDepth 10000 in
theorem w3_deedByLot {ad : Nat → Nat} {X : XX} {R : Int32} {M : Mem} {fu : Nat} (h : Cx layC ad X cX3_deedByLot RX3 5 4 (some .int) M (some (.int R))) {x1 : Int64} (hF : f3_deedByLot M fu x1 = some R) : Wp layC ad X M 0 [(0, .ref (ad 33)), (1, .long x1)] [] := by
  unfold f3_deedByLot at hF
  refine R_aload_n (pc := 0) h 0 rfl rfl dX3_deedByLot_0 ?_
  refine R_getR (pc := 1) (q1 := 35) h flX3_12 lc_33 rfl dX3_deedByLot_1 ?_
  refine R_getI (pc := 4) h flX3_46 lc_35 rfl dX3_deedByLot_4 ?_
  refine R_if_le (pc := 7) (tgt := 28) h dX3_deedByLot_7 (by decide) (fun c1 => ?_) (fun c1 => ?_)
  · have hF := itp c1 hF
    refine R_iconst (pc := 28) (v := 0) h (by decide) dX3_deedByLot_28 ?_
    exact Wp_sub (nX := 0) (lv' := [(0, .ref (ad 33)), (1, .long x1)]) [0, 1] rfl (w3_deedByLot_29 h  (hF := hF))
  · have hF := ifn c1 hF
    refine R_lload_n (pc := 10) h 1 rfl rfl dX3_deedByLot_10 ?_
    refine R_ldc2 (pc := 11) h klX3_68 dX3_deedByLot_11 ?_
    obtain ⟨v2, hv2, hF⟩ := bd hF
    refine R_ldiv (pc := 14) h hv2 dX3_deedByLot_14 ?_
    refine R_aload_n (pc := 15) h 0 rfl rfl dX3_deedByLot_15 ?_
    refine R_getR (pc := 16) (q1 := 35) h flX3_12 lc_33 rfl dX3_deedByLot_16 ?_
    refine R_getI (pc := 19) h flX3_46 lc_35 rfl dX3_deedByLot_19 ?_
    refine R_i2l (pc := 22) h dX3_deedByLot_22 ?_
    obtain ⟨v3, hv3, hF⟩ := bd hF
    refine R_lrem (pc := 23) h hv3 dX3_deedByLot_23 ?_
    refine R_l2i (pc := 24) h dX3_deedByLot_24 ?_
    refine R_goto (pc := 25) (tgt := 29) h dX3_deedByLot_25 (by decide) ?_
    exact Wp_sub (nX := 0) (lv' := [(0, .ref (ad 33)), (1, .long x1)]) [0, 1] rfl (w3_deedByLot_29 h  (hF := hF))
theorem c3_deedByLot {ad : Nat → Nat} {z : ZZ} {R : Int32} {M : Mem} {fu : Nat} {x1 : Int64} (hF : f3_deedByLot M fu x1 = some R) : Con layC ad z yX3_deedByLot cX3_deedByLot 5 (some .int) 4 M [.ref (ad 33), .long x1] (M) (some (.int R)) := con_of (own := RX3) (lv := [(0, .ref (ad 33)), (1, .long x1)]) (by decide +kernel) rfl (Nat.le_of_ble_eq_true rfl) rfl (fun X hz h => w3_deedByLot h hF)
def f4_lots_61 (fu : Nat) : Nat → Int32 → Int64 → Int32 → Mem → Option (Mem × Int32)
  | 0 => fun _ _ _ _ => none
  | f + 1 => fun x1 x3 x5 M =>
    if x1 ≤ x5 then ((some (M, (M.1 33 2))))
    else ((rmLo (x3 * (48271 : Int64)) (2147483647 : Int64)).bind fun v2 =>
    (f3_deedByLot M fu v2).bind fun r4 =>
    (f3_enact fu r4 M).bind fun M6 =>
    nm (x5 + (1 : Int32)) fun v7 =>
    ((f4_lots_61 fu f) x1 v2 v7 M6))
set_option maxHeartbeats 4000000 in
set_option maxRecDepth 10000 in
theorem w4_lotsi_61 {ad : Nat → Nat} {X : XX} {R : Mem × Int32} {fu : Nat}  (h : Cx layC ad X cX4_lots RX4 6 6 (some .int) (R.1) (some (.int R.2)))  : ∀ (f : Nat) (x1 : Int32) (x3 : Int64) (x5 : Int32) (M : Mem), f4_lots_61 fu f x1 x3 x5 M = some R → Wp layC ad X M 61 [(0, .ref (ad 28)), (1, .int x1), (3, .long x3), (5, .int x5)] [] := by
  intro f
  induction f with
  | zero => intro x1 x3 x5 M hF; exact absurd hF (by simp [f4_lots_61])
  | succ f ih =>
    intro x1 x3 x5 M hF
    rw [f4_lots_61] at hF
    refine R_iload (pc := 61) h 3 rfl dX4_lots_61 ?_
    refine R_iload_n (pc := 63) h 1 rfl rfl dX4_lots_63 ?_
    refine R_icmp_ge (pc := 64) (tgt := 98) h dX4_lots_64 (by decide) (fun c1 => ?_) (fun c1 => ?_)
    · have hF := itp c1 hF
      refine R_aload_n (pc := 98) h 0 rfl rfl dX4_lots_98 ?_
      refine R_getR (pc := 99) (q1 := 33) h flX4_27 lc_28 rfl dX4_lots_99 ?_
      refine R_getI (pc := 102) h flX4_151 lc_33 rfl dX4_lots_102 ?_
      cases hF
      exact R_ireturn (pc := 105) h rfl rfl rfl dX4_lots_105
    · have hF := ifn c1 hF
      refine R_lload_n (pc := 67) h 2 rfl rfl dX4_lots_67 ?_
      refine R_ldc2 (pc := 68) h klX4_268 dX4_lots_68 ?_
      refine R_lmul (pc := 71) h dX4_lots_71 ?_
      refine R_ldc2 (pc := 72) h klX4_270 dX4_lots_72 ?_
      obtain ⟨v2, hv2, hF⟩ := bd hF
      refine R_lrem (pc := 75) h hv2 dX4_lots_75 ?_
      refine R_lstore_n (pc := 76) (lv' := [(3, .long v2), (0, .ref (ad 28)), (1, .int x1), (5, .int x5)]) h rfl rfl (by decide) rfl dX4_lots_76 ?_
      refine R_aload_n (pc := 77) h 1 rfl rfl dX4_lots_77 ?_
      refine R_getR (pc := 78) (q1 := 33) h flX4_27 lc_28 rfl dX4_lots_78 ?_
      refine R_aload_n (pc := 81) h 1 rfl rfl dX4_lots_81 ?_
      refine R_getR (pc := 82) (q1 := 33) h flX4_27 lc_28 rfl dX4_lots_82 ?_
      refine R_lload_n (pc := 85) h 0 rfl rfl dX4_lots_85 ?_
      obtain ⟨r4, hc3, hF⟩ := bd hF
      refine R_callV (pc := 86) (st := [.ref (ad 33)]) h [.long v2] cvX4_272 (c3_deedByLot (ad := ad) (z := X.1) hc3) rfl rfl lc_33 (by decide) (by decide) (Nat.le_of_ble_eq_true rfl) dX4_lots_86 (st1 := [.int r4, .ref (ad 33)]) rfl ?_
      obtain ⟨M6, hc5, hF⟩ := bd hF
      refine R_callV (pc := 89) (st := []) h [.int r4] cvX4_157 (c3_enact (ad := ad) (z := X.1) hc5) rfl rfl lc_33 (by decide) (by decide) (Nat.le_of_ble_eq_true rfl) dX4_lots_89 (st1 := []) rfl ?_
      obtain ⟨v7, hv7, hF⟩ := nm_e2 hF
      refine R_iinc (pc := 92) (lv' := [(5, .int v7), (3, .long v2), (0, .ref (ad 28)), (1, .int x1)]) h 3 rfl (by decide) hv7 (by decide) rfl dX4_lots_92 ?_
      refine R_goto (pc := 95) (tgt := 61) h dX4_lots_95 (by decide) ?_
      exact Wp_sub (nX := 0) (lv' := [(0, .ref (ad 28)), (1, .int x1), (3, .long v2), (5, .int v7)]) [2, 3, 1, 0] rfl (ih _ _ _ _ hF)
theorem w4_lots_61 {ad : Nat → Nat} {X : XX} {R : Mem × Int32} {fu : Nat}  (h : Cx layC ad X cX4_lots RX4 6 6 (some .int) (R.1) (some (.int R.2)))  {f : Nat} {x1 : Int32} {x3 : Int64} {x5 : Int32} {M : Mem} (hF : f4_lots_61 fu f x1 x3 x5 M = some R) : Wp layC ad X M 61 [(0, .ref (ad 28)), (1, .int x1), (3, .long x3), (5, .int x5)] [] := w4_lotsi_61 h  f _ _ _ _ hF
def f4_lots (fu : Nat) (x1 : Int32) (x2 : Int32) (M : Mem) : Option (Mem × Int32) :=
    if x1 < (1 : Int32) then ((some (M, (-1 : Int32))))
    else (if (20 : Int32) < x1 then ((some (M, (-1 : Int32))))
    else (if x2 < (1 : Int32) then ((some (M, (-1 : Int32))))
    else (if x2 < (2147483647 : Int32) then (if (M.1 35 0) = 0 then ((some (M, (-4 : Int32))))
    else ((f3_hasRoomFor M x1).bind fun r7 =>
    if r7 = 0 then ((some (M, (-2 : Int32))))
    else (nm x2.toInt64 fun v9 =>
    (f4_lots_61 fu fu x1 v9 (0 : Int32) M))))
    else ((some (M, (-1 : Int32)))))))
set_option maxHeartbeats 4000000 in
set_option maxRecDepth 10000 in
theorem w4_lots {ad : Nat → Nat} {X : XX} {R : Mem × Int32} {fu : Nat} (h : Cx layC ad X cX4_lots RX4 6 6 (some .int) (R.1) (some (.int R.2))) {x1 : Int32} {x2 : Int32} {M : Mem} (hF : f4_lots fu x1 x2 M = some R) : Wp layC ad X M 0 [(0, .ref (ad 28)), (1, .int x1), (2, .int x2)] [] := by
  unfold f4_lots at hF
  refine R_iload_n (pc := 0) h 1 rfl rfl dX4_lots_0 ?_
  refine R_iconst (pc := 1) (v := 1) h (by decide) dX4_lots_1 ?_
  refine R_icmp_lt (pc := 2) (tgt := 23) h dX4_lots_2 (by decide) (fun c1 => ?_) (fun c1 => ?_)
  · have hF := itp c1 hF
    refine R_iconst (pc := 23) (v := (-1)) h (by decide) dX4_lots_23 ?_
    cases hF
    exact R_ireturn (pc := 24) h rfl rfl rfl dX4_lots_24
  · have hF := ifn c1 hF
    refine R_iload_n (pc := 5) h 1 rfl rfl dX4_lots_5 ?_
    refine R_bipush (pc := 6) (v := 20) h (by decide) dX4_lots_6 ?_
    refine R_icmp_gt (pc := 8) (tgt := 23) h dX4_lots_8 (by decide) (fun c2 => ?_) (fun c2 => ?_)
    · have hF := itp c2 hF
      refine R_iconst (pc := 23) (v := (-1)) h (by decide) dX4_lots_23 ?_
      cases hF
      exact R_ireturn (pc := 24) h rfl rfl rfl dX4_lots_24
    · have hF := ifn c2 hF
      refine R_iload_n (pc := 11) h 2 rfl rfl dX4_lots_11 ?_
      refine R_iconst (pc := 12) (v := 1) h (by decide) dX4_lots_12 ?_
      refine R_icmp_lt (pc := 13) (tgt := 23) h dX4_lots_13 (by decide) (fun c3 => ?_) (fun c3 => ?_)
      · have hF := itp c3 hF
        refine R_iconst (pc := 23) (v := (-1)) h (by decide) dX4_lots_23 ?_
        cases hF
        exact R_ireturn (pc := 24) h rfl rfl rfl dX4_lots_24
      · have hF := ifn c3 hF
        refine R_iload_n (pc := 16) h 2 rfl rfl dX4_lots_16 ?_
        refine R_ldcw (pc := 17) h kiX4_267 dX4_lots_17 ?_
        refine R_icmp_lt (pc := 20) (tgt := 25) h dX4_lots_20 (by decide) (fun c4 => ?_) (fun c4 => ?_)
        · have hF := itp c4 hF
          refine R_aload_n (pc := 25) h 0 rfl rfl dX4_lots_25 ?_
          refine R_getR (pc := 26) (q1 := 33) h flX4_27 lc_28 rfl dX4_lots_26 ?_
          refine R_getR (pc := 29) (q1 := 35) h flX4_104 lc_33 rfl dX4_lots_29 ?_
          refine R_getI (pc := 32) h flX4_121 lc_35 rfl dX4_lots_32 ?_
          refine R_if_ne (pc := 35) (tgt := 41) h dX4_lots_35 (by decide) (fun c5 => ?_) (fun c5 => ?_)
          · have hF := ifn c5 hF
            refine R_aload_n (pc := 41) h 0 rfl rfl dX4_lots_41 ?_
            refine R_getR (pc := 42) (q1 := 33) h flX4_27 lc_28 rfl dX4_lots_42 ?_
            refine R_iload_n (pc := 45) h 1 rfl rfl dX4_lots_45 ?_
            obtain ⟨r7, hc6, hF⟩ := bd hF
            refine R_callV (pc := 46) (st := []) h [.int x1] cvX4_154 (c3_hasRoomFor (ad := ad) (z := X.1) hc6) rfl rfl lc_33 (by decide) (by decide) (Nat.le_of_ble_eq_true rfl) dX4_lots_46 (st1 := [.int r7]) rfl ?_
            refine R_if_ne (pc := 49) (tgt := 55) h dX4_lots_49 (by decide) (fun c8 => ?_) (fun c8 => ?_)
            · have hF := ifn c8 hF
              refine R_iload_n (pc := 55) h 2 rfl rfl dX4_lots_55 ?_
              refine R_i2l (pc := 56) h dX4_lots_56 ?_
              obtain ⟨v9, hv9, hF⟩ := nm_e2 hF
              refine R_lstore_n (pc := 57) (lv' := [(3, .long v9), (0, .ref (ad 28)), (1, .int x1), (2, .int x2)]) h hv9 rfl (by decide) rfl dX4_lots_57 ?_
              refine R_iconst (pc := 58) (v := 0) h (by decide) dX4_lots_58 ?_
              refine R_istore (pc := 59) (lv' := [(5, .int (0 : Int32)), (3, .long v9), (0, .ref (ad 28)), (1, .int x1), (2, .int x2)]) h rfl (by decide) rfl dX4_lots_59 ?_
              exact Wp_sub (nX := 0) (lv' := [(0, .ref (ad 28)), (1, .int x1), (3, .long v9), (5, .int (0 : Int32))]) [2, 3, 1, 0] rfl (w4_lots_61 h  (hF := hF))
            · have hF := itp c8 hF
              refine R_bipush (pc := 52) (v := (-2)) h (by decide) dX4_lots_52 ?_
              cases hF
              exact R_ireturn (pc := 54) h rfl rfl rfl dX4_lots_54
          · have hF := itp c5 hF
            refine R_bipush (pc := 38) (v := (-4)) h (by decide) dX4_lots_38 ?_
            cases hF
            exact R_ireturn (pc := 40) h rfl rfl rfl dX4_lots_40
        · have hF := ifn c4 hF
          refine R_iconst (pc := 23) (v := (-1)) h (by decide) dX4_lots_23 ?_
          cases hF
          exact R_ireturn (pc := 24) h rfl rfl rfl dX4_lots_24
theorem c4_lots {ad : Nat → Nat} {z : ZZ} {R : Mem × Int32} {fu : Nat} {x1 : Int32} {x2 : Int32} {M : Mem} (hF : f4_lots fu x1 x2 M = some R) : Con layC ad z yX4_lots cX4_lots 6 (some .int) 6 M [.ref (ad 28), .int x1, .int x2] (R.1) (some (.int R.2)) := con_of (own := RX4) (lv := [(0, .ref (ad 28)), (1, .int x1), (2, .int x2)]) (by decide +kernel) rfl (Nat.le_of_ble_eq_true rfl) rfl (fun X hz h => w4_lots h hF)
def f4_asked (M : Mem) : Option (Int32) :=
    (some (M.1 28 6))
set_option maxHeartbeats 4000000 in
set_option maxRecDepth 10000 in
theorem w4_asked {ad : Nat → Nat} {X : XX} {R : Int32} {M : Mem} (h : Cx layC ad X cX4_asked RX4 1 1 (some .int) M (some (.int R)))  (hF : f4_asked M = some R) : Wp layC ad X M 0 [(0, .ref (ad 28))] [] := by
  unfold f4_asked at hF
  refine R_aload_n (pc := 0) h 0 rfl rfl dX4_asked_0 ?_
  refine R_getI (pc := 1) h flX4_39 lc_28 rfl dX4_asked_1 ?_
  cases hF
  exact R_ireturn (pc := 4) h rfl rfl rfl dX4_asked_4
theorem c4_asked {ad : Nat → Nat} {z : ZZ} {R : Int32} {M : Mem}  (hF : f4_asked M = some R) : Con layC ad z yX4_asked cX4_asked 1 (some .int) 1 M [.ref (ad 28)] (M) (some (.int R)) := con_of (own := RX4) (lv := [(0, .ref (ad 28))]) (by decide +kernel) rfl (Nat.le_of_ble_eq_true rfl) rfl (fun X hz h => w4_asked h hF)
def f4_upper (M : Mem) : Option (Int64) :=
    (some (M.2 28 7))
set_option maxHeartbeats 4000000 in
set_option maxRecDepth 10000 in
theorem w4_upper {ad : Nat → Nat} {X : XX} {R : Int64} {M : Mem} (h : Cx layC ad X cX4_upper RX4 1 1 (some .long) M (some (.long R)))  (hF : f4_upper M = some R) : Wp layC ad X M 0 [(0, .ref (ad 28))] [] := by
  unfold f4_upper at hF
  refine R_aload_n (pc := 0) h 0 rfl rfl dX4_upper_0 ?_
  refine R_getL (pc := 1) h flX4_42 lc_28 rfl dX4_upper_1 ?_
  cases hF
  exact R_lreturn (pc := 4) h rfl rfl rfl dX4_upper_4
theorem c4_upper {ad : Nat → Nat} {z : ZZ} {R : Int64} {M : Mem}  (hF : f4_upper M = some R) : Con layC ad z yX4_upper cX4_upper 1 (some .long) 1 M [.ref (ad 28)] (M) (some (.long R)) := con_of (own := RX4) (lv := [(0, .ref (ad 28))]) (by decide +kernel) rfl (Nat.le_of_ble_eq_true rfl) rfl (fun X hz h => w4_upper h hF)
def f4_lower (M : Mem) : Option (Int64) :=
    (some (M.2 28 8))
set_option maxHeartbeats 4000000 in
set_option maxRecDepth 10000 in
theorem w4_lower {ad : Nat → Nat} {X : XX} {R : Int64} {M : Mem} (h : Cx layC ad X cX4_lower RX4 1 1 (some .long) M (some (.long R)))  (hF : f4_lower M = some R) : Wp layC ad X M 0 [(0, .ref (ad 28))] [] := by
  unfold f4_lower at hF
  refine R_aload_n (pc := 0) h 0 rfl rfl dX4_lower_0 ?_
  refine R_getL (pc := 1) h flX4_46 lc_28 rfl dX4_lower_1 ?_
  cases hF
  exact R_lreturn (pc := 4) h rfl rfl rfl dX4_lower_4
theorem c4_lower {ad : Nat → Nat} {z : ZZ} {R : Int64} {M : Mem}  (hF : f4_lower M = some R) : Con layC ad z yX4_lower cX4_lower 1 (some .long) 1 M [.ref (ad 28)] (M) (some (.long R)) := con_of (own := RX4) (lv := [(0, .ref (ad 28))]) (by decide +kernel) rfl (Nat.le_of_ble_eq_true rfl) rfl (fun X hz h => w4_lower h hF)
def f4_countThere_29_4 (M : Mem) (fu : Nat) : Nat → Int32 → Int32 → Option (Int32)
  | 0 => fun _ _ => none
  | f + 1 => fun x1 x2 =>
    if (6 : Int32) ≤ x2 then ((some x1))
    else ((rdR [0, 1, 2, 3, 4, 5] x2).bind fun q2 =>
    (gd (decide (q2 < 10))).bind fun _ =>
    (f0_isMissing M q2).bind fun r5 =>
    if r5 = 0 then (nm (x1 + (1 : Int32)) fun v7 =>
    nm (x2 + (1 : Int32)) fun v8 =>
    ((f4_countThere_29_4 M fu f) v7 v8))
    else (nm (x2 + (1 : Int32)) fun v9 =>
    ((f4_countThere_29_4 M fu f) x1 v9)))
set_option maxHeartbeats 4000000 in
set_option maxRecDepth 10000 in
theorem w4_countThere_29i_4 {ad : Nat → Nat} {X : XX} {R : Int32} {M : Mem} {fu : Nat}  (h : Cx layC ad X cX4_countThere RX4 3 2 (some .int) M (some (.int R)))  : ∀ (f : Nat) (x1 : Int32) (x2 : Int32), f4_countThere_29_4 M fu f x1 x2 = some R → Wp layC ad X M 4 [(0, .ref (ad 29)), (1, .int x1), (2, .int x2)] [] := by
  intro f
  induction f with
  | zero => intro x1 x2 hF; exact absurd hF (by simp [f4_countThere_29_4])
  | succ f ih =>
    intro x1 x2 hF
    rw [f4_countThere_29_4] at hF
    refine R_iload_n (pc := 4) h 2 rfl rfl dX4_countThere_4 ?_
    refine R_aload_n (pc := 5) h 0 rfl rfl dX4_countThere_5 ?_
    refine R_alenR (pc := 6) (v := 6) h (by decide) (by decide) lc_29 dX4_countThere_6 ?_
    refine R_icmp_ge (pc := 7) (tgt := 28) h dX4_countThere_7 (by decide) (fun c1 => ?_) (fun c1 => ?_)
    · have hF := itp c1 hF
      refine R_iload_n (pc := 28) h 1 rfl rfl dX4_countThere_28 ?_
      cases hF
      exact R_ireturn (pc := 29) h rfl rfl rfl dX4_countThere_29
    · have hF := ifn c1 hF
      refine R_aload_n (pc := 10) h 0 rfl rfl dX4_countThere_10 ?_
      refine R_iload_n (pc := 11) h 2 rfl rfl dX4_countThere_11 ?_
      obtain ⟨q2, hq2, hF⟩ := bd hF
      refine R_aald (pc := 12) h hq2 (by decide) lc_29 dX4_countThere_12 ?_
      obtain ⟨_, hg3, hF⟩ := bd hF
      have hg3 := of_decide_eq_true (gd_s hg3)
      obtain ⟨r5, hc4, hF⟩ := bd hF
      refine R_callV (pc := 13) (st := []) h [] cvX4_81 (c0_isMissing (ad := ad) (z := X.1) hc4) rfl rfl (lyCells hg3) (by decide) (by decide) (Nat.le_of_ble_eq_true rfl) dX4_countThere_13 (st1 := [.int r5]) rfl ?_
      refine R_if_ne (pc := 16) (tgt := 22) h dX4_countThere_16 (by decide) (fun c6 => ?_) (fun c6 => ?_)
      · have hF := ifn c6 hF
        obtain ⟨v9, hv9, hF⟩ := nm_e2 hF
        refine R_iinc (pc := 22) (lv' := [(2, .int v9), (0, .ref (ad 29)), (1, .int x1)]) h 2 rfl (by decide) hv9 (by decide) rfl dX4_countThere_22 ?_
        refine R_goto (pc := 25) (tgt := 4) h dX4_countThere_25 (by decide) ?_
        exact Wp_sub (nX := 0) (lv' := [(0, .ref (ad 29)), (1, .int x1), (2, .int v9)]) [1, 2, 0] rfl (ih _ _ hF)
      · have hF := itp c6 hF
        obtain ⟨v7, hv7, hF⟩ := nm_e2 hF
        refine R_iinc (pc := 19) (lv' := [(1, .int v7), (0, .ref (ad 29)), (2, .int x2)]) h 1 rfl (by decide) hv7 (by decide) rfl dX4_countThere_19 ?_
        obtain ⟨v8, hv8, hF⟩ := nm_e2 hF
        refine R_iinc (pc := 22) (lv' := [(2, .int v8), (1, .int v7), (0, .ref (ad 29))]) h 2 rfl (by decide) hv8 (by decide) rfl dX4_countThere_22 ?_
        refine R_goto (pc := 25) (tgt := 4) h dX4_countThere_25 (by decide) ?_
        exact Wp_sub (nX := 0) (lv' := [(0, .ref (ad 29)), (1, .int v7), (2, .int v8)]) [2, 1, 0] rfl (ih _ _ hF)
theorem w4_countThere_29_4 {ad : Nat → Nat} {X : XX} {R : Int32} {M : Mem} {fu : Nat}  (h : Cx layC ad X cX4_countThere RX4 3 2 (some .int) M (some (.int R)))  {f : Nat} {x1 : Int32} {x2 : Int32} (hF : f4_countThere_29_4 M fu f x1 x2 = some R) : Wp layC ad X M 4 [(0, .ref (ad 29)), (1, .int x1), (2, .int x2)] [] := w4_countThere_29i_4 h  f _ _ hF
def f4_countThere_29 (M : Mem) (fu : Nat) : Option (Int32) :=
    (f4_countThere_29_4 M fu fu (0 : Int32) (0 : Int32))
set_option maxHeartbeats 4000000 in
set_option maxRecDepth 10000 in
theorem w4_countThere_29 {ad : Nat → Nat} {X : XX} {R : Int32} {M : Mem} {fu : Nat} (h : Cx layC ad X cX4_countThere RX4 3 2 (some .int) M (some (.int R)))  (hF : f4_countThere_29 M fu = some R) : Wp layC ad X M 0 [(0, .ref (ad 29))] [] := by
  unfold f4_countThere_29 at hF
  refine R_iconst (pc := 0) (v := 0) h (by decide) dX4_countThere_0 ?_
  refine R_istore_n (pc := 1) (lv' := [(1, .int (0 : Int32)), (0, .ref (ad 29))]) h rfl rfl (by decide) rfl dX4_countThere_1 ?_
  refine R_iconst (pc := 2) (v := 0) h (by decide) dX4_countThere_2 ?_
  refine R_istore_n (pc := 3) (lv' := [(2, .int (0 : Int32)), (1, .int (0 : Int32)), (0, .ref (ad 29))]) h rfl rfl (by decide) rfl dX4_countThere_3 ?_
  exact Wp_sub (nX := 0) (lv' := [(0, .ref (ad 29)), (1, .int (0 : Int32)), (2, .int (0 : Int32))]) [2, 1, 0] rfl (w4_countThere_29_4 h  (hF := hF))
theorem c4_countThere_29 {ad : Nat → Nat} {z : ZZ} {R : Int32} {M : Mem} {fu : Nat}  (hF : f4_countThere_29 M fu = some R) : Con layC ad z yX4_countThere cX4_countThere 3 (some .int) 2 M [.ref (ad 29)] (M) (some (.int R)) := con_of (own := RX4) (lv := [(0, .ref (ad 29))]) (by decide +kernel) rfl (Nat.le_of_ble_eq_true rfl) rfl (fun X hz h => w4_countThere_29 h hF)
def f4_countThere_30_4 (M : Mem) (fu : Nat) : Nat → Int32 → Int32 → Option (Int32)
  | 0 => fun _ _ => none
  | f + 1 => fun x1 x2 =>
    if (4 : Int32) ≤ x2 then ((some x1))
    else ((rdR [6, 7, 8, 9] x2).bind fun q2 =>
    (gd (decide (q2 < 10))).bind fun _ =>
    (f0_isMissing M q2).bind fun r5 =>
    if r5 = 0 then (nm (x1 + (1 : Int32)) fun v7 =>
    nm (x2 + (1 : Int32)) fun v8 =>
    ((f4_countThere_30_4 M fu f) v7 v8))
    else (nm (x2 + (1 : Int32)) fun v9 =>
    ((f4_countThere_30_4 M fu f) x1 v9)))
set_option maxHeartbeats 4000000 in
set_option maxRecDepth 10000 in
theorem w4_countThere_30i_4 {ad : Nat → Nat} {X : XX} {R : Int32} {M : Mem} {fu : Nat}  (h : Cx layC ad X cX4_countThere RX4 3 2 (some .int) M (some (.int R)))  : ∀ (f : Nat) (x1 : Int32) (x2 : Int32), f4_countThere_30_4 M fu f x1 x2 = some R → Wp layC ad X M 4 [(0, .ref (ad 30)), (1, .int x1), (2, .int x2)] [] := by
  intro f
  induction f with
  | zero => intro x1 x2 hF; exact absurd hF (by simp [f4_countThere_30_4])
  | succ f ih =>
    intro x1 x2 hF
    rw [f4_countThere_30_4] at hF
    refine R_iload_n (pc := 4) h 2 rfl rfl dX4_countThere_4 ?_
    refine R_aload_n (pc := 5) h 0 rfl rfl dX4_countThere_5 ?_
    refine R_alenR (pc := 6) (v := 4) h (by decide) (by decide) lc_30 dX4_countThere_6 ?_
    refine R_icmp_ge (pc := 7) (tgt := 28) h dX4_countThere_7 (by decide) (fun c1 => ?_) (fun c1 => ?_)
    · have hF := itp c1 hF
      refine R_iload_n (pc := 28) h 1 rfl rfl dX4_countThere_28 ?_
      cases hF
      exact R_ireturn (pc := 29) h rfl rfl rfl dX4_countThere_29
    · have hF := ifn c1 hF
      refine R_aload_n (pc := 10) h 0 rfl rfl dX4_countThere_10 ?_
      refine R_iload_n (pc := 11) h 2 rfl rfl dX4_countThere_11 ?_
      obtain ⟨q2, hq2, hF⟩ := bd hF
      refine R_aald (pc := 12) h hq2 (by decide) lc_30 dX4_countThere_12 ?_
      obtain ⟨_, hg3, hF⟩ := bd hF
      have hg3 := of_decide_eq_true (gd_s hg3)
      obtain ⟨r5, hc4, hF⟩ := bd hF
      refine R_callV (pc := 13) (st := []) h [] cvX4_81 (c0_isMissing (ad := ad) (z := X.1) hc4) rfl rfl (lyCells hg3) (by decide) (by decide) (Nat.le_of_ble_eq_true rfl) dX4_countThere_13 (st1 := [.int r5]) rfl ?_
      refine R_if_ne (pc := 16) (tgt := 22) h dX4_countThere_16 (by decide) (fun c6 => ?_) (fun c6 => ?_)
      · have hF := ifn c6 hF
        obtain ⟨v9, hv9, hF⟩ := nm_e2 hF
        refine R_iinc (pc := 22) (lv' := [(2, .int v9), (0, .ref (ad 30)), (1, .int x1)]) h 2 rfl (by decide) hv9 (by decide) rfl dX4_countThere_22 ?_
        refine R_goto (pc := 25) (tgt := 4) h dX4_countThere_25 (by decide) ?_
        exact Wp_sub (nX := 0) (lv' := [(0, .ref (ad 30)), (1, .int x1), (2, .int v9)]) [1, 2, 0] rfl (ih _ _ hF)
      · have hF := itp c6 hF
        obtain ⟨v7, hv7, hF⟩ := nm_e2 hF
        refine R_iinc (pc := 19) (lv' := [(1, .int v7), (0, .ref (ad 30)), (2, .int x2)]) h 1 rfl (by decide) hv7 (by decide) rfl dX4_countThere_19 ?_
        obtain ⟨v8, hv8, hF⟩ := nm_e2 hF
        refine R_iinc (pc := 22) (lv' := [(2, .int v8), (1, .int v7), (0, .ref (ad 30))]) h 2 rfl (by decide) hv8 (by decide) rfl dX4_countThere_22 ?_
        refine R_goto (pc := 25) (tgt := 4) h dX4_countThere_25 (by decide) ?_
        exact Wp_sub (nX := 0) (lv' := [(0, .ref (ad 30)), (1, .int v7), (2, .int v8)]) [2, 1, 0] rfl (ih _ _ hF)
theorem w4_countThere_30_4 {ad : Nat → Nat} {X : XX} {R : Int32} {M : Mem} {fu : Nat}  (h : Cx layC ad X cX4_countThere RX4 3 2 (some .int) M (some (.int R)))  {f : Nat} {x1 : Int32} {x2 : Int32} (hF : f4_countThere_30_4 M fu f x1 x2 = some R) : Wp layC ad X M 4 [(0, .ref (ad 30)), (1, .int x1), (2, .int x2)] [] := w4_countThere_30i_4 h  f _ _ hF
def f4_countThere_30 (M : Mem) (fu : Nat) : Option (Int32) :=
    (f4_countThere_30_4 M fu fu (0 : Int32) (0 : Int32))
set_option maxHeartbeats 4000000 in
set_option maxRecDepth 10000 in
theorem w4_countThere_30 {ad : Nat → Nat} {X : XX} {R : Int32} {M : Mem} {fu : Nat} (h : Cx layC ad X cX4_countThere RX4 3 2 (some .int) M (some (.int R)))  (hF : f4_countThere_30 M fu = some R) : Wp layC ad X M 0 [(0, .ref (ad 30))] [] := by
  unfold f4_countThere_30 at hF
  refine R_iconst (pc := 0) (v := 0) h (by decide) dX4_countThere_0 ?_
  refine R_istore_n (pc := 1) (lv' := [(1, .int (0 : Int32)), (0, .ref (ad 30))]) h rfl rfl (by decide) rfl dX4_countThere_1 ?_
  refine R_iconst (pc := 2) (v := 0) h (by decide) dX4_countThere_2 ?_
  refine R_istore_n (pc := 3) (lv' := [(2, .int (0 : Int32)), (1, .int (0 : Int32)), (0, .ref (ad 30))]) h rfl rfl (by decide) rfl dX4_countThere_3 ?_
  exact Wp_sub (nX := 0) (lv' := [(0, .ref (ad 30)), (1, .int (0 : Int32)), (2, .int (0 : Int32))]) [2, 1, 0] rfl (w4_countThere_30_4 h  (hF := hF))
theorem c4_countThere_30 {ad : Nat → Nat} {z : ZZ} {R : Int32} {M : Mem} {fu : Nat}  (hF : f4_countThere_30 M fu = some R) : Con layC ad z yX4_countThere cX4_countThere 3 (some .int) 2 M [.ref (ad 30)] (M) (some (.int R)) := con_of (own := RX4) (lv := [(0, .ref (ad 30))]) (by decide +kernel) rfl (Nat.le_of_ble_eq_true rfl) rfl (fun X hz h => w4_countThere_30 h hF)
def f4_countKept_4 (M : Mem) (fu : Nat) : Nat → Int32 → Int32 → Option (Int32)
  | 0 => fun _ _ => none
  | f + 1 => fun x1 x2 =>
    if (3 : Int32) ≤ x2 then ((some x1))
    else ((rdR [20, 21, 22] x2).bind fun q2 =>
    (gd (decide (20 ≤ q2 ∧ q2 < 24))).bind fun _ =>
    if (M.1 q2 0) < 0 then (nm (x2 + (1 : Int32)) fun v5 =>
    ((f4_countKept_4 M fu f) x1 v5))
    else (nm (x1 + (1 : Int32)) fun v6 =>
    nm (x2 + (1 : Int32)) fun v7 =>
    ((f4_countKept_4 M fu f) v6 v7)))
set_option maxHeartbeats 4000000 in
set_option maxRecDepth 10000 in
theorem w4_countKepti_4 {ad : Nat → Nat} {X : XX} {R : Int32} {M : Mem} {fu : Nat}  (h : Cx layC ad X cX4_countKept RX4 3 1 (some .int) M (some (.int R)))  : ∀ (f : Nat) (x1 : Int32) (x2 : Int32), f4_countKept_4 M fu f x1 x2 = some R → Wp layC ad X M 4 [(0, .ref (ad 28)), (1, .int x1), (2, .int x2)] [] := by
  intro f
  induction f with
  | zero => intro x1 x2 hF; exact absurd hF (by simp [f4_countKept_4])
  | succ f ih =>
    intro x1 x2 hF
    rw [f4_countKept_4] at hF
    refine R_iload_n (pc := 4) h 2 rfl rfl dX4_countKept_4 ?_
    refine R_iconst (pc := 5) (v := 3) h (by decide) dX4_countKept_5 ?_
    refine R_icmp_ge (pc := 6) (tgt := 30) h dX4_countKept_6 (by decide) (fun c1 => ?_) (fun c1 => ?_)
    · have hF := itp c1 hF
      refine R_iload_n (pc := 30) h 1 rfl rfl dX4_countKept_30 ?_
      cases hF
      exact R_ireturn (pc := 31) h rfl rfl rfl dX4_countKept_31
    · have hF := ifn c1 hF
      refine R_aload_n (pc := 9) h 0 rfl rfl dX4_countKept_9 ?_
      refine R_getR (pc := 10) (q1 := 31) h flX4_20 lc_28 rfl dX4_countKept_10 ?_
      refine R_iload_n (pc := 13) h 2 rfl rfl dX4_countKept_13 ?_
      obtain ⟨q2, hq2, hF⟩ := bd hF
      refine R_aald (pc := 14) h hq2 (by decide) lc_31 dX4_countKept_14 ?_
      obtain ⟨_, hg3, hF⟩ := bd hF
      have hg3 := of_decide_eq_true (gd_s hg3)
      refine R_getI (pc := 15) h flX4_118 (lyDeeds hg3) rfl dX4_countKept_15 ?_
      refine R_if_lt (pc := 18) (tgt := 24) h dX4_countKept_18 (by decide) (fun c4 => ?_) (fun c4 => ?_)
      · have hF := itp c4 hF
        obtain ⟨v5, hv5, hF⟩ := nm_e2 hF
        refine R_iinc (pc := 24) (lv' := [(2, .int v5), (0, .ref (ad 28)), (1, .int x1)]) h 2 rfl (by decide) hv5 (by decide) rfl dX4_countKept_24 ?_
        refine R_goto (pc := 27) (tgt := 4) h dX4_countKept_27 (by decide) ?_
        exact Wp_sub (nX := 0) (lv' := [(0, .ref (ad 28)), (1, .int x1), (2, .int v5)]) [1, 2, 0] rfl (ih _ _ hF)
      · have hF := ifn c4 hF
        obtain ⟨v6, hv6, hF⟩ := nm_e2 hF
        refine R_iinc (pc := 21) (lv' := [(1, .int v6), (0, .ref (ad 28)), (2, .int x2)]) h 1 rfl (by decide) hv6 (by decide) rfl dX4_countKept_21 ?_
        obtain ⟨v7, hv7, hF⟩ := nm_e2 hF
        refine R_iinc (pc := 24) (lv' := [(2, .int v7), (1, .int v6), (0, .ref (ad 28))]) h 2 rfl (by decide) hv7 (by decide) rfl dX4_countKept_24 ?_
        refine R_goto (pc := 27) (tgt := 4) h dX4_countKept_27 (by decide) ?_
        exact Wp_sub (nX := 0) (lv' := [(0, .ref (ad 28)), (1, .int v6), (2, .int v7)]) [2, 1, 0] rfl (ih _ _ hF)
theorem w4_countKept_4 {ad : Nat → Nat} {X : XX} {R : Int32} {M : Mem} {fu : Nat}  (h : Cx layC ad X cX4_countKept RX4 3 1 (some .int) M (some (.int R)))  {f : Nat} {x1 : Int32} {x2 : Int32} (hF : f4_countKept_4 M fu f x1 x2 = some R) : Wp layC ad X M 4 [(0, .ref (ad 28)), (1, .int x1), (2, .int x2)] [] := w4_countKepti_4 h  f _ _ hF
def f4_countKept (M : Mem) (fu : Nat) : Option (Int32) :=
    (f4_countKept_4 M fu fu (0 : Int32) (0 : Int32))
set_option maxHeartbeats 4000000 in
set_option maxRecDepth 10000 in
theorem w4_countKept {ad : Nat → Nat} {X : XX} {R : Int32} {M : Mem} {fu : Nat} (h : Cx layC ad X cX4_countKept RX4 3 1 (some .int) M (some (.int R)))  (hF : f4_countKept M fu = some R) : Wp layC ad X M 0 [(0, .ref (ad 28))] [] := by
  unfold f4_countKept at hF
  refine R_iconst (pc := 0) (v := 0) h (by decide) dX4_countKept_0 ?_
  refine R_istore_n (pc := 1) (lv' := [(1, .int (0 : Int32)), (0, .ref (ad 28))]) h rfl rfl (by decide) rfl dX4_countKept_1 ?_
  refine R_iconst (pc := 2) (v := 0) h (by decide) dX4_countKept_2 ?_
  refine R_istore_n (pc := 3) (lv' := [(2, .int (0 : Int32)), (1, .int (0 : Int32)), (0, .ref (ad 28))]) h rfl rfl (by decide) rfl dX4_countKept_3 ?_
  exact Wp_sub (nX := 0) (lv' := [(0, .ref (ad 28)), (1, .int (0 : Int32)), (2, .int (0 : Int32))]) [2, 1, 0] rfl (w4_countKept_4 h  (hF := hF))
theorem c4_countKept {ad : Nat → Nat} {z : ZZ} {R : Int32} {M : Mem} {fu : Nat}  (hF : f4_countKept M fu = some R) : Con layC ad z yX4_countKept cX4_countKept 3 (some .int) 1 M [.ref (ad 28)] (M) (some (.int R)) := con_of (own := RX4) (lv := [(0, .ref (ad 28))]) (by decide +kernel) rfl (Nat.le_of_ble_eq_true rfl) rfl (fun X hz h => w4_countKept h hF)
def f2_countOfKind_4 (M : Mem) (fu : Nat) : Nat → Int32 → Int32 → Int32 → Option (Int32)
  | 0 => fun _ _ _ => none
  | f + 1 => fun x1 x2 x3 =>
    if (M.1 35 0) ≤ x3 then ((some x2))
    else ((rd M 36 8 x3).bind fun v2 =>
    (f4_isOf v2 x1).bind fun r4 =>
    if r4 = 0 then (nm (x3 + (1 : Int32)) fun v6 =>
    ((f2_countOfKind_4 M fu f) x1 x2 v6))
    else (nm (x2 + (1 : Int32)) fun v7 =>
    nm (x3 + (1 : Int32)) fun v8 =>
    ((f2_countOfKind_4 M fu f) x1 v7 v8)))
set_option maxHeartbeats 4000000 in
set_option maxRecDepth 10000 in
theorem w2_countOfKindi_4 {ad : Nat → Nat} {X : XX} {R : Int32} {M : Mem} {fu : Nat}  (h : Cx layC ad X cX2_countOfKind RX2 4 2 (some .int) M (some (.int R)))  : ∀ (f : Nat) (x1 : Int32) (x2 : Int32) (x3 : Int32), f2_countOfKind_4 M fu f x1 x2 x3 = some R → Wp layC ad X M 4 [(0, .ref (ad 35)), (1, .int x1), (2, .int x2), (3, .int x3)] [] := by
  intro f
  induction f with
  | zero => intro x1 x2 x3 hF; exact absurd hF (by simp [f2_countOfKind_4])
  | succ f ih =>
    intro x1 x2 x3 hF
    rw [f2_countOfKind_4] at hF
    refine R_iload_n (pc := 4) h 3 rfl rfl dX2_countOfKind_4 ?_
    refine R_aload_n (pc := 5) h 0 rfl rfl dX2_countOfKind_5 ?_
    refine R_getI (pc := 6) h flX2_9 lc_35 rfl dX2_countOfKind_6 ?_
    refine R_icmp_ge (pc := 9) (tgt := 34) h dX2_countOfKind_9 (by decide) (fun c1 => ?_) (fun c1 => ?_)
    · have hF := itp c1 hF
      refine R_iload_n (pc := 34) h 2 rfl rfl dX2_countOfKind_34 ?_
      cases hF
      exact R_ireturn (pc := 35) h rfl rfl rfl dX2_countOfKind_35
    · have hF := ifn c1 hF
      refine R_aload_n (pc := 12) h 0 rfl rfl dX2_countOfKind_12 ?_
      refine R_getR (pc := 13) (q1 := 36) h flX2_15 lc_35 rfl dX2_countOfKind_13 ?_
      refine R_iload_n (pc := 16) h 3 rfl rfl dX2_countOfKind_16 ?_
      obtain ⟨v2, hv2, hF⟩ := bd hF
      refine R_iald (pc := 17) h hv2 lc_36 dX2_countOfKind_17 ?_
      refine R_iload_n (pc := 18) h 1 rfl rfl dX2_countOfKind_18 ?_
      obtain ⟨r4, hc3, hF⟩ := bd hF
      refine R_callN (pc := 19) (st := []) h [.int v2, .int x1] cnX2_105 (c4_isOf (ad := ad) (z := X.1) (M := M) hc3) rfl rfl (by decide) (by decide) (Nat.le_of_ble_eq_true rfl) dX2_countOfKind_19 (st1 := [.int r4]) rfl ?_
      refine R_if_eq (pc := 22) (tgt := 28) h dX2_countOfKind_22 (by decide) (fun c5 => ?_) (fun c5 => ?_)
      · have hF := itp c5 hF
        obtain ⟨v6, hv6, hF⟩ := nm_e2 hF
        refine R_iinc (pc := 28) (lv' := [(3, .int v6), (0, .ref (ad 35)), (1, .int x1), (2, .int x2)]) h 3 rfl (by decide) hv6 (by decide) rfl dX2_countOfKind_28 ?_
        refine R_goto (pc := 31) (tgt := 4) h dX2_countOfKind_31 (by decide) ?_
        exact Wp_sub (nX := 0) (lv' := [(0, .ref (ad 35)), (1, .int x1), (2, .int x2), (3, .int v6)]) [1, 2, 3, 0] rfl (ih _ _ _ hF)
      · have hF := ifn c5 hF
        obtain ⟨v7, hv7, hF⟩ := nm_e2 hF
        refine R_iinc (pc := 25) (lv' := [(2, .int v7), (0, .ref (ad 35)), (1, .int x1), (3, .int x3)]) h 2 rfl (by decide) hv7 (by decide) rfl dX2_countOfKind_25 ?_
        obtain ⟨v8, hv8, hF⟩ := nm_e2 hF
        refine R_iinc (pc := 28) (lv' := [(3, .int v8), (2, .int v7), (0, .ref (ad 35)), (1, .int x1)]) h 3 rfl (by decide) hv8 (by decide) rfl dX2_countOfKind_28 ?_
        refine R_goto (pc := 31) (tgt := 4) h dX2_countOfKind_31 (by decide) ?_
        exact Wp_sub (nX := 0) (lv' := [(0, .ref (ad 35)), (1, .int x1), (2, .int v7), (3, .int v8)]) [2, 3, 1, 0] rfl (ih _ _ _ hF)
theorem w2_countOfKind_4 {ad : Nat → Nat} {X : XX} {R : Int32} {M : Mem} {fu : Nat}  (h : Cx layC ad X cX2_countOfKind RX2 4 2 (some .int) M (some (.int R)))  {f : Nat} {x1 : Int32} {x2 : Int32} {x3 : Int32} (hF : f2_countOfKind_4 M fu f x1 x2 x3 = some R) : Wp layC ad X M 4 [(0, .ref (ad 35)), (1, .int x1), (2, .int x2), (3, .int x3)] [] := w2_countOfKindi_4 h  f _ _ _ hF
def f2_countOfKind (M : Mem) (fu : Nat) (x1 : Int32) : Option (Int32) :=
    (f2_countOfKind_4 M fu fu x1 (0 : Int32) (0 : Int32))
set_option maxHeartbeats 4000000 in
set_option maxRecDepth 10000 in
theorem w2_countOfKind {ad : Nat → Nat} {X : XX} {R : Int32} {M : Mem} {fu : Nat} (h : Cx layC ad X cX2_countOfKind RX2 4 2 (some .int) M (some (.int R))) {x1 : Int32} (hF : f2_countOfKind M fu x1 = some R) : Wp layC ad X M 0 [(0, .ref (ad 35)), (1, .int x1)] [] := by
  unfold f2_countOfKind at hF
  refine R_iconst (pc := 0) (v := 0) h (by decide) dX2_countOfKind_0 ?_
  refine R_istore_n (pc := 1) (lv' := [(2, .int (0 : Int32)), (0, .ref (ad 35)), (1, .int x1)]) h rfl rfl (by decide) rfl dX2_countOfKind_1 ?_
  refine R_iconst (pc := 2) (v := 0) h (by decide) dX2_countOfKind_2 ?_
  refine R_istore_n (pc := 3) (lv' := [(3, .int (0 : Int32)), (2, .int (0 : Int32)), (0, .ref (ad 35)), (1, .int x1)]) h rfl rfl (by decide) rfl dX2_countOfKind_3 ?_
  exact Wp_sub (nX := 0) (lv' := [(0, .ref (ad 35)), (1, .int x1), (2, .int (0 : Int32)), (3, .int (0 : Int32))]) [2, 3, 1, 0] rfl (w2_countOfKind_4 h  (hF := hF))
theorem c2_countOfKind {ad : Nat → Nat} {z : ZZ} {R : Int32} {M : Mem} {fu : Nat} {x1 : Int32} (hF : f2_countOfKind M fu x1 = some R) : Con layC ad z yX2_countOfKind cX2_countOfKind 4 (some .int) 2 M [.ref (ad 35), .int x1] (M) (some (.int R)) := con_of (own := RX2) (lv := [(0, .ref (ad 35)), (1, .int x1)]) (by decide +kernel) rfl (Nat.le_of_ble_eq_true rfl) rfl (fun X hz h => w2_countOfKind h hF)
def f4_countOf (M : Mem) (fu : Nat) (x1 : Int32) : Option (Int32) :=
    if x1 = 0 then ((some (M.1 35 0)))
    else if x1 = 1 then ((some (M.1 33 2)))
    else if x1 = 2 then ((some (M.1 23 0)))
    else if x1 = 3 then ((some (M.1 33 3)))
    else if x1 = 4 then ((f3_lying M).bind fun r7 =>
    (some r7))
    else if x1 = 5 then ((some (M.1 33 4)))
    else if x1 = 6 then ((f4_countThere_29 M fu).bind fun r11 =>
    (some r11))
    else if x1 = 7 then ((f4_countThere_30 M fu).bind fun r14 =>
    (some r14))
    else if x1 = 8 then ((f4_countKept M fu).bind fun r17 =>
    (some r17))
    else if x1 = 9 then ((f2_countOfKind M fu (1 : Int32)).bind fun r20 =>
    (some r20))
    else ((f2_countOfKind M fu (2 : Int32)).bind fun r22 =>
    (some r22))
set_option maxHeartbeats 4000000 in
set_option maxRecDepth 10000 in
theorem w4_countOf {ad : Nat → Nat} {X : XX} {R : Int32} {M : Mem} {fu : Nat} (h : Cx layC ad X cX4_countOf RX4 2 3 (some .int) M (some (.int R))) {x1 : Int32} (hF : f4_countOf M fu x1 = some R) : Wp layC ad X M 0 [(0, .ref (ad 28)), (1, .int x1)] [] := by
  unfold f4_countOf at hF
  refine R_iload_n (pc := 0) h 1 rfl rfl dX4_countOf_0 ?_
  by_cases c1 : x1 = 0
  · have hF := itp c1 hF
    refine R_tableIn (pc := 1) (off := 55) (tgt := 56) h dX4_countOf_1 (by rw [c1]; decide +kernel) (by rw [c1]; decide +kernel) (by rw [c1]; decide +kernel) (by decide) ?_
    refine R_aload_n (pc := 56) h 0 rfl rfl dX4_countOf_56 ?_
    refine R_getR (pc := 57) (q1 := 33) h flX4_27 lc_28 rfl dX4_countOf_57 ?_
    refine R_getR (pc := 60) (q1 := 35) h flX4_104 lc_33 rfl dX4_countOf_60 ?_
    refine R_getI (pc := 63) h flX4_121 lc_35 rfl dX4_countOf_63 ?_
    cases hF
    exact R_ireturn (pc := 66) h rfl rfl rfl dX4_countOf_66
  have hF := ifn c1 hF
  by_cases c2 : x1 = 1
  · have hF := itp c2 hF
    refine R_tableIn (pc := 1) (off := 66) (tgt := 67) h dX4_countOf_1 (by rw [c2]; decide +kernel) (by rw [c2]; decide +kernel) (by rw [c2]; decide +kernel) (by decide) ?_
    refine R_aload_n (pc := 67) h 0 rfl rfl dX4_countOf_67 ?_
    refine R_getR (pc := 68) (q1 := 33) h flX4_27 lc_28 rfl dX4_countOf_68 ?_
    refine R_getI (pc := 71) h flX4_151 lc_33 rfl dX4_countOf_71 ?_
    cases hF
    exact R_ireturn (pc := 74) h rfl rfl rfl dX4_countOf_74
  have hF := ifn c2 hF
  by_cases c3 : x1 = 2
  · have hF := itp c3 hF
    refine R_tableIn (pc := 1) (off := 74) (tgt := 75) h dX4_countOf_1 (by rw [c3]; decide +kernel) (by rw [c3]; decide +kernel) (by rw [c3]; decide +kernel) (by decide) ?_
    refine R_aload_n (pc := 75) h 0 rfl rfl dX4_countOf_75 ?_
    refine R_getR (pc := 76) (q1 := 33) h flX4_27 lc_28 rfl dX4_countOf_76 ?_
    refine R_getR (pc := 79) (q1 := 23) h flX4_172 lc_33 rfl dX4_countOf_79 ?_
    refine R_getI (pc := 82) h flX4_118 lc_23 rfl dX4_countOf_82 ?_
    cases hF
    exact R_ireturn (pc := 85) h rfl rfl rfl dX4_countOf_85
  have hF := ifn c3 hF
  by_cases c4 : x1 = 3
  · have hF := itp c4 hF
    refine R_tableIn (pc := 1) (off := 85) (tgt := 86) h dX4_countOf_1 (by rw [c4]; decide +kernel) (by rw [c4]; decide +kernel) (by rw [c4]; decide +kernel) (by decide) ?_
    refine R_aload_n (pc := 86) h 0 rfl rfl dX4_countOf_86 ?_
    refine R_getR (pc := 87) (q1 := 33) h flX4_27 lc_28 rfl dX4_countOf_87 ?_
    refine R_getI (pc := 90) h flX4_164 lc_33 rfl dX4_countOf_90 ?_
    cases hF
    exact R_ireturn (pc := 93) h rfl rfl rfl dX4_countOf_93
  have hF := ifn c4 hF
  by_cases c5 : x1 = 4
  · have hF := itp c5 hF
    refine R_tableIn (pc := 1) (off := 93) (tgt := 94) h dX4_countOf_1 (by rw [c5]; decide +kernel) (by rw [c5]; decide +kernel) (by rw [c5]; decide +kernel) (by decide) ?_
    refine R_aload_n (pc := 94) h 0 rfl rfl dX4_countOf_94 ?_
    refine R_getR (pc := 95) (q1 := 33) h flX4_27 lc_28 rfl dX4_countOf_95 ?_
    obtain ⟨r7, hc6, hF⟩ := bd hF
    refine R_callV (pc := 98) (st := []) h [] cvX4_212 (c3_lying (ad := ad) (z := X.1) hc6) rfl rfl lc_33 (by decide) (by decide) (Nat.le_of_ble_eq_true rfl) dX4_countOf_98 (st1 := [.int r7]) rfl ?_
    cases hF
    exact R_ireturn (pc := 101) h rfl rfl rfl dX4_countOf_101
  have hF := ifn c5 hF
  by_cases c8 : x1 = 5
  · have hF := itp c8 hF
    refine R_tableIn (pc := 1) (off := 101) (tgt := 102) h dX4_countOf_1 (by rw [c8]; decide +kernel) (by rw [c8]; decide +kernel) (by rw [c8]; decide +kernel) (by decide) ?_
    refine R_aload_n (pc := 102) h 0 rfl rfl dX4_countOf_102 ?_
    refine R_getR (pc := 103) (q1 := 33) h flX4_27 lc_28 rfl dX4_countOf_103 ?_
    refine R_getI (pc := 106) h flX4_199 lc_33 rfl dX4_countOf_106 ?_
    cases hF
    exact R_ireturn (pc := 109) h rfl rfl rfl dX4_countOf_109
  have hF := ifn c8 hF
  by_cases c9 : x1 = 6
  · have hF := itp c9 hF
    refine R_tableIn (pc := 1) (off := 109) (tgt := 110) h dX4_countOf_1 (by rw [c9]; decide +kernel) (by rw [c9]; decide +kernel) (by rw [c9]; decide +kernel) (by decide) ?_
    refine R_aload_n (pc := 110) h 0 rfl rfl dX4_countOf_110 ?_
    refine R_getR (pc := 111) (q1 := 29) h flX4_11 lc_28 rfl dX4_countOf_111 ?_
    obtain ⟨r11, hc10, hF⟩ := bd hF
    refine R_callS (pc := 114) (st := []) h [.ref (ad 29)] csX4_293 (c4_countThere_29 (ad := ad) (z := X.1) hc10) rfl rfl (by decide) (by decide) (Nat.le_of_ble_eq_true rfl) dX4_countOf_114 (st1 := [.int r11]) rfl ?_
    cases hF
    exact R_ireturn (pc := 117) h rfl rfl rfl dX4_countOf_117
  have hF := ifn c9 hF
  by_cases c12 : x1 = 7
  · have hF := itp c12 hF
    refine R_tableIn (pc := 1) (off := 117) (tgt := 118) h dX4_countOf_1 (by rw [c12]; decide +kernel) (by rw [c12]; decide +kernel) (by rw [c12]; decide +kernel) (by decide) ?_
    refine R_aload_n (pc := 118) h 0 rfl rfl dX4_countOf_118 ?_
    refine R_getR (pc := 119) (q1 := 30) h flX4_15 lc_28 rfl dX4_countOf_119 ?_
    obtain ⟨r14, hc13, hF⟩ := bd hF
    refine R_callS (pc := 122) (st := []) h [.ref (ad 30)] csX4_293 (c4_countThere_30 (ad := ad) (z := X.1) hc13) rfl rfl (by decide) (by decide) (Nat.le_of_ble_eq_true rfl) dX4_countOf_122 (st1 := [.int r14]) rfl ?_
    cases hF
    exact R_ireturn (pc := 125) h rfl rfl rfl dX4_countOf_125
  have hF := ifn c12 hF
  by_cases c15 : x1 = 8
  · have hF := itp c15 hF
    refine R_tableIn (pc := 1) (off := 125) (tgt := 126) h dX4_countOf_1 (by rw [c15]; decide +kernel) (by rw [c15]; decide +kernel) (by rw [c15]; decide +kernel) (by decide) ?_
    refine R_aload_n (pc := 126) h 0 rfl rfl dX4_countOf_126 ?_
    obtain ⟨r17, hc16, hF⟩ := bd hF
    refine R_callV (pc := 127) (st := []) h [] cvX4_297 (c4_countKept (ad := ad) (z := X.1) hc16) rfl rfl lc_28 (by decide) (by decide) (Nat.le_of_ble_eq_true rfl) dX4_countOf_127 (st1 := [.int r17]) rfl ?_
    cases hF
    exact R_ireturn (pc := 130) h rfl rfl rfl dX4_countOf_130
  have hF := ifn c15 hF
  by_cases c18 : x1 = 9
  · have hF := itp c18 hF
    refine R_tableIn (pc := 1) (off := 130) (tgt := 131) h dX4_countOf_1 (by rw [c18]; decide +kernel) (by rw [c18]; decide +kernel) (by rw [c18]; decide +kernel) (by decide) ?_
    refine R_aload_n (pc := 131) h 0 rfl rfl dX4_countOf_131 ?_
    refine R_getR (pc := 132) (q1 := 33) h flX4_27 lc_28 rfl dX4_countOf_132 ?_
    refine R_getR (pc := 135) (q1 := 35) h flX4_104 lc_33 rfl dX4_countOf_135 ?_
    refine R_iconst (pc := 138) (v := 1) h (by decide) dX4_countOf_138 ?_
    obtain ⟨r20, hc19, hF⟩ := bd hF
    refine R_callV (pc := 139) (st := []) h [.int (1 : Int32)] cvX4_300 (c2_countOfKind (ad := ad) (z := X.1) hc19) rfl rfl lc_35 (by decide) (by decide) (Nat.le_of_ble_eq_true rfl) dX4_countOf_139 (st1 := [.int r20]) rfl ?_
    cases hF
    exact R_ireturn (pc := 142) h rfl rfl rfl dX4_countOf_142
  have hF := ifn c18 hF
  refine R_tableOut (pc := 1) (tgt := 143) h dX4_countOf_1 (by have e0 := lv_neT c1 (a := 0) (by decide); have e1 := lv_neT c2 (a := 1) (by decide); have e2 := lv_neT c3 (a := 2) (by decide); have e3 := lv_neT c4 (a := 3) (by decide); have e4 := lv_neT c5 (a := 4) (by decide); have e5 := lv_neT c8 (a := 5) (by decide); have e6 := lv_neT c9 (a := 6) (by decide); have e7 := lv_neT c12 (a := 7) (by decide); have e8 := lv_neT c15 (a := 8) (by decide); have e9 := lv_neT c18 (a := 9) (by decide); omega) (by decide) ?_
  refine R_aload_n (pc := 143) h 0 rfl rfl dX4_countOf_143 ?_
  refine R_getR (pc := 144) (q1 := 33) h flX4_27 lc_28 rfl dX4_countOf_144 ?_
  refine R_getR (pc := 147) (q1 := 35) h flX4_104 lc_33 rfl dX4_countOf_147 ?_
  refine R_iconst (pc := 150) (v := 2) h (by decide) dX4_countOf_150 ?_
  obtain ⟨r22, hc21, hF⟩ := bd hF
  refine R_callV (pc := 151) (st := []) h [.int (2 : Int32)] cvX4_300 (c2_countOfKind (ad := ad) (z := X.1) hc21) rfl rfl lc_35 (by decide) (by decide) (Nat.le_of_ble_eq_true rfl) dX4_countOf_151 (st1 := [.int r22]) rfl ?_
  cases hF
  exact R_ireturn (pc := 154) h rfl rfl rfl dX4_countOf_154
theorem c4_countOf {ad : Nat → Nat} {z : ZZ} {R : Int32} {M : Mem} {fu : Nat} {x1 : Int32} (hF : f4_countOf M fu x1 = some R) : Con layC ad z yX4_countOf cX4_countOf 2 (some .int) 3 M [.ref (ad 28), .int x1] (M) (some (.int R)) := con_of (own := RX4) (lv := [(0, .ref (ad 28)), (1, .int x1)]) (by decide +kernel) rfl (Nat.le_of_ble_eq_true rfl) rfl (fun X hz h => w4_countOf h hF)
def f4_count (M : Mem) (fu : Nat) (x1 : Int32) : Option (Int32) :=
    if x1 < 0 then ((some (-1 : Int32)))
    else (if x1 < (11 : Int32) then ((f4_countOf M fu x1).bind fun r4 =>
    (some r4))
    else ((some (-1 : Int32))))
set_option maxHeartbeats 4000000 in
set_option maxRecDepth 10000 in
theorem w4_count {ad : Nat → Nat} {X : XX} {R : Int32} {M : Mem} {fu : Nat} (h : Cx layC ad X cX4_count RX4 2 4 (some .int) M (some (.int R))) {x1 : Int32} (hF : f4_count M fu x1 = some R) : Wp layC ad X M 0 [(0, .ref (ad 28)), (1, .int x1)] [] := by
  unfold f4_count at hF
  refine R_iload_n (pc := 0) h 1 rfl rfl dX4_count_0 ?_
  refine R_if_lt (pc := 1) (tgt := 10) h dX4_count_1 (by decide) (fun c1 => ?_) (fun c1 => ?_)
  · have hF := itp c1 hF
    refine R_iconst (pc := 10) (v := (-1)) h (by decide) dX4_count_10 ?_
    refine R_goto (pc := 11) (tgt := 19) h dX4_count_11 (by decide) ?_
    cases hF
    exact R_ireturn (pc := 19) h rfl rfl rfl dX4_count_19
  · have hF := ifn c1 hF
    refine R_iload_n (pc := 4) h 1 rfl rfl dX4_count_4 ?_
    refine R_bipush (pc := 5) (v := 11) h (by decide) dX4_count_5 ?_
    refine R_icmp_lt (pc := 7) (tgt := 14) h dX4_count_7 (by decide) (fun c2 => ?_) (fun c2 => ?_)
    · have hF := itp c2 hF
      refine R_aload_n (pc := 14) h 0 rfl rfl dX4_count_14 ?_
      refine R_iload_n (pc := 15) h 1 rfl rfl dX4_count_15 ?_
      obtain ⟨r4, hc3, hF⟩ := bd hF
      refine R_callV (pc := 16) (st := []) h [.int x1] cvX4_276 (c4_countOf (ad := ad) (z := X.1) hc3) rfl rfl lc_28 (by decide) (by decide) (Nat.le_of_ble_eq_true rfl) dX4_count_16 (st1 := [.int r4]) rfl ?_
      cases hF
      exact R_ireturn (pc := 19) h rfl rfl rfl dX4_count_19
    · have hF := ifn c2 hF
      refine R_iconst (pc := 10) (v := (-1)) h (by decide) dX4_count_10 ?_
      refine R_goto (pc := 11) (tgt := 19) h dX4_count_11 (by decide) ?_
      cases hF
      exact R_ireturn (pc := 19) h rfl rfl rfl dX4_count_19
theorem c4_count {ad : Nat → Nat} {z : ZZ} {R : Int32} {M : Mem} {fu : Nat} {x1 : Int32} (hF : f4_count M fu x1 = some R) : Con layC ad z yX4_count cX4_count 2 (some .int) 4 M [.ref (ad 28), .int x1] (M) (some (.int R)) := con_of (own := RX4) (lv := [(0, .ref (ad 28)), (1, .int x1)]) (by decide +kernel) rfl (Nat.le_of_ble_eq_true rfl) rfl (fun X hz h => w4_count h hF)
def f4_finding (M : Mem) : Option (Int32) :=
    (some (M.1 28 5))
set_option maxHeartbeats 4000000 in
set_option maxRecDepth 10000 in
theorem w4_finding {ad : Nat → Nat} {X : XX} {R : Int32} {M : Mem} (h : Cx layC ad X cX4_finding RX4 1 1 (some .int) M (some (.int R)))  (hF : f4_finding M = some R) : Wp layC ad X M 0 [(0, .ref (ad 28))] [] := by
  unfold f4_finding at hF
  refine R_aload_n (pc := 0) h 0 rfl rfl dX4_finding_0 ?_
  refine R_getI (pc := 1) h flX4_35 lc_28 rfl dX4_finding_1 ?_
  cases hF
  exact R_ireturn (pc := 4) h rfl rfl rfl dX4_finding_4
theorem c4_finding {ad : Nat → Nat} {z : ZZ} {R : Int32} {M : Mem}  (hF : f4_finding M = some R) : Con layC ad z yX4_finding cX4_finding 1 (some .int) 1 M [.ref (ad 28)] (M) (some (.int R)) := con_of (own := RX4) (lv := [(0, .ref (ad 28))]) (by decide +kernel) rfl (Nat.le_of_ble_eq_true rfl) rfl (fun X hz h => w4_finding h hF)
def f4_findings (M : Mem) (x1 : Int32) : Option (Int32) :=
    if x1 < (1 : Int32) then ((some (-1 : Int32)))
    else (if x1 ≤ (5 : Int32) then ((rd M 32 6 x1).bind fun v3 =>
    (some v3))
    else ((some (-1 : Int32))))
set_option maxHeartbeats 4000000 in
set_option maxRecDepth 10000 in
theorem w4_findings {ad : Nat → Nat} {X : XX} {R : Int32} {M : Mem} (h : Cx layC ad X cX4_findings RX4 2 1 (some .int) M (some (.int R))) {x1 : Int32} (hF : f4_findings M x1 = some R) : Wp layC ad X M 0 [(0, .ref (ad 28)), (1, .int x1)] [] := by
  unfold f4_findings at hF
  refine R_iload_n (pc := 0) h 1 rfl rfl dX4_findings_0 ?_
  refine R_iconst (pc := 1) (v := 1) h (by decide) dX4_findings_1 ?_
  refine R_icmp_lt (pc := 2) (tgt := 10) h dX4_findings_2 (by decide) (fun c1 => ?_) (fun c1 => ?_)
  · have hF := itp c1 hF
    refine R_iconst (pc := 10) (v := (-1)) h (by decide) dX4_findings_10 ?_
    refine R_goto (pc := 11) (tgt := 20) h dX4_findings_11 (by decide) ?_
    cases hF
    exact R_ireturn (pc := 20) h rfl rfl rfl dX4_findings_20
  · have hF := ifn c1 hF
    refine R_iload_n (pc := 5) h 1 rfl rfl dX4_findings_5 ?_
    refine R_iconst (pc := 6) (v := 5) h (by decide) dX4_findings_6 ?_
    refine R_icmp_le (pc := 7) (tgt := 14) h dX4_findings_7 (by decide) (fun c2 => ?_) (fun c2 => ?_)
    · have hF := itp c2 hF
      refine R_aload_n (pc := 14) h 0 rfl rfl dX4_findings_14 ?_
      refine R_getR (pc := 15) (q1 := 32) h flX4_31 lc_28 rfl dX4_findings_15 ?_
      refine R_iload_n (pc := 18) h 1 rfl rfl dX4_findings_18 ?_
      obtain ⟨v3, hv3, hF⟩ := bd hF
      refine R_iald (pc := 19) h hv3 lc_32 dX4_findings_19 ?_
      cases hF
      exact R_ireturn (pc := 20) h rfl rfl rfl dX4_findings_20
    · have hF := ifn c2 hF
      refine R_iconst (pc := 10) (v := (-1)) h (by decide) dX4_findings_10 ?_
      refine R_goto (pc := 11) (tgt := 20) h dX4_findings_11 (by decide) ?_
      cases hF
      exact R_ireturn (pc := 20) h rfl rfl rfl dX4_findings_20
theorem c4_findings {ad : Nat → Nat} {z : ZZ} {R : Int32} {M : Mem} {x1 : Int32} (hF : f4_findings M x1 = some R) : Con layC ad z yX4_findings cX4_findings 2 (some .int) 1 M [.ref (ad 28), .int x1] (M) (some (.int R)) := con_of (own := RX4) (lv := [(0, .ref (ad 28)), (1, .int x1)]) (by decide +kernel) rfl (Nat.le_of_ble_eq_true rfl) rfl (fun X hz h => w4_findings h hF)
def f0_digestFrom_15 (M : Mem) (fu : Nat) : Nat → Nat → Int64 → Int32 → Option (Int64)
  | 0 => fun _ _ _ => none
  | f + 1 => fun px0 x3 x5 =>
    (gd (decide (px0 < 10))).bind fun _ =>
    if (M.1 px0 0) ≤ x5 then ((some x3))
    else ((rd M (px0 + 10) 60 x5).bind fun v3 =>
    nm (((31 : Int64) * x3) + v3.toInt64) fun v4 =>
    nm (x5 + (1 : Int32)) fun v5 =>
    ((f0_digestFrom_15 M fu f) px0 v4 v5))
set_option maxHeartbeats 4000000 in
set_option maxRecDepth 10000 in
theorem w0_digestFromi_15 {ad : Nat → Nat} {X : XX} {R : Int64} {M : Mem} {fu : Nat}  (h : Cx layC ad X cX0_digestFrom RX0 6 1 (some .long) M (some (.long R)))  : ∀ (f : Nat) (px0 : Nat) (x3 : Int64) (x5 : Int32), f0_digestFrom_15 M fu f px0 x3 x5 = some R → Wp layC ad X M 15 [(0, .ref (ad px0)), (3, .long x3), (5, .int x5)] [] := by
  intro f
  induction f with
  | zero => intro px0 x3 x5 hF; exact absurd hF (by simp [f0_digestFrom_15])
  | succ f ih =>
    intro px0 x3 x5 hF
    rw [f0_digestFrom_15] at hF
    refine R_iload (pc := 15) h 2 rfl dX0_digestFrom_15 ?_
    refine R_aload_n (pc := 17) h 0 rfl rfl dX0_digestFrom_17 ?_
    obtain ⟨_, hg1, hF⟩ := bd hF
    have hg1 := of_decide_eq_true (gd_s hg1)
    refine R_getI (pc := 18) h flX0_9 (lyCells hg1) rfl dX0_digestFrom_18 ?_
    refine R_icmp_ge (pc := 21) (tgt := 45) h dX0_digestFrom_21 (by decide) (fun c2 => ?_) (fun c2 => ?_)
    · have hF := itp c2 hF
      refine R_lload_n (pc := 45) h 1 rfl rfl dX0_digestFrom_45 ?_
      cases hF
      exact R_lreturn (pc := 46) h rfl rfl rfl dX0_digestFrom_46
    · have hF := ifn c2 hF
      refine R_ldc2 (pc := 24) h klX0_25 dX0_digestFrom_24 ?_
      refine R_lload_n (pc := 27) h 1 rfl rfl dX0_digestFrom_27 ?_
      refine R_lmul (pc := 28) h dX0_digestFrom_28 ?_
      refine R_aload_n (pc := 29) h 0 rfl rfl dX0_digestFrom_29 ?_
      refine R_getR (pc := 30) (q1 := px0 + 10) h flX0_15 (lyCells hg1) rfl dX0_digestFrom_30 ?_
      refine R_iload (pc := 33) h 2 rfl dX0_digestFrom_33 ?_
      obtain ⟨v3, hv3, hF⟩ := bd hF
      refine R_iald (pc := 35) h hv3 (lyCellsA hg1) dX0_digestFrom_35 ?_
      refine R_i2l (pc := 36) h dX0_digestFrom_36 ?_
      refine R_ladd (pc := 37) h dX0_digestFrom_37 ?_
      obtain ⟨v4, hv4, hF⟩ := nm_e2 hF
      refine R_lstore_n (pc := 38) (lv' := [(3, .long v4), (0, .ref (ad px0)), (5, .int x5)]) h hv4 rfl (by decide) rfl dX0_digestFrom_38 ?_
      obtain ⟨v5, hv5, hF⟩ := nm_e2 hF
      refine R_iinc (pc := 39) (lv' := [(5, .int v5), (3, .long v4), (0, .ref (ad px0))]) h 2 rfl (by decide) hv5 (by decide) rfl dX0_digestFrom_39 ?_
      refine R_goto (pc := 42) (tgt := 15) h dX0_digestFrom_42 (by decide) ?_
      exact Wp_sub (nX := 0) (lv' := [(0, .ref (ad px0)), (3, .long v4), (5, .int v5)]) [2, 1, 0] rfl (ih _ _ _ hF)
theorem w0_digestFrom_15 {ad : Nat → Nat} {X : XX} {R : Int64} {M : Mem} {fu : Nat}  (h : Cx layC ad X cX0_digestFrom RX0 6 1 (some .long) M (some (.long R)))  {f : Nat} {px0 : Nat} {x3 : Int64} {x5 : Int32} (hF : f0_digestFrom_15 M fu f px0 x3 x5 = some R) : Wp layC ad X M 15 [(0, .ref (ad px0)), (3, .long x3), (5, .int x5)] [] := w0_digestFromi_15 h  f _ _ _ hF
def f0_digestFrom (M : Mem) (fu : Nat) (p0 : Nat) (x1 : Int64) : Option (Int64) :=
    (gd (decide (p0 < 10))).bind fun _ =>
    nm (((31 : Int64) * x1) + (M.1 p0 0).toInt64) fun v2 =>
    (f0_digestFrom_15 M fu fu p0 v2 (0 : Int32))
set_option maxHeartbeats 4000000 in
set_option maxRecDepth 10000 in
theorem w0_digestFrom {ad : Nat → Nat} {X : XX} {R : Int64} {M : Mem} {fu : Nat} (h : Cx layC ad X cX0_digestFrom RX0 6 1 (some .long) M (some (.long R))) {p0 : Nat} {x1 : Int64} (hF : f0_digestFrom M fu p0 x1 = some R) : Wp layC ad X M 0 [(0, .ref (ad p0)), (1, .long x1)] [] := by
  unfold f0_digestFrom at hF
  refine R_ldc2 (pc := 0) h klX0_25 dX0_digestFrom_0 ?_
  refine R_lload_n (pc := 3) h 1 rfl rfl dX0_digestFrom_3 ?_
  refine R_lmul (pc := 4) h dX0_digestFrom_4 ?_
  refine R_aload_n (pc := 5) h 0 rfl rfl dX0_digestFrom_5 ?_
  obtain ⟨_, hg1, hF⟩ := bd hF
  have hg1 := of_decide_eq_true (gd_s hg1)
  refine R_getI (pc := 6) h flX0_9 (lyCells hg1) rfl dX0_digestFrom_6 ?_
  refine R_i2l (pc := 9) h dX0_digestFrom_9 ?_
  refine R_ladd (pc := 10) h dX0_digestFrom_10 ?_
  obtain ⟨v2, hv2, hF⟩ := nm_e2 hF
  refine R_lstore_n (pc := 11) (lv' := [(3, .long v2), (0, .ref (ad p0)), (1, .long x1)]) h hv2 rfl (by decide) rfl dX0_digestFrom_11 ?_
  refine R_iconst (pc := 12) (v := 0) h (by decide) dX0_digestFrom_12 ?_
  refine R_istore (pc := 13) (lv' := [(5, .int (0 : Int32)), (3, .long v2), (0, .ref (ad p0)), (1, .long x1)]) h rfl (by decide) rfl dX0_digestFrom_13 ?_
  exact Wp_sub (nX := 0) (lv' := [(0, .ref (ad p0)), (3, .long v2), (5, .int (0 : Int32))]) [2, 1, 0] rfl (w0_digestFrom_15 h  (hF := hF))
theorem c0_digestFrom {ad : Nat → Nat} {z : ZZ} {R : Int64} {M : Mem} {fu : Nat} {p0 : Nat} {x1 : Int64} (hF : f0_digestFrom M fu p0 x1 = some R) : Con layC ad z yX0_digestFrom cX0_digestFrom 6 (some .long) 1 M [.ref (ad p0), .long x1] (M) (some (.long R)) := con_of (own := RX0) (lv := [(0, .ref (ad p0)), (1, .long x1)]) (by decide +kernel) rfl (Nat.le_of_ble_eq_true rfl) rfl (fun X hz h => w0_digestFrom h hF)
def f4_digest_50 (M : Mem) (fu : Nat) (k33 : Int64 → Int32 → Option (Int64)) : Nat → Int64 → Int32 → Int32 → Option (Int64)
  | 0 => fun _ _ _ => none
  | f + 1 => fun x1 x3 x4 =>
    if (7 : Int32) < x4 then (nm (x3 + (1 : Int32)) fun v2 =>
    (k33 x1 v2))
    else ((f3_tellPin M x3 x4).bind fun r4 =>
    nm (((31 : Int64) * x1) + r4.toInt64) fun v5 =>
    nm (x4 + (1 : Int32)) fun v6 =>
    ((f4_digest_50 M fu k33 f) v5 x3 v6))
set_option maxHeartbeats 4000000 in
set_option maxRecDepth 10000 in
theorem w4_digesti_50 {ad : Nat → Nat} {X : XX} {R : Int64} {M : Mem} {fu : Nat} {k33 : Int64 → Int32 → Option (Int64)} (h : Cx layC ad X cX4_digest RX4 5 4 (some .long) M (some (.long R))) (hk33 : ∀ (x1 : Int64) (x3 : Int32), k33 x1 x3 = some R → Wp layC ad X M 33 [(0, .ref (ad 28)), (1, .long x1), (3, .int x3)] []) : ∀ (f : Nat) (x1 : Int64) (x3 : Int32) (x4 : Int32), f4_digest_50 M fu k33 f x1 x3 x4 = some R → Wp layC ad X M 50 [(0, .ref (ad 28)), (1, .long x1), (3, .int x3), (4, .int x4)] [] := by
  intro f
  induction f with
  | zero => intro x1 x3 x4 hF; exact absurd hF (by simp [f4_digest_50])
  | succ f ih =>
    intro x1 x3 x4 hF
    rw [f4_digest_50] at hF
    refine R_iload (pc := 50) h 3 rfl dX4_digest_50 ?_
    refine R_bipush (pc := 52) (v := 7) h (by decide) dX4_digest_52 ?_
    refine R_icmp_gt (pc := 54) (tgt := 81) h dX4_digest_54 (by decide) (fun c1 => ?_) (fun c1 => ?_)
    · have hF := itp c1 hF
      obtain ⟨v2, hv2, hF⟩ := nm_e2 hF
      refine R_iinc (pc := 81) (lv' := [(3, .int v2), (0, .ref (ad 28)), (1, .long x1), (4, .int x4)]) h 2 rfl (by decide) hv2 (by decide) rfl dX4_digest_81 ?_
      refine R_goto (pc := 84) (tgt := 33) h dX4_digest_84 (by decide) ?_
      exact Wp_sub (nX := 0) (lv' := [(0, .ref (ad 28)), (1, .long x1), (3, .int v2)]) [1, 2, 0] rfl (hk33 _ _ hF)
    · have hF := ifn c1 hF
      refine R_ldc2 (pc := 57) h klX4_281 dX4_digest_57 ?_
      refine R_lload_n (pc := 60) h 1 rfl rfl dX4_digest_60 ?_
      refine R_lmul (pc := 61) h dX4_digest_61 ?_
      refine R_aload_n (pc := 62) h 0 rfl rfl dX4_digest_62 ?_
      refine R_getR (pc := 63) (q1 := 33) h flX4_27 lc_28 rfl dX4_digest_63 ?_
      refine R_iload_n (pc := 66) h 2 rfl rfl dX4_digest_66 ?_
      refine R_iload (pc := 67) h 3 rfl dX4_digest_67 ?_
      obtain ⟨r4, hc3, hF⟩ := bd hF
      refine R_callV (pc := 69) (st := [.long ((31 : Int64) * x1)]) h [.int x3, .int x4] cvX4_128 (c3_tellPin (ad := ad) (z := X.1) hc3) rfl rfl lc_33 (by decide) (by decide) (Nat.le_of_ble_eq_true rfl) dX4_digest_69 (st1 := [.int r4, .long ((31 : Int64) * x1)]) rfl ?_
      refine R_i2l (pc := 72) h dX4_digest_72 ?_
      refine R_ladd (pc := 73) h dX4_digest_73 ?_
      obtain ⟨v5, hv5, hF⟩ := nm_e2 hF
      refine R_lstore_n (pc := 74) (lv' := [(1, .long v5), (0, .ref (ad 28)), (3, .int x3), (4, .int x4)]) h hv5 rfl (by decide) rfl dX4_digest_74 ?_
      obtain ⟨v6, hv6, hF⟩ := nm_e2 hF
      refine R_iinc (pc := 75) (lv' := [(4, .int v6), (1, .long v5), (0, .ref (ad 28)), (3, .int x3)]) h 3 rfl (by decide) hv6 (by decide) rfl dX4_digest_75 ?_
      refine R_goto (pc := 78) (tgt := 50) h dX4_digest_78 (by decide) ?_
      exact Wp_sub (nX := 0) (lv' := [(0, .ref (ad 28)), (1, .long v5), (3, .int x3), (4, .int v6)]) [2, 1, 3, 0] rfl (ih _ _ _ hF)
theorem w4_digest_50 {ad : Nat → Nat} {X : XX} {R : Int64} {M : Mem} {fu : Nat} {k33 : Int64 → Int32 → Option (Int64)} (h : Cx layC ad X cX4_digest RX4 5 4 (some .long) M (some (.long R))) (hk33 : ∀ (x1 : Int64) (x3 : Int32), k33 x1 x3 = some R → Wp layC ad X M 33 [(0, .ref (ad 28)), (1, .long x1), (3, .int x3)] []) {f : Nat} {x1 : Int64} {x3 : Int32} {x4 : Int32} (hF : f4_digest_50 M fu k33 f x1 x3 x4 = some R) : Wp layC ad X M 50 [(0, .ref (ad 28)), (1, .long x1), (3, .int x3), (4, .int x4)] [] := w4_digesti_50 h hk33 f _ _ _ hF
def f4_digest_144 (M : Mem) (fu : Nat) : Nat → Int64 → Int32 → Option (Int64)
  | 0 => fun _ _ => none
  | f + 1 => fun x1 x3 =>
    if (4 : Int32) ≤ x3 then ((some x1))
    else ((rdR [6, 7, 8, 9] x3).bind fun q2 =>
    (gd (decide (q2 < 10))).bind fun _ =>
    (f0_digestFrom M fu q2 x1).bind fun r5 =>
    nm (x3 + (1 : Int32)) fun v6 =>
    ((f4_digest_144 M fu f) r5 v6))
set_option maxHeartbeats 4000000 in
set_option maxRecDepth 10000 in
theorem w4_digesti_144 {ad : Nat → Nat} {X : XX} {R : Int64} {M : Mem} {fu : Nat}  (h : Cx layC ad X cX4_digest RX4 5 4 (some .long) M (some (.long R)))  : ∀ (f : Nat) (x1 : Int64) (x3 : Int32), f4_digest_144 M fu f x1 x3 = some R → Wp layC ad X M 144 [(0, .ref (ad 28)), (1, .long x1), (3, .int x3)] [] := by
  intro f
  induction f with
  | zero => intro x1 x3 hF; exact absurd hF (by simp [f4_digest_144])
  | succ f ih =>
    intro x1 x3 hF
    rw [f4_digest_144] at hF
    refine R_iload_n (pc := 144) h 2 rfl rfl dX4_digest_144 ?_
    refine R_iconst (pc := 145) (v := 4) h (by decide) dX4_digest_145 ?_
    refine R_icmp_ge (pc := 146) (tgt := 166) h dX4_digest_146 (by decide) (fun c1 => ?_) (fun c1 => ?_)
    · have hF := itp c1 hF
      refine R_lload_n (pc := 166) h 1 rfl rfl dX4_digest_166 ?_
      cases hF
      exact R_lreturn (pc := 167) h rfl rfl rfl dX4_digest_167
    · have hF := ifn c1 hF
      refine R_aload_n (pc := 149) h 0 rfl rfl dX4_digest_149 ?_
      refine R_getR (pc := 150) (q1 := 30) h flX4_15 lc_28 rfl dX4_digest_150 ?_
      refine R_iload_n (pc := 153) h 2 rfl rfl dX4_digest_153 ?_
      obtain ⟨q2, hq2, hF⟩ := bd hF
      refine R_aald (pc := 154) h hq2 (by decide) lc_30 dX4_digest_154 ?_
      refine R_lload_n (pc := 155) h 1 rfl rfl dX4_digest_155 ?_
      obtain ⟨_, hg3, hF⟩ := bd hF
      have hg3 := of_decide_eq_true (gd_s hg3)
      obtain ⟨r5, hc4, hF⟩ := bd hF
      refine R_callV (pc := 156) (st := []) h [.long x1] cvX4_283 (c0_digestFrom (ad := ad) (z := X.1) hc4) rfl rfl (lyCells hg3) (by decide) (by decide) (Nat.le_of_ble_eq_true rfl) dX4_digest_156 (st1 := [.long r5]) rfl ?_
      refine R_lstore_n (pc := 159) (lv' := [(1, .long r5), (0, .ref (ad 28)), (3, .int x3)]) h rfl rfl (by decide) rfl dX4_digest_159 ?_
      obtain ⟨v6, hv6, hF⟩ := nm_e2 hF
      refine R_iinc (pc := 160) (lv' := [(3, .int v6), (1, .long r5), (0, .ref (ad 28))]) h 2 rfl (by decide) hv6 (by decide) rfl dX4_digest_160 ?_
      refine R_goto (pc := 163) (tgt := 144) h dX4_digest_163 (by decide) ?_
      exact Wp_sub (nX := 0) (lv' := [(0, .ref (ad 28)), (1, .long r5), (3, .int v6)]) [2, 1, 0] rfl (ih _ _ hF)
theorem w4_digest_144 {ad : Nat → Nat} {X : XX} {R : Int64} {M : Mem} {fu : Nat}  (h : Cx layC ad X cX4_digest RX4 5 4 (some .long) M (some (.long R)))  {f : Nat} {x1 : Int64} {x3 : Int32} (hF : f4_digest_144 M fu f x1 x3 = some R) : Wp layC ad X M 144 [(0, .ref (ad 28)), (1, .long x1), (3, .int x3)] [] := w4_digesti_144 h  f _ _ hF
def f4_digest_119 (M : Mem) (fu : Nat) : Nat → Int64 → Int32 → Option (Int64)
  | 0 => fun _ _ => none
  | f + 1 => fun x1 x3 =>
    if (6 : Int32) ≤ x3 then ((f4_digest_144 M fu fu x1 (0 : Int32)))
    else ((rdR [0, 1, 2, 3, 4, 5] x3).bind fun q2 =>
    (gd (decide (q2 < 10))).bind fun _ =>
    (f0_digestFrom M fu q2 x1).bind fun r5 =>
    nm (x3 + (1 : Int32)) fun v6 =>
    ((f4_digest_119 M fu f) r5 v6))
set_option maxHeartbeats 4000000 in
set_option maxRecDepth 10000 in
theorem w4_digesti_119 {ad : Nat → Nat} {X : XX} {R : Int64} {M : Mem} {fu : Nat}  (h : Cx layC ad X cX4_digest RX4 5 4 (some .long) M (some (.long R)))  : ∀ (f : Nat) (x1 : Int64) (x3 : Int32), f4_digest_119 M fu f x1 x3 = some R → Wp layC ad X M 119 [(0, .ref (ad 28)), (1, .long x1), (3, .int x3)] [] := by
  intro f
  induction f with
  | zero => intro x1 x3 hF; exact absurd hF (by simp [f4_digest_119])
  | succ f ih =>
    intro x1 x3 hF
    rw [f4_digest_119] at hF
    refine R_iload_n (pc := 119) h 2 rfl rfl dX4_digest_119 ?_
    refine R_bipush (pc := 120) (v := 6) h (by decide) dX4_digest_120 ?_
    refine R_icmp_ge (pc := 122) (tgt := 142) h dX4_digest_122 (by decide) (fun c1 => ?_) (fun c1 => ?_)
    · have hF := itp c1 hF
      refine R_iconst (pc := 142) (v := 0) h (by decide) dX4_digest_142 ?_
      refine R_istore_n (pc := 143) (lv' := [(3, .int (0 : Int32)), (0, .ref (ad 28)), (1, .long x1)]) h rfl rfl (by decide) rfl dX4_digest_143 ?_
      exact Wp_sub (nX := 0) (lv' := [(0, .ref (ad 28)), (1, .long x1), (3, .int (0 : Int32))]) [1, 2, 0] rfl (w4_digest_144 h  (hF := hF))
    · have hF := ifn c1 hF
      refine R_aload_n (pc := 125) h 0 rfl rfl dX4_digest_125 ?_
      refine R_getR (pc := 126) (q1 := 29) h flX4_11 lc_28 rfl dX4_digest_126 ?_
      refine R_iload_n (pc := 129) h 2 rfl rfl dX4_digest_129 ?_
      obtain ⟨q2, hq2, hF⟩ := bd hF
      refine R_aald (pc := 130) h hq2 (by decide) lc_29 dX4_digest_130 ?_
      refine R_lload_n (pc := 131) h 1 rfl rfl dX4_digest_131 ?_
      obtain ⟨_, hg3, hF⟩ := bd hF
      have hg3 := of_decide_eq_true (gd_s hg3)
      obtain ⟨r5, hc4, hF⟩ := bd hF
      refine R_callV (pc := 132) (st := []) h [.long x1] cvX4_283 (c0_digestFrom (ad := ad) (z := X.1) hc4) rfl rfl (lyCells hg3) (by decide) (by decide) (Nat.le_of_ble_eq_true rfl) dX4_digest_132 (st1 := [.long r5]) rfl ?_
      refine R_lstore_n (pc := 135) (lv' := [(1, .long r5), (0, .ref (ad 28)), (3, .int x3)]) h rfl rfl (by decide) rfl dX4_digest_135 ?_
      obtain ⟨v6, hv6, hF⟩ := nm_e2 hF
      refine R_iinc (pc := 136) (lv' := [(3, .int v6), (1, .long r5), (0, .ref (ad 28))]) h 2 rfl (by decide) hv6 (by decide) rfl dX4_digest_136 ?_
      refine R_goto (pc := 139) (tgt := 119) h dX4_digest_139 (by decide) ?_
      exact Wp_sub (nX := 0) (lv' := [(0, .ref (ad 28)), (1, .long r5), (3, .int v6)]) [2, 1, 0] rfl (ih _ _ hF)
theorem w4_digest_119 {ad : Nat → Nat} {X : XX} {R : Int64} {M : Mem} {fu : Nat}  (h : Cx layC ad X cX4_digest RX4 5 4 (some .long) M (some (.long R)))  {f : Nat} {x1 : Int64} {x3 : Int32} (hF : f4_digest_119 M fu f x1 x3 = some R) : Wp layC ad X M 119 [(0, .ref (ad 28)), (1, .long x1), (3, .int x3)] [] := w4_digesti_119 h  f _ _ hF
def f4_digest_89 (M : Mem) (fu : Nat) : Nat → Int64 → Int32 → Option (Int64)
  | 0 => fun _ _ => none
  | f + 1 => fun x1 x3 =>
    if (3 : Int32) ≤ x3 then ((f4_digest_119 M fu fu x1 (0 : Int32)))
    else ((rdR [20, 21, 22] x3).bind fun q2 =>
    (gd (decide (20 ≤ q2 ∧ q2 < 24))).bind fun _ =>
    nm (((31 : Int64) * x1) + (M.1 q2 0).toInt64) fun v4 =>
    nm (x3 + (1 : Int32)) fun v5 =>
    ((f4_digest_89 M fu f) v4 v5))
set_option maxHeartbeats 4000000 in
set_option maxRecDepth 10000 in
theorem w4_digesti_89 {ad : Nat → Nat} {X : XX} {R : Int64} {M : Mem} {fu : Nat}  (h : Cx layC ad X cX4_digest RX4 5 4 (some .long) M (some (.long R)))  : ∀ (f : Nat) (x1 : Int64) (x3 : Int32), f4_digest_89 M fu f x1 x3 = some R → Wp layC ad X M 89 [(0, .ref (ad 28)), (1, .long x1), (3, .int x3)] [] := by
  intro f
  induction f with
  | zero => intro x1 x3 hF; exact absurd hF (by simp [f4_digest_89])
  | succ f ih =>
    intro x1 x3 hF
    rw [f4_digest_89] at hF
    refine R_iload_n (pc := 89) h 2 rfl rfl dX4_digest_89 ?_
    refine R_iconst (pc := 90) (v := 3) h (by decide) dX4_digest_90 ?_
    refine R_icmp_ge (pc := 91) (tgt := 117) h dX4_digest_91 (by decide) (fun c1 => ?_) (fun c1 => ?_)
    · have hF := itp c1 hF
      refine R_iconst (pc := 117) (v := 0) h (by decide) dX4_digest_117 ?_
      refine R_istore_n (pc := 118) (lv' := [(3, .int (0 : Int32)), (0, .ref (ad 28)), (1, .long x1)]) h rfl rfl (by decide) rfl dX4_digest_118 ?_
      exact Wp_sub (nX := 0) (lv' := [(0, .ref (ad 28)), (1, .long x1), (3, .int (0 : Int32))]) [1, 2, 0] rfl (w4_digest_119 h  (hF := hF))
    · have hF := ifn c1 hF
      refine R_ldc2 (pc := 94) h klX4_281 dX4_digest_94 ?_
      refine R_lload_n (pc := 97) h 1 rfl rfl dX4_digest_97 ?_
      refine R_lmul (pc := 98) h dX4_digest_98 ?_
      refine R_aload_n (pc := 99) h 0 rfl rfl dX4_digest_99 ?_
      refine R_getR (pc := 100) (q1 := 31) h flX4_20 lc_28 rfl dX4_digest_100 ?_
      refine R_iload_n (pc := 103) h 2 rfl rfl dX4_digest_103 ?_
      obtain ⟨q2, hq2, hF⟩ := bd hF
      refine R_aald (pc := 104) h hq2 (by decide) lc_31 dX4_digest_104 ?_
      obtain ⟨_, hg3, hF⟩ := bd hF
      have hg3 := of_decide_eq_true (gd_s hg3)
      refine R_getI (pc := 105) h flX4_118 (lyDeeds hg3) rfl dX4_digest_105 ?_
      refine R_i2l (pc := 108) h dX4_digest_108 ?_
      refine R_ladd (pc := 109) h dX4_digest_109 ?_
      obtain ⟨v4, hv4, hF⟩ := nm_e2 hF
      refine R_lstore_n (pc := 110) (lv' := [(1, .long v4), (0, .ref (ad 28)), (3, .int x3)]) h hv4 rfl (by decide) rfl dX4_digest_110 ?_
      obtain ⟨v5, hv5, hF⟩ := nm_e2 hF
      refine R_iinc (pc := 111) (lv' := [(3, .int v5), (1, .long v4), (0, .ref (ad 28))]) h 2 rfl (by decide) hv5 (by decide) rfl dX4_digest_111 ?_
      refine R_goto (pc := 114) (tgt := 89) h dX4_digest_114 (by decide) ?_
      exact Wp_sub (nX := 0) (lv' := [(0, .ref (ad 28)), (1, .long v4), (3, .int v5)]) [2, 1, 0] rfl (ih _ _ hF)
theorem w4_digest_89 {ad : Nat → Nat} {X : XX} {R : Int64} {M : Mem} {fu : Nat}  (h : Cx layC ad X cX4_digest RX4 5 4 (some .long) M (some (.long R)))  {f : Nat} {x1 : Int64} {x3 : Int32} (hF : f4_digest_89 M fu f x1 x3 = some R) : Wp layC ad X M 89 [(0, .ref (ad 28)), (1, .long x1), (3, .int x3)] [] := w4_digesti_89 h  f _ _ hF
def f4_digest_33 (M : Mem) (fu : Nat) : Nat → Int64 → Int32 → Option (Int64)
  | 0 => fun _ _ => none
  | f + 1 => fun x1 x3 =>
    if (M.1 35 0) ≤ x3 then ((f4_digest_89 M fu fu x1 (0 : Int32)))
    else ((f4_digest_50 M fu (f4_digest_33 M fu f) fu x1 x3 (0 : Int32)))
set_option maxHeartbeats 4000000 in
set_option maxRecDepth 10000 in
theorem w4_digesti_33 {ad : Nat → Nat} {X : XX} {R : Int64} {M : Mem} {fu : Nat}  (h : Cx layC ad X cX4_digest RX4 5 4 (some .long) M (some (.long R)))  : ∀ (f : Nat) (x1 : Int64) (x3 : Int32), f4_digest_33 M fu f x1 x3 = some R → Wp layC ad X M 33 [(0, .ref (ad 28)), (1, .long x1), (3, .int x3)] [] := by
  intro f
  induction f with
  | zero => intro x1 x3 hF; exact absurd hF (by simp [f4_digest_33])
  | succ f ih =>
    intro x1 x3 hF
    rw [f4_digest_33] at hF
    refine R_iload_n (pc := 33) h 2 rfl rfl dX4_digest_33 ?_
    refine R_aload_n (pc := 34) h 0 rfl rfl dX4_digest_34 ?_
    refine R_getR (pc := 35) (q1 := 33) h flX4_27 lc_28 rfl dX4_digest_35 ?_
    refine R_getR (pc := 38) (q1 := 35) h flX4_104 lc_33 rfl dX4_digest_38 ?_
    refine R_getI (pc := 41) h flX4_121 lc_35 rfl dX4_digest_41 ?_
    refine R_icmp_ge (pc := 44) (tgt := 87) h dX4_digest_44 (by decide) (fun c1 => ?_) (fun c1 => ?_)
    · have hF := itp c1 hF
      refine R_iconst (pc := 87) (v := 0) h (by decide) dX4_digest_87 ?_
      refine R_istore_n (pc := 88) (lv' := [(3, .int (0 : Int32)), (0, .ref (ad 28)), (1, .long x1)]) h rfl rfl (by decide) rfl dX4_digest_88 ?_
      exact Wp_sub (nX := 0) (lv' := [(0, .ref (ad 28)), (1, .long x1), (3, .int (0 : Int32))]) [1, 2, 0] rfl (w4_digest_89 h  (hF := hF))
    · have hF := ifn c1 hF
      refine R_iconst (pc := 47) (v := 0) h (by decide) dX4_digest_47 ?_
      refine R_istore (pc := 48) (lv' := [(4, .int (0 : Int32)), (0, .ref (ad 28)), (1, .long x1), (3, .int x3)]) h rfl (by decide) rfl dX4_digest_48 ?_
      exact Wp_sub (nX := 0) (lv' := [(0, .ref (ad 28)), (1, .long x1), (3, .int x3), (4, .int (0 : Int32))]) [1, 2, 3, 0] rfl (w4_digest_50 h (hk33 := fun a0 a1 hF => ih a0 a1 hF) (hF := hF))
theorem w4_digest_33 {ad : Nat → Nat} {X : XX} {R : Int64} {M : Mem} {fu : Nat}  (h : Cx layC ad X cX4_digest RX4 5 4 (some .long) M (some (.long R)))  {f : Nat} {x1 : Int64} {x3 : Int32} (hF : f4_digest_33 M fu f x1 x3 = some R) : Wp layC ad X M 33 [(0, .ref (ad 28)), (1, .long x1), (3, .int x3)] [] := w4_digesti_33 h  f _ _ hF
def f4_digest_6 (M : Mem) (fu : Nat) : Nat → Int64 → Int32 → Option (Int64)
  | 0 => fun _ _ => none
  | f + 1 => fun x1 x3 =>
    if (11 : Int32) ≤ x3 then ((f4_digest_33 M fu fu x1 (0 : Int32)))
    else ((f4_countOf M fu x3).bind fun r3 =>
    nm (((31 : Int64) * x1) + r3.toInt64) fun v4 =>
    nm (x3 + (1 : Int32)) fun v5 =>
    ((f4_digest_6 M fu f) v4 v5))
set_option maxHeartbeats 4000000 in
set_option maxRecDepth 10000 in
theorem w4_digesti_6 {ad : Nat → Nat} {X : XX} {R : Int64} {M : Mem} {fu : Nat}  (h : Cx layC ad X cX4_digest RX4 5 4 (some .long) M (some (.long R)))  : ∀ (f : Nat) (x1 : Int64) (x3 : Int32), f4_digest_6 M fu f x1 x3 = some R → Wp layC ad X M 6 [(0, .ref (ad 28)), (1, .long x1), (3, .int x3)] [] := by
  intro f
  induction f with
  | zero => intro x1 x3 hF; exact absurd hF (by simp [f4_digest_6])
  | succ f ih =>
    intro x1 x3 hF
    rw [f4_digest_6] at hF
    refine R_iload_n (pc := 6) h 2 rfl rfl dX4_digest_6 ?_
    refine R_bipush (pc := 7) (v := 11) h (by decide) dX4_digest_7 ?_
    refine R_icmp_ge (pc := 9) (tgt := 31) h dX4_digest_9 (by decide) (fun c1 => ?_) (fun c1 => ?_)
    · have hF := itp c1 hF
      refine R_iconst (pc := 31) (v := 0) h (by decide) dX4_digest_31 ?_
      refine R_istore_n (pc := 32) (lv' := [(3, .int (0 : Int32)), (0, .ref (ad 28)), (1, .long x1)]) h rfl rfl (by decide) rfl dX4_digest_32 ?_
      exact Wp_sub (nX := 0) (lv' := [(0, .ref (ad 28)), (1, .long x1), (3, .int (0 : Int32))]) [1, 2, 0] rfl (w4_digest_33 h  (hF := hF))
    · have hF := ifn c1 hF
      refine R_ldc2 (pc := 12) h klX4_281 dX4_digest_12 ?_
      refine R_lload_n (pc := 15) h 1 rfl rfl dX4_digest_15 ?_
      refine R_lmul (pc := 16) h dX4_digest_16 ?_
      refine R_aload_n (pc := 17) h 0 rfl rfl dX4_digest_17 ?_
      refine R_iload_n (pc := 18) h 2 rfl rfl dX4_digest_18 ?_
      obtain ⟨r3, hc2, hF⟩ := bd hF
      refine R_callV (pc := 19) (st := [.long ((31 : Int64) * x1)]) h [.int x3] cvX4_276 (c4_countOf (ad := ad) (z := X.1) hc2) rfl rfl lc_28 (by decide) (by decide) (Nat.le_of_ble_eq_true rfl) dX4_digest_19 (st1 := [.int r3, .long ((31 : Int64) * x1)]) rfl ?_
      refine R_i2l (pc := 22) h dX4_digest_22 ?_
      refine R_ladd (pc := 23) h dX4_digest_23 ?_
      obtain ⟨v4, hv4, hF⟩ := nm_e2 hF
      refine R_lstore_n (pc := 24) (lv' := [(1, .long v4), (0, .ref (ad 28)), (3, .int x3)]) h hv4 rfl (by decide) rfl dX4_digest_24 ?_
      obtain ⟨v5, hv5, hF⟩ := nm_e2 hF
      refine R_iinc (pc := 25) (lv' := [(3, .int v5), (1, .long v4), (0, .ref (ad 28))]) h 2 rfl (by decide) hv5 (by decide) rfl dX4_digest_25 ?_
      refine R_goto (pc := 28) (tgt := 6) h dX4_digest_28 (by decide) ?_
      exact Wp_sub (nX := 0) (lv' := [(0, .ref (ad 28)), (1, .long v4), (3, .int v5)]) [2, 1, 0] rfl (ih _ _ hF)
theorem w4_digest_6 {ad : Nat → Nat} {X : XX} {R : Int64} {M : Mem} {fu : Nat}  (h : Cx layC ad X cX4_digest RX4 5 4 (some .long) M (some (.long R)))  {f : Nat} {x1 : Int64} {x3 : Int32} (hF : f4_digest_6 M fu f x1 x3 = some R) : Wp layC ad X M 6 [(0, .ref (ad 28)), (1, .long x1), (3, .int x3)] [] := w4_digesti_6 h  f _ _ hF
def f4_digest (M : Mem) (fu : Nat) : Option (Int64) :=
    (f4_digest_6 M fu fu (17 : Int64) (0 : Int32))
set_option maxHeartbeats 4000000 in
set_option maxRecDepth 10000 in
theorem w4_digest {ad : Nat → Nat} {X : XX} {R : Int64} {M : Mem} {fu : Nat} (h : Cx layC ad X cX4_digest RX4 5 4 (some .long) M (some (.long R)))  (hF : f4_digest M fu = some R) : Wp layC ad X M 0 [(0, .ref (ad 28))] [] := by
  unfold f4_digest at hF
  refine R_ldc2 (pc := 0) h klX4_279 dX4_digest_0 ?_
  refine R_lstore_n (pc := 3) (lv' := [(1, .long (17 : Int64)), (0, .ref (ad 28))]) h rfl rfl (by decide) rfl dX4_digest_3 ?_
  refine R_iconst (pc := 4) (v := 0) h (by decide) dX4_digest_4 ?_
  refine R_istore_n (pc := 5) (lv' := [(3, .int (0 : Int32)), (1, .long (17 : Int64)), (0, .ref (ad 28))]) h rfl rfl (by decide) rfl dX4_digest_5 ?_
  exact Wp_sub (nX := 0) (lv' := [(0, .ref (ad 28)), (1, .long (17 : Int64)), (3, .int (0 : Int32))]) [2, 1, 0] rfl (w4_digest_6 h  (hF := hF))
theorem c4_digest {ad : Nat → Nat} {z : ZZ} {R : Int64} {M : Mem} {fu : Nat}  (hF : f4_digest M fu = some R) : Con layC ad z yX4_digest cX4_digest 5 (some .long) 4 M [.ref (ad 28)] (M) (some (.long R)) := con_of (own := RX4) (lv := [(0, .ref (ad 28))]) (by decide +kernel) rfl (Nat.le_of_ble_eq_true rfl) rfl (fun X hz h => w4_digest h hF)
