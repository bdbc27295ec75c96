theorem dX3_lying_0 : decode cX3_lying 0 = .ok (.aload_n 0, 1) := by decide +kernel
theorem dX3_lying_1 : decode cX3_lying 1 = .ok (.getfield 12, 3) := by decide +kernel
theorem dX3_lying_4 : decode cX3_lying 4 = .ok (.invokevirtual 42, 3) := by decide +kernel
theorem dX3_lying_7 : decode cX3_lying 7 = .ok (.aload_n 0, 1) := by decide +kernel
theorem dX3_lying_8 : decode cX3_lying 8 = .ok (.getfield 29, 3) := by decide +kernel
theorem dX3_lying_11 : decode cX3_lying 11 = .ok (.iconst (-1), 1) := by decide +kernel
theorem dX3_lying_12 : decode cX3_lying 12 = .ok (.ixor, 1) := by decide +kernel
theorem dX3_lying_13 : decode cX3_lying 13 = .ok (.iand, 1) := by decide +kernel
theorem dX3_lying_14 : decode cX3_lying 14 = .ok (.aload_n 0, 1) := by decide +kernel
theorem dX3_lying_15 : decode cX3_lying 15 = .ok (.getfield 32, 3) := by decide +kernel
theorem dX3_lying_18 : decode cX3_lying 18 = .ok (.iconst (-1), 1) := by decide +kernel
theorem dX3_lying_19 : decode cX3_lying 19 = .ok (.ixor, 1) := by decide +kernel
theorem dX3_lying_20 : decode cX3_lying 20 = .ok (.iand, 1) := by decide +kernel
theorem dX3_lying_21 : decode cX3_lying 21 = .ok (.ireturn, 1) := by decide +kernel
theorem dX3_lyingHere_0 : decode cX3_lyingHere 0 = .ok (.iconst 0, 1) := by decide +kernel
theorem dX3_lyingHere_1 : decode cX3_lyingHere 1 = .ok (.istore_n 1, 1) := by decide +kernel
theorem dX3_lyingHere_2 : decode cX3_lyingHere 2 = .ok (.iconst 0, 1) := by decide +kernel
theorem dX3_lyingHere_3 : decode cX3_lyingHere 3 = .ok (.istore_n 2, 1) := by decide +kernel
theorem dX3_lyingHere_4 : decode cX3_lyingHere 4 = .ok (.iload_n 2, 1) := by decide +kernel
theorem dX3_lyingHere_5 : decode cX3_lyingHere 5 = .ok (.aload_n 0, 1) := by decide +kernel
theorem dX3_lyingHere_6 : decode cX3_lyingHere 6 = .ok (.getfield 12, 3) := by decide +kernel
theorem dX3_lyingHere_9 : decode cX3_lyingHere 9 = .ok (.getfield 46, 3) := by decide +kernel
theorem dX3_lyingHere_12 : decode cX3_lyingHere 12 = .ok (.if_icmp .ge 28, 3) := by decide +kernel
theorem dX3_lyingHere_15 : decode cX3_lyingHere 15 = .ok (.aload_n 0, 1) := by decide +kernel
theorem dX3_lyingHere_16 : decode cX3_lyingHere 16 = .ok (.getfield 35, 3) := by decide +kernel
theorem dX3_lyingHere_19 : decode cX3_lyingHere 19 = .ok (.iload_n 2, 1) := by decide +kernel
theorem dX3_lyingHere_20 : decode cX3_lyingHere 20 = .ok (.iaload, 1) := by decide +kernel
theorem dX3_lyingHere_21 : decode cX3_lyingHere 21 = .ok (.aload_n 0, 1) := by decide +kernel
theorem dX3_lyingHere_22 : decode cX3_lyingHere 22 = .ok (.getfield 25, 3) := by decide +kernel
theorem dX3_lyingHere_25 : decode cX3_lyingHere 25 = .ok (.if_icmp .ne 9, 3) := by decide +kernel
theorem dX3_lyingHere_28 : decode cX3_lyingHere 28 = .ok (.iload_n 1, 1) := by decide +kernel
theorem dX3_lyingHere_29 : decode cX3_lyingHere 29 = .ok (.iconst 1, 1) := by decide +kernel
theorem dX3_lyingHere_30 : decode cX3_lyingHere 30 = .ok (.iload_n 2, 1) := by decide +kernel
theorem dX3_lyingHere_31 : decode cX3_lyingHere 31 = .ok (.ishl, 1) := by decide +kernel
theorem dX3_lyingHere_32 : decode cX3_lyingHere 32 = .ok (.ior, 1) := by decide +kernel
theorem dX3_lyingHere_33 : decode cX3_lyingHere 33 = .ok (.istore_n 1, 1) := by decide +kernel
theorem dX3_lyingHere_34 : decode cX3_lyingHere 34 = .ok (.iinc 2 1, 3) := by decide +kernel
theorem dX3_lyingHere_37 : decode cX3_lyingHere 37 = .ok (.goto (-33), 3) := by decide +kernel
theorem dX3_lyingHere_40 : decode cX3_lyingHere 40 = .ok (.iload_n 1, 1) := by decide +kernel
theorem dX3_lyingHere_41 : decode cX3_lyingHere 41 = .ok (.aload_n 0, 1) := by decide +kernel
theorem dX3_lyingHere_42 : decode cX3_lyingHere 42 = .ok (.invokevirtual 49, 3) := by decide +kernel
theorem dX3_lyingHere_45 : decode cX3_lyingHere 45 = .ok (.iand, 1) := by decide +kernel
theorem dX3_lyingHere_46 : decode cX3_lyingHere 46 = .ok (.ireturn, 1) := by decide +kernel
theorem dX3_change_0 : decode cX3_change 0 = .ok (.iload_n 1, 1) := by decide +kernel
theorem dX3_change_1 : decode cX3_change 1 = .ok (.ifCond .ne 16, 3) := by decide +kernel
theorem dX3_change_4 : decode cX3_change 4 = .ok (.aload_n 0, 1) := by decide +kernel
theorem dX3_change_5 : decode cX3_change 5 = .ok (.dup, 1) := by decide +kernel
theorem dX3_change_6 : decode cX3_change 6 = .ok (.getfield 25, 3) := by decide +kernel
theorem dX3_change_9 : decode cX3_change 9 = .ok (.iconst 1, 1) := by decide +kernel
theorem dX3_change_10 : decode cX3_change 10 = .ok (.iadd, 1) := by decide +kernel
theorem dX3_change_11 : decode cX3_change 11 = .ok (.putfield 25, 3) := by decide +kernel
theorem dX3_change_14 : decode cX3_change 14 = .ok (.goto 118, 3) := by decide +kernel
theorem dX3_change_17 : decode cX3_change 17 = .ok (.iload_n 1, 1) := by decide +kernel
theorem dX3_change_18 : decode cX3_change 18 = .ok (.iconst 1, 1) := by decide +kernel
theorem dX3_change_19 : decode cX3_change 19 = .ok (.if_icmp .ne 16, 3) := by decide +kernel
theorem dX3_change_22 : decode cX3_change 22 = .ok (.aload_n 0, 1) := by decide +kernel
theorem dX3_change_23 : decode cX3_change 23 = .ok (.dup, 1) := by decide +kernel
theorem dX3_change_24 : decode cX3_change 24 = .ok (.getfield 25, 3) := by decide +kernel
theorem dX3_change_27 : decode cX3_change 27 = .ok (.iconst 1, 1) := by decide +kernel
theorem dX3_change_28 : decode cX3_change 28 = .ok (.isub, 1) := by decide +kernel
theorem dX3_change_29 : decode cX3_change 29 = .ok (.putfield 25, 3) := by decide +kernel
theorem dX3_change_32 : decode cX3_change 32 = .ok (.goto 100, 3) := by decide +kernel
theorem dX3_change_35 : decode cX3_change 35 = .ok (.iload_n 1, 1) := by decide +kernel
theorem dX3_change_36 : decode cX3_change 36 = .ok (.iconst 2, 1) := by decide +kernel
theorem dX3_change_37 : decode cX3_change 37 = .ok (.if_icmp .ne 19, 3) := by decide +kernel
theorem dX3_change_40 : decode cX3_change 40 = .ok (.aload_n 0, 1) := by decide +kernel
theorem dX3_change_41 : decode cX3_change 41 = .ok (.dup, 1) := by decide +kernel
theorem dX3_change_42 : decode cX3_change 42 = .ok (.getfield 32, 3) := by decide +kernel
theorem dX3_change_45 : decode cX3_change 45 = .ok (.aload_n 0, 1) := by decide +kernel
theorem dX3_change_46 : decode cX3_change 46 = .ok (.invokevirtual 61, 3) := by decide +kernel
theorem dX3_change_49 : decode cX3_change 49 = .ok (.ior, 1) := by decide +kernel
theorem dX3_change_50 : decode cX3_change 50 = .ok (.putfield 32, 3) := by decide +kernel
theorem dX3_change_53 : decode cX3_change 53 = .ok (.goto 79, 3) := by decide +kernel
theorem dX3_change_56 : decode cX3_change 56 = .ok (.aload_n 0, 1) := by decide +kernel
theorem dX3_change_57 : decode cX3_change 57 = .ok (.getfield 12, 3) := by decide +kernel
theorem dX3_change_60 : decode cX3_change 60 = .ok (.iload_n 1, 1) := by decide +kernel
theorem dX3_change_61 : decode cX3_change 61 = .ok (.bipush 8, 2) := by decide +kernel
theorem dX3_change_63 : decode cX3_change 63 = .ok (.isub, 1) := by decide +kernel
theorem dX3_change_64 : decode cX3_change 64 = .ok (.invokevirtual 64, 3) := by decide +kernel
theorem dX3_change_67 : decode cX3_change 67 = .ok (.ifCond .eq 21, 3) := by decide +kernel
theorem dX3_change_70 : decode cX3_change 70 = .ok (.aload_n 0, 1) := by decide +kernel
theorem dX3_change_71 : decode cX3_change 71 = .ok (.dup, 1) := by decide +kernel
theorem dX3_change_72 : decode cX3_change 72 = .ok (.getfield 29, 3) := by decide +kernel
theorem dX3_change_75 : decode cX3_change 75 = .ok (.iconst 1, 1) := by decide +kernel
theorem dX3_change_76 : decode cX3_change 76 = .ok (.iload_n 1, 1) := by decide +kernel
theorem dX3_change_77 : decode cX3_change 77 = .ok (.bipush 8, 2) := by decide +kernel
theorem dX3_change_79 : decode cX3_change 79 = .ok (.isub, 1) := by decide +kernel
theorem dX3_change_80 : decode cX3_change 80 = .ok (.ishl, 1) := by decide +kernel
theorem dX3_change_81 : decode cX3_change 81 = .ok (.ior, 1) := by decide +kernel
theorem dX3_change_82 : decode cX3_change 82 = .ok (.putfield 29, 3) := by decide +kernel
theorem dX3_change_85 : decode cX3_change 85 = .ok (.goto 47, 3) := by decide +kernel
theorem dX3_change_88 : decode cX3_change 88 = .ok (.aload_n 0, 1) := by decide +kernel
theorem dX3_change_89 : decode cX3_change 89 = .ok (.getfield 12, 3) := by decide +kernel
theorem dX3_change_92 : decode cX3_change 92 = .ok (.iload_n 1, 1) := by decide +kernel
theorem dX3_change_93 : decode cX3_change 93 = .ok (.bipush 16, 2) := by decide +kernel
theorem dX3_change_95 : decode cX3_change 95 = .ok (.isub, 1) := by decide +kernel
theorem dX3_change_96 : decode cX3_change 96 = .ok (.invokevirtual 64, 3) := by decide +kernel
theorem dX3_change_99 : decode cX3_change 99 = .ok (.ifCond .eq 33, 3) := by decide +kernel
theorem dX3_change_102 : decode cX3_change 102 = .ok (.aload_n 0, 1) := by decide +kernel
theorem dX3_change_103 : decode cX3_change 103 = .ok (.dup, 1) := by decide +kernel
theorem dX3_change_104 : decode cX3_change 104 = .ok (.getfield 29, 3) := by decide +kernel
theorem dX3_change_107 : decode cX3_change 107 = .ok (.iconst 1, 1) := by decide +kernel
theorem dX3_change_108 : decode cX3_change 108 = .ok (.iload_n 1, 1) := by decide +kernel
theorem dX3_change_109 : decode cX3_change 109 = .ok (.bipush 16, 2) := by decide +kernel
theorem dX3_change_111 : decode cX3_change 111 = .ok (.isub, 1) := by decide +kernel
theorem dX3_change_112 : decode cX3_change 112 = .ok (.ishl, 1) := by decide +kernel
theorem dX3_change_113 : decode cX3_change 113 = .ok (.iconst (-1), 1) := by decide +kernel
theorem dX3_change_114 : decode cX3_change 114 = .ok (.ixor, 1) := by decide +kernel
theorem dX3_change_115 : decode cX3_change 115 = .ok (.iand, 1) := by decide +kernel
theorem dX3_change_116 : decode cX3_change 116 = .ok (.putfield 29, 3) := by decide +kernel
theorem dX3_change_119 : decode cX3_change 119 = .ok (.aload_n 0, 1) := by decide +kernel
theorem dX3_change_120 : decode cX3_change 120 = .ok (.getfield 35, 3) := by decide +kernel
theorem dX3_change_123 : decode cX3_change 123 = .ok (.iload_n 1, 1) := by decide +kernel
theorem dX3_change_124 : decode cX3_change 124 = .ok (.bipush 16, 2) := by decide +kernel
theorem dX3_change_126 : decode cX3_change 126 = .ok (.isub, 1) := by decide +kernel
theorem dX3_change_127 : decode cX3_change 127 = .ok (.aload_n 0, 1) := by decide +kernel
theorem dX3_change_128 : decode cX3_change 128 = .ok (.getfield 25, 3) := by decide +kernel
theorem dX3_change_131 : decode cX3_change 131 = .ok (.iastore, 1) := by decide +kernel
theorem dX3_change_132 : decode cX3_change 132 = .ok (.return_, 1) := by decide +kernel
theorem dX3_goBackTo_0 : decode cX3_goBackTo 0 = .ok (.aload_n 0, 1) := by decide +kernel
theorem dX3_goBackTo_1 : decode cX3_goBackTo 1 = .ok (.iconst 0, 1) := by decide +kernel
theorem dX3_goBackTo_2 : decode cX3_goBackTo 2 = .ok (.putfield 25, 3) := by decide +kernel
theorem dX3_goBackTo_5 : decode cX3_goBackTo 5 = .ok (.aload_n 0, 1) := by decide +kernel
theorem dX3_goBackTo_6 : decode cX3_goBackTo 6 = .ok (.iconst 0, 1) := by decide +kernel
theorem dX3_goBackTo_7 : decode cX3_goBackTo 7 = .ok (.putfield 29, 3) := by decide +kernel
theorem dX3_goBackTo_10 : decode cX3_goBackTo 10 = .ok (.aload_n 0, 1) := by decide +kernel
theorem dX3_goBackTo_11 : decode cX3_goBackTo 11 = .ok (.iconst 0, 1) := by decide +kernel
theorem dX3_goBackTo_12 : decode cX3_goBackTo 12 = .ok (.putfield 32, 3) := by decide +kernel
theorem dX3_goBackTo_15 : decode cX3_goBackTo 15 = .ok (.iconst 0, 1) := by decide +kernel
theorem dX3_goBackTo_16 : decode cX3_goBackTo 16 = .ok (.istore_n 2, 1) := by decide +kernel
theorem dX3_goBackTo_17 : decode cX3_goBackTo 17 = .ok (.iload_n 2, 1) := by decide +kernel
theorem dX3_goBackTo_18 : decode cX3_goBackTo 18 = .ok (.aload_n 0, 1) := by decide +kernel
theorem dX3_goBackTo_19 : decode cX3_goBackTo 19 = .ok (.getfield 12, 3) := by decide +kernel
theorem dX3_goBackTo_22 : decode cX3_goBackTo 22 = .ok (.getfield 46, 3) := by decide +kernel
theorem dX3_goBackTo_25 : decode cX3_goBackTo 25 = .ok (.if_icmp .ge 24, 3) := by decide +kernel
theorem dX3_goBackTo_28 : decode cX3_goBackTo 28 = .ok (.aload_n 0, 1) := by decide +kernel
theorem dX3_goBackTo_29 : decode cX3_goBackTo 29 = .ok (.getfield 35, 3) := by decide +kernel
theorem dX3_goBackTo_32 : decode cX3_goBackTo 32 = .ok (.iload_n 2, 1) := by decide +kernel
theorem dX3_goBackTo_33 : decode cX3_goBackTo 33 = .ok (.aload_n 0, 1) := by decide +kernel
theorem dX3_goBackTo_34 : decode cX3_goBackTo 34 = .ok (.getfield 12, 3) := by decide +kernel
theorem dX3_goBackTo_37 : decode cX3_goBackTo 37 = .ok (.getfield 59, 3) := by decide +kernel
theorem dX3_goBackTo_40 : decode cX3_goBackTo 40 = .ok (.iload_n 2, 1) := by decide +kernel
theorem dX3_goBackTo_41 : decode cX3_goBackTo 41 = .ok (.iaload, 1) := by decide +kernel
theorem dX3_goBackTo_42 : decode cX3_goBackTo 42 = .ok (.iastore, 1) := by decide +kernel
theorem dX3_goBackTo_43 : decode cX3_goBackTo 43 = .ok (.iinc 2 1, 3) := by decide +kernel
theorem dX3_goBackTo_46 : decode cX3_goBackTo 46 = .ok (.goto (-29), 3) := by decide +kernel
theorem dX3_goBackTo_49 : decode cX3_goBackTo 49 = .ok (.iconst 0, 1) := by decide +kernel
theorem dX3_goBackTo_50 : decode cX3_goBackTo 50 = .ok (.istore_n 2, 1) := by decide +kernel
theorem dX3_goBackTo_51 : decode cX3_goBackTo 51 = .ok (.iload_n 2, 1) := by decide +kernel
theorem dX3_goBackTo_52 : decode cX3_goBackTo 52 = .ok (.iload_n 1, 1) := by decide +kernel
theorem dX3_goBackTo_53 : decode cX3_goBackTo 53 = .ok (.if_icmp .ge 28, 3) := by decide +kernel
theorem dX3_goBackTo_56 : decode cX3_goBackTo 56 = .ok (.iload_n 2, 1) := by decide +kernel
theorem dX3_goBackTo_57 : decode cX3_goBackTo 57 = .ok (.bipush 40, 2) := by decide +kernel
theorem dX3_goBackTo_59 : decode cX3_goBackTo 59 = .ok (.if_icmp .ge 22, 3) := by decide +kernel
theorem dX3_goBackTo_62 : decode cX3_goBackTo 62 = .ok (.aload_n 0, 1) := by decide +kernel
theorem dX3_goBackTo_63 : decode cX3_goBackTo 63 = .ok (.aload_n 0, 1) := by decide +kernel
theorem dX3_goBackTo_64 : decode cX3_goBackTo 64 = .ok (.getfield 21, 3) := by decide +kernel
theorem dX3_goBackTo_67 : decode cX3_goBackTo 67 = .ok (.getfield 52, 3) := by decide +kernel
theorem dX3_goBackTo_70 : decode cX3_goBackTo 70 = .ok (.iload_n 2, 1) := by decide +kernel
theorem dX3_goBackTo_71 : decode cX3_goBackTo 71 = .ok (.iaload, 1) := by decide +kernel
theorem dX3_goBackTo_72 : decode cX3_goBackTo 72 = .ok (.invokevirtual 55, 3) := by decide +kernel
theorem dX3_goBackTo_75 : decode cX3_goBackTo 75 = .ok (.iinc 2 1, 3) := by decide +kernel
theorem dX3_goBackTo_78 : decode cX3_goBackTo 78 = .ok (.goto (-27), 3) := by decide +kernel
theorem dX3_goBackTo_81 : decode cX3_goBackTo 81 = .ok (.aload_n 0, 1) := by decide +kernel
theorem dX3_goBackTo_82 : decode cX3_goBackTo 82 = .ok (.getfield 21, 3) := by decide +kernel
theorem dX3_goBackTo_85 : decode cX3_goBackTo 85 = .ok (.iload_n 1, 1) := by decide +kernel
theorem dX3_goBackTo_86 : decode cX3_goBackTo 86 = .ok (.putfield 39, 3) := by decide +kernel
theorem dX3_goBackTo_89 : decode cX3_goBackTo 89 = .ok (.return_, 1) := by decide +kernel
theorem dX4_street_0 : decode cX4_street 0 = .ok (.aload_n 0, 1) := by decide +kernel
theorem dX4_street_1 : decode cX4_street 1 = .ok (.iload_n 1, 1) := by decide +kernel
theorem dX4_street_2 : decode cX4_street 2 = .ok (.invokevirtual 98, 3) := by decide +kernel
theorem dX4_street_5 : decode cX4_street 5 = .ok (.astore_n 2, 1) := by decide +kernel
theorem dX4_street_6 : decode cX4_street 6 = .ok (.aload_n 0, 1) := by decide +kernel
theorem dX4_street_7 : decode cX4_street 7 = .ok (.aload_n 2, 1) := by decide +kernel
theorem dX4_street_8 : decode cX4_street 8 = .ok (.invokevirtual 71, 3) := by decide +kernel
theorem dX4_street_11 : decode cX4_street 11 = .ok (.istore_n 3, 1) := by decide +kernel
theorem dX4_street_12 : decode cX4_street 12 = .ok (.aload_n 2, 1) := by decide +kernel
theorem dX4_street_13 : decode cX4_street 13 = .ok (.ifnull 7, 3) := by decide +kernel
theorem dX4_street_16 : decode cX4_street 16 = .ok (.iload_n 3, 1) := by decide +kernel
theorem dX4_street_17 : decode cX4_street 17 = .ok (.ifCond .eq 5, 3) := by decide +kernel
theorem dX4_street_20 : decode cX4_street 20 = .ok (.iload_n 3, 1) := by decide +kernel
theorem dX4_street_21 : decode cX4_street 21 = .ok (.ireturn, 1) := by decide +kernel
theorem dX4_street_22 : decode cX4_street 22 = .ok (.aload_n 2, 1) := by decide +kernel
theorem dX4_street_23 : decode cX4_street 23 = .ok (.invokestatic 101, 3) := by decide +kernel
theorem dX4_street_26 : decode cX4_street 26 = .ok (.bipush (-9), 2) := by decide +kernel
theorem dX4_street_28 : decode cX4_street 28 = .ok (.if_icmp .eq 6, 3) := by decide +kernel
theorem dX4_street_31 : decode cX4_street 31 = .ok (.bipush (-4), 2) := by decide +kernel
theorem dX4_street_33 : decode cX4_street 33 = .ok (.ireturn, 1) := by decide +kernel
theorem dX4_street_34 : decode cX4_street 34 = .ok (.aload_n 0, 1) := by decide +kernel
theorem dX4_street_35 : decode cX4_street 35 = .ok (.getfield 27, 3) := by decide +kernel
theorem dX4_street_38 : decode cX4_street 38 = .ok (.getfield 104, 3) := by decide +kernel
theorem dX4_street_41 : decode cX4_street 41 = .ok (.aload_n 2, 1) := by decide +kernel
theorem dX4_street_42 : decode cX4_street 42 = .ok (.invokevirtual 108, 3) := by decide +kernel
theorem dX4_street_45 : decode cX4_street 45 = .ok (.aload_n 0, 1) := by decide +kernel
theorem dX4_street_46 : decode cX4_street 46 = .ok (.getfield 27, 3) := by decide +kernel
theorem dX4_street_49 : decode cX4_street 49 = .ok (.iconst 0, 1) := by decide +kernel
theorem dX4_street_50 : decode cX4_street 50 = .ok (.invokevirtual 114, 3) := by decide +kernel
theorem dX4_street_53 : decode cX4_street 53 = .ok (.iconst 0, 1) := by decide +kernel
theorem dX4_street_54 : decode cX4_street 54 = .ok (.istore 4, 2) := by decide +kernel
theorem dX4_street_56 : decode cX4_street 56 = .ok (.iload 4, 2) := by decide +kernel
theorem dX4_street_58 : decode cX4_street 58 = .ok (.iconst 3, 1) := by decide +kernel
theorem dX4_street_59 : decode cX4_street 59 = .ok (.if_icmp .ge 20, 3) := by decide +kernel
theorem dX4_street_62 : decode cX4_street 62 = .ok (.aload_n 0, 1) := by decide +kernel
theorem dX4_street_63 : decode cX4_street 63 = .ok (.getfield 20, 3) := by decide +kernel
theorem dX4_street_66 : decode cX4_street 66 = .ok (.iload 4, 2) := by decide +kernel
theorem dX4_street_68 : decode cX4_street 68 = .ok (.aaload, 1) := by decide +kernel
theorem dX4_street_69 : decode cX4_street 69 = .ok (.iconst (-1), 1) := by decide +kernel
theorem dX4_street_70 : decode cX4_street 70 = .ok (.putfield 118, 3) := by decide +kernel
theorem dX4_street_73 : decode cX4_street 73 = .ok (.iinc 4 1, 3) := by decide +kernel
theorem dX4_street_76 : decode cX4_street 76 = .ok (.goto (-20), 3) := by decide +kernel
theorem dX4_street_79 : decode cX4_street 79 = .ok (.aload_n 0, 1) := by decide +kernel
theorem dX4_street_80 : decode cX4_street 80 = .ok (.getfield 27, 3) := by decide +kernel
theorem dX4_street_83 : decode cX4_street 83 = .ok (.getfield 104, 3) := by decide +kernel
theorem dX4_street_86 : decode cX4_street 86 = .ok (.getfield 121, 3) := by decide +kernel
theorem dX4_street_89 : decode cX4_street 89 = .ok (.ireturn, 1) := by decide +kernel
theorem dX3_tellPin_0 : decode cX3_tellPin 0 = .ok (.aload_n 0, 1) := by decide +kernel
theorem dX3_tellPin_1 : decode cX3_tellPin 1 = .ok (.getfield 12, 3) := by decide +kernel
theorem dX3_tellPin_4 : decode cX3_tellPin 4 = .ok (.iload_n 1, 1) := by decide +kernel
theorem dX3_tellPin_5 : decode cX3_tellPin 5 = .ok (.invokevirtual 64, 3) := by decide +kernel
theorem dX3_tellPin_8 : decode cX3_tellPin 8 = .ok (.ifCond .ne 6, 3) := by decide +kernel
theorem dX3_tellPin_11 : decode cX3_tellPin 11 = .ok (.bipush (-9), 2) := by decide +kernel
theorem dX3_tellPin_13 : decode cX3_tellPin 13 = .ok (.ireturn, 1) := by decide +kernel
theorem dX3_tellPin_14 : decode cX3_tellPin 14 = .ok (.iload_n 2, 1) := by decide +kernel
theorem dX3_tellPin_15 : decode cX3_tellPin 15 = .ok (.tableswitch 123 0 6 #[41, 51, 74, 84, 94, 104, 114], 41) := by decide +kernel
theorem dX3_tellPin_56 : decode cX3_tellPin 56 = .ok (.aload_n 0, 1) := by decide +kernel
theorem dX3_tellPin_57 : decode cX3_tellPin 57 = .ok (.getfield 12, 3) := by decide +kernel
theorem dX3_tellPin_60 : decode cX3_tellPin 60 = .ok (.getfield 94, 3) := by decide +kernel
theorem dX3_tellPin_63 : decode cX3_tellPin 63 = .ok (.iload_n 1, 1) := by decide +kernel
theorem dX3_tellPin_64 : decode cX3_tellPin 64 = .ok (.iaload, 1) := by decide +kernel
theorem dX3_tellPin_65 : decode cX3_tellPin 65 = .ok (.ireturn, 1) := by decide +kernel
theorem dX3_tellPin_66 : decode cX3_tellPin 66 = .ok (.aload_n 0, 1) := by decide +kernel
theorem dX3_tellPin_67 : decode cX3_tellPin 67 = .ok (.invokevirtual 49, 3) := by decide +kernel
theorem dX3_tellPin_70 : decode cX3_tellPin 70 = .ok (.iload_n 1, 1) := by decide +kernel
theorem dX3_tellPin_71 : decode cX3_tellPin 71 = .ok (.ishr, 1) := by decide +kernel
theorem dX3_tellPin_72 : decode cX3_tellPin 72 = .ok (.iconst 1, 1) := by decide +kernel
theorem dX3_tellPin_73 : decode cX3_tellPin 73 = .ok (.iand, 1) := by decide +kernel
theorem dX3_tellPin_74 : decode cX3_tellPin 74 = .ok (.ifCond .eq 12, 3) := by decide +kernel
theorem dX3_tellPin_77 : decode cX3_tellPin 77 = .ok (.aload_n 0, 1) := by decide +kernel
theorem dX3_tellPin_78 : decode cX3_tellPin 78 = .ok (.getfield 35, 3) := by decide +kernel
theorem dX3_tellPin_81 : decode cX3_tellPin 81 = .ok (.iload_n 1, 1) := by decide +kernel
theorem dX3_tellPin_82 : decode cX3_tellPin 82 = .ok (.iaload, 1) := by decide +kernel
theorem dX3_tellPin_83 : decode cX3_tellPin 83 = .ok (.goto 5, 3) := by decide +kernel
theorem dX3_tellPin_86 : decode cX3_tellPin 86 = .ok (.bipush (-9), 2) := by decide +kernel
theorem dX3_tellPin_88 : decode cX3_tellPin 88 = .ok (.ireturn, 1) := by decide +kernel
theorem dX3_tellPin_89 : decode cX3_tellPin 89 = .ok (.aload_n 0, 1) := by decide +kernel
theorem dX3_tellPin_90 : decode cX3_tellPin 90 = .ok (.getfield 12, 3) := by decide +kernel
theorem dX3_tellPin_93 : decode cX3_tellPin 93 = .ok (.getfield 97, 3) := by decide +kernel
theorem dX3_tellPin_96 : decode cX3_tellPin 96 = .ok (.iload_n 1, 1) := by decide +kernel
theorem dX3_tellPin_97 : decode cX3_tellPin 97 = .ok (.iaload, 1) := by decide +kernel
theorem dX3_tellPin_98 : decode cX3_tellPin 98 = .ok (.ireturn, 1) := by decide +kernel
theorem dX3_tellPin_99 : decode cX3_tellPin 99 = .ok (.aload_n 0, 1) := by decide +kernel
theorem dX3_tellPin_100 : decode cX3_tellPin 100 = .ok (.getfield 12, 3) := by decide +kernel
theorem dX3_tellPin_103 : decode cX3_tellPin 103 = .ok (.getfield 100, 3) := by decide +kernel
theorem dX3_tellPin_106 : decode cX3_tellPin 106 = .ok (.iload_n 1, 1) := by decide +kernel
theorem dX3_tellPin_107 : decode cX3_tellPin 107 = .ok (.iaload, 1) := by decide +kernel
theorem dX3_tellPin_108 : decode cX3_tellPin 108 = .ok (.ireturn, 1) := by decide +kernel
theorem dX3_tellPin_109 : decode cX3_tellPin 109 = .ok (.aload_n 0, 1) := by decide +kernel
theorem dX3_tellPin_110 : decode cX3_tellPin 110 = .ok (.getfield 12, 3) := by decide +kernel
theorem dX3_tellPin_113 : decode cX3_tellPin 113 = .ok (.getfield 103, 3) := by decide +kernel
theorem dX3_tellPin_116 : decode cX3_tellPin 116 = .ok (.iload_n 1, 1) := by decide +kernel
theorem dX3_tellPin_117 : decode cX3_tellPin 117 = .ok (.iaload, 1) := by decide +kernel
theorem dX3_tellPin_118 : decode cX3_tellPin 118 = .ok (.ireturn, 1) := by decide +kernel
theorem dX3_tellPin_119 : decode cX3_tellPin 119 = .ok (.aload_n 0, 1) := by decide +kernel
theorem dX3_tellPin_120 : decode cX3_tellPin 120 = .ok (.getfield 12, 3) := by decide +kernel
theorem dX3_tellPin_123 : decode cX3_tellPin 123 = .ok (.getfield 106, 3) := by decide +kernel
theorem dX3_tellPin_126 : decode cX3_tellPin 126 = .ok (.iload_n 1, 1) := by decide +kernel
theorem dX3_tellPin_127 : decode cX3_tellPin 127 = .ok (.iaload, 1) := by decide +kernel
theorem dX3_tellPin_128 : decode cX3_tellPin 128 = .ok (.ireturn, 1) := by decide +kernel
theorem dX3_tellPin_129 : decode cX3_tellPin 129 = .ok (.aload_n 0, 1) := by decide +kernel
theorem dX3_tellPin_130 : decode cX3_tellPin 130 = .ok (.getfield 29, 3) := by decide +kernel
theorem dX3_tellPin_133 : decode cX3_tellPin 133 = .ok (.iload_n 1, 1) := by decide +kernel
theorem dX3_tellPin_134 : decode cX3_tellPin 134 = .ok (.ishr, 1) := by decide +kernel
theorem dX3_tellPin_135 : decode cX3_tellPin 135 = .ok (.iconst 1, 1) := by decide +kernel
theorem dX3_tellPin_136 : decode cX3_tellPin 136 = .ok (.iand, 1) := by decide +kernel
theorem dX3_tellPin_137 : decode cX3_tellPin 137 = .ok (.ireturn, 1) := by decide +kernel
theorem dX3_tellPin_138 : decode cX3_tellPin 138 = .ok (.aload_n 0, 1) := by decide +kernel
theorem dX3_tellPin_139 : decode cX3_tellPin 139 = .ok (.getfield 32, 3) := by decide +kernel
theorem dX3_tellPin_142 : decode cX3_tellPin 142 = .ok (.iload_n 1, 1) := by decide +kernel
theorem dX3_tellPin_143 : decode cX3_tellPin 143 = .ok (.ishr, 1) := by decide +kernel
theorem dX3_tellPin_144 : decode cX3_tellPin 144 = .ok (.iconst 1, 1) := by decide +kernel
theorem dX3_tellPin_145 : decode cX3_tellPin 145 = .ok (.iand, 1) := by decide +kernel
theorem dX3_tellPin_146 : decode cX3_tellPin 146 = .ok (.ireturn, 1) := by decide +kernel
theorem dX4_pin_0 : decode cX4_pin 0 = .ok (.aload_n 0, 1) := by decide +kernel
theorem dX4_pin_1 : decode cX4_pin 1 = .ok (.getfield 27, 3) := by decide +kernel
theorem dX4_pin_4 : decode cX4_pin 4 = .ok (.getfield 104, 3) := by decide +kernel
theorem dX4_pin_7 : decode cX4_pin 7 = .ok (.iload_n 1, 1) := by decide +kernel
theorem dX4_pin_8 : decode cX4_pin 8 = .ok (.invokevirtual 124, 3) := by decide +kernel
theorem dX4_pin_11 : decode cX4_pin 11 = .ok (.ifCond .eq 13, 3) := by decide +kernel
theorem dX4_pin_14 : decode cX4_pin 14 = .ok (.iload_n 2, 1) := by decide +kernel
theorem dX4_pin_15 : decode cX4_pin 15 = .ok (.ifCond .lt 9, 3) := by decide +kernel
theorem dX4_pin_18 : decode cX4_pin 18 = .ok (.iload_n 2, 1) := by decide +kernel
theorem dX4_pin_19 : decode cX4_pin 19 = .ok (.bipush 7, 2) := by decide +kernel
theorem dX4_pin_21 : decode cX4_pin 21 = .ok (.if_icmp .le 5, 3) := by decide +kernel
theorem dX4_pin_24 : decode cX4_pin 24 = .ok (.iconst (-1), 1) := by decide +kernel
theorem dX4_pin_25 : decode cX4_pin 25 = .ok (.ireturn, 1) := by decide +kernel
theorem dX4_pin_26 : decode cX4_pin 26 = .ok (.aload_n 0, 1) := by decide +kernel
theorem dX4_pin_27 : decode cX4_pin 27 = .ok (.aload_n 0, 1) := by decide +kernel
theorem dX4_pin_28 : decode cX4_pin 28 = .ok (.getfield 27, 3) := by decide +kernel
theorem dX4_pin_31 : decode cX4_pin 31 = .ok (.iload_n 1, 1) := by decide +kernel
theorem dX4_pin_32 : decode cX4_pin 32 = .ok (.iload_n 2, 1) := by decide +kernel
theorem dX4_pin_33 : decode cX4_pin 33 = .ok (.invokevirtual 128, 3) := by decide +kernel
theorem dX4_pin_36 : decode cX4_pin 36 = .ok (.putfield 39, 3) := by decide +kernel
theorem dX4_pin_39 : decode cX4_pin 39 = .ok (.iconst 1, 1) := by decide +kernel
theorem dX4_pin_40 : decode cX4_pin 40 = .ok (.ireturn, 1) := by decide +kernel
theorem dX4_isOf_0 : decode cX4_isOf 0 = .ok (.iload_n 0, 1) := by decide +kernel
theorem dX4_isOf_1 : decode cX4_isOf 1 = .ok (.iload_n 1, 1) := by decide +kernel
theorem dX4_isOf_2 : decode cX4_isOf 2 = .ok (.if_icmp .eq 27, 3) := by decide +kernel
theorem dX4_isOf_5 : decode cX4_isOf 5 = .ok (.iload_n 1, 1) := by decide +kernel
theorem dX4_isOf_6 : decode cX4_isOf 6 = .ok (.ifCond .eq 23, 3) := by decide +kernel
theorem dX4_isOf_9 : decode cX4_isOf 9 = .ok (.iload_n 0, 1) := by decide +kernel
theorem dX4_isOf_10 : decode cX4_isOf 10 = .ok (.iconst 4, 1) := by decide +kernel
theorem dX4_isOf_11 : decode cX4_isOf 11 = .ok (.if_icmp .ne 8, 3) := by decide +kernel
theorem dX4_isOf_14 : decode cX4_isOf 14 = .ok (.iload_n 1, 1) := by decide +kernel
theorem dX4_isOf_15 : decode cX4_isOf 15 = .ok (.iconst 2, 1) := by decide +kernel
theorem dX4_isOf_16 : decode cX4_isOf 16 = .ok (.if_icmp .eq 13, 3) := by decide +kernel
theorem dX4_isOf_19 : decode cX4_isOf 19 = .ok (.iload_n 0, 1) := by decide +kernel
theorem dX4_isOf_20 : decode cX4_isOf 20 = .ok (.iconst 5, 1) := by decide +kernel
theorem dX4_isOf_21 : decode cX4_isOf 21 = .ok (.if_icmp .ne 12, 3) := by decide +kernel
theorem dX4_isOf_24 : decode cX4_isOf 24 = .ok (.iload_n 1, 1) := by decide +kernel
theorem dX4_isOf_25 : decode cX4_isOf 25 = .ok (.iconst 1, 1) := by decide +kernel
theorem dX4_isOf_26 : decode cX4_isOf 26 = .ok (.if_icmp .ne 7, 3) := by decide +kernel
theorem dX4_isOf_29 : decode cX4_isOf 29 = .ok (.iconst 1, 1) := by decide +kernel
theorem dX4_isOf_30 : decode cX4_isOf 30 = .ok (.goto 4, 3) := by decide +kernel
theorem dX4_isOf_33 : decode cX4_isOf 33 = .ok (.iconst 0, 1) := by decide +kernel
theorem dX4_isOf_34 : decode cX4_isOf 34 = .ok (.ireturn, 1) := by decide +kernel
theorem dX4_mark_0 : decode cX4_mark 0 = .ok (.aload_n 0, 1) := by decide +kernel
theorem dX4_mark_1 : decode cX4_mark 1 = .ok (.getfield 27, 3) := by decide +kernel
theorem dX4_mark_4 : decode cX4_mark 4 = .ok (.getfield 104, 3) := by decide +kernel
theorem dX4_mark_7 : decode cX4_mark 7 = .ok (.astore_n 3, 1) := by decide +kernel
theorem dX4_mark_8 : decode cX4_mark 8 = .ok (.aload_n 3, 1) := by decide +kernel
theorem dX4_mark_9 : decode cX4_mark 9 = .ok (.iload_n 1, 1) := by decide +kernel
theorem dX4_mark_10 : decode cX4_mark 10 = .ok (.invokevirtual 124, 3) := by decide +kernel
theorem dX4_mark_13 : decode cX4_mark 13 = .ok (.ifCond .eq 13, 3) := by decide +kernel
theorem dX4_mark_16 : decode cX4_mark 16 = .ok (.iload_n 2, 1) := by decide +kernel
theorem dX4_mark_17 : decode cX4_mark 17 = .ok (.ifCond .le 9, 3) := by decide +kernel
theorem dX4_mark_20 : decode cX4_mark 20 = .ok (.iload_n 2, 1) := by decide +kernel
theorem dX4_mark_21 : decode cX4_mark 21 = .ok (.bipush 6, 2) := by decide +kernel
theorem dX4_mark_23 : decode cX4_mark 23 = .ok (.if_icmp .lt 5, 3) := by decide +kernel
theorem dX4_mark_26 : decode cX4_mark 26 = .ok (.iconst (-1), 1) := by decide +kernel
theorem dX4_mark_27 : decode cX4_mark 27 = .ok (.ireturn, 1) := by decide +kernel
theorem dX4_mark_28 : decode cX4_mark 28 = .ok (.aload_n 3, 1) := by decide +kernel
theorem dX4_mark_29 : decode cX4_mark 29 = .ok (.getfield 132, 3) := by decide +kernel
theorem dX4_mark_32 : decode cX4_mark 32 = .ok (.iload_n 1, 1) := by decide +kernel
theorem dX4_mark_33 : decode cX4_mark 33 = .ok (.iaload, 1) := by decide +kernel
theorem dX4_mark_34 : decode cX4_mark 34 = .ok (.iload_n 2, 1) := by decide +kernel
theorem dX4_mark_35 : decode cX4_mark 35 = .ok (.invokestatic 135, 3) := by decide +kernel
theorem dX4_mark_38 : decode cX4_mark 38 = .ok (.ifCond .ne 9, 3) := by decide +kernel
theorem dX4_mark_41 : decode cX4_mark 41 = .ok (.aload_n 0, 1) := by decide +kernel
theorem dX4_mark_42 : decode cX4_mark 42 = .ok (.iconst 3, 1) := by decide +kernel
theorem dX4_mark_43 : decode cX4_mark 43 = .ok (.invokevirtual 78, 3) := by decide +kernel
theorem dX4_mark_46 : decode cX4_mark 46 = .ok (.ireturn, 1) := by decide +kernel
theorem dX4_mark_47 : decode cX4_mark 47 = .ok (.aload_n 3, 1) := by decide +kernel
theorem dX4_mark_48 : decode cX4_mark 48 = .ok (.getfield 138, 3) := by decide +kernel
theorem dX4_mark_51 : decode cX4_mark 51 = .ok (.iload_n 1, 1) := by decide +kernel
theorem dX4_mark_52 : decode cX4_mark 52 = .ok (.iaload, 1) := by decide +kernel
theorem dX4_mark_53 : decode cX4_mark 53 = .ok (.istore 4, 2) := by decide +kernel
theorem dX4_mark_55 : decode cX4_mark 55 = .ok (.aload_n 3, 1) := by decide +kernel
theorem dX4_mark_56 : decode cX4_mark 56 = .ok (.getfield 141, 3) := by decide +kernel
theorem dX4_mark_59 : decode cX4_mark 59 = .ok (.iload_n 1, 1) := by decide +kernel
theorem dX4_mark_60 : decode cX4_mark 60 = .ok (.iaload, 1) := by decide +kernel
theorem dX4_mark_61 : decode cX4_mark 61 = .ok (.istore 5, 2) := by decide +kernel
theorem dX4_mark_63 : decode cX4_mark 63 = .ok (.iload_n 2, 1) := by decide +kernel
theorem dX4_mark_64 : decode cX4_mark 64 = .ok (.tableswitch 72 1 5 #[36, 72, 72, 42, 57], 36) := by decide +kernel
theorem dX4_mark_100 : decode cX4_mark 100 = .ok (.bipush 100, 2) := by decide +kernel
theorem dX4_mark_102 : decode cX4_mark 102 = .ok (.iload 4, 2) := by decide +kernel
theorem dX4_mark_104 : decode cX4_mark 104 = .ok (.iadd, 1) := by decide +kernel
theorem dX4_mark_105 : decode cX4_mark 105 = .ok (.ireturn, 1) := by decide +kernel
theorem dX4_mark_106 : decode cX4_mark 106 = .ok (.bipush 100, 2) := by decide +kernel
theorem dX4_mark_108 : decode cX4_mark 108 = .ok (.iload 4, 2) := by decide +kernel
theorem dX4_mark_110 : decode cX4_mark 110 = .ok (.iadd, 1) := by decide +kernel
theorem dX4_mark_111 : decode cX4_mark 111 = .ok (.aload_n 3, 1) := by decide +kernel
theorem dX4_mark_112 : decode cX4_mark 112 = .ok (.iload_n 1, 1) := by decide +kernel
theorem dX4_mark_113 : decode cX4_mark 113 = .ok (.iconst 2, 1) := by decide +kernel
theorem dX4_mark_114 : decode cX4_mark 114 = .ok (.iload 5, 2) := by decide +kernel
theorem dX4_mark_116 : decode cX4_mark 116 = .ok (.invokevirtual 144, 3) := by decide +kernel
theorem dX4_mark_119 : decode cX4_mark 119 = .ok (.isub, 1) := by decide +kernel
theorem dX4_mark_120 : decode cX4_mark 120 = .ok (.ireturn, 1) := by decide +kernel
theorem dX4_mark_121 : decode cX4_mark 121 = .ok (.bipush 100, 2) := by decide +kernel
theorem dX4_mark_123 : decode cX4_mark 123 = .ok (.iload 4, 2) := by decide +kernel
theorem dX4_mark_125 : decode cX4_mark 125 = .ok (.iadd, 1) := by decide +kernel
theorem dX4_mark_126 : decode cX4_mark 126 = .ok (.aload_n 3, 1) := by decide +kernel
theorem dX4_mark_127 : decode cX4_mark 127 = .ok (.iload_n 1, 1) := by decide +kernel
theorem dX4_mark_128 : decode cX4_mark 128 = .ok (.iconst 1, 1) := by decide +kernel
theorem dX4_mark_129 : decode cX4_mark 129 = .ok (.iload 5, 2) := by decide +kernel
theorem dX4_mark_131 : decode cX4_mark 131 = .ok (.invokevirtual 144, 3) := by decide +kernel
theorem dX4_mark_134 : decode cX4_mark 134 = .ok (.isub, 1) := by decide +kernel
theorem dX4_mark_135 : decode cX4_mark 135 = .ok (.ireturn, 1) := by decide +kernel
theorem dX4_mark_136 : decode cX4_mark 136 = .ok (.bipush 100, 2) := by decide +kernel
theorem dX4_mark_138 : decode cX4_mark 138 = .ok (.iload 4, 2) := by decide +kernel
theorem dX4_mark_140 : decode cX4_mark 140 = .ok (.iadd, 1) := by decide +kernel
theorem dX4_mark_141 : decode cX4_mark 141 = .ok (.aload_n 3, 1) := by decide +kernel
theorem dX4_mark_142 : decode cX4_mark 142 = .ok (.iload_n 1, 1) := by decide +kernel
theorem dX4_mark_143 : decode cX4_mark 143 = .ok (.iconst 0, 1) := by decide +kernel
theorem dX4_mark_144 : decode cX4_mark 144 = .ok (.iload 5, 2) := by decide +kernel
theorem dX4_mark_146 : decode cX4_mark 146 = .ok (.invokevirtual 144, 3) := by decide +kernel
theorem dX4_mark_149 : decode cX4_mark 149 = .ok (.isub, 1) := by decide +kernel
theorem dX4_mark_150 : decode cX4_mark 150 = .ok (.ireturn, 1) := by decide +kernel
theorem dX4_isLuck_0 : decode cX4_isLuck 0 = .ok (.iload_n 0, 1) := by decide +kernel
theorem dX4_isLuck_1 : decode cX4_isLuck 1 = .ok (.ifCond .lt 13, 3) := by decide +kernel
theorem dX4_isLuck_4 : decode cX4_isLuck 4 = .ok (.iload_n 0, 1) := by decide +kernel
theorem dX4_isLuck_5 : decode cX4_isLuck 5 = .ok (.bipush 10, 2) := by decide +kernel
theorem dX4_isLuck_7 : decode cX4_isLuck 7 = .ok (.if_icmp .ge 7, 3) := by decide +kernel
theorem dX4_isLuck_10 : decode cX4_isLuck 10 = .ok (.iconst 1, 1) := by decide +kernel
theorem dX4_isLuck_11 : decode cX4_isLuck 11 = .ok (.goto 4, 3) := by decide +kernel
theorem dX4_isLuck_14 : decode cX4_isLuck 14 = .ok (.iconst 0, 1) := by decide +kernel
theorem dX4_isLuck_15 : decode cX4_isLuck 15 = .ok (.ireturn, 1) := by decide +kernel
theorem dX4_worth_0 : decode cX4_worth 0 = .ok (.aload_n 0, 1) := by decide +kernel
theorem dX4_worth_1 : decode cX4_worth 1 = .ok (.getfield 27, 3) := by decide +kernel
theorem dX4_worth_4 : decode cX4_worth 4 = .ok (.getfield 104, 3) := by decide +kernel
theorem dX4_worth_7 : decode cX4_worth 7 = .ok (.astore_n 3, 1) := by decide +kernel
theorem dX4_worth_8 : decode cX4_worth 8 = .ok (.aload_n 3, 1) := by decide +kernel
theorem dX4_worth_9 : decode cX4_worth 9 = .ok (.iload_n 1, 1) := by decide +kernel
theorem dX4_worth_10 : decode cX4_worth 10 = .ok (.invokevirtual 124, 3) := by decide +kernel
theorem dX4_worth_13 : decode cX4_worth 13 = .ok (.ifCond .eq 10, 3) := by decide +kernel
theorem dX4_worth_16 : decode cX4_worth 16 = .ok (.iload_n 2, 1) := by decide +kernel
theorem dX4_worth_17 : decode cX4_worth 17 = .ok (.invokestatic 148, 3) := by decide +kernel
theorem dX4_worth_20 : decode cX4_worth 20 = .ok (.ifCond .ne 5, 3) := by decide +kernel
theorem dX4_worth_23 : decode cX4_worth 23 = .ok (.iconst (-1), 1) := by decide +kernel
theorem dX4_worth_24 : decode cX4_worth 24 = .ok (.ireturn, 1) := by decide +kernel
theorem dX4_worth_25 : decode cX4_worth 25 = .ok (.aload_n 0, 1) := by decide +kernel
theorem dX4_worth_26 : decode cX4_worth 26 = .ok (.aload_n 3, 1) := by decide +kernel
theorem dX4_worth_27 : decode cX4_worth 27 = .ok (.iload_n 1, 1) := by decide +kernel
theorem dX4_worth_28 : decode cX4_worth 28 = .ok (.aload_n 3, 1) := by decide +kernel
theorem dX4_worth_29 : decode cX4_worth 29 = .ok (.getfield 132, 3) := by decide +kernel
theorem dX4_worth_32 : decode cX4_worth 32 = .ok (.iload_n 1, 1) := by decide +kernel
theorem dX4_worth_33 : decode cX4_worth 33 = .ok (.iaload, 1) := by decide +kernel
theorem dX4_worth_34 : decode cX4_worth 34 = .ok (.iload_n 2, 1) := by decide +kernel
theorem dX4_worth_35 : decode cX4_worth 35 = .ok (.invokevirtual 144, 3) := by decide +kernel
theorem dX4_worth_38 : decode cX4_worth 38 = .ok (.putfield 39, 3) := by decide +kernel
theorem dX4_worth_41 : decode cX4_worth 41 = .ok (.iconst 1, 1) := by decide +kernel
theorem dX4_worth_42 : decode cX4_worth 42 = .ok (.ireturn, 1) := by decide +kernel
theorem dX3_hasRoomFor_0 : decode cX3_hasRoomFor 0 = .ok (.aload_n 0, 1) := by decide +kernel
theorem dX3_hasRoomFor_1 : decode cX3_hasRoomFor 1 = .ok (.getfield 21, 3) := by decide +kernel
theorem dX3_hasRoomFor_4 : decode cX3_hasRoomFor 4 = .ok (.getfield 39, 3) := by decide +kernel
theorem dX3_hasRoomFor_7 : decode cX3_hasRoomFor 7 = .ok (.iload_n 1, 1) := by decide +kernel
theorem dX3_hasRoomFor_8 : decode cX3_hasRoomFor 8 = .ok (.iadd, 1) := by decide +kernel
theorem dX3_hasRoomFor_9 : decode cX3_hasRoomFor 9 = .ok (.bipush 40, 2) := by decide +kernel
theorem dX3_hasRoomFor_11 : decode cX3_hasRoomFor 11 = .ok (.if_icmp .gt 7, 3) := by decide +kernel
theorem dX3_hasRoomFor_14 : decode cX3_hasRoomFor 14 = .ok (.iconst 1, 1) := by decide +kernel
theorem dX3_hasRoomFor_15 : decode cX3_hasRoomFor 15 = .ok (.goto 4, 3) := by decide +kernel
theorem dX3_hasRoomFor_18 : decode cX3_hasRoomFor 18 = .ok (.iconst 0, 1) := by decide +kernel
theorem dX3_hasRoomFor_19 : decode cX3_hasRoomFor 19 = .ok (.ireturn, 1) := by decide +kernel
theorem dX3_enact_0 : decode cX3_enact 0 = .ok (.aload_n 0, 1) := by decide +kernel
theorem dX3_enact_1 : decode cX3_enact 1 = .ok (.getfield 21, 3) := by decide +kernel
theorem dX3_enact_4 : decode cX3_enact 4 = .ok (.getfield 39, 3) := by decide +kernel
theorem dX3_enact_7 : decode cX3_enact 7 = .ok (.ifCond .lt 49, 3) := by decide +kernel
theorem dX3_enact_10 : decode cX3_enact 10 = .ok (.aload_n 0, 1) := by decide +kernel
theorem dX3_enact_11 : decode cX3_enact 11 = .ok (.getfield 21, 3) := by decide +kernel
theorem dX3_enact_14 : decode cX3_enact 14 = .ok (.getfield 39, 3) := by decide +kernel
theorem dX3_enact_17 : decode cX3_enact 17 = .ok (.bipush 40, 2) := by decide +kernel
theorem dX3_enact_19 : decode cX3_enact 19 = .ok (.if_icmp .ge 37, 3) := by decide +kernel
theorem dX3_enact_22 : decode cX3_enact 22 = .ok (.aload_n 0, 1) := by decide +kernel
theorem dX3_enact_23 : decode cX3_enact 23 = .ok (.getfield 21, 3) := by decide +kernel
theorem dX3_enact_26 : decode cX3_enact 26 = .ok (.getfield 52, 3) := by decide +kernel
theorem dX3_enact_29 : decode cX3_enact 29 = .ok (.aload_n 0, 1) := by decide +kernel
theorem dX3_enact_30 : decode cX3_enact 30 = .ok (.getfield 21, 3) := by decide +kernel
theorem dX3_enact_33 : decode cX3_enact 33 = .ok (.getfield 39, 3) := by decide +kernel
theorem dX3_enact_36 : decode cX3_enact 36 = .ok (.iload_n 1, 1) := by decide +kernel
theorem dX3_enact_37 : decode cX3_enact 37 = .ok (.iastore, 1) := by decide +kernel
theorem dX3_enact_38 : decode cX3_enact 38 = .ok (.aload_n 0, 1) := by decide +kernel
theorem dX3_enact_39 : decode cX3_enact 39 = .ok (.getfield 21, 3) := by decide +kernel
theorem dX3_enact_42 : decode cX3_enact 42 = .ok (.dup, 1) := by decide +kernel
theorem dX3_enact_43 : decode cX3_enact 43 = .ok (.getfield 39, 3) := by decide +kernel
theorem dX3_enact_46 : decode cX3_enact 46 = .ok (.iconst 1, 1) := by decide +kernel
theorem dX3_enact_47 : decode cX3_enact 47 = .ok (.iadd, 1) := by decide +kernel
theorem dX3_enact_48 : decode cX3_enact 48 = .ok (.putfield 39, 3) := by decide +kernel
theorem dX3_enact_51 : decode cX3_enact 51 = .ok (.aload_n 0, 1) := by decide +kernel
theorem dX3_enact_52 : decode cX3_enact 52 = .ok (.iload_n 1, 1) := by decide +kernel
theorem dX3_enact_53 : decode cX3_enact 53 = .ok (.invokevirtual 55, 3) := by decide +kernel
theorem dX3_enact_56 : decode cX3_enact 56 = .ok (.return_, 1) := by decide +kernel
theorem dX4_step_0 : decode cX4_step 0 = .ok (.iload_n 1, 1) := by decide +kernel
theorem dX4_step_1 : decode cX4_step 1 = .ok (.iconst 1, 1) := by decide +kernel
theorem dX4_step_2 : decode cX4_step 2 = .ok (.if_icmp .eq 10, 3) := by decide +kernel
theorem dX4_step_5 : decode cX4_step 5 = .ok (.iload_n 1, 1) := by decide +kernel
theorem dX4_step_6 : decode cX4_step 6 = .ok (.iconst (-1), 1) := by decide +kernel
theorem dX4_step_7 : decode cX4_step 7 = .ok (.if_icmp .eq 5, 3) := by decide +kernel
theorem dX4_step_10 : decode cX4_step 10 = .ok (.iconst (-1), 1) := by decide +kernel
theorem dX4_step_11 : decode cX4_step 11 = .ok (.ireturn, 1) := by decide +kernel
theorem dX4_step_12 : decode cX4_step 12 = .ok (.aload_n 0, 1) := by decide +kernel
theorem dX4_step_13 : decode cX4_step 13 = .ok (.getfield 27, 3) := by decide +kernel
theorem dX4_step_16 : decode cX4_step 16 = .ok (.getfield 151, 3) := by decide +kernel
theorem dX4_step_19 : decode cX4_step 19 = .ok (.iload_n 1, 1) := by decide +kernel
theorem dX4_step_20 : decode cX4_step 20 = .ok (.iadd, 1) := by decide +kernel
theorem dX4_step_21 : decode cX4_step 21 = .ok (.istore_n 2, 1) := by decide +kernel
theorem dX4_step_22 : decode cX4_step 22 = .ok (.aload_n 0, 1) := by decide +kernel
theorem dX4_step_23 : decode cX4_step 23 = .ok (.getfield 27, 3) := by decide +kernel
theorem dX4_step_26 : decode cX4_step 26 = .ok (.getfield 104, 3) := by decide +kernel
theorem dX4_step_29 : decode cX4_step 29 = .ok (.getfield 121, 3) := by decide +kernel
theorem dX4_step_32 : decode cX4_step 32 = .ok (.ifCond .eq 13, 3) := by decide +kernel
theorem dX4_step_35 : decode cX4_step 35 = .ok (.iload_n 2, 1) := by decide +kernel
theorem dX4_step_36 : decode cX4_step 36 = .ok (.ifCond .lt 9, 3) := by decide +kernel
theorem dX4_step_39 : decode cX4_step 39 = .ok (.iload_n 2, 1) := by decide +kernel
theorem dX4_step_40 : decode cX4_step 40 = .ok (.bipush 9, 2) := by decide +kernel
theorem dX4_step_42 : decode cX4_step 42 = .ok (.if_icmp .le 6, 3) := by decide +kernel
theorem dX4_step_45 : decode cX4_step 45 = .ok (.bipush (-4), 2) := by decide +kernel
theorem dX4_step_47 : decode cX4_step 47 = .ok (.ireturn, 1) := by decide +kernel
theorem dX4_step_48 : decode cX4_step 48 = .ok (.aload_n 0, 1) := by decide +kernel
theorem dX4_step_49 : decode cX4_step 49 = .ok (.getfield 27, 3) := by decide +kernel
theorem dX4_step_52 : decode cX4_step 52 = .ok (.iconst 1, 1) := by decide +kernel
theorem dX4_step_53 : decode cX4_step 53 = .ok (.invokevirtual 154, 3) := by decide +kernel
theorem dX4_step_56 : decode cX4_step 56 = .ok (.ifCond .ne 6, 3) := by decide +kernel
theorem dX4_step_59 : decode cX4_step 59 = .ok (.bipush (-2), 2) := by decide +kernel
theorem dX4_step_61 : decode cX4_step 61 = .ok (.ireturn, 1) := by decide +kernel
theorem dX4_step_62 : decode cX4_step 62 = .ok (.aload_n 0, 1) := by decide +kernel
theorem dX4_step_63 : decode cX4_step 63 = .ok (.getfield 27, 3) := by decide +kernel
theorem dX4_step_66 : decode cX4_step 66 = .ok (.iload_n 1, 1) := by decide +kernel
theorem dX4_step_67 : decode cX4_step 67 = .ok (.iconst 1, 1) := by decide +kernel
theorem dX4_step_68 : decode cX4_step 68 = .ok (.if_icmp .ne 7, 3) := by decide +kernel
theorem dX4_step_71 : decode cX4_step 71 = .ok (.iconst 0, 1) := by decide +kernel
theorem dX4_step_72 : decode cX4_step 72 = .ok (.goto 4, 3) := by decide +kernel
theorem dX4_step_75 : decode cX4_step 75 = .ok (.iconst 1, 1) := by decide +kernel
theorem dX4_step_76 : decode cX4_step 76 = .ok (.invokevirtual 157, 3) := by decide +kernel
theorem dX4_step_79 : decode cX4_step 79 = .ok (.aload_n 0, 1) := by decide +kernel
theorem dX4_step_80 : decode cX4_step 80 = .ok (.getfield 27, 3) := by decide +kernel
theorem dX4_step_83 : decode cX4_step 83 = .ok (.getfield 151, 3) := by decide +kernel
theorem dX4_step_86 : decode cX4_step 86 = .ok (.ireturn, 1) := by decide +kernel
theorem dJ6_bitCount_0f7a4_0 : decode cJ6_bitCount_0f7a4 0 = .ok (.iload_n 0, 1) := by decide +kernel
theorem dJ6_bitCount_0f7a4_1 : decode cJ6_bitCount_0f7a4 1 = .ok (.iload_n 0, 1) := by decide +kernel
theorem dJ6_bitCount_0f7a4_2 : decode cJ6_bitCount_0f7a4 2 = .ok (.iconst 1, 1) := by decide +kernel
theorem dJ6_bitCount_0f7a4_3 : decode cJ6_bitCount_0f7a4 3 = .ok (.iushr, 1) := by decide +kernel
theorem dJ6_bitCount_0f7a4_4 : decode cJ6_bitCount_0f7a4 4 = .ok (.ldc_w 265, 3) := by decide +kernel
theorem dJ6_bitCount_0f7a4_7 : decode cJ6_bitCount_0f7a4 7 = .ok (.iand, 1) := by decide +kernel
theorem dJ6_bitCount_0f7a4_8 : decode cJ6_bitCount_0f7a4 8 = .ok (.isub, 1) := by decide +kernel
theorem dJ6_bitCount_0f7a4_9 : decode cJ6_bitCount_0f7a4 9 = .ok (.istore_n 0, 1) := by decide +kernel
theorem dJ6_bitCount_0f7a4_10 : decode cJ6_bitCount_0f7a4 10 = .ok (.iload_n 0, 1) := by decide +kernel
theorem dJ6_bitCount_0f7a4_11 : decode cJ6_bitCount_0f7a4 11 = .ok (.ldc_w 266, 3) := by decide +kernel
theorem dJ6_bitCount_0f7a4_14 : decode cJ6_bitCount_0f7a4 14 = .ok (.iand, 1) := by decide +kernel
theorem dJ6_bitCount_0f7a4_15 : decode cJ6_bitCount_0f7a4 15 = .ok (.iload_n 0, 1) := by decide +kernel
theorem dJ6_bitCount_0f7a4_16 : decode cJ6_bitCount_0f7a4 16 = .ok (.iconst 2, 1) := by decide +kernel
theorem dJ6_bitCount_0f7a4_17 : decode cJ6_bitCount_0f7a4 17 = .ok (.iushr, 1) := by decide +kernel
theorem dJ6_bitCount_0f7a4_18 : decode cJ6_bitCount_0f7a4 18 = .ok (.ldc_w 266, 3) := by decide +kernel
theorem dJ6_bitCount_0f7a4_21 : decode cJ6_bitCount_0f7a4 21 = .ok (.iand, 1) := by decide +kernel
theorem dJ6_bitCount_0f7a4_22 : decode cJ6_bitCount_0f7a4 22 = .ok (.iadd, 1) := by decide +kernel
theorem dJ6_bitCount_0f7a4_23 : decode cJ6_bitCount_0f7a4 23 = .ok (.istore_n 0, 1) := by decide +kernel
theorem dJ6_bitCount_0f7a4_24 : decode cJ6_bitCount_0f7a4 24 = .ok (.iload_n 0, 1) := by decide +kernel
theorem dJ6_bitCount_0f7a4_25 : decode cJ6_bitCount_0f7a4 25 = .ok (.iload_n 0, 1) := by decide +kernel
theorem dJ6_bitCount_0f7a4_26 : decode cJ6_bitCount_0f7a4 26 = .ok (.iconst 4, 1) := by decide +kernel
theorem dJ6_bitCount_0f7a4_27 : decode cJ6_bitCount_0f7a4 27 = .ok (.iushr, 1) := by decide +kernel
theorem dJ6_bitCount_0f7a4_28 : decode cJ6_bitCount_0f7a4 28 = .ok (.iadd, 1) := by decide +kernel
theorem dJ6_bitCount_0f7a4_29 : decode cJ6_bitCount_0f7a4 29 = .ok (.ldc_w 267, 3) := by decide +kernel
theorem dJ6_bitCount_0f7a4_32 : decode cJ6_bitCount_0f7a4 32 = .ok (.iand, 1) := by decide +kernel
theorem dJ6_bitCount_0f7a4_33 : decode cJ6_bitCount_0f7a4 33 = .ok (.istore_n 0, 1) := by decide +kernel
theorem dJ6_bitCount_0f7a4_34 : decode cJ6_bitCount_0f7a4 34 = .ok (.iload_n 0, 1) := by decide +kernel
theorem dJ6_bitCount_0f7a4_35 : decode cJ6_bitCount_0f7a4 35 = .ok (.iload_n 0, 1) := by decide +kernel
theorem dJ6_bitCount_0f7a4_36 : decode cJ6_bitCount_0f7a4 36 = .ok (.bipush 8, 2) := by decide +kernel
theorem dJ6_bitCount_0f7a4_38 : decode cJ6_bitCount_0f7a4 38 = .ok (.iushr, 1) := by decide +kernel
theorem dJ6_bitCount_0f7a4_39 : decode cJ6_bitCount_0f7a4 39 = .ok (.iadd, 1) := by decide +kernel
theorem dJ6_bitCount_0f7a4_40 : decode cJ6_bitCount_0f7a4 40 = .ok (.istore_n 0, 1) := by decide +kernel
theorem dJ6_bitCount_0f7a4_41 : decode cJ6_bitCount_0f7a4 41 = .ok (.iload_n 0, 1) := by decide +kernel
theorem dJ6_bitCount_0f7a4_42 : decode cJ6_bitCount_0f7a4 42 = .ok (.iload_n 0, 1) := by decide +kernel
theorem dJ6_bitCount_0f7a4_43 : decode cJ6_bitCount_0f7a4 43 = .ok (.bipush 16, 2) := by decide +kernel
theorem dJ6_bitCount_0f7a4_45 : decode cJ6_bitCount_0f7a4 45 = .ok (.iushr, 1) := by decide +kernel
theorem dJ6_bitCount_0f7a4_46 : decode cJ6_bitCount_0f7a4 46 = .ok (.iadd, 1) := by decide +kernel
theorem dJ6_bitCount_0f7a4_47 : decode cJ6_bitCount_0f7a4 47 = .ok (.istore_n 0, 1) := by decide +kernel
theorem dJ6_bitCount_0f7a4_48 : decode cJ6_bitCount_0f7a4 48 = .ok (.iload_n 0, 1) := by decide +kernel
theorem dJ6_bitCount_0f7a4_49 : decode cJ6_bitCount_0f7a4 49 = .ok (.bipush 63, 2) := by decide +kernel
theorem dJ6_bitCount_0f7a4_51 : decode cJ6_bitCount_0f7a4 51 = .ok (.iand, 1) := by decide +kernel
theorem dJ6_bitCount_0f7a4_52 : decode cJ6_bitCount_0f7a4 52 = .ok (.ireturn, 1) := by decide +kernel
theorem dX4_pick_0 : decode cX4_pick 0 = .ok (.aload_n 0, 1) := by decide +kernel
theorem dX4_pick_1 : decode cX4_pick 1 = .ok (.getfield 27, 3) := by decide +kernel
theorem dX4_pick_4 : decode cX4_pick 4 = .ok (.getfield 104, 3) := by decide +kernel
theorem dX4_pick_7 : decode cX4_pick 7 = .ok (.iload_n 1, 1) := by decide +kernel
theorem dX4_pick_8 : decode cX4_pick 8 = .ok (.invokevirtual 124, 3) := by decide +kernel
theorem dX4_pick_11 : decode cX4_pick 11 = .ok (.ifCond .ne 5, 3) := by decide +kernel
theorem dX4_pick_14 : decode cX4_pick 14 = .ok (.iconst (-1), 1) := by decide +kernel
theorem dX4_pick_15 : decode cX4_pick 15 = .ok (.ireturn, 1) := by decide +kernel
theorem dX4_pick_16 : decode cX4_pick 16 = .ok (.aload_n 0, 1) := by decide +kernel
theorem dX4_pick_17 : decode cX4_pick 17 = .ok (.getfield 27, 3) := by decide +kernel
theorem dX4_pick_20 : decode cX4_pick 20 = .ok (.invokevirtual 160, 3) := by decide +kernel
theorem dX4_pick_23 : decode cX4_pick 23 = .ok (.iload_n 1, 1) := by decide +kernel
theorem dX4_pick_24 : decode cX4_pick 24 = .ok (.ishr, 1) := by decide +kernel
theorem dX4_pick_25 : decode cX4_pick 25 = .ok (.iconst 1, 1) := by decide +kernel
theorem dX4_pick_26 : decode cX4_pick 26 = .ok (.iand, 1) := by decide +kernel
theorem dX4_pick_27 : decode cX4_pick 27 = .ok (.ifCond .ne 6, 3) := by decide +kernel
theorem dX4_pick_30 : decode cX4_pick 30 = .ok (.bipush (-4), 2) := by decide +kernel
theorem dX4_pick_32 : decode cX4_pick 32 = .ok (.ireturn, 1) := by decide +kernel
theorem dX4_pick_33 : decode cX4_pick 33 = .ok (.aload_n 0, 1) := by decide +kernel
theorem dX4_pick_34 : decode cX4_pick 34 = .ok (.getfield 27, 3) := by decide +kernel
theorem dX4_pick_37 : decode cX4_pick 37 = .ok (.iconst 1, 1) := by decide +kernel
theorem dX4_pick_38 : decode cX4_pick 38 = .ok (.invokevirtual 154, 3) := by decide +kernel
theorem dX4_pick_41 : decode cX4_pick 41 = .ok (.ifCond .ne 6, 3) := by decide +kernel
theorem dX4_pick_44 : decode cX4_pick 44 = .ok (.bipush (-2), 2) := by decide +kernel
theorem dX4_pick_46 : decode cX4_pick 46 = .ok (.ireturn, 1) := by decide +kernel
theorem dX4_pick_47 : decode cX4_pick 47 = .ok (.aload_n 0, 1) := by decide +kernel
theorem dX4_pick_48 : decode cX4_pick 48 = .ok (.getfield 27, 3) := by decide +kernel
theorem dX4_pick_51 : decode cX4_pick 51 = .ok (.bipush 8, 2) := by decide +kernel
theorem dX4_pick_53 : decode cX4_pick 53 = .ok (.iload_n 1, 1) := by decide +kernel
theorem dX4_pick_54 : decode cX4_pick 54 = .ok (.iadd, 1) := by decide +kernel
theorem dX4_pick_55 : decode cX4_pick 55 = .ok (.invokevirtual 157, 3) := by decide +kernel
theorem dX4_pick_58 : decode cX4_pick 58 = .ok (.aload_n 0, 1) := by decide +kernel
theorem dX4_pick_59 : decode cX4_pick 59 = .ok (.getfield 27, 3) := by decide +kernel
theorem dX4_pick_62 : decode cX4_pick 62 = .ok (.getfield 164, 3) := by decide +kernel
theorem dX4_pick_65 : decode cX4_pick 65 = .ok (.invokestatic 167, 3) := by decide +kernel
theorem dX4_pick_68 : decode cX4_pick 68 = .ok (.ireturn, 1) := by decide +kernel
theorem dX4_drop_0 : decode cX4_drop 0 = .ok (.aload_n 0, 1) := by decide +kernel
theorem dX4_drop_1 : decode cX4_drop 1 = .ok (.getfield 27, 3) := by decide +kernel
theorem dX4_drop_4 : decode cX4_drop 4 = .ok (.getfield 104, 3) := by decide +kernel
theorem dX4_drop_7 : decode cX4_drop 7 = .ok (.iload_n 1, 1) := by decide +kernel
theorem dX4_drop_8 : decode cX4_drop 8 = .ok (.invokevirtual 124, 3) := by decide +kernel
theorem dX4_drop_11 : decode cX4_drop 11 = .ok (.ifCond .ne 5, 3) := by decide +kernel
theorem dX4_drop_14 : decode cX4_drop 14 = .ok (.iconst (-1), 1) := by decide +kernel
theorem dX4_drop_15 : decode cX4_drop 15 = .ok (.ireturn, 1) := by decide +kernel
theorem dX4_drop_16 : decode cX4_drop 16 = .ok (.aload_n 0, 1) := by decide +kernel
theorem dX4_drop_17 : decode cX4_drop 17 = .ok (.getfield 27, 3) := by decide +kernel
theorem dX4_drop_20 : decode cX4_drop 20 = .ok (.getfield 164, 3) := by decide +kernel
theorem dX4_drop_23 : decode cX4_drop 23 = .ok (.iload_n 1, 1) := by decide +kernel
theorem dX4_drop_24 : decode cX4_drop 24 = .ok (.ishr, 1) := by decide +kernel
theorem dX4_drop_25 : decode cX4_drop 25 = .ok (.iconst 1, 1) := by decide +kernel
theorem dX4_drop_26 : decode cX4_drop 26 = .ok (.iand, 1) := by decide +kernel
theorem dX4_drop_27 : decode cX4_drop 27 = .ok (.ifCond .ne 6, 3) := by decide +kernel
theorem dX4_drop_30 : decode cX4_drop 30 = .ok (.bipush (-4), 2) := by decide +kernel
theorem dX4_drop_32 : decode cX4_drop 32 = .ok (.ireturn, 1) := by decide +kernel
theorem dX4_drop_33 : decode cX4_drop 33 = .ok (.aload_n 0, 1) := by decide +kernel
theorem dX4_drop_34 : decode cX4_drop 34 = .ok (.getfield 27, 3) := by decide +kernel
theorem dX4_drop_37 : decode cX4_drop 37 = .ok (.iconst 1, 1) := by decide +kernel
theorem dX4_drop_38 : decode cX4_drop 38 = .ok (.invokevirtual 154, 3) := by decide +kernel
theorem dX4_drop_41 : decode cX4_drop 41 = .ok (.ifCond .ne 6, 3) := by decide +kernel
theorem dX4_drop_44 : decode cX4_drop 44 = .ok (.bipush (-2), 2) := by decide +kernel
theorem dX4_drop_46 : decode cX4_drop 46 = .ok (.ireturn, 1) := by decide +kernel
theorem dX4_drop_47 : decode cX4_drop 47 = .ok (.aload_n 0, 1) := by decide +kernel
theorem dX4_drop_48 : decode cX4_drop 48 = .ok (.getfield 27, 3) := by decide +kernel
theorem dX4_drop_51 : decode cX4_drop 51 = .ok (.bipush 16, 2) := by decide +kernel
theorem dX4_drop_53 : decode cX4_drop 53 = .ok (.iload_n 1, 1) := by decide +kernel
theorem dX4_drop_54 : decode cX4_drop 54 = .ok (.iadd, 1) := by decide +kernel
theorem dX4_drop_55 : decode cX4_drop 55 = .ok (.invokevirtual 157, 3) := by decide +kernel
theorem dX4_drop_58 : decode cX4_drop 58 = .ok (.aload_n 0, 1) := by decide +kernel
theorem dX4_drop_59 : decode cX4_drop 59 = .ok (.getfield 27, 3) := by decide +kernel
theorem dX4_drop_62 : decode cX4_drop 62 = .ok (.getfield 164, 3) := by decide +kernel
theorem dX4_drop_65 : decode cX4_drop 65 = .ok (.invokestatic 167, 3) := by decide +kernel
theorem dX4_drop_68 : decode cX4_drop 68 = .ok (.ireturn, 1) := by decide +kernel
theorem dX4_sweep_0 : decode cX4_sweep 0 = .ok (.aload_n 0, 1) := by decide +kernel
theorem dX4_sweep_1 : decode cX4_sweep 1 = .ok (.getfield 27, 3) := by decide +kernel
theorem dX4_sweep_4 : decode cX4_sweep 4 = .ok (.getfield 104, 3) := by decide +kernel
theorem dX4_sweep_7 : decode cX4_sweep 7 = .ok (.getfield 121, 3) := by decide +kernel
theorem dX4_sweep_10 : decode cX4_sweep 10 = .ok (.ifCond .ne 6, 3) := by decide +kernel
theorem dX4_sweep_13 : decode cX4_sweep 13 = .ok (.bipush (-4), 2) := by decide +kernel
theorem dX4_sweep_15 : decode cX4_sweep 15 = .ok (.ireturn, 1) := by decide +kernel
theorem dX4_sweep_16 : decode cX4_sweep 16 = .ok (.aload_n 0, 1) := by decide +kernel
theorem dX4_sweep_17 : decode cX4_sweep 17 = .ok (.getfield 27, 3) := by decide +kernel
theorem dX4_sweep_20 : decode cX4_sweep 20 = .ok (.iconst 1, 1) := by decide +kernel
theorem dX4_sweep_21 : decode cX4_sweep 21 = .ok (.invokevirtual 154, 3) := by decide +kernel
theorem dX4_sweep_24 : decode cX4_sweep 24 = .ok (.ifCond .ne 6, 3) := by decide +kernel
theorem dX4_sweep_27 : decode cX4_sweep 27 = .ok (.bipush (-2), 2) := by decide +kernel
theorem dX4_sweep_29 : decode cX4_sweep 29 = .ok (.ireturn, 1) := by decide +kernel
theorem dX4_sweep_30 : decode cX4_sweep 30 = .ok (.aload_n 0, 1) := by decide +kernel
theorem dX4_sweep_31 : decode cX4_sweep 31 = .ok (.getfield 27, 3) := by decide +kernel
theorem dX4_sweep_34 : decode cX4_sweep 34 = .ok (.invokevirtual 160, 3) := by decide +kernel
theorem dX4_sweep_37 : decode cX4_sweep 37 = .ok (.invokestatic 167, 3) := by decide +kernel
theorem dX4_sweep_40 : decode cX4_sweep 40 = .ok (.istore_n 1, 1) := by decide +kernel
theorem dX4_sweep_41 : decode cX4_sweep 41 = .ok (.aload_n 0, 1) := by decide +kernel
theorem dX4_sweep_42 : decode cX4_sweep 42 = .ok (.getfield 27, 3) := by decide +kernel
theorem dX4_sweep_45 : decode cX4_sweep 45 = .ok (.iconst 2, 1) := by decide +kernel
theorem dX4_sweep_46 : decode cX4_sweep 46 = .ok (.invokevirtual 157, 3) := by decide +kernel
theorem dX4_sweep_49 : decode cX4_sweep 49 = .ok (.iload_n 1, 1) := by decide +kernel
theorem dX4_sweep_50 : decode cX4_sweep 50 = .ok (.ireturn, 1) := by decide +kernel
theorem dX4_undo_0 : decode cX4_undo 0 = .ok (.aload_n 0, 1) := by decide +kernel
theorem dX4_undo_1 : decode cX4_undo 1 = .ok (.getfield 27, 3) := by decide +kernel
theorem dX4_undo_4 : decode cX4_undo 4 = .ok (.getfield 172, 3) := by decide +kernel
theorem dX4_undo_7 : decode cX4_undo 7 = .ok (.getfield 118, 3) := by decide +kernel
theorem dX4_undo_10 : decode cX4_undo 10 = .ok (.istore_n 2, 1) := by decide +kernel
theorem dX4_undo_11 : decode cX4_undo 11 = .ok (.iload_n 1, 1) := by decide +kernel
theorem dX4_undo_12 : decode cX4_undo 12 = .ok (.ifCond .lt 8, 3) := by decide +kernel
theorem dX4_undo_15 : decode cX4_undo 15 = .ok (.iload_n 1, 1) := by decide +kernel
theorem dX4_undo_16 : decode cX4_undo 16 = .ok (.iload_n 2, 1) := by decide +kernel
theorem dX4_undo_17 : decode cX4_undo 17 = .ok (.if_icmp .le 5, 3) := by decide +kernel
theorem dX4_undo_20 : decode cX4_undo 20 = .ok (.iconst (-1), 1) := by decide +kernel
theorem dX4_undo_21 : decode cX4_undo 21 = .ok (.ireturn, 1) := by decide +kernel
theorem dX4_undo_22 : decode cX4_undo 22 = .ok (.aload_n 0, 1) := by decide +kernel
theorem dX4_undo_23 : decode cX4_undo 23 = .ok (.getfield 27, 3) := by decide +kernel
theorem dX4_undo_26 : decode cX4_undo 26 = .ok (.iload_n 1, 1) := by decide +kernel
theorem dX4_undo_27 : decode cX4_undo 27 = .ok (.invokevirtual 114, 3) := by decide +kernel
theorem dX4_undo_30 : decode cX4_undo 30 = .ok (.iload_n 2, 1) := by decide +kernel
theorem dX4_undo_31 : decode cX4_undo 31 = .ok (.iload_n 1, 1) := by decide +kernel
theorem dX4_undo_32 : decode cX4_undo 32 = .ok (.isub, 1) := by decide +kernel
theorem dX4_undo_33 : decode cX4_undo 33 = .ok (.ireturn, 1) := by decide +kernel
theorem dX4_keptAt_0 : decode cX4_keptAt 0 = .ok (.iload_n 1, 1) := by decide +kernel
theorem dX4_keptAt_1 : decode cX4_keptAt 1 = .ok (.ifCond .lt 17, 3) := by decide +kernel
theorem dX4_keptAt_4 : decode cX4_keptAt 4 = .ok (.iload_n 1, 1) := by decide +kernel
theorem dX4_keptAt_5 : decode cX4_keptAt 5 = .ok (.iconst 3, 1) := by decide +kernel
theorem dX4_keptAt_6 : decode cX4_keptAt 6 = .ok (.if_icmp .ge 12, 3) := by decide +kernel
theorem dX4_keptAt_9 : decode cX4_keptAt 9 = .ok (.aload_n 0, 1) := by decide +kernel
theorem dX4_keptAt_10 : decode cX4_keptAt 10 = .ok (.getfield 20, 3) := by decide +kernel
theorem dX4_keptAt_13 : decode cX4_keptAt 13 = .ok (.iload_n 1, 1) := by decide +kernel
theorem dX4_keptAt_14 : decode cX4_keptAt 14 = .ok (.aaload, 1) := by decide +kernel
theorem dX4_keptAt_15 : decode cX4_keptAt 15 = .ok (.goto 4, 3) := by decide +kernel
theorem dX4_keptAt_18 : decode cX4_keptAt 18 = .ok (.aconst_null, 1) := by decide +kernel
theorem dX4_keptAt_19 : decode cX4_keptAt 19 = .ok (.areturn, 1) := by decide +kernel
theorem dX1_takeOver_0 : decode cX1_takeOver 0 = .ok (.aload_n 0, 1) := by decide +kernel
theorem dX1_takeOver_1 : decode cX1_takeOver 1 = .ok (.aload_n 1, 1) := by decide +kernel
theorem dX1_takeOver_2 : decode cX1_takeOver 2 = .ok (.getfield 9, 3) := by decide +kernel
theorem dX1_takeOver_5 : decode cX1_takeOver 5 = .ok (.putfield 9, 3) := by decide +kernel
theorem dX1_takeOver_8 : decode cX1_takeOver 8 = .ok (.iconst 0, 1) := by decide +kernel
theorem dX1_takeOver_9 : decode cX1_takeOver 9 = .ok (.istore_n 2, 1) := by decide +kernel
theorem dX1_takeOver_10 : decode cX1_takeOver 10 = .ok (.iload_n 2, 1) := by decide +kernel
theorem dX1_takeOver_11 : decode cX1_takeOver 11 = .ok (.bipush 40, 2) := by decide +kernel
theorem dX1_takeOver_13 : decode cX1_takeOver 13 = .ok (.if_icmp .ge 21, 3) := by decide +kernel
theorem dX1_takeOver_16 : decode cX1_takeOver 16 = .ok (.aload_n 0, 1) := by decide +kernel
theorem dX1_takeOver_17 : decode cX1_takeOver 17 = .ok (.getfield 15, 3) := by decide +kernel
theorem dX1_takeOver_20 : decode cX1_takeOver 20 = .ok (.iload_n 2, 1) := by decide +kernel
theorem dX1_takeOver_21 : decode cX1_takeOver 21 = .ok (.aload_n 1, 1) := by decide +kernel
theorem dX1_takeOver_22 : decode cX1_takeOver 22 = .ok (.getfield 15, 3) := by decide +kernel
theorem dX1_takeOver_25 : decode cX1_takeOver 25 = .ok (.iload_n 2, 1) := by decide +kernel
theorem dX1_takeOver_26 : decode cX1_takeOver 26 = .ok (.iaload, 1) := by decide +kernel
theorem dX1_takeOver_27 : decode cX1_takeOver 27 = .ok (.iastore, 1) := by decide +kernel
theorem dX1_takeOver_28 : decode cX1_takeOver 28 = .ok (.iinc 2 1, 3) := by decide +kernel
theorem dX1_takeOver_31 : decode cX1_takeOver 31 = .ok (.goto (-21), 3) := by decide +kernel
theorem dX1_takeOver_34 : decode cX1_takeOver 34 = .ok (.return_, 1) := by decide +kernel
theorem dX4_keep_0 : decode cX4_keep 0 = .ok (.aload_n 0, 1) := by decide +kernel
theorem dX4_keep_1 : decode cX4_keep 1 = .ok (.iload_n 1, 1) := by decide +kernel
theorem dX4_keep_2 : decode cX4_keep 2 = .ok (.invokevirtual 176, 3) := by decide +kernel
theorem dX4_keep_5 : decode cX4_keep 5 = .ok (.astore_n 2, 1) := by decide +kernel
theorem dX4_keep_6 : decode cX4_keep 6 = .ok (.aload_n 2, 1) := by decide +kernel
theorem dX4_keep_7 : decode cX4_keep 7 = .ok (.ifnonnull 5, 3) := by decide +kernel
theorem dX4_keep_10 : decode cX4_keep 10 = .ok (.iconst (-1), 1) := by decide +kernel
theorem dX4_keep_11 : decode cX4_keep 11 = .ok (.ireturn, 1) := by decide +kernel
theorem dX4_keep_12 : decode cX4_keep 12 = .ok (.aload_n 0, 1) := by decide +kernel
theorem dX4_keep_13 : decode cX4_keep 13 = .ok (.getfield 27, 3) := by decide +kernel
theorem dX4_keep_16 : decode cX4_keep 16 = .ok (.getfield 104, 3) := by decide +kernel
theorem dX4_keep_19 : decode cX4_keep 19 = .ok (.getfield 121, 3) := by decide +kernel
theorem dX4_keep_22 : decode cX4_keep 22 = .ok (.ifCond .ne 6, 3) := by decide +kernel
theorem dX4_keep_25 : decode cX4_keep 25 = .ok (.bipush (-4), 2) := by decide +kernel
theorem dX4_keep_27 : decode cX4_keep 27 = .ok (.ireturn, 1) := by decide +kernel
theorem dX4_keep_28 : decode cX4_keep 28 = .ok (.aload_n 2, 1) := by decide +kernel
theorem dX4_keep_29 : decode cX4_keep 29 = .ok (.aload_n 0, 1) := by decide +kernel
theorem dX4_keep_30 : decode cX4_keep 30 = .ok (.getfield 27, 3) := by decide +kernel
theorem dX4_keep_33 : decode cX4_keep 33 = .ok (.getfield 172, 3) := by decide +kernel
theorem dX4_keep_36 : decode cX4_keep 36 = .ok (.invokevirtual 180, 3) := by decide +kernel
theorem dX4_keep_39 : decode cX4_keep 39 = .ok (.aload_n 2, 1) := by decide +kernel
theorem dX4_keep_40 : decode cX4_keep 40 = .ok (.getfield 118, 3) := by decide +kernel
theorem dX4_keep_43 : decode cX4_keep 43 = .ok (.ireturn, 1) := by decide +kernel
theorem dX4_on_0 : decode cX4_on 0 = .ok (.aload_n 0, 1) := by decide +kernel
theorem dX4_on_1 : decode cX4_on 1 = .ok (.iload_n 1, 1) := by decide +kernel
theorem dX4_on_2 : decode cX4_on 2 = .ok (.invokevirtual 176, 3) := by decide +kernel
theorem dX4_on_5 : decode cX4_on 5 = .ok (.astore_n 2, 1) := by decide +kernel
theorem dX4_on_6 : decode cX4_on 6 = .ok (.aload_n 2, 1) := by decide +kernel
theorem dX4_on_7 : decode cX4_on 7 = .ok (.ifnonnull 5, 3) := by decide +kernel
theorem dX4_on_10 : decode cX4_on 10 = .ok (.iconst (-1), 1) := by decide +kernel
theorem dX4_on_11 : decode cX4_on 11 = .ok (.ireturn, 1) := by decide +kernel
theorem dX4_on_12 : decode cX4_on 12 = .ok (.aload_n 2, 1) := by decide +kernel
theorem dX4_on_13 : decode cX4_on 13 = .ok (.getfield 118, 3) := by decide +kernel
theorem dX4_on_16 : decode cX4_on 16 = .ok (.ifCond .ge 9, 3) := by decide +kernel
theorem dX4_on_19 : decode cX4_on 19 = .ok (.aload_n 0, 1) := by decide +kernel
theorem dX4_on_20 : decode cX4_on 20 = .ok (.iconst 1, 1) := by decide +kernel
theorem dX4_on_21 : decode cX4_on 21 = .ok (.invokevirtual 78, 3) := by decide +kernel
theorem dX4_on_24 : decode cX4_on 24 = .ok (.ireturn, 1) := by decide +kernel
theorem dX4_on_25 : decode cX4_on 25 = .ok (.aload_n 0, 1) := by decide +kernel
theorem dX4_on_26 : decode cX4_on 26 = .ok (.getfield 27, 3) := by decide +kernel
theorem dX4_on_29 : decode cX4_on 29 = .ok (.getfield 172, 3) := by decide +kernel
theorem dX4_on_32 : decode cX4_on 32 = .ok (.aload_n 2, 1) := by decide +kernel
theorem dX4_on_33 : decode cX4_on 33 = .ok (.invokevirtual 180, 3) := by decide +kernel
theorem dX4_on_36 : decode cX4_on 36 = .ok (.aload_n 0, 1) := by decide +kernel
theorem dX4_on_37 : decode cX4_on 37 = .ok (.getfield 27, 3) := by decide +kernel
theorem dX4_on_40 : decode cX4_on 40 = .ok (.aload_n 2, 1) := by decide +kernel
theorem dX4_on_41 : decode cX4_on 41 = .ok (.getfield 118, 3) := by decide +kernel
theorem dX4_on_44 : decode cX4_on 44 = .ok (.invokevirtual 114, 3) := by decide +kernel
theorem dX4_on_47 : decode cX4_on 47 = .ok (.aload_n 2, 1) := by decide +kernel
theorem dX4_on_48 : decode cX4_on 48 = .ok (.getfield 118, 3) := by decide +kernel
theorem dX4_on_51 : decode cX4_on 51 = .ok (.ireturn, 1) := by decide +kernel
theorem dX4_busy_0 : decode cX4_busy 0 = .ok (.aload_n 0, 1) := by decide +kernel
theorem dX4_busy_1 : decode cX4_busy 1 = .ok (.getfield 27, 3) := by decide +kernel
theorem dX4_busy_4 : decode cX4_busy 4 = .ok (.getfield 104, 3) := by decide +kernel
theorem dX4_busy_7 : decode cX4_busy 7 = .ok (.astore_n 1, 1) := by decide +kernel
theorem dX4_busy_8 : decode cX4_busy 8 = .ok (.iconst 0, 1) := by decide +kernel
theorem dX4_busy_9 : decode cX4_busy 9 = .ok (.istore_n 2, 1) := by decide +kernel
theorem dX4_busy_10 : decode cX4_busy 10 = .ok (.iconst 0, 1) := by decide +kernel
theorem dX4_busy_11 : decode cX4_busy 11 = .ok (.istore_n 3, 1) := by decide +kernel
theorem dX4_busy_12 : decode cX4_busy 12 = .ok (.iconst 0, 1) := by decide +kernel
theorem dX4_busy_13 : decode cX4_busy 13 = .ok (.istore 4, 2) := by decide +kernel
theorem dX4_busy_15 : decode cX4_busy 15 = .ok (.iload 4, 2) := by decide +kernel
theorem dX4_busy_17 : decode cX4_busy 17 = .ok (.aload_n 1, 1) := by decide +kernel
theorem dX4_busy_18 : decode cX4_busy 18 = .ok (.getfield 121, 3) := by decide +kernel
theorem dX4_busy_21 : decode cX4_busy 21 = .ok (.if_icmp .ge 46, 3) := by decide +kernel
theorem dX4_busy_24 : decode cX4_busy 24 = .ok (.aload_n 0, 1) := by decide +kernel
theorem dX4_busy_25 : decode cX4_busy 25 = .ok (.getfield 27, 3) := by decide +kernel
theorem dX4_busy_28 : decode cX4_busy 28 = .ok (.getfield 164, 3) := by decide +kernel
theorem dX4_busy_31 : decode cX4_busy 31 = .ok (.iload 4, 2) := by decide +kernel
theorem dX4_busy_33 : decode cX4_busy 33 = .ok (.ishr, 1) := by decide +kernel
theorem dX4_busy_34 : decode cX4_busy 34 = .ok (.iconst 1, 1) := by decide +kernel
theorem dX4_busy_35 : decode cX4_busy 35 = .ok (.iand, 1) := by decide +kernel
theorem dX4_busy_36 : decode cX4_busy 36 = .ok (.ifCond .eq 25, 3) := by decide +kernel
theorem dX4_busy_39 : decode cX4_busy 39 = .ok (.iload_n 3, 1) := by decide +kernel
theorem dX4_busy_40 : decode cX4_busy 40 = .ok (.iload_n 2, 1) := by decide +kernel
theorem dX4_busy_41 : decode cX4_busy 41 = .ok (.aload_n 1, 1) := by decide +kernel
theorem dX4_busy_42 : decode cX4_busy 42 = .ok (.getfield 184, 3) := by decide +kernel
theorem dX4_busy_45 : decode cX4_busy 45 = .ok (.iload 4, 2) := by decide +kernel
theorem dX4_busy_47 : decode cX4_busy 47 = .ok (.iaload, 1) := by decide +kernel
theorem dX4_busy_48 : decode cX4_busy 48 = .ok (.iand, 1) := by decide +kernel
theorem dX4_busy_49 : decode cX4_busy 49 = .ok (.ior, 1) := by decide +kernel
theorem dX4_busy_50 : decode cX4_busy 50 = .ok (.istore_n 3, 1) := by decide +kernel
theorem dX4_busy_51 : decode cX4_busy 51 = .ok (.iload_n 2, 1) := by decide +kernel
theorem dX4_busy_52 : decode cX4_busy 52 = .ok (.aload_n 1, 1) := by decide +kernel
theorem dX4_busy_53 : decode cX4_busy 53 = .ok (.getfield 184, 3) := by decide +kernel
theorem dX4_busy_56 : decode cX4_busy 56 = .ok (.iload 4, 2) := by decide +kernel
theorem dX4_busy_58 : decode cX4_busy 58 = .ok (.iaload, 1) := by decide +kernel
theorem dX4_busy_59 : decode cX4_busy 59 = .ok (.ior, 1) := by decide +kernel
theorem dX4_busy_60 : decode cX4_busy 60 = .ok (.istore_n 2, 1) := by decide +kernel
theorem dX4_busy_61 : decode cX4_busy 61 = .ok (.iinc 4 1, 3) := by decide +kernel
theorem dX4_busy_64 : decode cX4_busy 64 = .ok (.goto (-49), 3) := by decide +kernel
theorem dX4_busy_67 : decode cX4_busy 67 = .ok (.aload_n 0, 1) := by decide +kernel
theorem dX4_busy_68 : decode cX4_busy 68 = .ok (.iload_n 3, 1) := by decide +kernel
theorem dX4_busy_69 : decode cX4_busy 69 = .ok (.putfield 39, 3) := by decide +kernel
theorem dX4_busy_72 : decode cX4_busy 72 = .ok (.iload_n 2, 1) := by decide +kernel
theorem dX4_busy_73 : decode cX4_busy 73 = .ok (.ireturn, 1) := by decide +kernel
theorem dX2_isSet_0 : decode cX2_isSet 0 = .ok (.iload_n 0, 1) := by decide +kernel
theorem dX2_isSet_1 : decode cX2_isSet 1 = .ok (.ifCond .lt 14, 3) := by decide +kernel
theorem dX2_isSet_4 : decode cX2_isSet 4 = .ok (.iload_n 0, 1) := by decide +kernel
theorem dX2_isSet_5 : decode cX2_isSet 5 = .ok (.sipush 256, 3) := by decide +kernel
theorem dX2_isSet_8 : decode cX2_isSet 8 = .ok (.if_icmp .ge 7, 3) := by decide +kernel
theorem dX2_isSet_11 : decode cX2_isSet 11 = .ok (.iconst 1, 1) := by decide +kernel
theorem dX2_isSet_12 : decode cX2_isSet 12 = .ok (.goto 4, 3) := by decide +kernel
theorem dX2_isSet_15 : decode cX2_isSet 15 = .ok (.iconst 0, 1) := by decide +kernel
theorem dX2_isSet_16 : decode cX2_isSet 16 = .ok (.ireturn, 1) := by decide +kernel
theorem dX2_sumOf_0 : decode cX2_sumOf 0 = .ok (.iload_n 1, 1) := by decide +kernel
theorem dX2_sumOf_1 : decode cX2_sumOf 1 = .ok (.invokestatic 50, 3) := by decide +kernel
theorem dX2_sumOf_4 : decode cX2_sumOf 4 = .ok (.ifCond .eq 12, 3) := by decide +kernel
theorem dX2_sumOf_7 : decode cX2_sumOf 7 = .ok (.aload_n 0, 1) := by decide +kernel
theorem dX2_sumOf_8 : decode cX2_sumOf 8 = .ok (.getfield 40, 3) := by decide +kernel
theorem dX2_sumOf_11 : decode cX2_sumOf 11 = .ok (.iload_n 1, 1) := by decide +kernel
theorem dX2_sumOf_12 : decode cX2_sumOf 12 = .ok (.iaload, 1) := by decide +kernel
theorem dX2_sumOf_13 : decode cX2_sumOf 13 = .ok (.goto 4, 3) := by decide +kernel
theorem dX2_sumOf_16 : decode cX2_sumOf 16 = .ok (.iconst 0, 1) := by decide +kernel
theorem dX2_sumOf_17 : decode cX2_sumOf 17 = .ok (.ireturn, 1) := by decide +kernel
theorem dX4_clashes_0 : decode cX4_clashes 0 = .ok (.aload_n 0, 1) := by decide +kernel
theorem dX4_clashes_1 : decode cX4_clashes 1 = .ok (.getfield 27, 3) := by decide +kernel
theorem dX4_clashes_4 : decode cX4_clashes 4 = .ok (.getfield 104, 3) := by decide +kernel
theorem dX4_clashes_7 : decode cX4_clashes 7 = .ok (.astore_n 1, 1) := by decide +kernel
theorem dX4_clashes_8 : decode cX4_clashes 8 = .ok (.iconst 0, 1) := by decide +kernel
theorem dX4_clashes_9 : decode cX4_clashes 9 = .ok (.istore_n 2, 1) := by decide +kernel
theorem dX4_clashes_10 : decode cX4_clashes 10 = .ok (.iconst 0, 1) := by decide +kernel
theorem dX4_clashes_11 : decode cX4_clashes 11 = .ok (.istore_n 3, 1) := by decide +kernel
theorem dX4_clashes_12 : decode cX4_clashes 12 = .ok (.iload_n 3, 1) := by decide +kernel
theorem dX4_clashes_13 : decode cX4_clashes 13 = .ok (.aload_n 1, 1) := by decide +kernel
theorem dX4_clashes_14 : decode cX4_clashes 14 = .ok (.getfield 121, 3) := by decide +kernel
theorem dX4_clashes_17 : decode cX4_clashes 17 = .ok (.if_icmp .ge 59, 3) := by decide +kernel
theorem dX4_clashes_20 : decode cX4_clashes 20 = .ok (.aload_n 0, 1) := by decide +kernel
theorem dX4_clashes_21 : decode cX4_clashes 21 = .ok (.getfield 27, 3) := by decide +kernel
theorem dX4_clashes_24 : decode cX4_clashes 24 = .ok (.getfield 164, 3) := by decide +kernel
theorem dX4_clashes_27 : decode cX4_clashes 27 = .ok (.iload_n 3, 1) := by decide +kernel
theorem dX4_clashes_28 : decode cX4_clashes 28 = .ok (.ishr, 1) := by decide +kernel
theorem dX4_clashes_29 : decode cX4_clashes 29 = .ok (.iconst 1, 1) := by decide +kernel
theorem dX4_clashes_30 : decode cX4_clashes 30 = .ok (.iand, 1) := by decide +kernel
theorem dX4_clashes_31 : decode cX4_clashes 31 = .ok (.ifCond .eq 39, 3) := by decide +kernel
theorem dX4_clashes_34 : decode cX4_clashes 34 = .ok (.aload_n 0, 1) := by decide +kernel
theorem dX4_clashes_35 : decode cX4_clashes 35 = .ok (.getfield 27, 3) := by decide +kernel
theorem dX4_clashes_38 : decode cX4_clashes 38 = .ok (.getfield 164, 3) := by decide +kernel
theorem dX4_clashes_41 : decode cX4_clashes 41 = .ok (.iconst 1, 1) := by decide +kernel
theorem dX4_clashes_42 : decode cX4_clashes 42 = .ok (.iload_n 3, 1) := by decide +kernel
theorem dX4_clashes_43 : decode cX4_clashes 43 = .ok (.ishl, 1) := by decide +kernel
theorem dX4_clashes_44 : decode cX4_clashes 44 = .ok (.iconst 1, 1) := by decide +kernel
theorem dX4_clashes_45 : decode cX4_clashes 45 = .ok (.isub, 1) := by decide +kernel
theorem dX4_clashes_46 : decode cX4_clashes 46 = .ok (.iand, 1) := by decide +kernel
theorem dX4_clashes_47 : decode cX4_clashes 47 = .ok (.istore 4, 2) := by decide +kernel
theorem dX4_clashes_49 : decode cX4_clashes 49 = .ok (.iload_n 2, 1) := by decide +kernel
theorem dX4_clashes_50 : decode cX4_clashes 50 = .ok (.iload 4, 2) := by decide +kernel
theorem dX4_clashes_52 : decode cX4_clashes 52 = .ok (.aload_n 1, 1) := by decide +kernel
theorem dX4_clashes_53 : decode cX4_clashes 53 = .ok (.aload_n 1, 1) := by decide +kernel
theorem dX4_clashes_54 : decode cX4_clashes 54 = .ok (.getfield 184, 3) := by decide +kernel
theorem dX4_clashes_57 : decode cX4_clashes 57 = .ok (.iload_n 3, 1) := by decide +kernel
theorem dX4_clashes_58 : decode cX4_clashes 58 = .ok (.iaload, 1) := by decide +kernel
theorem dX4_clashes_59 : decode cX4_clashes 59 = .ok (.invokevirtual 187, 3) := by decide +kernel
theorem dX4_clashes_62 : decode cX4_clashes 62 = .ok (.iconst (-1), 1) := by decide +kernel
theorem dX4_clashes_63 : decode cX4_clashes 63 = .ok (.ixor, 1) := by decide +kernel
theorem dX4_clashes_64 : decode cX4_clashes 64 = .ok (.iand, 1) := by decide +kernel
theorem dX4_clashes_65 : decode cX4_clashes 65 = .ok (.invokestatic 167, 3) := by decide +kernel
theorem dX4_clashes_68 : decode cX4_clashes 68 = .ok (.iadd, 1) := by decide +kernel
theorem dX4_clashes_69 : decode cX4_clashes 69 = .ok (.istore_n 2, 1) := by decide +kernel
theorem dX4_clashes_70 : decode cX4_clashes 70 = .ok (.iinc 3 1, 3) := by decide +kernel
theorem dX4_clashes_73 : decode cX4_clashes 73 = .ok (.goto (-61), 3) := by decide +kernel
theorem dX4_clashes_76 : decode cX4_clashes 76 = .ok (.aload_n 0, 1) := by decide +kernel
theorem dX4_clashes_77 : decode cX4_clashes 77 = .ok (.aload_n 1, 1) := by decide +kernel
theorem dX4_clashes_78 : decode cX4_clashes 78 = .ok (.aload_n 0, 1) := by decide +kernel
theorem dX4_clashes_79 : decode cX4_clashes 79 = .ok (.getfield 27, 3) := by decide +kernel
theorem dX4_clashes_82 : decode cX4_clashes 82 = .ok (.getfield 164, 3) := by decide +kernel
theorem dX4_clashes_85 : decode cX4_clashes 85 = .ok (.invokevirtual 190, 3) := by decide +kernel
theorem dX4_clashes_88 : decode cX4_clashes 88 = .ok (.putfield 39, 3) := by decide +kernel
theorem dX4_clashes_91 : decode cX4_clashes 91 = .ok (.iload_n 2, 1) := by decide +kernel
theorem dX4_clashes_92 : decode cX4_clashes 92 = .ok (.ireturn, 1) := by decide +kernel
theorem dX2_isApart_0 : decode cX2_isApart 0 = .ok (.iload_n 1, 1) := by decide +kernel
theorem dX2_isApart_1 : decode cX2_isApart 1 = .ok (.invokestatic 50, 3) := by decide +kernel
theorem dX2_isApart_4 : decode cX2_isApart 4 = .ok (.ifCond .eq 16, 3) := by decide +kernel
theorem dX2_isApart_7 : decode cX2_isApart 7 = .ok (.aload_n 0, 1) := by decide +kernel
theorem dX2_isApart_8 : decode cX2_isApart 8 = .ok (.getfield 43, 3) := by decide +kernel
theorem dX2_isApart_11 : decode cX2_isApart 11 = .ok (.iload_n 1, 1) := by decide +kernel
theorem dX2_isApart_12 : decode cX2_isApart 12 = .ok (.baload, 1) := by decide +kernel
theorem dX2_isApart_13 : decode cX2_isApart 13 = .ok (.ifCond .eq 7, 3) := by decide +kernel
theorem dX2_isApart_16 : decode cX2_isApart 16 = .ok (.iconst 1, 1) := by decide +kernel
theorem dX2_isApart_17 : decode cX2_isApart 17 = .ok (.goto 4, 3) := by decide +kernel
theorem dX2_isApart_20 : decode cX2_isApart 20 = .ok (.iconst 0, 1) := by decide +kernel
theorem dX2_isApart_21 : decode cX2_isApart 21 = .ok (.ireturn, 1) := by decide +kernel
def f3_lying (M : Mem) : Option (Int32) :=
    (f2_all M).bind fun r2 =>
    (some ((r2 &&& ((M.1 33 3) ^^^ (-1 : Int32))) &&& ((M.1 33 4) ^^^ (-1 : Int32))))
set_option maxHeartbeats 4000000 in
set_option maxRecDepth 10000 in
theorem w3_lying {ad : Nat → Nat} {X : XX} {R : Int32} {M : Mem} (h : Cx layC ad X cX3_lying RX3 1 2 (some .int) M (some (.int R)))  (hF : f3_lying M = some R) : Wp layC ad X M 0 [(0, .ref (ad 33))] [] := by
  unfold f3_lying at hF
  refine R_aload_n (pc := 0) h 0 rfl rfl dX3_lying_0 ?_
  refine R_getR (pc := 1) (q1 := 35) h flX3_12 lc_33 rfl dX3_lying_1 ?_
  obtain ⟨r2, hc1, hF⟩ := bd hF
  refine R_callV (pc := 4) (st := []) h [] cvX3_42 (c2_all (ad := ad) (z := X.1) hc1) rfl rfl lc_35 (by decide) (by decide) (Nat.le_of_ble_eq_true rfl) dX3_lying_4 (st1 := [.int r2]) rfl ?_
  refine R_aload_n (pc := 7) h 0 rfl rfl dX3_lying_7 ?_
  refine R_getI (pc := 8) h flX3_29 lc_33 rfl dX3_lying_8 ?_
  refine R_iconst (pc := 11) (v := (-1)) h (by decide) dX3_lying_11 ?_
  refine R_ixor (pc := 12) h dX3_lying_12 ?_
  refine R_iand (pc := 13) h dX3_lying_13 ?_
  refine R_aload_n (pc := 14) h 0 rfl rfl dX3_lying_14 ?_
  refine R_getI (pc := 15) h flX3_32 lc_33 rfl dX3_lying_15 ?_
  refine R_iconst (pc := 18) (v := (-1)) h (by decide) dX3_lying_18 ?_
  refine R_ixor (pc := 19) h dX3_lying_19 ?_
  refine R_iand (pc := 20) h dX3_lying_20 ?_
  cases hF
  exact R_ireturn (pc := 21) h rfl rfl rfl dX3_lying_21
theorem c3_lying {ad : Nat → Nat} {z : ZZ} {R : Int32} {M : Mem}  (hF : f3_lying M = some R) : Con layC ad z yX3_lying cX3_lying 1 (some .int) 2 M [.ref (ad 33)] (M) (some (.int R)) := con_of (own := RX3) (lv := [(0, .ref (ad 33))]) (by decide +kernel) rfl (Nat.le_of_ble_eq_true rfl) rfl (fun X hz h => w3_lying h hF)
def f3_lyingHere_4 (M : Mem) (fu : Nat) : Nat → Int32 → Int32 → Option (Int32)
  | 0 => fun _ _ => none
  | f + 1 => fun x1 x2 =>
    if (M.1 35 0) ≤ x2 then ((f3_lying M).bind fun r3 =>
    (some (x1 &&& r3)))
    else ((rd M 34 8 x2).bind fun v4 =>
    if v4 = (M.1 33 2) then (nm (x1 ||| ((1 : Int32) <<< (x2 &&& 31))) fun v6 =>
    nm (x2 + (1 : Int32)) fun v7 =>
    ((f3_lyingHere_4 M fu f) v6 v7))
    else (nm (x2 + (1 : Int32)) fun v8 =>
    ((f3_lyingHere_4 M fu f) x1 v8)))
set_option maxHeartbeats 4000000 in
set_option maxRecDepth 10000 in
theorem w3_lyingHerei_4 {ad : Nat → Nat} {X : XX} {R : Int32} {M : Mem} {fu : Nat}  (h : Cx layC ad X cX3_lyingHere RX3 3 3 (some .int) M (some (.int R)))  : ∀ (f : Nat) (x1 : Int32) (x2 : Int32), f3_lyingHere_4 M fu f x1 x2 = some R → Wp layC ad X M 4 [(0, .ref (ad 33)), (1, .int x1), (2, .int x2)] [] := by
  intro f
  induction f with
  | zero => intro x1 x2 hF; exact absurd hF (by simp [f3_lyingHere_4])
  | succ f ih =>
    intro x1 x2 hF
    rw [f3_lyingHere_4] at hF
    refine R_iload_n (pc := 4) h 2 rfl rfl dX3_lyingHere_4 ?_
    refine R_aload_n (pc := 5) h 0 rfl rfl dX3_lyingHere_5 ?_
    refine R_getR (pc := 6) (q1 := 35) h flX3_12 lc_33 rfl dX3_lyingHere_6 ?_
    refine R_getI (pc := 9) h flX3_46 lc_35 rfl dX3_lyingHere_9 ?_
    refine R_icmp_ge (pc := 12) (tgt := 40) h dX3_lyingHere_12 (by decide) (fun c1 => ?_) (fun c1 => ?_)
    · have hF := itp c1 hF
      refine R_iload_n (pc := 40) h 1 rfl rfl dX3_lyingHere_40 ?_
      refine R_aload_n (pc := 41) h 0 rfl rfl dX3_lyingHere_41 ?_
      obtain ⟨r3, hc2, hF⟩ := bd hF
      refine R_callV (pc := 42) (st := [.int x1]) h [] cvX3_49 (c3_lying (ad := ad) (z := X.1) hc2) rfl rfl lc_33 (by decide) (by decide) (Nat.le_of_ble_eq_true rfl) dX3_lyingHere_42 (st1 := [.int r3, .int x1]) rfl ?_
      refine R_iand (pc := 45) h dX3_lyingHere_45 ?_
      cases hF
      exact R_ireturn (pc := 46) h rfl rfl rfl dX3_lyingHere_46
    · have hF := ifn c1 hF
      refine R_aload_n (pc := 15) h 0 rfl rfl dX3_lyingHere_15 ?_
      refine R_getR (pc := 16) (q1 := 34) h flX3_35 lc_33 rfl dX3_lyingHere_16 ?_
      refine R_iload_n (pc := 19) h 2 rfl rfl dX3_lyingHere_19 ?_
      obtain ⟨v4, hv4, hF⟩ := bd hF
      refine R_iald (pc := 20) h hv4 lc_34 dX3_lyingHere_20 ?_
      refine R_aload_n (pc := 21) h 0 rfl rfl dX3_lyingHere_21 ?_
      refine R_getI (pc := 22) h flX3_25 lc_33 rfl dX3_lyingHere_22 ?_
      refine R_icmp_ne (pc := 25) (tgt := 34) h dX3_lyingHere_25 (by decide) (fun c5 => ?_) (fun c5 => ?_)
      · have hF := ifn c5 hF
        obtain ⟨v8, hv8, hF⟩ := nm_e2 hF
        refine R_iinc (pc := 34) (lv' := [(2, .int v8), (0, .ref (ad 33)), (1, .int x1)]) h 2 rfl (by decide) hv8 (by decide) rfl dX3_lyingHere_34 ?_
        refine R_goto (pc := 37) (tgt := 4) h dX3_lyingHere_37 (by decide) ?_
        exact Wp_sub (nX := 0) (lv' := [(0, .ref (ad 33)), (1, .int x1), (2, .int v8)]) [1, 2, 0] rfl (ih _ _ hF)
      · have hF := itp c5 hF
        refine R_iload_n (pc := 28) h 1 rfl rfl dX3_lyingHere_28 ?_
        refine R_iconst (pc := 29) (v := 1) h (by decide) dX3_lyingHere_29 ?_
        refine R_iload_n (pc := 30) h 2 rfl rfl dX3_lyingHere_30 ?_
        refine R_ishl (pc := 31) h dX3_lyingHere_31 ?_
        refine R_ior (pc := 32) h dX3_lyingHere_32 ?_
        obtain ⟨v6, hv6, hF⟩ := nm_e2 hF
        refine R_istore_n (pc := 33) (lv' := [(1, .int v6), (0, .ref (ad 33)), (2, .int x2)]) h hv6 rfl (by decide) rfl dX3_lyingHere_33 ?_
        obtain ⟨v7, hv7, hF⟩ := nm_e2 hF
        refine R_iinc (pc := 34) (lv' := [(2, .int v7), (1, .int v6), (0, .ref (ad 33))]) h 2 rfl (by decide) hv7 (by decide) rfl dX3_lyingHere_34 ?_
        refine R_goto (pc := 37) (tgt := 4) h dX3_lyingHere_37 (by decide) ?_
        exact Wp_sub (nX := 0) (lv' := [(0, .ref (ad 33)), (1, .int v6), (2, .int v7)]) [2, 1, 0] rfl (ih _ _ hF)
theorem w3_lyingHere_4 {ad : Nat → Nat} {X : XX} {R : Int32} {M : Mem} {fu : Nat}  (h : Cx layC ad X cX3_lyingHere RX3 3 3 (some .int) M (some (.int R)))  {f : Nat} {x1 : Int32} {x2 : Int32} (hF : f3_lyingHere_4 M fu f x1 x2 = some R) : Wp layC ad X M 4 [(0, .ref (ad 33)), (1, .int x1), (2, .int x2)] [] := w3_lyingHerei_4 h  f _ _ hF
def f3_lyingHere (M : Mem) (fu : Nat) : Option (Int32) :=
    (f3_lyingHere_4 M fu fu (0 : Int32) (0 : Int32))
set_option maxHeartbeats 4000000 in
set_option maxRecDepth 10000 in
theorem w3_lyingHere {ad : Nat → Nat} {X : XX} {R : Int32} {M : Mem} {fu : Nat} (h : Cx layC ad X cX3_lyingHere RX3 3 3 (some .int) M (some (.int R)))  (hF : f3_lyingHere M fu = some R) : Wp layC ad X M 0 [(0, .ref (ad 33))] [] := by
  unfold f3_lyingHere at hF
  refine R_iconst (pc := 0) (v := 0) h (by decide) dX3_lyingHere_0 ?_
  refine R_istore_n (pc := 1) (lv' := [(1, .int (0 : Int32)), (0, .ref (ad 33))]) h rfl rfl (by decide) rfl dX3_lyingHere_1 ?_
  refine R_iconst (pc := 2) (v := 0) h (by decide) dX3_lyingHere_2 ?_
  refine R_istore_n (pc := 3) (lv' := [(2, .int (0 : Int32)), (1, .int (0 : Int32)), (0, .ref (ad 33))]) h rfl rfl (by decide) rfl dX3_lyingHere_3 ?_
  exact Wp_sub (nX := 0) (lv' := [(0, .ref (ad 33)), (1, .int (0 : Int32)), (2, .int (0 : Int32))]) [2, 1, 0] rfl (w3_lyingHere_4 h  (hF := hF))
theorem c3_lyingHere {ad : Nat → Nat} {z : ZZ} {R : Int32} {M : Mem} {fu : Nat}  (hF : f3_lyingHere M fu = some R) : Con layC ad z yX3_lyingHere cX3_lyingHere 3 (some .int) 3 M [.ref (ad 33)] (M) (some (.int R)) := con_of (own := RX3) (lv := [(0, .ref (ad 33))]) (by decide +kernel) rfl (Nat.le_of_ble_eq_true rfl) rfl (fun X hz h => w3_lyingHere h hF)
def f3_change (fu : Nat) (x1 : Int32) (M : Mem) : Option (Mem) :=
    if x1 = 0 then (nm (sI M 33 2 ((M.1 33 2) + (1 : Int32))) fun M2 =>
    (some M2))
    else (if x1 = (1 : Int32) then (nm (sI M 33 2 ((M.1 33 2) - (1 : Int32))) fun M4 =>
    (some M4))
    else (if x1 = (2 : Int32) then ((f3_lyingHere M fu).bind fun r7 =>
    nm (sI M 33 4 ((M.1 33 4) ||| r7)) fun M8 =>
    (some M8))
    else ((f2_has M (x1 - (8 : Int32))).bind fun r10 =>
    if r10 = 0 then ((f2_has M (x1 - (16 : Int32))).bind fun r13 =>
    if r13 = 0 then ((some M))
    else (nm (sI M 33 3 ((M.1 33 3) &&& (((1 : Int32) <<< ((x1 - (16 : Int32)) &&& 31)) ^^^ (-1 : Int32)))) fun M15 =>
    (wr M15 34 8 (x1 - (16 : Int32)) (M15.1 33 2)).bind fun M16 =>
    (some M16)))
    else (nm (sI M 33 3 ((M.1 33 3) ||| ((1 : Int32) <<< ((x1 - (8 : Int32)) &&& 31)))) fun M17 =>
    (some M17)))))
set_option maxHeartbeats 4000000 in
set_option maxRecDepth 10000 in
theorem w3_change {ad : Nat → Nat} {X : XX} {R : Mem} {fu : Nat} (h : Cx layC ad X cX3_change RX3 2 4 none (R) none) {x1 : Int32} {M : Mem} (hF : f3_change fu x1 M = some R) : Wp layC ad X M 0 [(0, .ref (ad 33)), (1, .int x1)] [] := by
  unfold f3_change at hF
  refine R_iload_n (pc := 0) h 1 rfl rfl dX3_change_0 ?_
  refine R_if_ne (pc := 1) (tgt := 17) h dX3_change_1 (by decide) (fun c1 => ?_) (fun c1 => ?_)
  · have hF := ifn c1 hF
    refine R_iload_n (pc := 17) h 1 rfl rfl dX3_change_17 ?_
    refine R_iconst (pc := 18) (v := 1) h (by decide) dX3_change_18 ?_
    refine R_icmp_ne (pc := 19) (tgt := 35) h dX3_change_19 (by decide) (fun c3 => ?_) (fun c3 => ?_)
    · have hF := ifn c3 hF
      refine R_iload_n (pc := 35) h 1 rfl rfl dX3_change_35 ?_
      refine R_iconst (pc := 36) (v := 2) h (by decide) dX3_change_36 ?_
      refine R_icmp_ne (pc := 37) (tgt := 56) h dX3_change_37 (by decide) (fun c5 => ?_) (fun c5 => ?_)
      · have hF := ifn c5 hF
        refine R_aload_n (pc := 56) h 0 rfl rfl dX3_change_56 ?_
        refine R_getR (pc := 57) (q1 := 35) h flX3_12 lc_33 rfl dX3_change_57 ?_
        refine R_iload_n (pc := 60) h 1 rfl rfl dX3_change_60 ?_
        refine R_bipush (pc := 61) (v := 8) h (by decide) dX3_change_61 ?_
        refine R_isub (pc := 63) h dX3_change_63 ?_
        obtain ⟨r10, hc9, hF⟩ := bd hF
        refine R_callV (pc := 64) (st := []) h [.int (x1 - (8 : Int32))] cvX3_64 (c2_has (ad := ad) (z := X.1) hc9) rfl rfl lc_35 (by decide) (by decide) (Nat.le_of_ble_eq_true rfl) dX3_change_64 (st1 := [.int r10]) rfl ?_
        refine R_if_eq (pc := 67) (tgt := 88) h dX3_change_67 (by decide) (fun c11 => ?_) (fun c11 => ?_)
        · have hF := itp c11 hF
          refine R_aload_n (pc := 88) h 0 rfl rfl dX3_change_88 ?_
          refine R_getR (pc := 89) (q1 := 35) h flX3_12 lc_33 rfl dX3_change_89 ?_
          refine R_iload_n (pc := 92) h 1 rfl rfl dX3_change_92 ?_
          refine R_bipush (pc := 93) (v := 16) h (by decide) dX3_change_93 ?_
          refine R_isub (pc := 95) h dX3_change_95 ?_
          obtain ⟨r13, hc12, hF⟩ := bd hF
          refine R_callV (pc := 96) (st := []) h [.int (x1 - (16 : Int32))] cvX3_64 (c2_has (ad := ad) (z := X.1) hc12) rfl rfl lc_35 (by decide) (by decide) (Nat.le_of_ble_eq_true rfl) dX3_change_96 (st1 := [.int r13]) rfl ?_
          refine R_if_eq (pc := 99) (tgt := 132) h dX3_change_99 (by decide) (fun c14 => ?_) (fun c14 => ?_)
          · have hF := itp c14 hF
            cases hF
            exact R_return (pc := 132) h rfl rfl rfl dX3_change_132
          · have hF := ifn c14 hF
            refine R_aload_n (pc := 102) h 0 rfl rfl dX3_change_102 ?_
            refine R_dup (pc := 103) h rfl dX3_change_103 ?_
            refine R_getI (pc := 104) h flX3_29 lc_33 rfl dX3_change_104 ?_
            refine R_iconst (pc := 107) (v := 1) h (by decide) dX3_change_107 ?_
            refine R_iload_n (pc := 108) h 1 rfl rfl dX3_change_108 ?_
            refine R_bipush (pc := 109) (v := 16) h (by decide) dX3_change_109 ?_
            refine R_isub (pc := 111) h dX3_change_111 ?_
            refine R_ishl (pc := 112) h dX3_change_112 ?_
            refine R_iconst (pc := 113) (v := (-1)) h (by decide) dX3_change_113 ?_
            refine R_ixor (pc := 114) h dX3_change_114 ?_
            refine R_iand (pc := 115) h dX3_change_115 ?_
            obtain ⟨M15, hM15, hF⟩ := nm_e2 hF
            refine R_putI (pc := 116) h hM15 fpX3_29 lc_33 rfl dX3_change_116 ?_
            refine R_aload_n (pc := 119) h 0 rfl rfl dX3_change_119 ?_
            refine R_getR (pc := 120) (q1 := 34) h flX3_35 lc_33 rfl dX3_change_120 ?_
            refine R_iload_n (pc := 123) h 1 rfl rfl dX3_change_123 ?_
            refine R_bipush (pc := 124) (v := 16) h (by decide) dX3_change_124 ?_
            refine R_isub (pc := 126) h dX3_change_126 ?_
            refine R_aload_n (pc := 127) h 0 rfl rfl dX3_change_127 ?_
            refine R_getI (pc := 128) h flX3_25 lc_33 rfl dX3_change_128 ?_
            obtain ⟨M16, hM16, hF⟩ := bd hF
            refine R_iast (pc := 131) h hM16 lc_34 dX3_change_131 ?_
            cases hF
            exact R_return (pc := 132) h rfl rfl rfl dX3_change_132
        · have hF := ifn c11 hF
          refine R_aload_n (pc := 70) h 0 rfl rfl dX3_change_70 ?_
          refine R_dup (pc := 71) h rfl dX3_change_71 ?_
          refine R_getI (pc := 72) h flX3_29 lc_33 rfl dX3_change_72 ?_
          refine R_iconst (pc := 75) (v := 1) h (by decide) dX3_change_75 ?_
          refine R_iload_n (pc := 76) h 1 rfl rfl dX3_change_76 ?_
          refine R_bipush (pc := 77) (v := 8) h (by decide) dX3_change_77 ?_
          refine R_isub (pc := 79) h dX3_change_79 ?_
          refine R_ishl (pc := 80) h dX3_change_80 ?_
          refine R_ior (pc := 81) h dX3_change_81 ?_
          obtain ⟨M17, hM17, hF⟩ := nm_e2 hF
          refine R_putI (pc := 82) h hM17 fpX3_29 lc_33 rfl dX3_change_82 ?_
          refine R_goto (pc := 85) (tgt := 132) h dX3_change_85 (by decide) ?_
          cases hF
          exact R_return (pc := 132) h rfl rfl rfl dX3_change_132
      · have hF := itp c5 hF
        refine R_aload_n (pc := 40) h 0 rfl rfl dX3_change_40 ?_
        refine R_dup (pc := 41) h rfl dX3_change_41 ?_
        refine R_getI (pc := 42) h flX3_32 lc_33 rfl dX3_change_42 ?_
        refine R_aload_n (pc := 45) h 0 rfl rfl dX3_change_45 ?_
        obtain ⟨r7, hc6, hF⟩ := bd hF
        refine R_callV (pc := 46) (st := [.int (M.1 33 4), .ref (ad 33)]) h [] cvX3_61 (c3_lyingHere (ad := ad) (z := X.1) hc6) rfl rfl lc_33 (by decide) (by decide) (Nat.le_of_ble_eq_true rfl) dX3_change_46 (st1 := [.int r7, .int (M.1 33 4), .ref (ad 33)]) rfl ?_
        refine R_ior (pc := 49) h dX3_change_49 ?_
        obtain ⟨M8, hM8, hF⟩ := nm_e2 hF
        refine R_putI (pc := 50) h hM8 fpX3_32 lc_33 rfl dX3_change_50 ?_
        refine R_goto (pc := 53) (tgt := 132) h dX3_change_53 (by decide) ?_
        cases hF
        exact R_return (pc := 132) h rfl rfl rfl dX3_change_132
    · have hF := itp c3 hF
      refine R_aload_n (pc := 22) h 0 rfl rfl dX3_change_22 ?_
      refine R_dup (pc := 23) h rfl dX3_change_23 ?_
      refine R_getI (pc := 24) h flX3_25 lc_33 rfl dX3_change_24 ?_
      refine R_iconst (pc := 27) (v := 1) h (by decide) dX3_change_27 ?_
      refine R_isub (pc := 28) h dX3_change_28 ?_
      obtain ⟨M4, hM4, hF⟩ := nm_e2 hF
      refine R_putI (pc := 29) h hM4 fpX3_25 lc_33 rfl dX3_change_29 ?_
      refine R_goto (pc := 32) (tgt := 132) h dX3_change_32 (by decide) ?_
      cases hF
      exact R_return (pc := 132) h rfl rfl rfl dX3_change_132
  · have hF := itp c1 hF
    refine R_aload_n (pc := 4) h 0 rfl rfl dX3_change_4 ?_
    refine R_dup (pc := 5) h rfl dX3_change_5 ?_
    refine R_getI (pc := 6) h flX3_25 lc_33 rfl dX3_change_6 ?_
    refine R_iconst (pc := 9) (v := 1) h (by decide) dX3_change_9 ?_
    refine R_iadd (pc := 10) h dX3_change_10 ?_
    obtain ⟨M2, hM2, hF⟩ := nm_e2 hF
    refine R_putI (pc := 11) h hM2 fpX3_25 lc_33 rfl dX3_change_11 ?_
    refine R_goto (pc := 14) (tgt := 132) h dX3_change_14 (by decide) ?_
    cases hF
    exact R_return (pc := 132) h rfl rfl rfl dX3_change_132
theorem c3_change {ad : Nat → Nat} {z : ZZ} {R : Mem} {fu : Nat} {x1 : Int32} {M : Mem} (hF : f3_change fu x1 M = some R) : Con layC ad z yX3_change cX3_change 2 none 4 M [.ref (ad 33), .int x1] (R) none := con_of (own := RX3) (lv := [(0, .ref (ad 33)), (1, .int x1)]) (by decide +kernel) rfl (Nat.le_of_ble_eq_true rfl) rfl (fun X hz h => w3_change h hF)
def f3_goBackTo_51 (fu : Nat) : Nat → Int32 → Int32 → Mem → Option (Mem)
  | 0 => fun _ _ _ => none
  | f + 1 => fun x1 x2 M =>
    if x1 ≤ x2 then (nm (sI M 23 0 x1) fun M2 =>
    (some M2))
    else (if (40 : Int32) ≤ x2 then (nm (sI M 23 0 x1) fun M4 =>
    (some M4))
    else ((rd M 27 40 x2).bind fun v5 =>
    (f3_change fu v5 M).bind fun M7 =>
    nm (x2 + (1 : Int32)) fun v8 =>
    ((f3_goBackTo_51 fu f) x1 v8 M7)))
set_option maxHeartbeats 4000000 in
set_option maxRecDepth 10000 in
theorem w3_goBackToi_51 {ad : Nat → Nat} {X : XX} {R : Mem} {fu : Nat}  (h : Cx layC ad X cX3_goBackTo RX3 3 5 none (R) none)  : ∀ (f : Nat) (x1 : Int32) (x2 : Int32) (M : Mem), f3_goBackTo_51 fu f x1 x2 M = some R → Wp layC ad X M 51 [(0, .ref (ad 33)), (1, .int x1), (2, .int x2)] [] := by
  intro f
  induction f with
  | zero => intro x1 x2 M hF; exact absurd hF (by simp [f3_goBackTo_51])
  | succ f ih =>
    intro x1 x2 M hF
    rw [f3_goBackTo_51] at hF
    refine R_iload_n (pc := 51) h 2 rfl rfl dX3_goBackTo_51 ?_
    refine R_iload_n (pc := 52) h 1 rfl rfl dX3_goBackTo_52 ?_
    refine R_icmp_ge (pc := 53) (tgt := 81) h dX3_goBackTo_53 (by decide) (fun c1 => ?_) (fun c1 => ?_)
    · have hF := itp c1 hF
      refine R_aload_n (pc := 81) h 0 rfl rfl dX3_goBackTo_81 ?_
      refine R_getR (pc := 82) (q1 := 23) h flX3_21 lc_33 rfl dX3_goBackTo_82 ?_
      refine R_iload_n (pc := 85) h 1 rfl rfl dX3_goBackTo_85 ?_
      obtain ⟨M2, hM2, hF⟩ := nm_e2 hF
      refine R_putI (pc := 86) h hM2 fpX3_39 lc_23 rfl dX3_goBackTo_86 ?_
      cases hF
      exact R_return (pc := 89) h rfl rfl rfl dX3_goBackTo_89
    · have hF := ifn c1 hF
      refine R_iload_n (pc := 56) h 2 rfl rfl dX3_goBackTo_56 ?_
      refine R_bipush (pc := 57) (v := 40) h (by decide) dX3_goBackTo_57 ?_
      refine R_icmp_ge (pc := 59) (tgt := 81) h dX3_goBackTo_59 (by decide) (fun c3 => ?_) (fun c3 => ?_)
      · have hF := itp c3 hF
        refine R_aload_n (pc := 81) h 0 rfl rfl dX3_goBackTo_81 ?_
        refine R_getR (pc := 82) (q1 := 23) h flX3_21 lc_33 rfl dX3_goBackTo_82 ?_
        refine R_iload_n (pc := 85) h 1 rfl rfl dX3_goBackTo_85 ?_
        obtain ⟨M4, hM4, hF⟩ := nm_e2 hF
        refine R_putI (pc := 86) h hM4 fpX3_39 lc_23 rfl dX3_goBackTo_86 ?_
        cases hF
        exact R_return (pc := 89) h rfl rfl rfl dX3_goBackTo_89
      · have hF := ifn c3 hF
        refine R_aload_n (pc := 62) h 0 rfl rfl dX3_goBackTo_62 ?_
        refine R_aload_n (pc := 63) h 0 rfl rfl dX3_goBackTo_63 ?_
        refine R_getR (pc := 64) (q1 := 23) h flX3_21 lc_33 rfl dX3_goBackTo_64 ?_
        refine R_getR (pc := 67) (q1 := 27) h flX3_52 lc_23 rfl dX3_goBackTo_67 ?_
        refine R_iload_n (pc := 70) h 2 rfl rfl dX3_goBackTo_70 ?_
        obtain ⟨v5, hv5, hF⟩ := bd hF
        refine R_iald (pc := 71) h hv5 lc_27 dX3_goBackTo_71 ?_
        obtain ⟨M7, hc6, hF⟩ := bd hF
        refine R_callV (pc := 72) (st := []) h [.int v5] cvX3_55 (c3_change (ad := ad) (z := X.1) hc6) rfl rfl lc_33 (by decide) (by decide) (Nat.le_of_ble_eq_true rfl) dX3_goBackTo_72 (st1 := []) rfl ?_
        obtain ⟨v8, hv8, hF⟩ := nm_e2 hF
        refine R_iinc (pc := 75) (lv' := [(2, .int v8), (0, .ref (ad 33)), (1, .int x1)]) h 2 rfl (by decide) hv8 (by decide) rfl dX3_goBackTo_75 ?_
        refine R_goto (pc := 78) (tgt := 51) h dX3_goBackTo_78 (by decide) ?_
        exact Wp_sub (nX := 0) (lv' := [(0, .ref (ad 33)), (1, .int x1), (2, .int v8)]) [1, 2, 0] rfl (ih _ _ _ hF)
theorem w3_goBackTo_51 {ad : Nat → Nat} {X : XX} {R : Mem} {fu : Nat}  (h : Cx layC ad X cX3_goBackTo RX3 3 5 none (R) none)  {f : Nat} {x1 : Int32} {x2 : Int32} {M : Mem} (hF : f3_goBackTo_51 fu f x1 x2 M = some R) : Wp layC ad X M 51 [(0, .ref (ad 33)), (1, .int x1), (2, .int x2)] [] := w3_goBackToi_51 h  f _ _ _ hF
def f3_goBackTo_17 (fu : Nat) : Nat → Int32 → Int32 → Mem → Option (Mem)
  | 0 => fun _ _ _ => none
  | f + 1 => fun x1 x2 M =>
    if (M.1 35 0) ≤ x2 then ((f3_goBackTo_51 fu fu x1 (0 : Int32) M))
    else ((rd M 37 8 x2).bind fun v2 =>
    (wr M 34 8 x2 v2).bind fun M3 =>
    nm (x2 + (1 : Int32)) fun v4 =>
    ((f3_goBackTo_17 fu f) x1 v4 M3))
set_option maxHeartbeats 4000000 in
set_option maxRecDepth 10000 in
theorem w3_goBackToi_17 {ad : Nat → Nat} {X : XX} {R : Mem} {fu : Nat}  (h : Cx layC ad X cX3_goBackTo RX3 3 5 none (R) none)  : ∀ (f : Nat) (x1 : Int32) (x2 : Int32) (M : Mem), f3_goBackTo_17 fu f x1 x2 M = some R → Wp layC ad X M 17 [(0, .ref (ad 33)), (1, .int x1), (2, .int x2)] [] := by
  intro f
  induction f with
  | zero => intro x1 x2 M hF; exact absurd hF (by simp [f3_goBackTo_17])
  | succ f ih =>
    intro x1 x2 M hF
    rw [f3_goBackTo_17] at hF
    refine R_iload_n (pc := 17) h 2 rfl rfl dX3_goBackTo_17 ?_
    refine R_aload_n (pc := 18) h 0 rfl rfl dX3_goBackTo_18 ?_
    refine R_getR (pc := 19) (q1 := 35) h flX3_12 lc_33 rfl dX3_goBackTo_19 ?_
    refine R_getI (pc := 22) h flX3_46 lc_35 rfl dX3_goBackTo_22 ?_
    refine R_icmp_ge (pc := 25) (tgt := 49) h dX3_goBackTo_25 (by decide) (fun c1 => ?_) (fun c1 => ?_)
    · have hF := itp c1 hF
      refine R_iconst (pc := 49) (v := 0) h (by decide) dX3_goBackTo_49 ?_
      refine R_istore_n (pc := 50) (lv' := [(2, .int (0 : Int32)), (0, .ref (ad 33)), (1, .int x1)]) h rfl rfl (by decide) rfl dX3_goBackTo_50 ?_
      exact Wp_sub (nX := 0) (lv' := [(0, .ref (ad 33)), (1, .int x1), (2, .int (0 : Int32))]) [1, 2, 0] rfl (w3_goBackTo_51 h  (hF := hF))
    · have hF := ifn c1 hF
      refine R_aload_n (pc := 28) h 0 rfl rfl dX3_goBackTo_28 ?_
      refine R_getR (pc := 29) (q1 := 34) h flX3_35 lc_33 rfl dX3_goBackTo_29 ?_
      refine R_iload_n (pc := 32) h 2 rfl rfl dX3_goBackTo_32 ?_
      refine R_aload_n (pc := 33) h 0 rfl rfl dX3_goBackTo_33 ?_
      refine R_getR (pc := 34) (q1 := 35) h flX3_12 lc_33 rfl dX3_goBackTo_34 ?_
      refine R_getR (pc := 37) (q1 := 37) h flX3_59 lc_35 rfl dX3_goBackTo_37 ?_
      refine R_iload_n (pc := 40) h 2 rfl rfl dX3_goBackTo_40 ?_
      obtain ⟨v2, hv2, hF⟩ := bd hF
      refine R_iald (pc := 41) h hv2 lc_37 dX3_goBackTo_41 ?_
      obtain ⟨M3, hM3, hF⟩ := bd hF
      refine R_iast (pc := 42) h hM3 lc_34 dX3_goBackTo_42 ?_
      obtain ⟨v4, hv4, hF⟩ := nm_e2 hF
      refine R_iinc (pc := 43) (lv' := [(2, .int v4), (0, .ref (ad 33)), (1, .int x1)]) h 2 rfl (by decide) hv4 (by decide) rfl dX3_goBackTo_43 ?_
      refine R_goto (pc := 46) (tgt := 17) h dX3_goBackTo_46 (by decide) ?_
      exact Wp_sub (nX := 0) (lv' := [(0, .ref (ad 33)), (1, .int x1), (2, .int v4)]) [1, 2, 0] rfl (ih _ _ _ hF)
theorem w3_goBackTo_17 {ad : Nat → Nat} {X : XX} {R : Mem} {fu : Nat}  (h : Cx layC ad X cX3_goBackTo RX3 3 5 none (R) none)  {f : Nat} {x1 : Int32} {x2 : Int32} {M : Mem} (hF : f3_goBackTo_17 fu f x1 x2 M = some R) : Wp layC ad X M 17 [(0, .ref (ad 33)), (1, .int x1), (2, .int x2)] [] := w3_goBackToi_17 h  f _ _ _ hF
def f3_goBackTo (fu : Nat) (x1 : Int32) (M : Mem) : Option (Mem) :=
    nm (sI M 33 2 (0 : Int32)) fun M1 =>
    nm (sI M1 33 3 (0 : Int32)) fun M2 =>
    nm (sI M2 33 4 (0 : Int32)) fun M3 =>
    (f3_goBackTo_17 fu fu x1 (0 : Int32) M3)
set_option maxHeartbeats 4000000 in
set_option maxRecDepth 10000 in
theorem w3_goBackTo {ad : Nat → Nat} {X : XX} {R : Mem} {fu : Nat} (h : Cx layC ad X cX3_goBackTo RX3 3 5 none (R) none) {x1 : Int32} {M : Mem} (hF : f3_goBackTo fu x1 M = some R) : Wp layC ad X M 0 [(0, .ref (ad 33)), (1, .int x1)] [] := by
  unfold f3_goBackTo at hF
  refine R_aload_n (pc := 0) h 0 rfl rfl dX3_goBackTo_0 ?_
  refine R_iconst (pc := 1) (v := 0) h (by decide) dX3_goBackTo_1 ?_
  obtain ⟨M1, hM1, hF⟩ := nm_e2 hF
  refine R_putI (pc := 2) h hM1 fpX3_25 lc_33 rfl dX3_goBackTo_2 ?_
  refine R_aload_n (pc := 5) h 0 rfl rfl dX3_goBackTo_5 ?_
  refine R_iconst (pc := 6) (v := 0) h (by decide) dX3_goBackTo_6 ?_
  obtain ⟨M2, hM2, hF⟩ := nm_e2 hF
  refine R_putI (pc := 7) h hM2 fpX3_29 lc_33 rfl dX3_goBackTo_7 ?_
  refine R_aload_n (pc := 10) h 0 rfl rfl dX3_goBackTo_10 ?_
  refine R_iconst (pc := 11) (v := 0) h (by decide) dX3_goBackTo_11 ?_
  obtain ⟨M3, hM3, hF⟩ := nm_e2 hF
  refine R_putI (pc := 12) h hM3 fpX3_32 lc_33 rfl dX3_goBackTo_12 ?_
  refine R_iconst (pc := 15) (v := 0) h (by decide) dX3_goBackTo_15 ?_
  refine R_istore_n (pc := 16) (lv' := [(2, .int (0 : Int32)), (0, .ref (ad 33)), (1, .int x1)]) h rfl rfl (by decide) rfl dX3_goBackTo_16 ?_
  exact Wp_sub (nX := 0) (lv' := [(0, .ref (ad 33)), (1, .int x1), (2, .int (0 : Int32))]) [1, 2, 0] rfl (w3_goBackTo_17 h  (hF := hF))
theorem c3_goBackTo {ad : Nat → Nat} {z : ZZ} {R : Mem} {fu : Nat} {x1 : Int32} {M : Mem} (hF : f3_goBackTo fu x1 M = some R) : Con layC ad z yX3_goBackTo cX3_goBackTo 3 none 5 M [.ref (ad 33), .int x1] (R) none := con_of (own := RX3) (lv := [(0, .ref (ad 33)), (1, .int x1)]) (by decide +kernel) rfl (Nat.le_of_ble_eq_true rfl) rfl (fun X hz h => w3_goBackTo h hF)
def f4_street_56 (fu : Nat) : Nat → Int32 → Mem → Option (Mem × Int32)
  | 0 => fun _ _ => none
  | f + 1 => fun x4 M =>
    if (3 : Int32) ≤ x4 then ((some (M, (M.1 35 0))))
    else ((rdR [20, 21, 22] x4).bind fun q2 =>
    (gd (decide (20 ≤ q2 ∧ q2 < 24))).bind fun _ =>
    nm (sI M q2 0 (-1 : Int32)) fun M4 =>
    nm (x4 + (1 : Int32)) fun v5 =>
    ((f4_street_56 fu f) v5 M4))
set_option maxHeartbeats 4000000 in
set_option maxRecDepth 10000 in
theorem w4_streeti_56 {ad : Nat → Nat} {X : XX} {R : Mem × Int32} {fu : Nat}  (h : Cx layC ad X cX4_street RX4 5 6 (some .int) (R.1) (some (.int R.2)))  : ∀ (f : Nat) (x4 : Int32) (M : Mem), f4_street_56 fu f x4 M = some R → Wp layC ad X M 56 [(0, .ref (ad 28)), (4, .int x4)] [] := by
  intro f
  induction f with
  | zero => intro x4 M hF; exact absurd hF (by simp [f4_street_56])
  | succ f ih =>
    intro x4 M hF
    rw [f4_street_56] at hF
    refine R_iload (pc := 56) h 1 rfl dX4_street_56 ?_
    refine R_iconst (pc := 58) (v := 3) h (by decide) dX4_street_58 ?_
    refine R_icmp_ge (pc := 59) (tgt := 79) h dX4_street_59 (by decide) (fun c1 => ?_) (fun c1 => ?_)
    · have hF := itp c1 hF
      refine R_aload_n (pc := 79) h 0 rfl rfl dX4_street_79 ?_
      refine R_getR (pc := 80) (q1 := 33) h flX4_27 lc_28 rfl dX4_street_80 ?_
      refine R_getR (pc := 83) (q1 := 35) h flX4_104 lc_33 rfl dX4_street_83 ?_
      refine R_getI (pc := 86) h flX4_121 lc_35 rfl dX4_street_86 ?_
      cases hF
      exact R_ireturn (pc := 89) h rfl rfl rfl dX4_street_89
    · have hF := ifn c1 hF
      refine R_aload_n (pc := 62) h 0 rfl rfl dX4_street_62 ?_
      refine R_getR (pc := 63) (q1 := 31) h flX4_20 lc_28 rfl dX4_street_63 ?_
      refine R_iload (pc := 66) h 1 rfl dX4_street_66 ?_
      obtain ⟨q2, hq2, hF⟩ := bd hF
      refine R_aald (pc := 68) h hq2 (by decide) lc_31 dX4_street_68 ?_
      refine R_iconst (pc := 69) (v := (-1)) h (by decide) dX4_street_69 ?_
      obtain ⟨_, hg3, hF⟩ := bd hF
      have hg3 := of_decide_eq_true (gd_s hg3)
      obtain ⟨M4, hM4, hF⟩ := nm_e2 hF
      refine R_putI (pc := 70) h hM4 fpX4_118 (lyDeeds hg3) rfl dX4_street_70 ?_
      obtain ⟨v5, hv5, hF⟩ := nm_e2 hF
      refine R_iinc (pc := 73) (lv' := [(4, .int v5), (0, .ref (ad 28))]) h 1 rfl (by decide) hv5 (by decide) rfl dX4_street_73 ?_
      refine R_goto (pc := 76) (tgt := 56) h dX4_street_76 (by decide) ?_
      exact Wp_sub (nX := 0) (lv' := [(0, .ref (ad 28)), (4, .int v5)]) [1, 0] rfl (ih _ _ hF)
theorem w4_street_56 {ad : Nat → Nat} {X : XX} {R : Mem × Int32} {fu : Nat}  (h : Cx layC ad X cX4_street RX4 5 6 (some .int) (R.1) (some (.int R.2)))  {f : Nat} {x4 : Int32} {M : Mem} (hF : f4_street_56 fu f x4 M = some R) : Wp layC ad X M 56 [(0, .ref (ad 28)), (4, .int x4)] [] := w4_streeti_56 h  f _ _ hF
def f4_street (fu : Nat) (x1 : Int32) (M : Mem) : Option (Mem × Int32) :=
    (f4_textAt x1).bind fun r2 =>
    oc r2 ((f4_refuseMissing_N M).bind fun ⟨M5, r6⟩ =>
    (some (M5, r6)))
    fun q3 => (f4_refuseMissing q3 M).bind fun ⟨M8, r9⟩ =>
    if r9 = 0 then ((f4_firstFault M8 fu q3).bind fun r12 =>
    if r12 = (-9 : Int32) then ((f2_read fu q3 M8).bind fun M15 =>
    (f3_goBackTo fu (0 : Int32) M15).bind fun M17 =>
    (f4_street_56 fu fu (0 : Int32) M17))
    else ((some (M8, (-4 : Int32)))))
    else ((some (M8, r9)))
set_option maxHeartbeats 4000000 in
set_option maxRecDepth 10000 in
theorem w4_street {ad : Nat → Nat} {X : XX} {R : Mem × Int32} {fu : Nat} (h : Cx layC ad X cX4_street RX4 5 6 (some .int) (R.1) (some (.int R.2))) {x1 : Int32} {M : Mem} (hF : f4_street fu x1 M = some R) : Wp layC ad X M 0 [(0, .ref (ad 28)), (1, .int x1)] [] := by
  unfold f4_street at hF
  refine R_aload_n (pc := 0) h 0 rfl rfl dX4_street_0 ?_
  refine R_iload_n (pc := 1) h 1 rfl rfl dX4_street_1 ?_
  obtain ⟨r2, hc1, hF⟩ := bd hF
  rcases r2 with _ | q3
  · have hF := oc_n hF
    refine R_callV (pc := 2) (st := []) h [.int x1] cvX4_98 (c4_textAt (ad := ad) (z := X.1) (M := M) hc1) rfl rfl lc_28 (by decide) (by decide) (Nat.le_of_ble_eq_true rfl) dX4_street_2 (st1 := [.null]) rfl ?_
    refine R_astore_nN (pc := 5) (lv' := [(2, .null), (0, .ref (ad 28)), (1, .int x1)]) h rfl (by decide) rfl dX4_street_5 ?_
    refine R_aload_n (pc := 6) h 1 rfl rfl dX4_street_6 ?_
    refine R_aload_nN (pc := 7) h 0 rfl rfl dX4_street_7 ?_
    obtain ⟨⟨M5, r6⟩, hc4, hF⟩ := bd hF
    refine R_callV (pc := 8) (st := []) h [.null] cvX4_71 (c4_refuseMissing_N (ad := ad) (z := X.1) hc4) rfl rfl lc_28 (by decide) (by decide) (Nat.le_of_ble_eq_true rfl) dX4_street_8 (st1 := [.int r6]) rfl ?_
    refine R_istore_n (pc := 11) (lv' := [(3, .int r6), (2, .null), (0, .ref (ad 28)), (1, .int x1)]) h rfl rfl (by decide) rfl dX4_street_11 ?_
    refine R_aload_nN (pc := 12) h 1 rfl rfl dX4_street_12 ?_
    refine R_ifnullN (pc := 13) (tgt := 20) h dX4_street_13 (by decide) ?_
    refine R_iload_n (pc := 20) h 0 rfl rfl dX4_street_20 ?_
    cases hF
    exact R_ireturn (pc := 21) h rfl rfl rfl dX4_street_21
  · have hF := oc_s hF
    refine R_callV (pc := 2) (st := []) h [.int x1] cvX4_98 (c4_textAt (ad := ad) (z := X.1) (M := M) hc1) rfl rfl lc_28 (by decide) (by decide) (Nat.le_of_ble_eq_true rfl) dX4_street_2 (st1 := [.ref (ad q3)]) rfl ?_
    refine R_astore_n (pc := 5) (lv' := [(2, .ref (ad q3)), (0, .ref (ad 28)), (1, .int x1)]) h rfl rfl (by decide) rfl dX4_street_5 ?_
    refine R_aload_n (pc := 6) h 1 rfl rfl dX4_street_6 ?_
    refine R_aload_n (pc := 7) h 0 rfl rfl dX4_street_7 ?_
    obtain ⟨⟨M8, r9⟩, hc7, hF⟩ := bd hF
    refine R_callV (pc := 8) (st := []) h [.ref (ad q3)] cvX4_71 (c4_refuseMissing (ad := ad) (z := X.1) hc7) rfl rfl lc_28 (by decide) (by decide) (Nat.le_of_ble_eq_true rfl) dX4_street_8 (st1 := [.int r9]) rfl ?_
    refine R_istore_n (pc := 11) (lv' := [(3, .int r9), (2, .ref (ad q3)), (0, .ref (ad 28)), (1, .int x1)]) h rfl rfl (by decide) rfl dX4_street_11 ?_
    refine R_aload_n (pc := 12) h 1 rfl rfl dX4_street_12 ?_
    refine R_ifnull (pc := 13) h dX4_street_13 ?_
    refine R_iload_n (pc := 16) h 0 rfl rfl dX4_street_16 ?_
    refine R_if_eq (pc := 17) (tgt := 22) h dX4_street_17 (by decide) (fun c10 => ?_) (fun c10 => ?_)
    · have hF := itp c10 hF
      refine R_aload_n (pc := 22) h 1 rfl rfl dX4_street_22 ?_
      obtain ⟨r12, hc11, hF⟩ := bd hF
      refine R_callS (pc := 23) (st := []) h [.ref (ad q3)] csX4_101 (c4_firstFault (ad := ad) (z := X.1) hc11) rfl rfl (by decide) (by decide) (Nat.le_of_ble_eq_true rfl) dX4_street_23 (st1 := [.int r12]) rfl ?_
      refine R_bipush (pc := 26) (v := (-9)) h (by decide) dX4_street_26 ?_
      refine R_icmp_eq (pc := 28) (tgt := 34) h dX4_street_28 (by decide) (fun c13 => ?_) (fun c13 => ?_)
      · have hF := itp c13 hF
        refine R_aload_n (pc := 34) h 2 rfl rfl dX4_street_34 ?_
        refine R_getR (pc := 35) (q1 := 33) h flX4_27 lc_28 rfl dX4_street_35 ?_
        refine R_getR (pc := 38) (q1 := 35) h flX4_104 lc_33 rfl dX4_street_38 ?_
        refine R_aload_n (pc := 41) h 1 rfl rfl dX4_street_41 ?_
        obtain ⟨M15, hc14, hF⟩ := bd hF
        refine R_callV (pc := 42) (st := []) h [.ref (ad q3)] cvX4_108 (c2_read (ad := ad) (z := X.1) hc14) rfl rfl lc_35 (by decide) (by decide) (Nat.le_of_ble_eq_true rfl) dX4_street_42 (st1 := []) rfl ?_
        refine R_aload_n (pc := 45) h 2 rfl rfl dX4_street_45 ?_
        refine R_getR (pc := 46) (q1 := 33) h flX4_27 lc_28 rfl dX4_street_46 ?_
        refine R_iconst (pc := 49) (v := 0) h (by decide) dX4_street_49 ?_
        obtain ⟨M17, hc16, hF⟩ := bd hF
        refine R_callV (pc := 50) (st := []) h [.int (0 : Int32)] cvX4_114 (c3_goBackTo (ad := ad) (z := X.1) hc16) rfl rfl lc_33 (by decide) (by decide) (Nat.le_of_ble_eq_true rfl) dX4_street_50 (st1 := []) rfl ?_
        refine R_iconst (pc := 53) (v := 0) h (by decide) dX4_street_53 ?_
        refine R_istore (pc := 54) (lv' := [(4, .int (0 : Int32)), (3, .int r9), (2, .ref (ad q3)), (0, .ref (ad 28)), (1, .int x1)]) h rfl (by decide) rfl dX4_street_54 ?_
        exact Wp_sub (nX := 0) (lv' := [(0, .ref (ad 28)), (4, .int (0 : Int32))]) [3, 0] rfl (w4_street_56 h  (hF := hF))
      · have hF := ifn c13 hF
        refine R_bipush (pc := 31) (v := (-4)) h (by decide) dX4_street_31 ?_
        cases hF
        exact R_ireturn (pc := 33) h rfl rfl rfl dX4_street_33
    · have hF := ifn c10 hF
      refine R_iload_n (pc := 20) h 0 rfl rfl dX4_street_20 ?_
      cases hF
      exact R_ireturn (pc := 21) h rfl rfl rfl dX4_street_21
theorem c4_street {ad : Nat → Nat} {z : ZZ} {R : Mem × Int32} {fu : Nat} {x1 : Int32} {M : Mem} (hF : f4_street fu x1 M = some R) : Con layC ad z yX4_street cX4_street 5 (some .int) 6 M [.ref (ad 28), .int x1] (R.1) (some (.int R.2)) := con_of (own := RX4) (lv := [(0, .ref (ad 28)), (1, .int x1)]) (by decide +kernel) rfl (Nat.le_of_ble_eq_true rfl) rfl (fun X hz h => w4_street h hF)
def f3_tellPin (M : Mem) (x1 : Int32) (x2 : Int32) : Option (Int32) :=
    (f2_has M x1).bind fun r2 =>
    if r2 = 0 then ((some (-9 : Int32)))
    else (if x2 = 0 then ((rd M 36 8 x1).bind fun v5 =>
    (some v5))
    else if x2 = 1 then ((f3_lying M).bind fun r8 =>
    if ((r8 >>> (x1 &&& 31)) &&& (1 : Int32)) = 0 then ((some (-9 : Int32)))
    else ((rd M 34 8 x1).bind fun v10 =>
    (some v10)))
    else if x2 = 2 then ((rd M 41 8 x1).bind fun v12 =>
    (some v12))
    else if x2 = 3 then ((rd M 39 8 x1).bind fun v14 =>
    (some v14))
    else if x2 = 4 then ((rd M 40 8 x1).bind fun v16 =>
    (some v16))
    else if x2 = 5 then ((rd M 42 8 x1).bind fun v18 =>
    (some v18))
    else if x2 = 6 then ((some (((M.1 33 3) >>> (x1 &&& 31)) &&& (1 : Int32))))
    else ((some (((M.1 33 4) >>> (x1 &&& 31)) &&& (1 : Int32)))))
set_option maxHeartbeats 4000000 in
set_option maxRecDepth 10000 in
theorem w3_tellPin {ad : Nat → Nat} {X : XX} {R : Int32} {M : Mem} (h : Cx layC ad X cX3_tellPin RX3 3 3 (some .int) M (some (.int R))) {x1 : Int32} {x2 : Int32} (hF : f3_tellPin M x1 x2 = some R) : Wp layC ad X M 0 [(0, .ref (ad 33)), (1, .int x1), (2, .int x2)] [] := by
  unfold f3_tellPin at hF
  refine R_aload_n (pc := 0) h 0 rfl rfl dX3_tellPin_0 ?_
  refine R_getR (pc := 1) (q1 := 35) h flX3_12 lc_33 rfl dX3_tellPin_1 ?_
  refine R_iload_n (pc := 4) h 1 rfl rfl dX3_tellPin_4 ?_
  obtain ⟨r2, hc1, hF⟩ := bd hF
  refine R_callV (pc := 5) (st := []) h [.int x1] cvX3_64 (c2_has (ad := ad) (z := X.1) hc1) rfl rfl lc_35 (by decide) (by decide) (Nat.le_of_ble_eq_true rfl) dX3_tellPin_5 (st1 := [.int r2]) rfl ?_
  refine R_if_ne (pc := 8) (tgt := 14) h dX3_tellPin_8 (by decide) (fun c3 => ?_) (fun c3 => ?_)
  · have hF := ifn c3 hF
    refine R_iload_n (pc := 14) h 2 rfl rfl dX3_tellPin_14 ?_
    by_cases c4 : x2 = 0
    · have hF := itp c4 hF
      refine R_tableIn (pc := 15) (off := 41) (tgt := 56) h dX3_tellPin_15 (by rw [c4]; decide +kernel) (by rw [c4]; decide +kernel) (by rw [c4]; decide +kernel) (by decide) ?_
      refine R_aload_n (pc := 56) h 0 rfl rfl dX3_tellPin_56 ?_
      refine R_getR (pc := 57) (q1 := 35) h flX3_12 lc_33 rfl dX3_tellPin_57 ?_
      refine R_getR (pc := 60) (q1 := 36) h flX3_94 lc_35 rfl dX3_tellPin_60 ?_
      refine R_iload_n (pc := 63) h 1 rfl rfl dX3_tellPin_63 ?_
      obtain ⟨v5, hv5, hF⟩ := bd hF
      refine R_iald (pc := 64) h hv5 lc_36 dX3_tellPin_64 ?_
      cases hF
      exact R_ireturn (pc := 65) h rfl rfl rfl dX3_tellPin_65
    have hF := ifn c4 hF
    by_cases c6 : x2 = 1
    · have hF := itp c6 hF
      refine R_tableIn (pc := 15) (off := 51) (tgt := 66) h dX3_tellPin_15 (by rw [c6]; decide +kernel) (by rw [c6]; decide +kernel) (by rw [c6]; decide +kernel) (by decide) ?_
      refine R_aload_n (pc := 66) h 0 rfl rfl dX3_tellPin_66 ?_
      obtain ⟨r8, hc7, hF⟩ := bd hF
      refine R_callV (pc := 67) (st := []) h [] cvX3_49 (c3_lying (ad := ad) (z := X.1) hc7) rfl rfl lc_33 (by decide) (by decide) (Nat.le_of_ble_eq_true rfl) dX3_tellPin_67 (st1 := [.int r8]) rfl ?_
      refine R_iload_n (pc := 70) h 1 rfl rfl dX3_tellPin_70 ?_
      refine R_ishr (pc := 71) h dX3_tellPin_71 ?_
      refine R_iconst (pc := 72) (v := 1) h (by decide) dX3_tellPin_72 ?_
      refine R_iand (pc := 73) h dX3_tellPin_73 ?_
      refine R_if_eq (pc := 74) (tgt := 86) h dX3_tellPin_74 (by decide) (fun c9 => ?_) (fun c9 => ?_)
      · have hF := itp c9 hF
        refine R_bipush (pc := 86) (v := (-9)) h (by decide) dX3_tellPin_86 ?_
        cases hF
        exact R_ireturn (pc := 88) h rfl rfl rfl dX3_tellPin_88
      · have hF := ifn c9 hF
        refine R_aload_n (pc := 77) h 0 rfl rfl dX3_tellPin_77 ?_
        refine R_getR (pc := 78) (q1 := 34) h flX3_35 lc_33 rfl dX3_tellPin_78 ?_
        refine R_iload_n (pc := 81) h 1 rfl rfl dX3_tellPin_81 ?_
        obtain ⟨v10, hv10, hF⟩ := bd hF
        refine R_iald (pc := 82) h hv10 lc_34 dX3_tellPin_82 ?_
        refine R_goto (pc := 83) (tgt := 88) h dX3_tellPin_83 (by decide) ?_
        cases hF
        exact R_ireturn (pc := 88) h rfl rfl rfl dX3_tellPin_88
    have hF := ifn c6 hF
    by_cases c11 : x2 = 2
    · have hF := itp c11 hF
      refine R_tableIn (pc := 15) (off := 74) (tgt := 89) h dX3_tellPin_15 (by rw [c11]; decide +kernel) (by rw [c11]; decide +kernel) (by rw [c11]; decide +kernel) (by decide) ?_
      refine R_aload_n (pc := 89) h 0 rfl rfl dX3_tellPin_89 ?_
      refine R_getR (pc := 90) (q1 := 35) h flX3_12 lc_33 rfl dX3_tellPin_90 ?_
      refine R_getR (pc := 93) (q1 := 41) h flX3_97 lc_35 rfl dX3_tellPin_93 ?_
      refine R_iload_n (pc := 96) h 1 rfl rfl dX3_tellPin_96 ?_
      obtain ⟨v12, hv12, hF⟩ := bd hF
      refine R_iald (pc := 97) h hv12 lc_41 dX3_tellPin_97 ?_
      cases hF
      exact R_ireturn (pc := 98) h rfl rfl rfl dX3_tellPin_98
    have hF := ifn c11 hF
    by_cases c13 : x2 = 3
    · have hF := itp c13 hF
      refine R_tableIn (pc := 15) (off := 84) (tgt := 99) h dX3_tellPin_15 (by rw [c13]; decide +kernel) (by rw [c13]; decide +kernel) (by rw [c13]; decide +kernel) (by decide) ?_
      refine R_aload_n (pc := 99) h 0 rfl rfl dX3_tellPin_99 ?_
      refine R_getR (pc := 100) (q1 := 35) h flX3_12 lc_33 rfl dX3_tellPin_100 ?_
      refine R_getR (pc := 103) (q1 := 39) h flX3_100 lc_35 rfl dX3_tellPin_103 ?_
      refine R_iload_n (pc := 106) h 1 rfl rfl dX3_tellPin_106 ?_
      obtain ⟨v14, hv14, hF⟩ := bd hF
      refine R_iald (pc := 107) h hv14 lc_39 dX3_tellPin_107 ?_
      cases hF
      exact R_ireturn (pc := 108) h rfl rfl rfl dX3_tellPin_108
    have hF := ifn c13 hF
    by_cases c15 : x2 = 4
    · have hF := itp c15 hF
      refine R_tableIn (pc := 15) (off := 94) (tgt := 109) h dX3_tellPin_15 (by rw [c15]; decide +kernel) (by rw [c15]; decide +kernel) (by rw [c15]; decide +kernel) (by decide) ?_
      refine R_aload_n (pc := 109) h 0 rfl rfl dX3_tellPin_109 ?_
      refine R_getR (pc := 110) (q1 := 35) h flX3_12 lc_33 rfl dX3_tellPin_110 ?_
      refine R_getR (pc := 113) (q1 := 40) h flX3_103 lc_35 rfl dX3_tellPin_113 ?_
      refine R_iload_n (pc := 116) h 1 rfl rfl dX3_tellPin_116 ?_
      obtain ⟨v16, hv16, hF⟩ := bd hF
      refine R_iald (pc := 117) h hv16 lc_40 dX3_tellPin_117 ?_
      cases hF
      exact R_ireturn (pc := 118) h rfl rfl rfl dX3_tellPin_118
    have hF := ifn c15 hF
    by_cases c17 : x2 = 5
    · have hF := itp c17 hF
      refine R_tableIn (pc := 15) (off := 104) (tgt := 119) h dX3_tellPin_15 (by rw [c17]; decide +kernel) (by rw [c17]; decide +kernel) (by rw [c17]; decide +kernel) (by decide) ?_
      refine R_aload_n (pc := 119) h 0 rfl rfl dX3_tellPin_119 ?_
      refine R_getR (pc := 120) (q1 := 35) h flX3_12 lc_33 rfl dX3_tellPin_120 ?_
      refine R_getR (pc := 123) (q1 := 42) h flX3_106 lc_35 rfl dX3_tellPin_123 ?_
      refine R_iload_n (pc := 126) h 1 rfl rfl dX3_tellPin_126 ?_
      obtain ⟨v18, hv18, hF⟩ := bd hF
      refine R_iald (pc := 127) h hv18 lc_42 dX3_tellPin_127 ?_
      cases hF
      exact R_ireturn (pc := 128) h rfl rfl rfl dX3_tellPin_128
    have hF := ifn c17 hF
    by_cases c19 : x2 = 6
    · have hF := itp c19 hF
      refine R_tableIn (pc := 15) (off := 114) (tgt := 129) h dX3_tellPin_15 (by rw [c19]; decide +kernel) (by rw [c19]; decide +kernel) (by rw [c19]; decide +kernel) (by decide) ?_
      refine R_aload_n (pc := 129) h 0 rfl rfl dX3_tellPin_129 ?_
      refine R_getI (pc := 130) h flX3_29 lc_33 rfl dX3_tellPin_130 ?_
      refine R_iload_n (pc := 133) h 1 rfl rfl dX3_tellPin_133 ?_
      refine R_ishr (pc := 134) h dX3_tellPin_134 ?_
      refine R_iconst (pc := 135) (v := 1) h (by decide) dX3_tellPin_135 ?_
      refine R_iand (pc := 136) h dX3_tellPin_136 ?_
      cases hF
      exact R_ireturn (pc := 137) h rfl rfl rfl dX3_tellPin_137
    have hF := ifn c19 hF
    refine R_tableOut (pc := 15) (tgt := 138) h dX3_tellPin_15 (by have e0 := lv_neT c4 (a := 0) (by decide); have e1 := lv_neT c6 (a := 1) (by decide); have e2 := lv_neT c11 (a := 2) (by decide); have e3 := lv_neT c13 (a := 3) (by decide); have e4 := lv_neT c15 (a := 4) (by decide); have e5 := lv_neT c17 (a := 5) (by decide); have e6 := lv_neT c19 (a := 6) (by decide); omega) (by decide) ?_
    refine R_aload_n (pc := 138) h 0 rfl rfl dX3_tellPin_138 ?_
    refine R_getI (pc := 139) h flX3_32 lc_33 rfl dX3_tellPin_139 ?_
    refine R_iload_n (pc := 142) h 1 rfl rfl dX3_tellPin_142 ?_
    refine R_ishr (pc := 143) h dX3_tellPin_143 ?_
    refine R_iconst (pc := 144) (v := 1) h (by decide) dX3_tellPin_144 ?_
    refine R_iand (pc := 145) h dX3_tellPin_145 ?_
    cases hF
    exact R_ireturn (pc := 146) h rfl rfl rfl dX3_tellPin_146
  · have hF := itp c3 hF
    refine R_bipush (pc := 11) (v := (-9)) h (by decide) dX3_tellPin_11 ?_
    cases hF
    exact R_ireturn (pc := 13) h rfl rfl rfl dX3_tellPin_13
theorem c3_tellPin {ad : Nat → Nat} {z : ZZ} {R : Int32} {M : Mem} {x1 : Int32} {x2 : Int32} (hF : f3_tellPin M x1 x2 = some R) : Con layC ad z yX3_tellPin cX3_tellPin 3 (some .int) 3 M [.ref (ad 33), .int x1, .int x2] (M) (some (.int R)) := con_of (own := RX3) (lv := [(0, .ref (ad 33)), (1, .int x1), (2, .int x2)]) (by decide +kernel) rfl (Nat.le_of_ble_eq_true rfl) rfl (fun X hz h => w3_tellPin h hF)
def f4_pin (x1 : Int32) (x2 : Int32) (M : Mem) : Option (Mem × Int32) :=
    (f2_has M x1).bind fun r2 =>
    if r2 = 0 then ((some (M, (-1 : Int32))))
    else (if x2 < 0 then ((some (M, (-1 : Int32))))
    else (if x2 ≤ (7 : Int32) then ((f3_tellPin M x1 x2).bind fun r7 =>
    nm (sI M 28 6 r7) fun M8 =>
    (some (M8, (1 : Int32))))
    else ((some (M, (-1 : Int32))))))
set_option maxHeartbeats 4000000 in
set_option maxRecDepth 10000 in
theorem w4_pin {ad : Nat → Nat} {X : XX} {R : Mem × Int32} (h : Cx layC ad X cX4_pin RX4 3 4 (some .int) (R.1) (some (.int R.2))) {x1 : Int32} {x2 : Int32} {M : Mem} (hF : f4_pin x1 x2 M = some R) : Wp layC ad X M 0 [(0, .ref (ad 28)), (1, .int x1), (2, .int x2)] [] := by
  unfold f4_pin at hF
  refine R_aload_n (pc := 0) h 0 rfl rfl dX4_pin_0 ?_
  refine R_getR (pc := 1) (q1 := 33) h flX4_27 lc_28 rfl dX4_pin_1 ?_
  refine R_getR (pc := 4) (q1 := 35) h flX4_104 lc_33 rfl dX4_pin_4 ?_
  refine R_iload_n (pc := 7) h 1 rfl rfl dX4_pin_7 ?_
  obtain ⟨r2, hc1, hF⟩ := bd hF
  refine R_callV (pc := 8) (st := []) h [.int x1] cvX4_124 (c2_has (ad := ad) (z := X.1) hc1) rfl rfl lc_35 (by decide) (by decide) (Nat.le_of_ble_eq_true rfl) dX4_pin_8 (st1 := [.int r2]) rfl ?_
  refine R_if_eq (pc := 11) (tgt := 24) h dX4_pin_11 (by decide) (fun c3 => ?_) (fun c3 => ?_)
  · have hF := itp c3 hF
    refine R_iconst (pc := 24) (v := (-1)) h (by decide) dX4_pin_24 ?_
    cases hF
    exact R_ireturn (pc := 25) h rfl rfl rfl dX4_pin_25
  · have hF := ifn c3 hF
    refine R_iload_n (pc := 14) h 2 rfl rfl dX4_pin_14 ?_
    refine R_if_lt (pc := 15) (tgt := 24) h dX4_pin_15 (by decide) (fun c4 => ?_) (fun c4 => ?_)
    · have hF := itp c4 hF
      refine R_iconst (pc := 24) (v := (-1)) h (by decide) dX4_pin_24 ?_
      cases hF
      exact R_ireturn (pc := 25) h rfl rfl rfl dX4_pin_25
    · have hF := ifn c4 hF
      refine R_iload_n (pc := 18) h 2 rfl rfl dX4_pin_18 ?_
      refine R_bipush (pc := 19) (v := 7) h (by decide) dX4_pin_19 ?_
      refine R_icmp_le (pc := 21) (tgt := 26) h dX4_pin_21 (by decide) (fun c5 => ?_) (fun c5 => ?_)
      · have hF := itp c5 hF
        refine R_aload_n (pc := 26) h 0 rfl rfl dX4_pin_26 ?_
        refine R_aload_n (pc := 27) h 0 rfl rfl dX4_pin_27 ?_
        refine R_getR (pc := 28) (q1 := 33) h flX4_27 lc_28 rfl dX4_pin_28 ?_
        refine R_iload_n (pc := 31) h 1 rfl rfl dX4_pin_31 ?_
        refine R_iload_n (pc := 32) h 2 rfl rfl dX4_pin_32 ?_
        obtain ⟨r7, hc6, hF⟩ := bd hF
        refine R_callV (pc := 33) (st := [.ref (ad 28)]) h [.int x1, .int x2] cvX4_128 (c3_tellPin (ad := ad) (z := X.1) hc6) rfl rfl lc_33 (by decide) (by decide) (Nat.le_of_ble_eq_true rfl) dX4_pin_33 (st1 := [.int r7, .ref (ad 28)]) rfl ?_
        obtain ⟨M8, hM8, hF⟩ := nm_e2 hF
        refine R_putI (pc := 36) h hM8 fpX4_39 lc_28 rfl dX4_pin_36 ?_
        refine R_iconst (pc := 39) (v := 1) h (by decide) dX4_pin_39 ?_
        cases hF
        exact R_ireturn (pc := 40) h rfl rfl rfl dX4_pin_40
      · have hF := ifn c5 hF
        refine R_iconst (pc := 24) (v := (-1)) h (by decide) dX4_pin_24 ?_
        cases hF
        exact R_ireturn (pc := 25) h rfl rfl rfl dX4_pin_25
theorem c4_pin {ad : Nat → Nat} {z : ZZ} {R : Mem × Int32} {x1 : Int32} {x2 : Int32} {M : Mem} (hF : f4_pin x1 x2 M = some R) : Con layC ad z yX4_pin cX4_pin 3 (some .int) 4 M [.ref (ad 28), .int x1, .int x2] (R.1) (some (.int R.2)) := con_of (own := RX4) (lv := [(0, .ref (ad 28)), (1, .int x1), (2, .int x2)]) (by decide +kernel) rfl (Nat.le_of_ble_eq_true rfl) rfl (fun X hz h => w4_pin h hF)
def f4_isOf_19 (x0 : Int32) (x1 : Int32) : Option (Int32) :=
    if x0 = (5 : Int32) then (if x1 = (1 : Int32) then ((some (1 : Int32)))
    else ((some (0 : Int32))))
    else ((some (0 : Int32)))
set_option maxHeartbeats 4000000 in
set_option maxRecDepth 10000 in
theorem w4_isOf_19 {ad : Nat → Nat} {X : XX} {R : Int32} {M : Mem}  (h : Cx layC ad X cX4_isOf RX4 2 1 (some .boolean) M (some (.int R)))  {x0 : Int32} {x1 : Int32} (hF : f4_isOf_19 x0 x1 = some R) : Wp layC ad X M 19 [(0, .int x0), (1, .int x1)] [] := by
  unfold f4_isOf_19 at hF
  refine R_iload_n (pc := 19) h 0 rfl rfl dX4_isOf_19 ?_
  refine R_iconst (pc := 20) (v := 5) h (by decide) dX4_isOf_20 ?_
  refine R_icmp_ne (pc := 21) (tgt := 33) h dX4_isOf_21 (by decide) (fun c1 => ?_) (fun c1 => ?_)
  · have hF := ifn c1 hF
    refine R_iconst (pc := 33) (v := 0) h (by decide) dX4_isOf_33 ?_
    cases hF
    exact R_zreturn (pc := 34) h rfl zr0 rfl rfl dX4_isOf_34
  · have hF := itp c1 hF
    refine R_iload_n (pc := 24) h 1 rfl rfl dX4_isOf_24 ?_
    refine R_iconst (pc := 25) (v := 1) h (by decide) dX4_isOf_25 ?_
    refine R_icmp_ne (pc := 26) (tgt := 33) h dX4_isOf_26 (by decide) (fun c2 => ?_) (fun c2 => ?_)
    · have hF := ifn c2 hF
      refine R_iconst (pc := 33) (v := 0) h (by decide) dX4_isOf_33 ?_
      cases hF
      exact R_zreturn (pc := 34) h rfl zr0 rfl rfl dX4_isOf_34
    · have hF := itp c2 hF
      refine R_iconst (pc := 29) (v := 1) h (by decide) dX4_isOf_29 ?_
      refine R_goto (pc := 30) (tgt := 34) h dX4_isOf_30 (by decide) ?_
      cases hF
      exact R_zreturn (pc := 34) h rfl zr1 rfl rfl dX4_isOf_34
def f4_isOf (x0 : Int32) (x1 : Int32) : Option (Int32) :=
    if x0 = x1 then ((some (1 : Int32)))
    else (if x1 = 0 then ((some (1 : Int32)))
    else (if x0 = (4 : Int32) then (if x1 = (2 : Int32) then ((some (1 : Int32)))
    else ((f4_isOf_19 x0 x1)))
    else ((f4_isOf_19 x0 x1))))
set_option maxHeartbeats 4000000 in
set_option maxRecDepth 10000 in
theorem w4_isOf {ad : Nat → Nat} {X : XX} {R : Int32} {M : Mem} (h : Cx layC ad X cX4_isOf RX4 2 1 (some .boolean) M (some (.int R))) {x0 : Int32} {x1 : Int32} (hF : f4_isOf x0 x1 = some R) : Wp layC ad X M 0 [(0, .int x0), (1, .int x1)] [] := by
  unfold f4_isOf at hF
  refine R_iload_n (pc := 0) h 0 rfl rfl dX4_isOf_0 ?_
  refine R_iload_n (pc := 1) h 1 rfl rfl dX4_isOf_1 ?_
  refine R_icmp_eq (pc := 2) (tgt := 29) h dX4_isOf_2 (by decide) (fun c1 => ?_) (fun c1 => ?_)
  · have hF := itp c1 hF
    refine R_iconst (pc := 29) (v := 1) h (by decide) dX4_isOf_29 ?_
    refine R_goto (pc := 30) (tgt := 34) h dX4_isOf_30 (by decide) ?_
    cases hF
    exact R_zreturn (pc := 34) h rfl zr1 rfl rfl dX4_isOf_34
  · have hF := ifn c1 hF
    refine R_iload_n (pc := 5) h 1 rfl rfl dX4_isOf_5 ?_
    refine R_if_eq (pc := 6) (tgt := 29) h dX4_isOf_6 (by decide) (fun c2 => ?_) (fun c2 => ?_)
    · have hF := itp c2 hF
      refine R_iconst (pc := 29) (v := 1) h (by decide) dX4_isOf_29 ?_
      refine R_goto (pc := 30) (tgt := 34) h dX4_isOf_30 (by decide) ?_
      cases hF
      exact R_zreturn (pc := 34) h rfl zr1 rfl rfl dX4_isOf_34
    · have hF := ifn c2 hF
      refine R_iload_n (pc := 9) h 0 rfl rfl dX4_isOf_9 ?_
      refine R_iconst (pc := 10) (v := 4) h (by decide) dX4_isOf_10 ?_
      refine R_icmp_ne (pc := 11) (tgt := 19) h dX4_isOf_11 (by decide) (fun c3 => ?_) (fun c3 => ?_)
      · have hF := ifn c3 hF
        exact Wp_sub (nX := 0) (lv' := [(0, .int x0), (1, .int x1)]) [0, 1] rfl (w4_isOf_19 h  (hF := hF))
      · have hF := itp c3 hF
        refine R_iload_n (pc := 14) h 1 rfl rfl dX4_isOf_14 ?_
        refine R_iconst (pc := 15) (v := 2) h (by decide) dX4_isOf_15 ?_
        refine R_icmp_eq (pc := 16) (tgt := 29) h dX4_isOf_16 (by decide) (fun c4 => ?_) (fun c4 => ?_)
        · have hF := itp c4 hF
          refine R_iconst (pc := 29) (v := 1) h (by decide) dX4_isOf_29 ?_
          refine R_goto (pc := 30) (tgt := 34) h dX4_isOf_30 (by decide) ?_
          cases hF
          exact R_zreturn (pc := 34) h rfl zr1 rfl rfl dX4_isOf_34
        · have hF := ifn c4 hF
          exact Wp_sub (nX := 0) (lv' := [(0, .int x0), (1, .int x1)]) [0, 1] rfl (w4_isOf_19 h  (hF := hF))
theorem c4_isOf {ad : Nat → Nat} {z : ZZ} {R : Int32} {M : Mem} {x0 : Int32} {x1 : Int32} (hF : f4_isOf x0 x1 = some R) : Con layC ad z yX4_isOf cX4_isOf 2 (some .boolean) 1 M [.int x0, .int x1] (M) (some (.int R)) := con_of (own := RX4) (lv := [(0, .int x0), (1, .int x1)]) (by decide +kernel) rfl (Nat.le_of_ble_eq_true rfl) rfl (fun X hz h => w4_isOf h hF)
def f4_mark (x1 : Int32) (x2 : Int32) (M : Mem) : Option (Mem × Int32) :=
    (f2_has M x1).bind fun r2 =>
    if r2 = 0 then ((some (M, (-1 : Int32))))
    else (if x2 ≤ 0 then ((some (M, (-1 : Int32))))
    else (if x2 < (6 : Int32) then ((rd M 36 8 x1).bind fun v6 =>
    (f4_isOf v6 x2).bind fun r8 =>
    if r8 = 0 then ((f4_find (3 : Int32) M).bind fun ⟨M11, r12⟩ =>
    (some (M11, r12)))
    else ((rd M 42 8 x1).bind fun v13 =>
    (rd M 40 8 x1).bind fun v14 =>
    if x2 = 1 then ((some (M, ((100 : Int32) + v13))))
    else if x2 = 2 then ((f2_valueAs M x1 (0 : Int32) v14).bind fun r18 =>
    (some (M, (((100 : Int32) + v13) - r18))))
    else if x2 = 3 then ((f2_valueAs M x1 (0 : Int32) v14).bind fun r21 =>
    (some (M, (((100 : Int32) + v13) - r21))))
    else if x2 = 4 then ((f2_valueAs M x1 (2 : Int32) v14).bind fun r24 =>
    (some (M, (((100 : Int32) + v13) - r24))))
    else if x2 = 5 then ((f2_valueAs M x1 (1 : Int32) v14).bind fun r27 =>
    (some (M, (((100 : Int32) + v13) - r27))))
    else ((f2_valueAs M x1 (0 : Int32) v14).bind fun r29 =>
    (some (M, (((100 : Int32) + v13) - r29))))))
    else ((some (M, (-1 : Int32))))))
set_option maxHeartbeats 4000000 in
set_option maxRecDepth 10000 in
theorem w4_mark {ad : Nat → Nat} {X : XX} {R : Mem × Int32} (h : Cx layC ad X cX4_mark RX4 6 3 (some .int) (R.1) (some (.int R.2))) {x1 : Int32} {x2 : Int32} {M : Mem} (hF : f4_mark x1 x2 M = some R) : Wp layC ad X M 0 [(0, .ref (ad 28)), (1, .int x1), (2, .int x2)] [] := by
  unfold f4_mark at hF
  refine R_aload_n (pc := 0) h 0 rfl rfl dX4_mark_0 ?_
  refine R_getR (pc := 1) (q1 := 33) h flX4_27 lc_28 rfl dX4_mark_1 ?_
  refine R_getR (pc := 4) (q1 := 35) h flX4_104 lc_33 rfl dX4_mark_4 ?_
  refine R_astore_n (pc := 7) (lv' := [(3, .ref (ad 35)), (0, .ref (ad 28)), (1, .int x1), (2, .int x2)]) h rfl rfl (by decide) rfl dX4_mark_7 ?_
  refine R_aload_n (pc := 8) h 0 rfl rfl dX4_mark_8 ?_
  refine R_iload_n (pc := 9) h 2 rfl rfl dX4_mark_9 ?_
  obtain ⟨r2, hc1, hF⟩ := bd hF
  refine R_callV (pc := 10) (st := []) h [.int x1] cvX4_124 (c2_has (ad := ad) (z := X.1) hc1) rfl rfl lc_35 (by decide) (by decide) (Nat.le_of_ble_eq_true rfl) dX4_mark_10 (st1 := [.int r2]) rfl ?_
  refine R_if_eq (pc := 13) (tgt := 26) h dX4_mark_13 (by decide) (fun c3 => ?_) (fun c3 => ?_)
  · have hF := itp c3 hF
    refine R_iconst (pc := 26) (v := (-1)) h (by decide) dX4_mark_26 ?_
    cases hF
    exact R_ireturn (pc := 27) h rfl rfl rfl dX4_mark_27
  · have hF := ifn c3 hF
    refine R_iload_n (pc := 16) h 3 rfl rfl dX4_mark_16 ?_
    refine R_if_le (pc := 17) (tgt := 26) h dX4_mark_17 (by decide) (fun c4 => ?_) (fun c4 => ?_)
    · have hF := itp c4 hF
      refine R_iconst (pc := 26) (v := (-1)) h (by decide) dX4_mark_26 ?_
      cases hF
      exact R_ireturn (pc := 27) h rfl rfl rfl dX4_mark_27
    · have hF := ifn c4 hF
      refine R_iload_n (pc := 20) h 3 rfl rfl dX4_mark_20 ?_
      refine R_bipush (pc := 21) (v := 6) h (by decide) dX4_mark_21 ?_
      refine R_icmp_lt (pc := 23) (tgt := 28) h dX4_mark_23 (by decide) (fun c5 => ?_) (fun c5 => ?_)
      · have hF := itp c5 hF
        refine R_aload_n (pc := 28) h 0 rfl rfl dX4_mark_28 ?_
        refine R_getR (pc := 29) (q1 := 36) h flX4_132 lc_35 rfl dX4_mark_29 ?_
        refine R_iload_n (pc := 32) h 2 rfl rfl dX4_mark_32 ?_
        obtain ⟨v6, hv6, hF⟩ := bd hF
        refine R_iald (pc := 33) h hv6 lc_36 dX4_mark_33 ?_
        refine R_iload_n (pc := 34) h 3 rfl rfl dX4_mark_34 ?_
        obtain ⟨r8, hc7, hF⟩ := bd hF
        refine R_callS (pc := 35) (st := []) h [.int v6, .int x2] csX4_135 (c4_isOf (ad := ad) (z := X.1) (M := M) hc7) rfl rfl (by decide) (by decide) (Nat.le_of_ble_eq_true rfl) dX4_mark_35 (st1 := [.int r8]) rfl ?_
        refine R_if_ne (pc := 38) (tgt := 47) h dX4_mark_38 (by decide) (fun c9 => ?_) (fun c9 => ?_)
        · have hF := ifn c9 hF
          refine R_aload_n (pc := 47) h 0 rfl rfl dX4_mark_47 ?_
          refine R_getR (pc := 48) (q1 := 42) h flX4_138 lc_35 rfl dX4_mark_48 ?_
          refine R_iload_n (pc := 51) h 2 rfl rfl dX4_mark_51 ?_
          obtain ⟨v13, hv13, hF⟩ := bd hF
          refine R_iald (pc := 52) h hv13 lc_42 dX4_mark_52 ?_
          refine R_istore (pc := 53) (lv' := [(4, .int v13), (3, .ref (ad 35)), (0, .ref (ad 28)), (1, .int x1), (2, .int x2)]) h rfl (by decide) rfl dX4_mark_53 ?_
          refine R_aload_n (pc := 55) h 1 rfl rfl dX4_mark_55 ?_
          refine R_getR (pc := 56) (q1 := 40) h flX4_141 lc_35 rfl dX4_mark_56 ?_
          refine R_iload_n (pc := 59) h 3 rfl rfl dX4_mark_59 ?_
          obtain ⟨v14, hv14, hF⟩ := bd hF
          refine R_iald (pc := 60) h hv14 lc_40 dX4_mark_60 ?_
          refine R_istore (pc := 61) (lv' := [(5, .int v14), (4, .int v13), (3, .ref (ad 35)), (0, .ref (ad 28)), (1, .int x1), (2, .int x2)]) h rfl (by decide) rfl dX4_mark_61 ?_
          refine R_iload_n (pc := 63) h 5 rfl rfl dX4_mark_63 ?_
          by_cases c15 : x2 = 1
          · have hF := itp c15 hF
            refine R_tableIn (pc := 64) (off := 36) (tgt := 100) h dX4_mark_64 (by rw [c15]; decide +kernel) (by rw [c15]; decide +kernel) (by rw [c15]; decide +kernel) (by decide) ?_
            refine R_bipush (pc := 100) (v := 100) h (by decide) dX4_mark_100 ?_
            refine R_iload (pc := 102) h 1 rfl dX4_mark_102 ?_
            refine R_iadd (pc := 104) h dX4_mark_104 ?_
            cases hF
            exact R_ireturn (pc := 105) h rfl rfl rfl dX4_mark_105
          have hF := ifn c15 hF
          by_cases c16 : x2 = 2
          · have hF := itp c16 hF
            refine R_tableIn (pc := 64) (off := 72) (tgt := 136) h dX4_mark_64 (by rw [c16]; decide +kernel) (by rw [c16]; decide +kernel) (by rw [c16]; decide +kernel) (by decide) ?_
            refine R_bipush (pc := 136) (v := 100) h (by decide) dX4_mark_136 ?_
            refine R_iload (pc := 138) h 1 rfl dX4_mark_138 ?_
            refine R_iadd (pc := 140) h dX4_mark_140 ?_
            refine R_aload_n (pc := 141) h 2 rfl rfl dX4_mark_141 ?_
            refine R_iload_n (pc := 142) h 4 rfl rfl dX4_mark_142 ?_
            refine R_iconst (pc := 143) (v := 0) h (by decide) dX4_mark_143 ?_
            refine R_iload (pc := 144) h 0 rfl dX4_mark_144 ?_
            obtain ⟨r18, hc17, hF⟩ := bd hF
            refine R_callV (pc := 146) (st := [.int ((100 : Int32) + v13)]) h [.int x1, .int (0 : Int32), .int v14] cvX4_144 (c2_valueAs (ad := ad) (z := X.1) hc17) rfl rfl lc_35 (by decide) (by decide) (Nat.le_of_ble_eq_true rfl) dX4_mark_146 (st1 := [.int r18, .int ((100 : Int32) + v13)]) rfl ?_
            refine R_isub (pc := 149) h dX4_mark_149 ?_
            cases hF
            exact R_ireturn (pc := 150) h rfl rfl rfl dX4_mark_150
          have hF := ifn c16 hF
          by_cases c19 : x2 = 3
          · have hF := itp c19 hF
            refine R_tableIn (pc := 64) (off := 72) (tgt := 136) h dX4_mark_64 (by rw [c19]; decide +kernel) (by rw [c19]; decide +kernel) (by rw [c19]; decide +kernel) (by decide) ?_
            refine R_bipush (pc := 136) (v := 100) h (by decide) dX4_mark_136 ?_
            refine R_iload (pc := 138) h 1 rfl dX4_mark_138 ?_
            refine R_iadd (pc := 140) h dX4_mark_140 ?_
            refine R_aload_n (pc := 141) h 2 rfl rfl dX4_mark_141 ?_
            refine R_iload_n (pc := 142) h 4 rfl rfl dX4_mark_142 ?_
            refine R_iconst (pc := 143) (v := 0) h (by decide) dX4_mark_143 ?_
            refine R_iload (pc := 144) h 0 rfl dX4_mark_144 ?_
            obtain ⟨r21, hc20, hF⟩ := bd hF
            refine R_callV (pc := 146) (st := [.int ((100 : Int32) + v13)]) h [.int x1, .int (0 : Int32), .int v14] cvX4_144 (c2_valueAs (ad := ad) (z := X.1) hc20) rfl rfl lc_35 (by decide) (by decide) (Nat.le_of_ble_eq_true rfl) dX4_mark_146 (st1 := [.int r21, .int ((100 : Int32) + v13)]) rfl ?_
            refine R_isub (pc := 149) h dX4_mark_149 ?_
            cases hF
            exact R_ireturn (pc := 150) h rfl rfl rfl dX4_mark_150
          have hF := ifn c19 hF
          by_cases c22 : x2 = 4
          · have hF := itp c22 hF
            refine R_tableIn (pc := 64) (off := 42) (tgt := 106) h dX4_mark_64 (by rw [c22]; decide +kernel) (by rw [c22]; decide +kernel) (by rw [c22]; decide +kernel) (by decide) ?_
            refine R_bipush (pc := 106) (v := 100) h (by decide) dX4_mark_106 ?_
            refine R_iload (pc := 108) h 1 rfl dX4_mark_108 ?_
            refine R_iadd (pc := 110) h dX4_mark_110 ?_
            refine R_aload_n (pc := 111) h 2 rfl rfl dX4_mark_111 ?_
            refine R_iload_n (pc := 112) h 4 rfl rfl dX4_mark_112 ?_
            refine R_iconst (pc := 113) (v := 2) h (by decide) dX4_mark_113 ?_
            refine R_iload (pc := 114) h 0 rfl dX4_mark_114 ?_
            obtain ⟨r24, hc23, hF⟩ := bd hF
            refine R_callV (pc := 116) (st := [.int ((100 : Int32) + v13)]) h [.int x1, .int (2 : Int32), .int v14] cvX4_144 (c2_valueAs (ad := ad) (z := X.1) hc23) rfl rfl lc_35 (by decide) (by decide) (Nat.le_of_ble_eq_true rfl) dX4_mark_116 (st1 := [.int r24, .int ((100 : Int32) + v13)]) rfl ?_
            refine R_isub (pc := 119) h dX4_mark_119 ?_
            cases hF
            exact R_ireturn (pc := 120) h rfl rfl rfl dX4_mark_120
          have hF := ifn c22 hF
          by_cases c25 : x2 = 5
          · have hF := itp c25 hF
            refine R_tableIn (pc := 64) (off := 57) (tgt := 121) h dX4_mark_64 (by rw [c25]; decide +kernel) (by rw [c25]; decide +kernel) (by rw [c25]; decide +kernel) (by decide) ?_
            refine R_bipush (pc := 121) (v := 100) h (by decide) dX4_mark_121 ?_
            refine R_iload (pc := 123) h 1 rfl dX4_mark_123 ?_
            refine R_iadd (pc := 125) h dX4_mark_125 ?_
            refine R_aload_n (pc := 126) h 2 rfl rfl dX4_mark_126 ?_
            refine R_iload_n (pc := 127) h 4 rfl rfl dX4_mark_127 ?_
            refine R_iconst (pc := 128) (v := 1) h (by decide) dX4_mark_128 ?_
            refine R_iload (pc := 129) h 0 rfl dX4_mark_129 ?_
            obtain ⟨r27, hc26, hF⟩ := bd hF
            refine R_callV (pc := 131) (st := [.int ((100 : Int32) + v13)]) h [.int x1, .int (1 : Int32), .int v14] cvX4_144 (c2_valueAs (ad := ad) (z := X.1) hc26) rfl rfl lc_35 (by decide) (by decide) (Nat.le_of_ble_eq_true rfl) dX4_mark_131 (st1 := [.int r27, .int ((100 : Int32) + v13)]) rfl ?_
            refine R_isub (pc := 134) h dX4_mark_134 ?_
            cases hF
            exact R_ireturn (pc := 135) h rfl rfl rfl dX4_mark_135
          have hF := ifn c25 hF
          refine R_tableOut (pc := 64) (tgt := 136) h dX4_mark_64 (by have e0 := lv_neT c15 (a := 1) (by decide); have e1 := lv_neT c16 (a := 2) (by decide); have e2 := lv_neT c19 (a := 3) (by decide); have e3 := lv_neT c22 (a := 4) (by decide); have e4 := lv_neT c25 (a := 5) (by decide); omega) (by decide) ?_
          refine R_bipush (pc := 136) (v := 100) h (by decide) dX4_mark_136 ?_
          refine R_iload (pc := 138) h 1 rfl dX4_mark_138 ?_
          refine R_iadd (pc := 140) h dX4_mark_140 ?_
          refine R_aload_n (pc := 141) h 2 rfl rfl dX4_mark_141 ?_
          refine R_iload_n (pc := 142) h 4 rfl rfl dX4_mark_142 ?_
          refine R_iconst (pc := 143) (v := 0) h (by decide) dX4_mark_143 ?_
          refine R_iload (pc := 144) h 0 rfl dX4_mark_144 ?_
          obtain ⟨r29, hc28, hF⟩ := bd hF
          refine R_callV (pc := 146) (st := [.int ((100 : Int32) + v13)]) h [.int x1, .int (0 : Int32), .int v14] cvX4_144 (c2_valueAs (ad := ad) (z := X.1) hc28) rfl rfl lc_35 (by decide) (by decide) (Nat.le_of_ble_eq_true rfl) dX4_mark_146 (st1 := [.int r29, .int ((100 : Int32) + v13)]) rfl ?_
          refine R_isub (pc := 149) h dX4_mark_149 ?_
          cases hF
          exact R_ireturn (pc := 150) h rfl rfl rfl dX4_mark_150
        · have hF := itp c9 hF
          refine R_aload_n (pc := 41) h 1 rfl rfl dX4_mark_41 ?_
          refine R_iconst (pc := 42) (v := 3) h (by decide) dX4_mark_42 ?_
          obtain ⟨⟨M11, r12⟩, hc10, hF⟩ := bd hF
          refine R_callV (pc := 43) (st := []) h [.int (3 : Int32)] cvX4_78 (c4_find (ad := ad) (z := X.1) hc10) rfl rfl lc_28 (by decide) (by decide) (Nat.le_of_ble_eq_true rfl) dX4_mark_43 (st1 := [.int r12]) rfl ?_
          cases hF
          exact R_ireturn (pc := 46) h rfl rfl rfl dX4_mark_46
      · have hF := ifn c5 hF
        refine R_iconst (pc := 26) (v := (-1)) h (by decide) dX4_mark_26 ?_
        cases hF
        exact R_ireturn (pc := 27) h rfl rfl rfl dX4_mark_27
theorem c4_mark {ad : Nat → Nat} {z : ZZ} {R : Mem × Int32} {x1 : Int32} {x2 : Int32} {M : Mem} (hF : f4_mark x1 x2 M = some R) : Con layC ad z yX4_mark cX4_mark 6 (some .int) 3 M [.ref (ad 28), .int x1, .int x2] (R.1) (some (.int R.2)) := con_of (own := RX4) (lv := [(0, .ref (ad 28)), (1, .int x1), (2, .int x2)]) (by decide +kernel) rfl (Nat.le_of_ble_eq_true rfl) rfl (fun X hz h => w4_mark h hF)
def f4_isLuck (x0 : Int32) : Option (Int32) :=
    if x0 < 0 then ((some (0 : Int32)))
    else (if (10 : Int32) ≤ x0 then ((some (0 : Int32)))
    else ((some (1 : Int32))))
set_option maxHeartbeats 4000000 in
set_option maxRecDepth 10000 in
theorem w4_isLuck {ad : Nat → Nat} {X : XX} {R : Int32} {M : Mem} (h : Cx layC ad X cX4_isLuck RX4 1 1 (some .boolean) M (some (.int R))) {x0 : Int32} (hF : f4_isLuck x0 = some R) : Wp layC ad X M 0 [(0, .int x0)] [] := by
  unfold f4_isLuck at hF
  refine R_iload_n (pc := 0) h 0 rfl rfl dX4_isLuck_0 ?_
  refine R_if_lt (pc := 1) (tgt := 14) h dX4_isLuck_1 (by decide) (fun c1 => ?_) (fun c1 => ?_)
  · have hF := itp c1 hF
    refine R_iconst (pc := 14) (v := 0) h (by decide) dX4_isLuck_14 ?_
    cases hF
    exact R_zreturn (pc := 15) h rfl zr0 rfl rfl dX4_isLuck_15
  · have hF := ifn c1 hF
    refine R_iload_n (pc := 4) h 0 rfl rfl dX4_isLuck_4 ?_
    refine R_bipush (pc := 5) (v := 10) h (by decide) dX4_isLuck_5 ?_
    refine R_icmp_ge (pc := 7) (tgt := 14) h dX4_isLuck_7 (by decide) (fun c2 => ?_) (fun c2 => ?_)
    · have hF := itp c2 hF
      refine R_iconst (pc := 14) (v := 0) h (by decide) dX4_isLuck_14 ?_
      cases hF
      exact R_zreturn (pc := 15) h rfl zr0 rfl rfl dX4_isLuck_15
    · have hF := ifn c2 hF
      refine R_iconst (pc := 10) (v := 1) h (by decide) dX4_isLuck_10 ?_
      refine R_goto (pc := 11) (tgt := 15) h dX4_isLuck_11 (by decide) ?_
      cases hF
      exact R_zreturn (pc := 15) h rfl zr1 rfl rfl dX4_isLuck_15
theorem c4_isLuck {ad : Nat → Nat} {z : ZZ} {R : Int32} {M : Mem} {x0 : Int32} (hF : f4_isLuck x0 = some R) : Con layC ad z yX4_isLuck cX4_isLuck 1 (some .boolean) 1 M [.int x0] (M) (some (.int R)) := con_of (own := RX4) (lv := [(0, .int x0)]) (by decide +kernel) rfl (Nat.le_of_ble_eq_true rfl) rfl (fun X hz h => w4_isLuck h hF)
def f4_worth (x1 : Int32) (x2 : Int32) (M : Mem) : Option (Mem × Int32) :=
    (f2_has M x1).bind fun r2 =>
    if r2 = 0 then ((some (M, (-1 : Int32))))
    else ((f4_isLuck x2).bind fun r5 =>
    if r5 = 0 then ((some (M, (-1 : Int32))))
    else ((rd M 36 8 x1).bind fun v7 =>
    (f2_valueAs M x1 v7 x2).bind fun r9 =>
    nm (sI M 28 6 r9) fun M10 =>
    (some (M10, (1 : Int32)))))
set_option maxHeartbeats 4000000 in
set_option maxRecDepth 10000 in
theorem w4_worth {ad : Nat → Nat} {X : XX} {R : Mem × Int32} (h : Cx layC ad X cX4_worth RX4 4 3 (some .int) (R.1) (some (.int R.2))) {x1 : Int32} {x2 : Int32} {M : Mem} (hF : f4_worth x1 x2 M = some R) : Wp layC ad X M 0 [(0, .ref (ad 28)), (1, .int x1), (2, .int x2)] [] := by
  unfold f4_worth at hF
  refine R_aload_n (pc := 0) h 0 rfl rfl dX4_worth_0 ?_
  refine R_getR (pc := 1) (q1 := 33) h flX4_27 lc_28 rfl dX4_worth_1 ?_
  refine R_getR (pc := 4) (q1 := 35) h flX4_104 lc_33 rfl dX4_worth_4 ?_
  refine R_astore_n (pc := 7) (lv' := [(3, .ref (ad 35)), (0, .ref (ad 28)), (1, .int x1), (2, .int x2)]) h rfl rfl (by decide) rfl dX4_worth_7 ?_
  refine R_aload_n (pc := 8) h 0 rfl rfl dX4_worth_8 ?_
  refine R_iload_n (pc := 9) h 2 rfl rfl dX4_worth_9 ?_
  obtain ⟨r2, hc1, hF⟩ := bd hF
  refine R_callV (pc := 10) (st := []) h [.int x1] cvX4_124 (c2_has (ad := ad) (z := X.1) hc1) rfl rfl lc_35 (by decide) (by decide) (Nat.le_of_ble_eq_true rfl) dX4_worth_10 (st1 := [.int r2]) rfl ?_
  refine R_if_eq (pc := 13) (tgt := 23) h dX4_worth_13 (by decide) (fun c3 => ?_) (fun c3 => ?_)
  · have hF := itp c3 hF
    refine R_iconst (pc := 23) (v := (-1)) h (by decide) dX4_worth_23 ?_
    cases hF
    exact R_ireturn (pc := 24) h rfl rfl rfl dX4_worth_24
  · have hF := ifn c3 hF
    refine R_iload_n (pc := 16) h 3 rfl rfl dX4_worth_16 ?_
    obtain ⟨r5, hc4, hF⟩ := bd hF
    refine R_callS (pc := 17) (st := []) h [.int x2] csX4_148 (c4_isLuck (ad := ad) (z := X.1) (M := M) hc4) rfl rfl (by decide) (by decide) (Nat.le_of_ble_eq_true rfl) dX4_worth_17 (st1 := [.int r5]) rfl ?_
    refine R_if_ne (pc := 20) (tgt := 25) h dX4_worth_20 (by decide) (fun c6 => ?_) (fun c6 => ?_)
    · have hF := ifn c6 hF
      refine R_aload_n (pc := 25) h 1 rfl rfl dX4_worth_25 ?_
      refine R_aload_n (pc := 26) h 0 rfl rfl dX4_worth_26 ?_
      refine R_iload_n (pc := 27) h 2 rfl rfl dX4_worth_27 ?_
      refine R_aload_n (pc := 28) h 0 rfl rfl dX4_worth_28 ?_
      refine R_getR (pc := 29) (q1 := 36) h flX4_132 lc_35 rfl dX4_worth_29 ?_
      refine R_iload_n (pc := 32) h 2 rfl rfl dX4_worth_32 ?_
      obtain ⟨v7, hv7, hF⟩ := bd hF
      refine R_iald (pc := 33) h hv7 lc_36 dX4_worth_33 ?_
      refine R_iload_n (pc := 34) h 3 rfl rfl dX4_worth_34 ?_
      obtain ⟨r9, hc8, hF⟩ := bd hF
      refine R_callV (pc := 35) (st := [.ref (ad 28)]) h [.int x1, .int v7, .int x2] cvX4_144 (c2_valueAs (ad := ad) (z := X.1) hc8) rfl rfl lc_35 (by decide) (by decide) (Nat.le_of_ble_eq_true rfl) dX4_worth_35 (st1 := [.int r9, .ref (ad 28)]) rfl ?_
      obtain ⟨M10, hM10, hF⟩ := nm_e2 hF
      refine R_putI (pc := 38) h hM10 fpX4_39 lc_28 rfl dX4_worth_38 ?_
      refine R_iconst (pc := 41) (v := 1) h (by decide) dX4_worth_41 ?_
      cases hF
      exact R_ireturn (pc := 42) h rfl rfl rfl dX4_worth_42
    · have hF := itp c6 hF
      refine R_iconst (pc := 23) (v := (-1)) h (by decide) dX4_worth_23 ?_
      cases hF
      exact R_ireturn (pc := 24) h rfl rfl rfl dX4_worth_24
theorem c4_worth {ad : Nat → Nat} {z : ZZ} {R : Mem × Int32} {x1 : Int32} {x2 : Int32} {M : Mem} (hF : f4_worth x1 x2 M = some R) : Con layC ad z yX4_worth cX4_worth 4 (some .int) 3 M [.ref (ad 28), .int x1, .int x2] (R.1) (some (.int R.2)) := con_of (own := RX4) (lv := [(0, .ref (ad 28)), (1, .int x1), (2, .int x2)]) (by decide +kernel) rfl (Nat.le_of_ble_eq_true rfl) rfl (fun X hz h => w4_worth h hF)
def f3_hasRoomFor (M : Mem) (x1 : Int32) : Option (Int32) :=
    if (40 : Int32) < ((M.1 23 0) + x1) then ((some (0 : Int32)))
    else ((some (1 : Int32)))
set_option maxHeartbeats 4000000 in
set_option maxRecDepth 10000 in
theorem w3_hasRoomFor {ad : Nat → Nat} {X : XX} {R : Int32} {M : Mem} (h : Cx layC ad X cX3_hasRoomFor RX3 2 1 (some .boolean) M (some (.int R))) {x1 : Int32} (hF : f3_hasRoomFor M x1 = some R) : Wp layC ad X M 0 [(0, .ref (ad 33)), (1, .int x1)] [] := by
  unfold f3_hasRoomFor at hF
  refine R_aload_n (pc := 0) h 0 rfl rfl dX3_hasRoomFor_0 ?_
  refine R_getR (pc := 1) (q1 := 23) h flX3_21 lc_33 rfl dX3_hasRoomFor_1 ?_
  refine R_getI (pc := 4) h flX3_39 lc_23 rfl dX3_hasRoomFor_4 ?_
  refine R_iload_n (pc := 7) h 1 rfl rfl dX3_hasRoomFor_7 ?_
  refine R_iadd (pc := 8) h dX3_hasRoomFor_8 ?_
  refine R_bipush (pc := 9) (v := 40) h (by decide) dX3_hasRoomFor_9 ?_
  refine R_icmp_gt (pc := 11) (tgt := 18) h dX3_hasRoomFor_11 (by decide) (fun c1 => ?_) (fun c1 => ?_)
  · have hF := itp c1 hF
    refine R_iconst (pc := 18) (v := 0) h (by decide) dX3_hasRoomFor_18 ?_
    cases hF
    exact R_zreturn (pc := 19) h rfl zr0 rfl rfl dX3_hasRoomFor_19
  · have hF := ifn c1 hF
    refine R_iconst (pc := 14) (v := 1) h (by decide) dX3_hasRoomFor_14 ?_
    refine R_goto (pc := 15) (tgt := 19) h dX3_hasRoomFor_15 (by decide) ?_
    cases hF
    exact R_zreturn (pc := 19) h rfl zr1 rfl rfl dX3_hasRoomFor_19
theorem c3_hasRoomFor {ad : Nat → Nat} {z : ZZ} {R : Int32} {M : Mem} {x1 : Int32} (hF : f3_hasRoomFor M x1 = some R) : Con layC ad z yX3_hasRoomFor cX3_hasRoomFor 2 (some .boolean) 1 M [.ref (ad 33), .int x1] (M) (some (.int R)) := con_of (own := RX3) (lv := [(0, .ref (ad 33)), (1, .int x1)]) (by decide +kernel) rfl (Nat.le_of_ble_eq_true rfl) rfl (fun X hz h => w3_hasRoomFor h hF)
def f3_enact (fu : Nat) (x1 : Int32) (M : Mem) : Option (Mem) :=
    if (M.1 23 0) < 0 then ((some M))
    else (if (40 : Int32) ≤ (M.1 23 0) then ((some M))
    else ((wr M 27 40 (M.1 23 0) x1).bind fun M3 =>
    nm (sI M3 23 0 ((M3.1 23 0) + (1 : Int32))) fun M4 =>
    (f3_change fu x1 M4).bind fun M6 =>
    (some M6)))
set_option maxHeartbeats 4000000 in
set_option maxRecDepth 10000 in
theorem w3_enact {ad : Nat → Nat} {X : XX} {R : Mem} {fu : Nat} (h : Cx layC ad X cX3_enact RX3 2 5 none (R) none) {x1 : Int32} {M : Mem} (hF : f3_enact fu x1 M = some R) : Wp layC ad X M 0 [(0, .ref (ad 33)), (1, .int x1)] [] := by
  unfold f3_enact at hF
  refine R_aload_n (pc := 0) h 0 rfl rfl dX3_enact_0 ?_
  refine R_getR (pc := 1) (q1 := 23) h flX3_21 lc_33 rfl dX3_enact_1 ?_
  refine R_getI (pc := 4) h flX3_39 lc_23 rfl dX3_enact_4 ?_
  refine R_if_lt (pc := 7) (tgt := 56) h dX3_enact_7 (by decide) (fun c1 => ?_) (fun c1 => ?_)
  · have hF := itp c1 hF
    cases hF
    exact R_return (pc := 56) h rfl rfl rfl dX3_enact_56
  · have hF := ifn c1 hF
    refine R_aload_n (pc := 10) h 0 rfl rfl dX3_enact_10 ?_
    refine R_getR (pc := 11) (q1 := 23) h flX3_21 lc_33 rfl dX3_enact_11 ?_
    refine R_getI (pc := 14) h flX3_39 lc_23 rfl dX3_enact_14 ?_
    refine R_bipush (pc := 17) (v := 40) h (by decide) dX3_enact_17 ?_
    refine R_icmp_ge (pc := 19) (tgt := 56) h dX3_enact_19 (by decide) (fun c2 => ?_) (fun c2 => ?_)
    · have hF := itp c2 hF
      cases hF
      exact R_return (pc := 56) h rfl rfl rfl dX3_enact_56
    · have hF := ifn c2 hF
      refine R_aload_n (pc := 22) h 0 rfl rfl dX3_enact_22 ?_
      refine R_getR (pc := 23) (q1 := 23) h flX3_21 lc_33 rfl dX3_enact_23 ?_
      refine R_getR (pc := 26) (q1 := 27) h flX3_52 lc_23 rfl dX3_enact_26 ?_
      refine R_aload_n (pc := 29) h 0 rfl rfl dX3_enact_29 ?_
      refine R_getR (pc := 30) (q1 := 23) h flX3_21 lc_33 rfl dX3_enact_30 ?_
      refine R_getI (pc := 33) h flX3_39 lc_23 rfl dX3_enact_33 ?_
      refine R_iload_n (pc := 36) h 1 rfl rfl dX3_enact_36 ?_
      obtain ⟨M3, hM3, hF⟩ := bd hF
      refine R_iast (pc := 37) h hM3 lc_27 dX3_enact_37 ?_
      refine R_aload_n (pc := 38) h 0 rfl rfl dX3_enact_38 ?_
      refine R_getR (pc := 39) (q1 := 23) h flX3_21 lc_33 rfl dX3_enact_39 ?_
      refine R_dup (pc := 42) h rfl dX3_enact_42 ?_
      refine R_getI (pc := 43) h flX3_39 lc_23 rfl dX3_enact_43 ?_
      refine R_iconst (pc := 46) (v := 1) h (by decide) dX3_enact_46 ?_
      refine R_iadd (pc := 47) h dX3_enact_47 ?_
      obtain ⟨M4, hM4, hF⟩ := nm_e2 hF
      refine R_putI (pc := 48) h hM4 fpX3_39 lc_23 rfl dX3_enact_48 ?_
      refine R_aload_n (pc := 51) h 0 rfl rfl dX3_enact_51 ?_
      refine R_iload_n (pc := 52) h 1 rfl rfl dX3_enact_52 ?_
      obtain ⟨M6, hc5, hF⟩ := bd hF
      refine R_callV (pc := 53) (st := []) h [.int x1] cvX3_55 (c3_change (ad := ad) (z := X.1) hc5) rfl rfl lc_33 (by decide) (by decide) (Nat.le_of_ble_eq_true rfl) dX3_enact_53 (st1 := []) rfl ?_
      cases hF
      exact R_return (pc := 56) h rfl rfl rfl dX3_enact_56
theorem c3_enact {ad : Nat → Nat} {z : ZZ} {R : Mem} {fu : Nat} {x1 : Int32} {M : Mem} (hF : f3_enact fu x1 M = some R) : Con layC ad z yX3_enact cX3_enact 2 none 5 M [.ref (ad 33), .int x1] (R) none := con_of (own := RX3) (lv := [(0, .ref (ad 33)), (1, .int x1)]) (by decide +kernel) rfl (Nat.le_of_ble_eq_true rfl) rfl (fun X hz h => w3_enact h hF)
def f4_step_76 (fu : Nat) (s0 : Int32) (M : Mem) : Option (Mem × Int32) :=
    (f3_enact fu s0 M).bind fun M2 =>
    (some (M2, (M2.1 33 2)))
set_option maxHeartbeats 4000000 in
set_option maxRecDepth 10000 in
theorem w4_step_76 {ad : Nat → Nat} {X : XX} {R : Mem × Int32} {fu : Nat}  (h : Cx layC ad X cX4_step RX4 3 6 (some .int) (R.1) (some (.int R.2)))  {s0 : Int32} {M : Mem} (hF : f4_step_76 fu s0 M = some R) : Wp layC ad X M 76 [(0, .ref (ad 28))] [.int s0, .ref (ad 33)] := by
  unfold f4_step_76 at hF
  obtain ⟨M2, hc1, hF⟩ := bd hF
  refine R_callV (pc := 76) (st := []) h [.int s0] cvX4_157 (c3_enact (ad := ad) (z := X.1) hc1) rfl rfl lc_33 (by decide) (by decide) (Nat.le_of_ble_eq_true rfl) dX4_step_76 (st1 := []) rfl ?_
  refine R_aload_n (pc := 79) h 0 rfl rfl dX4_step_79 ?_
  refine R_getR (pc := 80) (q1 := 33) h flX4_27 lc_28 rfl dX4_step_80 ?_
  refine R_getI (pc := 83) h flX4_151 lc_33 rfl dX4_step_83 ?_
  cases hF
  exact R_ireturn (pc := 86) h rfl rfl rfl dX4_step_86
def f4_step_12 (fu : Nat) (x1 : Int32) (M : Mem) : Option (Mem × Int32) :=
    nm ((M.1 33 2) + x1) fun v1 =>
    if (M.1 35 0) = 0 then ((some (M, (-4 : Int32))))
    else (if v1 < 0 then ((some (M, (-4 : Int32))))
    else (if v1 ≤ (9 : Int32) then ((f3_hasRoomFor M (1 : Int32)).bind fun r6 =>
    if r6 = 0 then ((some (M, (-2 : Int32))))
    else (if x1 = (1 : Int32) then ((f4_step_76 fu (0 : Int32) M))
    else ((f4_step_76 fu (1 : Int32) M))))
    else ((some (M, (-4 : Int32))))))
set_option maxHeartbeats 4000000 in
set_option maxRecDepth 10000 in
theorem w4_step_12 {ad : Nat → Nat} {X : XX} {R : Mem × Int32} {fu : Nat}  (h : Cx layC ad X cX4_step RX4 3 6 (some .int) (R.1) (some (.int R.2)))  {x1 : Int32} {M : Mem} (hF : f4_step_12 fu x1 M = some R) : Wp layC ad X M 12 [(0, .ref (ad 28)), (1, .int x1)] [] := by
  unfold f4_step_12 at hF
  refine R_aload_n (pc := 12) h 0 rfl rfl dX4_step_12 ?_
  refine R_getR (pc := 13) (q1 := 33) h flX4_27 lc_28 rfl dX4_step_13 ?_
  refine R_getI (pc := 16) h flX4_151 lc_33 rfl dX4_step_16 ?_
  refine R_iload_n (pc := 19) h 1 rfl rfl dX4_step_19 ?_
  refine R_iadd (pc := 20) h dX4_step_20 ?_
  obtain ⟨v1, hv1, hF⟩ := nm_e2 hF
  refine R_istore_n (pc := 21) (lv' := [(2, .int v1), (0, .ref (ad 28)), (1, .int x1)]) h hv1 rfl (by decide) rfl dX4_step_21 ?_
  refine R_aload_n (pc := 22) h 1 rfl rfl dX4_step_22 ?_
  refine R_getR (pc := 23) (q1 := 33) h flX4_27 lc_28 rfl dX4_step_23 ?_
  refine R_getR (pc := 26) (q1 := 35) h flX4_104 lc_33 rfl dX4_step_26 ?_
  refine R_getI (pc := 29) h flX4_121 lc_35 rfl dX4_step_29 ?_
  refine R_if_eq (pc := 32) (tgt := 45) h dX4_step_32 (by decide) (fun c2 => ?_) (fun c2 => ?_)
  · have hF := itp c2 hF
    refine R_bipush (pc := 45) (v := (-4)) h (by decide) dX4_step_45 ?_
    cases hF
    exact R_ireturn (pc := 47) h rfl rfl rfl dX4_step_47
  · have hF := ifn c2 hF
    refine R_iload_n (pc := 35) h 0 rfl rfl dX4_step_35 ?_
    refine R_if_lt (pc := 36) (tgt := 45) h dX4_step_36 (by decide) (fun c3 => ?_) (fun c3 => ?_)
    · have hF := itp c3 hF
      refine R_bipush (pc := 45) (v := (-4)) h (by decide) dX4_step_45 ?_
      cases hF
      exact R_ireturn (pc := 47) h rfl rfl rfl dX4_step_47
    · have hF := ifn c3 hF
      refine R_iload_n (pc := 39) h 0 rfl rfl dX4_step_39 ?_
      refine R_bipush (pc := 40) (v := 9) h (by decide) dX4_step_40 ?_
      refine R_icmp_le (pc := 42) (tgt := 48) h dX4_step_42 (by decide) (fun c4 => ?_) (fun c4 => ?_)
      · have hF := itp c4 hF
        refine R_aload_n (pc := 48) h 1 rfl rfl dX4_step_48 ?_
        refine R_getR (pc := 49) (q1 := 33) h flX4_27 lc_28 rfl dX4_step_49 ?_
        refine R_iconst (pc := 52) (v := 1) h (by decide) dX4_step_52 ?_
        obtain ⟨r6, hc5, hF⟩ := bd hF
        refine R_callV (pc := 53) (st := []) h [.int (1 : Int32)] cvX4_154 (c3_hasRoomFor (ad := ad) (z := X.1) hc5) rfl rfl lc_33 (by decide) (by decide) (Nat.le_of_ble_eq_true rfl) dX4_step_53 (st1 := [.int r6]) rfl ?_
        refine R_if_ne (pc := 56) (tgt := 62) h dX4_step_56 (by decide) (fun c7 => ?_) (fun c7 => ?_)
        · have hF := ifn c7 hF
          refine R_aload_n (pc := 62) h 1 rfl rfl dX4_step_62 ?_
          refine R_getR (pc := 63) (q1 := 33) h flX4_27 lc_28 rfl dX4_step_63 ?_
          refine R_iload_n (pc := 66) h 2 rfl rfl dX4_step_66 ?_
          refine R_iconst (pc := 67) (v := 1) h (by decide) dX4_step_67 ?_
          refine R_icmp_ne (pc := 68) (tgt := 75) h dX4_step_68 (by decide) (fun c8 => ?_) (fun c8 => ?_)
          · have hF := ifn c8 hF
            refine R_iconst (pc := 75) (v := 1) h (by decide) dX4_step_75 ?_
            exact Wp_sub (nX := 0) (lv' := [(0, .ref (ad 28))]) [1] rfl (w4_step_76 h  (hF := hF))
          · have hF := itp c8 hF
            refine R_iconst (pc := 71) (v := 0) h (by decide) dX4_step_71 ?_
            refine R_goto (pc := 72) (tgt := 76) h dX4_step_72 (by decide) ?_
            exact Wp_sub (nX := 0) (lv' := [(0, .ref (ad 28))]) [1] rfl (w4_step_76 h  (hF := hF))
        · have hF := itp c7 hF
          refine R_bipush (pc := 59) (v := (-2)) h (by decide) dX4_step_59 ?_
          cases hF
          exact R_ireturn (pc := 61) h rfl rfl rfl dX4_step_61
      · have hF := ifn c4 hF
        refine R_bipush (pc := 45) (v := (-4)) h (by decide) dX4_step_45 ?_
        cases hF
        exact R_ireturn (pc := 47) h rfl rfl rfl dX4_step_47
def f4_step (fu : Nat) (x1 : Int32) (M : Mem) : Option (Mem × Int32) :=
    if x1 = (1 : Int32) then ((f4_step_12 fu x1 M))
    else (if x1 = (-1 : Int32) then ((f4_step_12 fu x1 M))
    else ((some (M, (-1 : Int32)))))
set_option maxHeartbeats 4000000 in
set_option maxRecDepth 10000 in
theorem w4_step {ad : Nat → Nat} {X : XX} {R : Mem × Int32} {fu : Nat} (h : Cx layC ad X cX4_step RX4 3 6 (some .int) (R.1) (some (.int R.2))) {x1 : Int32} {M : Mem} (hF : f4_step fu x1 M = some R) : Wp layC ad X M 0 [(0, .ref (ad 28)), (1, .int x1)] [] := by
  unfold f4_step at hF
  refine R_iload_n (pc := 0) h 1 rfl rfl dX4_step_0 ?_
  refine R_iconst (pc := 1) (v := 1) h (by decide) dX4_step_1 ?_
  refine R_icmp_eq (pc := 2) (tgt := 12) h dX4_step_2 (by decide) (fun c1 => ?_) (fun c1 => ?_)
  · have hF := itp c1 hF
    exact Wp_sub (nX := 0) (lv' := [(0, .ref (ad 28)), (1, .int x1)]) [0, 1] rfl (w4_step_12 h  (hF := hF))
  · have hF := ifn c1 hF
    refine R_iload_n (pc := 5) h 1 rfl rfl dX4_step_5 ?_
    refine R_iconst (pc := 6) (v := (-1)) h (by decide) dX4_step_6 ?_
    refine R_icmp_eq (pc := 7) (tgt := 12) h dX4_step_7 (by decide) (fun c2 => ?_) (fun c2 => ?_)
    · have hF := itp c2 hF
      exact Wp_sub (nX := 0) (lv' := [(0, .ref (ad 28)), (1, .int x1)]) [0, 1] rfl (w4_step_12 h  (hF := hF))
    · have hF := ifn c2 hF
      refine R_iconst (pc := 10) (v := (-1)) h (by decide) dX4_step_10 ?_
      cases hF
      exact R_ireturn (pc := 11) h rfl rfl rfl dX4_step_11
theorem c4_step {ad : Nat → Nat} {z : ZZ} {R : Mem × Int32} {fu : Nat} {x1 : Int32} {M : Mem} (hF : f4_step fu x1 M = some R) : Con layC ad z yX4_step cX4_step 3 (some .int) 6 M [.ref (ad 28), .int x1] (R.1) (some (.int R.2)) := con_of (own := RX4) (lv := [(0, .ref (ad 28)), (1, .int x1)]) (by decide +kernel) rfl (Nat.le_of_ble_eq_true rfl) rfl (fun X hz h => w4_step h hF)
def f6_bitCount (x0 : Int32) : Option (Int32) :=
    nm (x0 - ((x0.toUInt32 >>> ((1 : Int32).toUInt32 &&& Int32.toUInt32 31)).toInt32 &&& (1431655765 : Int32))) fun v1 =>
    nm ((v1 &&& (858993459 : Int32)) + ((v1.toUInt32 >>> ((2 : Int32).toUInt32 &&& Int32.toUInt32 31)).toInt32 &&& (858993459 : Int32))) fun v2 =>
    nm ((v2 + (v2.toUInt32 >>> ((4 : Int32).toUInt32 &&& Int32.toUInt32 31)).toInt32) &&& (252645135 : Int32)) fun v3 =>
    nm (v3 + (v3.toUInt32 >>> ((8 : Int32).toUInt32 &&& Int32.toUInt32 31)).toInt32) fun v4 =>
    nm (v4 + (v4.toUInt32 >>> ((16 : Int32).toUInt32 &&& Int32.toUInt32 31)).toInt32) fun v5 =>
    (some (v5 &&& (63 : Int32)))
set_option maxHeartbeats 4000000 in
set_option maxRecDepth 10000 in
theorem w6_bitCount {ad : Nat → Nat} {X : XX} {R : Int32} {M : Mem} (h : Cx layC ad X cJ6_bitCount_0f7a4 "java/lang/Integer" 1 1 (some .int) M (some (.int R))) {x0 : Int32} (hF : f6_bitCount x0 = some R) : Wp layC ad X M 0 [(0, .int x0)] [] := by
  unfold f6_bitCount at hF
  refine R_iload_n (pc := 0) h 0 rfl rfl dJ6_bitCount_0f7a4_0 ?_
  refine R_iload_n (pc := 1) h 0 rfl rfl dJ6_bitCount_0f7a4_1 ?_
  refine R_iconst (pc := 2) (v := 1) h (by decide) dJ6_bitCount_0f7a4_2 ?_
  refine R_iushr (pc := 3) h dJ6_bitCount_0f7a4_3 ?_
  refine R_ldcw (pc := 4) h kiJ6_265 dJ6_bitCount_0f7a4_4 ?_
  refine R_iand (pc := 7) h dJ6_bitCount_0f7a4_7 ?_
  refine R_isub (pc := 8) h dJ6_bitCount_0f7a4_8 ?_
  obtain ⟨v1, hv1, hF⟩ := nm_e2 hF
  refine R_istore_n (pc := 9) (lv' := [(0, .int v1)]) h hv1 rfl (by decide) rfl dJ6_bitCount_0f7a4_9 ?_
  refine R_iload_n (pc := 10) h 0 rfl rfl dJ6_bitCount_0f7a4_10 ?_
  refine R_ldcw (pc := 11) h kiJ6_266 dJ6_bitCount_0f7a4_11 ?_
  refine R_iand (pc := 14) h dJ6_bitCount_0f7a4_14 ?_
  refine R_iload_n (pc := 15) h 0 rfl rfl dJ6_bitCount_0f7a4_15 ?_
  refine R_iconst (pc := 16) (v := 2) h (by decide) dJ6_bitCount_0f7a4_16 ?_
  refine R_iushr (pc := 17) h dJ6_bitCount_0f7a4_17 ?_
  refine R_ldcw (pc := 18) h kiJ6_266 dJ6_bitCount_0f7a4_18 ?_
  refine R_iand (pc := 21) h dJ6_bitCount_0f7a4_21 ?_
  refine R_iadd (pc := 22) h dJ6_bitCount_0f7a4_22 ?_
  obtain ⟨v2, hv2, hF⟩ := nm_e2 hF
  refine R_istore_n (pc := 23) (lv' := [(0, .int v2)]) h hv2 rfl (by decide) rfl dJ6_bitCount_0f7a4_23 ?_
  refine R_iload_n (pc := 24) h 0 rfl rfl dJ6_bitCount_0f7a4_24 ?_
  refine R_iload_n (pc := 25) h 0 rfl rfl dJ6_bitCount_0f7a4_25 ?_
  refine R_iconst (pc := 26) (v := 4) h (by decide) dJ6_bitCount_0f7a4_26 ?_
  refine R_iushr (pc := 27) h dJ6_bitCount_0f7a4_27 ?_
  refine R_iadd (pc := 28) h dJ6_bitCount_0f7a4_28 ?_
  refine R_ldcw (pc := 29) h kiJ6_267 dJ6_bitCount_0f7a4_29 ?_
  refine R_iand (pc := 32) h dJ6_bitCount_0f7a4_32 ?_
  obtain ⟨v3, hv3, hF⟩ := nm_e2 hF
  refine R_istore_n (pc := 33) (lv' := [(0, .int v3)]) h hv3 rfl (by decide) rfl dJ6_bitCount_0f7a4_33 ?_
  refine R_iload_n (pc := 34) h 0 rfl rfl dJ6_bitCount_0f7a4_34 ?_
  refine R_iload_n (pc := 35) h 0 rfl rfl dJ6_bitCount_0f7a4_35 ?_
  refine R_bipush (pc := 36) (v := 8) h (by decide) dJ6_bitCount_0f7a4_36 ?_
  refine R_iushr (pc := 38) h dJ6_bitCount_0f7a4_38 ?_
  refine R_iadd (pc := 39) h dJ6_bitCount_0f7a4_39 ?_
  obtain ⟨v4, hv4, hF⟩ := nm_e2 hF
  refine R_istore_n (pc := 40) (lv' := [(0, .int v4)]) h hv4 rfl (by decide) rfl dJ6_bitCount_0f7a4_40 ?_
  refine R_iload_n (pc := 41) h 0 rfl rfl dJ6_bitCount_0f7a4_41 ?_
  refine R_iload_n (pc := 42) h 0 rfl rfl dJ6_bitCount_0f7a4_42 ?_
  refine R_bipush (pc := 43) (v := 16) h (by decide) dJ6_bitCount_0f7a4_43 ?_
  refine R_iushr (pc := 45) h dJ6_bitCount_0f7a4_45 ?_
  refine R_iadd (pc := 46) h dJ6_bitCount_0f7a4_46 ?_
  obtain ⟨v5, hv5, hF⟩ := nm_e2 hF
  refine R_istore_n (pc := 47) (lv' := [(0, .int v5)]) h hv5 rfl (by decide) rfl dJ6_bitCount_0f7a4_47 ?_
  refine R_iload_n (pc := 48) h 0 rfl rfl dJ6_bitCount_0f7a4_48 ?_
  refine R_bipush (pc := 49) (v := 63) h (by decide) dJ6_bitCount_0f7a4_49 ?_
  refine R_iand (pc := 51) h dJ6_bitCount_0f7a4_51 ?_
  cases hF
  exact R_ireturn (pc := 52) h rfl rfl rfl dJ6_bitCount_0f7a4_52
theorem c6_bitCount {ad : Nat → Nat} {z : ZZ} {R : Int32} {M : Mem} {x0 : Int32} (hF : f6_bitCount x0 = some R) : Con layC ad z yJ6_bitCount_0f7a4 cJ6_bitCount_0f7a4 1 (some .int) 1 M [.int x0] (M) (some (.int R)) := con_of (own := "java/lang/Integer") (lv := [(0, .int x0)]) (by decide +kernel) rfl (Nat.le_of_ble_eq_true rfl) rfl (fun X hz h => w6_bitCount h hF)
def f4_pick (fu : Nat) (x1 : Int32) (M : Mem) : Option (Mem × Int32) :=
    (f2_has M x1).bind fun r2 =>
    if r2 = 0 then ((some (M, (-1 : Int32))))
    else ((f3_lyingHere M fu).bind fun r5 =>
    if ((r5 >>> (x1 &&& 31)) &&& (1 : Int32)) = 0 then ((some (M, (-4 : Int32))))
    else ((f3_hasRoomFor M (1 : Int32)).bind fun r8 =>
    if r8 = 0 then ((some (M, (-2 : Int32))))
    else ((f3_enact fu ((8 : Int32) + x1) M).bind fun M11 =>
    (f6_bitCount (M11.1 33 3)).bind fun r13 =>
    (some (M11, r13)))))
set_option maxHeartbeats 4000000 in
set_option maxRecDepth 10000 in
theorem w4_pick {ad : Nat → Nat} {X : XX} {R : Mem × Int32} {fu : Nat} (h : Cx layC ad X cX4_pick RX4 2 6 (some .int) (R.1) (some (.int R.2))) {x1 : Int32} {M : Mem} (hF : f4_pick fu x1 M = some R) : Wp layC ad X M 0 [(0, .ref (ad 28)), (1, .int x1)] [] := by
  unfold f4_pick at hF
  refine R_aload_n (pc := 0) h 0 rfl rfl dX4_pick_0 ?_
  refine R_getR (pc := 1) (q1 := 33) h flX4_27 lc_28 rfl dX4_pick_1 ?_
  refine R_getR (pc := 4) (q1 := 35) h flX4_104 lc_33 rfl dX4_pick_4 ?_
  refine R_iload_n (pc := 7) h 1 rfl rfl dX4_pick_7 ?_
  obtain ⟨r2, hc1, hF⟩ := bd hF
  refine R_callV (pc := 8) (st := []) h [.int x1] cvX4_124 (c2_has (ad := ad) (z := X.1) hc1) rfl rfl lc_35 (by decide) (by decide) (Nat.le_of_ble_eq_true rfl) dX4_pick_8 (st1 := [.int r2]) rfl ?_
  refine R_if_ne (pc := 11) (tgt := 16) h dX4_pick_11 (by decide) (fun c3 => ?_) (fun c3 => ?_)
  · have hF := ifn c3 hF
    refine R_aload_n (pc := 16) h 0 rfl rfl dX4_pick_16 ?_
    refine R_getR (pc := 17) (q1 := 33) h flX4_27 lc_28 rfl dX4_pick_17 ?_
    obtain ⟨r5, hc4, hF⟩ := bd hF
    refine R_callV (pc := 20) (st := []) h [] cvX4_160 (c3_lyingHere (ad := ad) (z := X.1) hc4) rfl rfl lc_33 (by decide) (by decide) (Nat.le_of_ble_eq_true rfl) dX4_pick_20 (st1 := [.int r5]) rfl ?_
    refine R_iload_n (pc := 23) h 1 rfl rfl dX4_pick_23 ?_
    refine R_ishr (pc := 24) h dX4_pick_24 ?_
    refine R_iconst (pc := 25) (v := 1) h (by decide) dX4_pick_25 ?_
    refine R_iand (pc := 26) h dX4_pick_26 ?_
    refine R_if_ne (pc := 27) (tgt := 33) h dX4_pick_27 (by decide) (fun c6 => ?_) (fun c6 => ?_)
    · have hF := ifn c6 hF
      refine R_aload_n (pc := 33) h 0 rfl rfl dX4_pick_33 ?_
      refine R_getR (pc := 34) (q1 := 33) h flX4_27 lc_28 rfl dX4_pick_34 ?_
      refine R_iconst (pc := 37) (v := 1) h (by decide) dX4_pick_37 ?_
      obtain ⟨r8, hc7, hF⟩ := bd hF
      refine R_callV (pc := 38) (st := []) h [.int (1 : Int32)] cvX4_154 (c3_hasRoomFor (ad := ad) (z := X.1) hc7) rfl rfl lc_33 (by decide) (by decide) (Nat.le_of_ble_eq_true rfl) dX4_pick_38 (st1 := [.int r8]) rfl ?_
      refine R_if_ne (pc := 41) (tgt := 47) h dX4_pick_41 (by decide) (fun c9 => ?_) (fun c9 => ?_)
      · have hF := ifn c9 hF
        refine R_aload_n (pc := 47) h 0 rfl rfl dX4_pick_47 ?_
        refine R_getR (pc := 48) (q1 := 33) h flX4_27 lc_28 rfl dX4_pick_48 ?_
        refine R_bipush (pc := 51) (v := 8) h (by decide) dX4_pick_51 ?_
        refine R_iload_n (pc := 53) h 1 rfl rfl dX4_pick_53 ?_
        refine R_iadd (pc := 54) h dX4_pick_54 ?_
        obtain ⟨M11, hc10, hF⟩ := bd hF
        refine R_callV (pc := 55) (st := []) h [.int ((8 : Int32) + x1)] cvX4_157 (c3_enact (ad := ad) (z := X.1) hc10) rfl rfl lc_33 (by decide) (by decide) (Nat.le_of_ble_eq_true rfl) dX4_pick_55 (st1 := []) rfl ?_
        refine R_aload_n (pc := 58) h 0 rfl rfl dX4_pick_58 ?_
        refine R_getR (pc := 59) (q1 := 33) h flX4_27 lc_28 rfl dX4_pick_59 ?_
        refine R_getI (pc := 62) h flX4_164 lc_33 rfl dX4_pick_62 ?_
        obtain ⟨r13, hc12, hF⟩ := bd hF
        refine R_callS (pc := 65) (st := []) h [.int (M11.1 33 3)] csX4_167 (c6_bitCount (ad := ad) (z := X.1) (M := M11) hc12) rfl rfl (by decide) (by decide) (Nat.le_of_ble_eq_true rfl) dX4_pick_65 (st1 := [.int r13]) rfl ?_
        cases hF
        exact R_ireturn (pc := 68) h rfl rfl rfl dX4_pick_68
      · have hF := itp c9 hF
        refine R_bipush (pc := 44) (v := (-2)) h (by decide) dX4_pick_44 ?_
        cases hF
        exact R_ireturn (pc := 46) h rfl rfl rfl dX4_pick_46
    · have hF := itp c6 hF
      refine R_bipush (pc := 30) (v := (-4)) h (by decide) dX4_pick_30 ?_
      cases hF
      exact R_ireturn (pc := 32) h rfl rfl rfl dX4_pick_32
  · have hF := itp c3 hF
    refine R_iconst (pc := 14) (v := (-1)) h (by decide) dX4_pick_14 ?_
    cases hF
    exact R_ireturn (pc := 15) h rfl rfl rfl dX4_pick_15
theorem c4_pick {ad : Nat → Nat} {z : ZZ} {R : Mem × Int32} {fu : Nat} {x1 : Int32} {M : Mem} (hF : f4_pick fu x1 M = some R) : Con layC ad z yX4_pick cX4_pick 2 (some .int) 6 M [.ref (ad 28), .int x1] (R.1) (some (.int R.2)) := con_of (own := RX4) (lv := [(0, .ref (ad 28)), (1, .int x1)]) (by decide +kernel) rfl (Nat.le_of_ble_eq_true rfl) rfl (fun X hz h => w4_pick h hF)
def f4_drop (fu : Nat) (x1 : Int32) (M : Mem) : Option (Mem × Int32) :=
    (f2_has M x1).bind fun r2 =>
    if r2 = 0 then ((some (M, (-1 : Int32))))
    else (if (((M.1 33 3) >>> (x1 &&& 31)) &&& (1 : Int32)) = 0 then ((some (M, (-4 : Int32))))
    else ((f3_hasRoomFor M (1 : Int32)).bind fun r6 =>
    if r6 = 0 then ((some (M, (-2 : Int32))))
    else ((f3_enact fu ((16 : Int32) + x1) M).bind fun M9 =>
    (f6_bitCount (M9.1 33 3)).bind fun r11 =>
    (some (M9, r11)))))
set_option maxHeartbeats 4000000 in
set_option maxRecDepth 10000 in
theorem w4_drop {ad : Nat → Nat} {X : XX} {R : Mem × Int32} {fu : Nat} (h : Cx layC ad X cX4_drop RX4 2 6 (some .int) (R.1) (some (.int R.2))) {x1 : Int32} {M : Mem} (hF : f4_drop fu x1 M = some R) : Wp layC ad X M 0 [(0, .ref (ad 28)), (1, .int x1)] [] := by
  unfold f4_drop at hF
  refine R_aload_n (pc := 0) h 0 rfl rfl dX4_drop_0 ?_
  refine R_getR (pc := 1) (q1 := 33) h flX4_27 lc_28 rfl dX4_drop_1 ?_
  refine R_getR (pc := 4) (q1 := 35) h flX4_104 lc_33 rfl dX4_drop_4 ?_
  refine R_iload_n (pc := 7) h 1 rfl rfl dX4_drop_7 ?_
  obtain ⟨r2, hc1, hF⟩ := bd hF
  refine R_callV (pc := 8) (st := []) h [.int x1] cvX4_124 (c2_has (ad := ad) (z := X.1) hc1) rfl rfl lc_35 (by decide) (by decide) (Nat.le_of_ble_eq_true rfl) dX4_drop_8 (st1 := [.int r2]) rfl ?_
  refine R_if_ne (pc := 11) (tgt := 16) h dX4_drop_11 (by decide) (fun c3 => ?_) (fun c3 => ?_)
  · have hF := ifn c3 hF
    refine R_aload_n (pc := 16) h 0 rfl rfl dX4_drop_16 ?_
    refine R_getR (pc := 17) (q1 := 33) h flX4_27 lc_28 rfl dX4_drop_17 ?_
    refine R_getI (pc := 20) h flX4_164 lc_33 rfl dX4_drop_20 ?_
    refine R_iload_n (pc := 23) h 1 rfl rfl dX4_drop_23 ?_
    refine R_ishr (pc := 24) h dX4_drop_24 ?_
    refine R_iconst (pc := 25) (v := 1) h (by decide) dX4_drop_25 ?_
    refine R_iand (pc := 26) h dX4_drop_26 ?_
    refine R_if_ne (pc := 27) (tgt := 33) h dX4_drop_27 (by decide) (fun c4 => ?_) (fun c4 => ?_)
    · have hF := ifn c4 hF
      refine R_aload_n (pc := 33) h 0 rfl rfl dX4_drop_33 ?_
      refine R_getR (pc := 34) (q1 := 33) h flX4_27 lc_28 rfl dX4_drop_34 ?_
      refine R_iconst (pc := 37) (v := 1) h (by decide) dX4_drop_37 ?_
      obtain ⟨r6, hc5, hF⟩ := bd hF
      refine R_callV (pc := 38) (st := []) h [.int (1 : Int32)] cvX4_154 (c3_hasRoomFor (ad := ad) (z := X.1) hc5) rfl rfl lc_33 (by decide) (by decide) (Nat.le_of_ble_eq_true rfl) dX4_drop_38 (st1 := [.int r6]) rfl ?_
      refine R_if_ne (pc := 41) (tgt := 47) h dX4_drop_41 (by decide) (fun c7 => ?_) (fun c7 => ?_)
      · have hF := ifn c7 hF
        refine R_aload_n (pc := 47) h 0 rfl rfl dX4_drop_47 ?_
        refine R_getR (pc := 48) (q1 := 33) h flX4_27 lc_28 rfl dX4_drop_48 ?_
        refine R_bipush (pc := 51) (v := 16) h (by decide) dX4_drop_51 ?_
        refine R_iload_n (pc := 53) h 1 rfl rfl dX4_drop_53 ?_
        refine R_iadd (pc := 54) h dX4_drop_54 ?_
        obtain ⟨M9, hc8, hF⟩ := bd hF
        refine R_callV (pc := 55) (st := []) h [.int ((16 : Int32) + x1)] cvX4_157 (c3_enact (ad := ad) (z := X.1) hc8) rfl rfl lc_33 (by decide) (by decide) (Nat.le_of_ble_eq_true rfl) dX4_drop_55 (st1 := []) rfl ?_
        refine R_aload_n (pc := 58) h 0 rfl rfl dX4_drop_58 ?_
        refine R_getR (pc := 59) (q1 := 33) h flX4_27 lc_28 rfl dX4_drop_59 ?_
        refine R_getI (pc := 62) h flX4_164 lc_33 rfl dX4_drop_62 ?_
        obtain ⟨r11, hc10, hF⟩ := bd hF
        refine R_callS (pc := 65) (st := []) h [.int (M9.1 33 3)] csX4_167 (c6_bitCount (ad := ad) (z := X.1) (M := M9) hc10) rfl rfl (by decide) (by decide) (Nat.le_of_ble_eq_true rfl) dX4_drop_65 (st1 := [.int r11]) rfl ?_
        cases hF
        exact R_ireturn (pc := 68) h rfl rfl rfl dX4_drop_68
      · have hF := itp c7 hF
        refine R_bipush (pc := 44) (v := (-2)) h (by decide) dX4_drop_44 ?_
        cases hF
        exact R_ireturn (pc := 46) h rfl rfl rfl dX4_drop_46
    · have hF := itp c4 hF
      refine R_bipush (pc := 30) (v := (-4)) h (by decide) dX4_drop_30 ?_
      cases hF
      exact R_ireturn (pc := 32) h rfl rfl rfl dX4_drop_32
  · have hF := itp c3 hF
    refine R_iconst (pc := 14) (v := (-1)) h (by decide) dX4_drop_14 ?_
    cases hF
    exact R_ireturn (pc := 15) h rfl rfl rfl dX4_drop_15
theorem c4_drop {ad : Nat → Nat} {z : ZZ} {R : Mem × Int32} {fu : Nat} {x1 : Int32} {M : Mem} (hF : f4_drop fu x1 M = some R) : Con layC ad z yX4_drop cX4_drop 2 (some .int) 6 M [.ref (ad 28), .int x1] (R.1) (some (.int R.2)) := con_of (own := RX4) (lv := [(0, .ref (ad 28)), (1, .int x1)]) (by decide +kernel) rfl (Nat.le_of_ble_eq_true rfl) rfl (fun X hz h => w4_drop h hF)
def f4_sweep (fu : Nat) (M : Mem) : Option (Mem × Int32) :=
    if (M.1 35 0) = 0 then ((some (M, (-4 : Int32))))
    else ((f3_hasRoomFor M (1 : Int32)).bind fun r3 =>
    if r3 = 0 then ((some (M, (-2 : Int32))))
    else ((f3_lyingHere M fu).bind fun r6 =>
    (f6_bitCount r6).bind fun r8 =>
    (f3_enact fu (2 : Int32) M).bind fun M10 =>
    (some (M10, r8))))
set_option maxHeartbeats 4000000 in
set_option maxRecDepth 10000 in
theorem w4_sweep {ad : Nat → Nat} {X : XX} {R : Mem × Int32} {fu : Nat} (h : Cx layC ad X cX4_sweep RX4 2 6 (some .int) (R.1) (some (.int R.2))) {M : Mem} (hF : f4_sweep fu M = some R) : Wp layC ad X M 0 [(0, .ref (ad 28))] [] := by
  unfold f4_sweep at hF
  refine R_aload_n (pc := 0) h 0 rfl rfl dX4_sweep_0 ?_
  refine R_getR (pc := 1) (q1 := 33) h flX4_27 lc_28 rfl dX4_sweep_1 ?_
  refine R_getR (pc := 4) (q1 := 35) h flX4_104 lc_33 rfl dX4_sweep_4 ?_
  refine R_getI (pc := 7) h flX4_121 lc_35 rfl dX4_sweep_7 ?_
  refine R_if_ne (pc := 10) (tgt := 16) h dX4_sweep_10 (by decide) (fun c1 => ?_) (fun c1 => ?_)
  · have hF := ifn c1 hF
    refine R_aload_n (pc := 16) h 0 rfl rfl dX4_sweep_16 ?_
    refine R_getR (pc := 17) (q1 := 33) h flX4_27 lc_28 rfl dX4_sweep_17 ?_
    refine R_iconst (pc := 20) (v := 1) h (by decide) dX4_sweep_20 ?_
    obtain ⟨r3, hc2, hF⟩ := bd hF
    refine R_callV (pc := 21) (st := []) h [.int (1 : Int32)] cvX4_154 (c3_hasRoomFor (ad := ad) (z := X.1) hc2) rfl rfl lc_33 (by decide) (by decide) (Nat.le_of_ble_eq_true rfl) dX4_sweep_21 (st1 := [.int r3]) rfl ?_
    refine R_if_ne (pc := 24) (tgt := 30) h dX4_sweep_24 (by decide) (fun c4 => ?_) (fun c4 => ?_)
    · have hF := ifn c4 hF
      refine R_aload_n (pc := 30) h 0 rfl rfl dX4_sweep_30 ?_
      refine R_getR (pc := 31) (q1 := 33) h flX4_27 lc_28 rfl dX4_sweep_31 ?_
      obtain ⟨r6, hc5, hF⟩ := bd hF
      refine R_callV (pc := 34) (st := []) h [] cvX4_160 (c3_lyingHere (ad := ad) (z := X.1) hc5) rfl rfl lc_33 (by decide) (by decide) (Nat.le_of_ble_eq_true rfl) dX4_sweep_34 (st1 := [.int r6]) rfl ?_
      obtain ⟨r8, hc7, hF⟩ := bd hF
      refine R_callS (pc := 37) (st := []) h [.int r6] csX4_167 (c6_bitCount (ad := ad) (z := X.1) (M := M) hc7) rfl rfl (by decide) (by decide) (Nat.le_of_ble_eq_true rfl) dX4_sweep_37 (st1 := [.int r8]) rfl ?_
      refine R_istore_n (pc := 40) (lv' := [(1, .int r8), (0, .ref (ad 28))]) h rfl rfl (by decide) rfl dX4_sweep_40 ?_
      refine R_aload_n (pc := 41) h 1 rfl rfl dX4_sweep_41 ?_
      refine R_getR (pc := 42) (q1 := 33) h flX4_27 lc_28 rfl dX4_sweep_42 ?_
      refine R_iconst (pc := 45) (v := 2) h (by decide) dX4_sweep_45 ?_
      obtain ⟨M10, hc9, hF⟩ := bd hF
      refine R_callV (pc := 46) (st := []) h [.int (2 : Int32)] cvX4_157 (c3_enact (ad := ad) (z := X.1) hc9) rfl rfl lc_33 (by decide) (by decide) (Nat.le_of_ble_eq_true rfl) dX4_sweep_46 (st1 := []) rfl ?_
      refine R_iload_n (pc := 49) h 0 rfl rfl dX4_sweep_49 ?_
      cases hF
      exact R_ireturn (pc := 50) h rfl rfl rfl dX4_sweep_50
    · have hF := itp c4 hF
      refine R_bipush (pc := 27) (v := (-2)) h (by decide) dX4_sweep_27 ?_
      cases hF
      exact R_ireturn (pc := 29) h rfl rfl rfl dX4_sweep_29
  · have hF := itp c1 hF
    refine R_bipush (pc := 13) (v := (-4)) h (by decide) dX4_sweep_13 ?_
    cases hF
    exact R_ireturn (pc := 15) h rfl rfl rfl dX4_sweep_15
theorem c4_sweep {ad : Nat → Nat} {z : ZZ} {R : Mem × Int32} {fu : Nat} {M : Mem} (hF : f4_sweep fu M = some R) : Con layC ad z yX4_sweep cX4_sweep 2 (some .int) 6 M [.ref (ad 28)] (R.1) (some (.int R.2)) := con_of (own := RX4) (lv := [(0, .ref (ad 28))]) (by decide +kernel) rfl (Nat.le_of_ble_eq_true rfl) rfl (fun X hz h => w4_sweep h hF)
def f4_undo (fu : Nat) (x1 : Int32) (M : Mem) : Option (Mem × Int32) :=
    nm (M.1 23 0) fun v1 =>
    if x1 < 0 then ((some (M, (-1 : Int32))))
    else (if x1 ≤ v1 then ((f3_goBackTo fu x1 M).bind fun M5 =>
    (some (M5, (v1 - x1))))
    else ((some (M, (-1 : Int32)))))
set_option maxHeartbeats 4000000 in
set_option maxRecDepth 10000 in
theorem w4_undo {ad : Nat → Nat} {X : XX} {R : Mem × Int32} {fu : Nat} (h : Cx layC ad X cX4_undo RX4 3 6 (some .int) (R.1) (some (.int R.2))) {x1 : Int32} {M : Mem} (hF : f4_undo fu x1 M = some R) : Wp layC ad X M 0 [(0, .ref (ad 28)), (1, .int x1)] [] := by
  unfold f4_undo at hF
  refine R_aload_n (pc := 0) h 0 rfl rfl dX4_undo_0 ?_
  refine R_getR (pc := 1) (q1 := 33) h flX4_27 lc_28 rfl dX4_undo_1 ?_
  refine R_getR (pc := 4) (q1 := 23) h flX4_172 lc_33 rfl dX4_undo_4 ?_
  refine R_getI (pc := 7) h flX4_118 lc_23 rfl dX4_undo_7 ?_
  obtain ⟨v1, hv1, hF⟩ := nm_e2 hF
  refine R_istore_n (pc := 10) (lv' := [(2, .int v1), (0, .ref (ad 28)), (1, .int x1)]) h hv1 rfl (by decide) rfl dX4_undo_10 ?_
  refine R_iload_n (pc := 11) h 2 rfl rfl dX4_undo_11 ?_
  refine R_if_lt (pc := 12) (tgt := 20) h dX4_undo_12 (by decide) (fun c2 => ?_) (fun c2 => ?_)
  · have hF := itp c2 hF
    refine R_iconst (pc := 20) (v := (-1)) h (by decide) dX4_undo_20 ?_
    cases hF
    exact R_ireturn (pc := 21) h rfl rfl rfl dX4_undo_21
  · have hF := ifn c2 hF
    refine R_iload_n (pc := 15) h 2 rfl rfl dX4_undo_15 ?_
    refine R_iload_n (pc := 16) h 0 rfl rfl dX4_undo_16 ?_
    refine R_icmp_le (pc := 17) (tgt := 22) h dX4_undo_17 (by decide) (fun c3 => ?_) (fun c3 => ?_)
    · have hF := itp c3 hF
      refine R_aload_n (pc := 22) h 1 rfl rfl dX4_undo_22 ?_
      refine R_getR (pc := 23) (q1 := 33) h flX4_27 lc_28 rfl dX4_undo_23 ?_
      refine R_iload_n (pc := 26) h 2 rfl rfl dX4_undo_26 ?_
      obtain ⟨M5, hc4, hF⟩ := bd hF
      refine R_callV (pc := 27) (st := []) h [.int x1] cvX4_114 (c3_goBackTo (ad := ad) (z := X.1) hc4) rfl rfl lc_33 (by decide) (by decide) (Nat.le_of_ble_eq_true rfl) dX4_undo_27 (st1 := []) rfl ?_
      refine R_iload_n (pc := 30) h 0 rfl rfl dX4_undo_30 ?_
      refine R_iload_n (pc := 31) h 2 rfl rfl dX4_undo_31 ?_
      refine R_isub (pc := 32) h dX4_undo_32 ?_
      cases hF
      exact R_ireturn (pc := 33) h rfl rfl rfl dX4_undo_33
    · have hF := ifn c3 hF
      refine R_iconst (pc := 20) (v := (-1)) h (by decide) dX4_undo_20 ?_
      cases hF
      exact R_ireturn (pc := 21) h rfl rfl rfl dX4_undo_21
theorem c4_undo {ad : Nat → Nat} {z : ZZ} {R : Mem × Int32} {fu : Nat} {x1 : Int32} {M : Mem} (hF : f4_undo fu x1 M = some R) : Con layC ad z yX4_undo cX4_undo 3 (some .int) 6 M [.ref (ad 28), .int x1] (R.1) (some (.int R.2)) := con_of (own := RX4) (lv := [(0, .ref (ad 28)), (1, .int x1)]) (by decide +kernel) rfl (Nat.le_of_ble_eq_true rfl) rfl (fun X hz h => w4_undo h hF)
def f4_keptAt (x1 : Int32) : Option (Option Nat) :=
    if x1 < 0 then ((some none))
    else (if (3 : Int32) ≤ x1 then ((some none))
    else ((rdR [20, 21, 22] x1).bind fun q3 =>
    (some (some q3))))
set_option maxHeartbeats 4000000 in
set_option maxRecDepth 10000 in
theorem w4_keptAt {ad : Nat → Nat} {X : XX} {R : Option Nat} {M : Mem} (h : Cx layC ad X cX4_keptAt RX4 2 1 (some (.object "PinDuties$Deeds")) M (some (rv ad R))) {x1 : Int32} (hF : f4_keptAt x1 = some R) : Wp layC ad X M 0 [(0, .ref (ad 28)), (1, .int x1)] [] := by
  unfold f4_keptAt at hF
  refine R_iload_n (pc := 0) h 1 rfl rfl dX4_keptAt_0 ?_
  refine R_if_lt (pc := 1) (tgt := 18) h dX4_keptAt_1 (by decide) (fun c1 => ?_) (fun c1 => ?_)
  · have hF := itp c1 hF
    refine R_null (pc := 18) h dX4_keptAt_18 ?_
    cases hF
    exact R_areturn (pc := 19) h rfl (Or.inl rfl) rfl rfl dX4_keptAt_19
  · have hF := ifn c1 hF
    refine R_iload_n (pc := 4) h 1 rfl rfl dX4_keptAt_4 ?_
    refine R_iconst (pc := 5) (v := 3) h (by decide) dX4_keptAt_5 ?_
    refine R_icmp_ge (pc := 6) (tgt := 18) h dX4_keptAt_6 (by decide) (fun c2 => ?_) (fun c2 => ?_)
    · have hF := itp c2 hF
      refine R_null (pc := 18) h dX4_keptAt_18 ?_
      cases hF
      exact R_areturn (pc := 19) h rfl (Or.inl rfl) rfl rfl dX4_keptAt_19
    · have hF := ifn c2 hF
      refine R_aload_n (pc := 9) h 0 rfl rfl dX4_keptAt_9 ?_
      refine R_getR (pc := 10) (q1 := 31) h flX4_20 lc_28 rfl dX4_keptAt_10 ?_
      refine R_iload_n (pc := 13) h 1 rfl rfl dX4_keptAt_13 ?_
      obtain ⟨q3, hq3, hF⟩ := bd hF
      refine R_aald (pc := 14) h hq3 (by decide) lc_31 dX4_keptAt_14 ?_
      refine R_goto (pc := 15) (tgt := 19) h dX4_keptAt_15 (by decide) ?_
      cases hF
      exact R_areturn (pc := 19) h rfl (Or.inr ⟨_, rfl⟩) rfl rfl dX4_keptAt_19
theorem c4_keptAt {ad : Nat → Nat} {z : ZZ} {R : Option Nat} {M : Mem} {x1 : Int32} (hF : f4_keptAt x1 = some R) : Con layC ad z yX4_keptAt cX4_keptAt 2 (some (.object "PinDuties$Deeds")) 1 M [.ref (ad 28), .int x1] (M) (some (rv ad R)) := con_of (own := RX4) (lv := [(0, .ref (ad 28)), (1, .int x1)]) (by decide +kernel) rfl (Nat.le_of_ble_eq_true rfl) rfl (fun X hz h => w4_keptAt h hF)
def f1_takeOver_10 (fu : Nat) : Nat → Nat → Nat → Int32 → Mem → Option (Mem)
  | 0 => fun _ _ _ _ => none
  | f + 1 => fun px0 px1 x2 M =>
    if (40 : Int32) ≤ x2 then ((some M))
    else ((gd (decide (20 ≤ px0 ∧ px0 < 24))).bind fun _ =>
    (gd (decide (20 ≤ px1 ∧ px1 < 24))).bind fun _ =>
    (rd M (px1 + 4) 40 x2).bind fun v4 =>
    (wr M (px0 + 4) 40 x2 v4).bind fun M5 =>
    nm (x2 + (1 : Int32)) fun v6 =>
    ((f1_takeOver_10 fu f) px0 px1 v6 M5))
set_option maxHeartbeats 4000000 in
set_option maxRecDepth 10000 in
theorem w1_takeOveri_10 {ad : Nat → Nat} {X : XX} {R : Mem} {fu : Nat}  (h : Cx layC ad X cX1_takeOver RX1 3 1 none (R) none)  : ∀ (f : Nat) (px0 : Nat) (px1 : Nat) (x2 : Int32) (M : Mem), f1_takeOver_10 fu f px0 px1 x2 M = some R → Wp layC ad X M 10 [(0, .ref (ad px0)), (1, .ref (ad px1)), (2, .int x2)] [] := by
  intro f
  induction f with
  | zero => intro px0 px1 x2 M hF; exact absurd hF (by simp [f1_takeOver_10])
  | succ f ih =>
    intro px0 px1 x2 M hF
    rw [f1_takeOver_10] at hF
    refine R_iload_n (pc := 10) h 2 rfl rfl dX1_takeOver_10 ?_
    refine R_bipush (pc := 11) (v := 40) h (by decide) dX1_takeOver_11 ?_
    refine R_icmp_ge (pc := 13) (tgt := 34) h dX1_takeOver_13 (by decide) (fun c1 => ?_) (fun c1 => ?_)
    · have hF := itp c1 hF
      cases hF
      exact R_return (pc := 34) h rfl rfl rfl dX1_takeOver_34
    · have hF := ifn c1 hF
      refine R_aload_n (pc := 16) h 0 rfl rfl dX1_takeOver_16 ?_
      obtain ⟨_, hg2, hF⟩ := bd hF
      have hg2 := of_decide_eq_true (gd_s hg2)
      refine R_getR (pc := 17) (q1 := px0 + 4) h flX1_15 (lyDeeds hg2) rfl dX1_takeOver_17 ?_
      refine R_iload_n (pc := 20) h 2 rfl rfl dX1_takeOver_20 ?_
      refine R_aload_n (pc := 21) h 1 rfl rfl dX1_takeOver_21 ?_
      obtain ⟨_, hg3, hF⟩ := bd hF
      have hg3 := of_decide_eq_true (gd_s hg3)
      refine R_getR (pc := 22) (q1 := px1 + 4) h flX1_15 (lyDeeds hg3) rfl dX1_takeOver_22 ?_
      refine R_iload_n (pc := 25) h 2 rfl rfl dX1_takeOver_25 ?_
      obtain ⟨v4, hv4, hF⟩ := bd hF
      refine R_iald (pc := 26) h hv4 (lyDeedsA hg3) dX1_takeOver_26 ?_
      obtain ⟨M5, hM5, hF⟩ := bd hF
      refine R_iast (pc := 27) h hM5 (lyDeedsA hg2) dX1_takeOver_27 ?_
      obtain ⟨v6, hv6, hF⟩ := nm_e2 hF
      refine R_iinc (pc := 28) (lv' := [(2, .int v6), (0, .ref (ad px0)), (1, .ref (ad px1))]) h 2 rfl (by decide) hv6 (by decide) rfl dX1_takeOver_28 ?_
      refine R_goto (pc := 31) (tgt := 10) h dX1_takeOver_31 (by decide) ?_
      exact Wp_sub (nX := 0) (lv' := [(0, .ref (ad px0)), (1, .ref (ad px1)), (2, .int v6)]) [1, 2, 0] rfl (ih _ _ _ _ hF)
theorem w1_takeOver_10 {ad : Nat → Nat} {X : XX} {R : Mem} {fu : Nat}  (h : Cx layC ad X cX1_takeOver RX1 3 1 none (R) none)  {f : Nat} {px0 : Nat} {px1 : Nat} {x2 : Int32} {M : Mem} (hF : f1_takeOver_10 fu f px0 px1 x2 M = some R) : Wp layC ad X M 10 [(0, .ref (ad px0)), (1, .ref (ad px1)), (2, .int x2)] [] := w1_takeOveri_10 h  f _ _ _ _ hF
def f1_takeOver (fu : Nat) (p0 : Nat) (p1 : Nat) (M : Mem) : Option (Mem) :=
    (gd (decide (20 ≤ p1 ∧ p1 < 24))).bind fun _ =>
    (gd (decide (20 ≤ p0 ∧ p0 < 24))).bind fun _ =>
    nm (sI M p0 0 (M.1 p1 0)) fun M3 =>
    (f1_takeOver_10 fu fu p0 p1 (0 : Int32) M3)
set_option maxHeartbeats 4000000 in
set_option maxRecDepth 10000 in
theorem w1_takeOver {ad : Nat → Nat} {X : XX} {R : Mem} {fu : Nat} (h : Cx layC ad X cX1_takeOver RX1 3 1 none (R) none) {p0 : Nat} {p1 : Nat} {M : Mem} (hF : f1_takeOver fu p0 p1 M = some R) : Wp layC ad X M 0 [(0, .ref (ad p0)), (1, .ref (ad p1))] [] := by
  unfold f1_takeOver at hF
  refine R_aload_n (pc := 0) h 0 rfl rfl dX1_takeOver_0 ?_
  refine R_aload_n (pc := 1) h 1 rfl rfl dX1_takeOver_1 ?_
  obtain ⟨_, hg1, hF⟩ := bd hF
  have hg1 := of_decide_eq_true (gd_s hg1)
  refine R_getI (pc := 2) h flX1_9 (lyDeeds hg1) rfl dX1_takeOver_2 ?_
  obtain ⟨_, hg2, hF⟩ := bd hF
  have hg2 := of_decide_eq_true (gd_s hg2)
  obtain ⟨M3, hM3, hF⟩ := nm_e2 hF
  refine R_putI (pc := 5) h hM3 fpX1_9 (lyDeeds hg2) rfl dX1_takeOver_5 ?_
  refine R_iconst (pc := 8) (v := 0) h (by decide) dX1_takeOver_8 ?_
  refine R_istore_n (pc := 9) (lv' := [(2, .int (0 : Int32)), (0, .ref (ad p0)), (1, .ref (ad p1))]) h rfl rfl (by decide) rfl dX1_takeOver_9 ?_
  exact Wp_sub (nX := 0) (lv' := [(0, .ref (ad p0)), (1, .ref (ad p1)), (2, .int (0 : Int32))]) [1, 2, 0] rfl (w1_takeOver_10 h  (hF := hF))
theorem c1_takeOver {ad : Nat → Nat} {z : ZZ} {R : Mem} {fu : Nat} {p0 : Nat} {p1 : Nat} {M : Mem} (hF : f1_takeOver fu p0 p1 M = some R) : Con layC ad z yX1_takeOver cX1_takeOver 3 none 1 M [.ref (ad p0), .ref (ad p1)] (R) none := con_of (own := RX1) (lv := [(0, .ref (ad p0)), (1, .ref (ad p1))]) (by decide +kernel) rfl (Nat.le_of_ble_eq_true rfl) rfl (fun X hz h => w1_takeOver h hF)
def f4_keep (fu : Nat) (x1 : Int32) (M : Mem) : Option (Mem × Int32) :=
    (f4_keptAt x1).bind fun r2 =>
    oc r2 ((some (M, (-1 : Int32))))
    fun q3 => if (M.1 35 0) = 0 then ((some (M, (-4 : Int32))))
    else ((gd (decide (20 ≤ q3 ∧ q3 < 24))).bind fun _ =>
    (f1_takeOver fu q3 23 M).bind fun M7 =>
    (some (M7, (M7.1 q3 0))))
set_option maxHeartbeats 4000000 in
set_option maxRecDepth 10000 in
theorem w4_keep {ad : Nat → Nat} {X : XX} {R : Mem × Int32} {fu : Nat} (h : Cx layC ad X cX4_keep RX4 3 2 (some .int) (R.1) (some (.int R.2))) {x1 : Int32} {M : Mem} (hF : f4_keep fu x1 M = some R) : Wp layC ad X M 0 [(0, .ref (ad 28)), (1, .int x1)] [] := by
  unfold f4_keep at hF
  refine R_aload_n (pc := 0) h 0 rfl rfl dX4_keep_0 ?_
  refine R_iload_n (pc := 1) h 1 rfl rfl dX4_keep_1 ?_
  obtain ⟨r2, hc1, hF⟩ := bd hF
  rcases r2 with _ | q3
  · have hF := oc_n hF
    refine R_callV (pc := 2) (st := []) h [.int x1] cvX4_176 (c4_keptAt (ad := ad) (z := X.1) (M := M) hc1) rfl rfl lc_28 (by decide) (by decide) (Nat.le_of_ble_eq_true rfl) dX4_keep_2 (st1 := [.null]) rfl ?_
    refine R_astore_nN (pc := 5) (lv' := [(2, .null), (0, .ref (ad 28)), (1, .int x1)]) h rfl (by decide) rfl dX4_keep_5 ?_
    refine R_aload_nN (pc := 6) h 0 rfl rfl dX4_keep_6 ?_
    refine R_ifnonnullN (pc := 7) h dX4_keep_7 ?_
    refine R_iconst (pc := 10) (v := (-1)) h (by decide) dX4_keep_10 ?_
    cases hF
    exact R_ireturn (pc := 11) h rfl rfl rfl dX4_keep_11
  · have hF := oc_s hF
    refine R_callV (pc := 2) (st := []) h [.int x1] cvX4_176 (c4_keptAt (ad := ad) (z := X.1) (M := M) hc1) rfl rfl lc_28 (by decide) (by decide) (Nat.le_of_ble_eq_true rfl) dX4_keep_2 (st1 := [.ref (ad q3)]) rfl ?_
    refine R_astore_n (pc := 5) (lv' := [(2, .ref (ad q3)), (0, .ref (ad 28)), (1, .int x1)]) h rfl rfl (by decide) rfl dX4_keep_5 ?_
    refine R_aload_n (pc := 6) h 0 rfl rfl dX4_keep_6 ?_
    refine R_ifnonnull (pc := 7) (tgt := 12) h dX4_keep_7 (by decide) ?_
    refine R_aload_n (pc := 12) h 1 rfl rfl dX4_keep_12 ?_
    refine R_getR (pc := 13) (q1 := 33) h flX4_27 lc_28 rfl dX4_keep_13 ?_
    refine R_getR (pc := 16) (q1 := 35) h flX4_104 lc_33 rfl dX4_keep_16 ?_
    refine R_getI (pc := 19) h flX4_121 lc_35 rfl dX4_keep_19 ?_
    refine R_if_ne (pc := 22) (tgt := 28) h dX4_keep_22 (by decide) (fun c4 => ?_) (fun c4 => ?_)
    · have hF := ifn c4 hF
      refine R_aload_n (pc := 28) h 0 rfl rfl dX4_keep_28 ?_
      refine R_aload_n (pc := 29) h 1 rfl rfl dX4_keep_29 ?_
      refine R_getR (pc := 30) (q1 := 33) h flX4_27 lc_28 rfl dX4_keep_30 ?_
      refine R_getR (pc := 33) (q1 := 23) h flX4_172 lc_33 rfl dX4_keep_33 ?_
      obtain ⟨_, hg5, hF⟩ := bd hF
      have hg5 := of_decide_eq_true (gd_s hg5)
      obtain ⟨M7, hc6, hF⟩ := bd hF
      refine R_callV (pc := 36) (st := []) h [.ref (ad 23)] cvX4_180 (c1_takeOver (ad := ad) (z := X.1) hc6) rfl rfl (lyDeeds hg5) (by decide) (by decide) (Nat.le_of_ble_eq_true rfl) dX4_keep_36 (st1 := []) rfl ?_
      refine R_aload_n (pc := 39) h 0 rfl rfl dX4_keep_39 ?_
      refine R_getI (pc := 40) h flX4_118 (lyDeeds hg5) rfl dX4_keep_40 ?_
      cases hF
      exact R_ireturn (pc := 43) h rfl rfl rfl dX4_keep_43
    · have hF := itp c4 hF
      refine R_bipush (pc := 25) (v := (-4)) h (by decide) dX4_keep_25 ?_
      cases hF
      exact R_ireturn (pc := 27) h rfl rfl rfl dX4_keep_27
theorem c4_keep {ad : Nat → Nat} {z : ZZ} {R : Mem × Int32} {fu : Nat} {x1 : Int32} {M : Mem} (hF : f4_keep fu x1 M = some R) : Con layC ad z yX4_keep cX4_keep 3 (some .int) 2 M [.ref (ad 28), .int x1] (R.1) (some (.int R.2)) := con_of (own := RX4) (lv := [(0, .ref (ad 28)), (1, .int x1)]) (by decide +kernel) rfl (Nat.le_of_ble_eq_true rfl) rfl (fun X hz h => w4_keep h hF)
def f4_on (fu : Nat) (x1 : Int32) (M : Mem) : Option (Mem × Int32) :=
    (f4_keptAt x1).bind fun r2 =>
    oc r2 ((some (M, (-1 : Int32))))
    fun q3 => (gd (decide (20 ≤ q3 ∧ q3 < 24))).bind fun _ =>
    if 0 ≤ (M.1 q3 0) then ((f1_takeOver fu 23 q3 M).bind fun M7 =>
    (f3_goBackTo fu (M7.1 q3 0) M7).bind fun M9 =>
    (some (M9, (M9.1 q3 0))))
    else ((f4_find (1 : Int32) M).bind fun ⟨M11, r12⟩ =>
    (some (M11, r12)))
set_option maxHeartbeats 4000000 in
set_option maxRecDepth 10000 in
theorem w4_on {ad : Nat → Nat} {X : XX} {R : Mem × Int32} {fu : Nat} (h : Cx layC ad X cX4_on RX4 3 6 (some .int) (R.1) (some (.int R.2))) {x1 : Int32} {M : Mem} (hF : f4_on fu x1 M = some R) : Wp layC ad X M 0 [(0, .ref (ad 28)), (1, .int x1)] [] := by
  unfold f4_on at hF
  refine R_aload_n (pc := 0) h 0 rfl rfl dX4_on_0 ?_
  refine R_iload_n (pc := 1) h 1 rfl rfl dX4_on_1 ?_
  obtain ⟨r2, hc1, hF⟩ := bd hF
  rcases r2 with _ | q3
  · have hF := oc_n hF
    refine R_callV (pc := 2) (st := []) h [.int x1] cvX4_176 (c4_keptAt (ad := ad) (z := X.1) (M := M) hc1) rfl rfl lc_28 (by decide) (by decide) (Nat.le_of_ble_eq_true rfl) dX4_on_2 (st1 := [.null]) rfl ?_
    refine R_astore_nN (pc := 5) (lv' := [(2, .null), (0, .ref (ad 28)), (1, .int x1)]) h rfl (by decide) rfl dX4_on_5 ?_
    refine R_aload_nN (pc := 6) h 0 rfl rfl dX4_on_6 ?_
    refine R_ifnonnullN (pc := 7) h dX4_on_7 ?_
    refine R_iconst (pc := 10) (v := (-1)) h (by decide) dX4_on_10 ?_
    cases hF
    exact R_ireturn (pc := 11) h rfl rfl rfl dX4_on_11
  · have hF := oc_s hF
    refine R_callV (pc := 2) (st := []) h [.int x1] cvX4_176 (c4_keptAt (ad := ad) (z := X.1) (M := M) hc1) rfl rfl lc_28 (by decide) (by decide) (Nat.le_of_ble_eq_true rfl) dX4_on_2 (st1 := [.ref (ad q3)]) rfl ?_
    refine R_astore_n (pc := 5) (lv' := [(2, .ref (ad q3)), (0, .ref (ad 28)), (1, .int x1)]) h rfl rfl (by decide) rfl dX4_on_5 ?_
    refine R_aload_n (pc := 6) h 0 rfl rfl dX4_on_6 ?_
    refine R_ifnonnull (pc := 7) (tgt := 12) h dX4_on_7 (by decide) ?_
    refine R_aload_n (pc := 12) h 0 rfl rfl dX4_on_12 ?_
    obtain ⟨_, hg4, hF⟩ := bd hF
    have hg4 := of_decide_eq_true (gd_s hg4)
    refine R_getI (pc := 13) h flX4_118 (lyDeeds hg4) rfl dX4_on_13 ?_
    refine R_if_ge (pc := 16) (tgt := 25) h dX4_on_16 (by decide) (fun c5 => ?_) (fun c5 => ?_)
    · have hF := itp c5 hF
      refine R_aload_n (pc := 25) h 1 rfl rfl dX4_on_25 ?_
      refine R_getR (pc := 26) (q1 := 33) h flX4_27 lc_28 rfl dX4_on_26 ?_
      refine R_getR (pc := 29) (q1 := 23) h flX4_172 lc_33 rfl dX4_on_29 ?_
      refine R_aload_n (pc := 32) h 0 rfl rfl dX4_on_32 ?_
      obtain ⟨M7, hc6, hF⟩ := bd hF
      refine R_callV (pc := 33) (st := []) h [.ref (ad q3)] cvX4_180 (c1_takeOver (ad := ad) (z := X.1) hc6) rfl rfl lc_23 (by decide) (by decide) (Nat.le_of_ble_eq_true rfl) dX4_on_33 (st1 := []) rfl ?_
      refine R_aload_n (pc := 36) h 1 rfl rfl dX4_on_36 ?_
      refine R_getR (pc := 37) (q1 := 33) h flX4_27 lc_28 rfl dX4_on_37 ?_
      refine R_aload_n (pc := 40) h 0 rfl rfl dX4_on_40 ?_
      refine R_getI (pc := 41) h flX4_118 (lyDeeds hg4) rfl dX4_on_41 ?_
      obtain ⟨M9, hc8, hF⟩ := bd hF
      refine R_callV (pc := 44) (st := []) h [.int (M7.1 q3 0)] cvX4_114 (c3_goBackTo (ad := ad) (z := X.1) hc8) rfl rfl lc_33 (by decide) (by decide) (Nat.le_of_ble_eq_true rfl) dX4_on_44 (st1 := []) rfl ?_
      refine R_aload_n (pc := 47) h 0 rfl rfl dX4_on_47 ?_
      refine R_getI (pc := 48) h flX4_118 (lyDeeds hg4) rfl dX4_on_48 ?_
      cases hF
      exact R_ireturn (pc := 51) h rfl rfl rfl dX4_on_51
    · have hF := ifn c5 hF
      refine R_aload_n (pc := 19) h 1 rfl rfl dX4_on_19 ?_
      refine R_iconst (pc := 20) (v := 1) h (by decide) dX4_on_20 ?_
      obtain ⟨⟨M11, r12⟩, hc10, hF⟩ := bd hF
      refine R_callV (pc := 21) (st := []) h [.int (1 : Int32)] cvX4_78 (c4_find (ad := ad) (z := X.1) hc10) rfl rfl lc_28 (by decide) (by decide) (Nat.le_of_ble_eq_true rfl) dX4_on_21 (st1 := [.int r12]) rfl ?_
      cases hF
      exact R_ireturn (pc := 24) h rfl rfl rfl dX4_on_24
theorem c4_on {ad : Nat → Nat} {z : ZZ} {R : Mem × Int32} {fu : Nat} {x1 : Int32} {M : Mem} (hF : f4_on fu x1 M = some R) : Con layC ad z yX4_on cX4_on 3 (some .int) 6 M [.ref (ad 28), .int x1] (R.1) (some (.int R.2)) := con_of (own := RX4) (lv := [(0, .ref (ad 28)), (1, .int x1)]) (by decide +kernel) rfl (Nat.le_of_ble_eq_true rfl) rfl (fun X hz h => w4_on h hF)
def f4_busy_15 (fu : Nat) : Nat → Int32 → Int32 → Int32 → Mem → Option (Mem × Int32)
  | 0 => fun _ _ _ _ => none
  | f + 1 => fun x2 x3 x4 M =>
    if (M.1 35 0) ≤ x4 then (nm (sI M 28 6 x3) fun M2 =>
    (some (M2, x2)))
    else (if (((M.1 33 3) >>> (x4 &&& 31)) &&& (1 : Int32)) = 0 then (nm (x4 + (1 : Int32)) fun v4 =>
    ((f4_busy_15 fu f) x2 x3 v4 M))
    else ((rd M 41 8 x4).bind fun v5 =>
    nm (x3 ||| (x2 &&& v5)) fun v6 =>
    (rd M 41 8 x4).bind fun v7 =>
    nm (x2 ||| v7) fun v8 =>
    nm (x4 + (1 : Int32)) fun v9 =>
    ((f4_busy_15 fu f) v8 v6 v9 M)))
set_option maxHeartbeats 4000000 in
set_option maxRecDepth 10000 in
theorem w4_busyi_15 {ad : Nat → Nat} {X : XX} {R : Mem × Int32} {fu : Nat}  (h : Cx layC ad X cX4_busy RX4 5 1 (some .int) (R.1) (some (.int R.2)))  : ∀ (f : Nat) (x2 : Int32) (x3 : Int32) (x4 : Int32) (M : Mem), f4_busy_15 fu f x2 x3 x4 M = some R → Wp layC ad X M 15 [(0, .ref (ad 28)), (1, .ref (ad 35)), (2, .int x2), (3, .int x3), (4, .int x4)] [] := by
  intro f
  induction f with
  | zero => intro x2 x3 x4 M hF; exact absurd hF (by simp [f4_busy_15])
  | succ f ih =>
    intro x2 x3 x4 M hF
    rw [f4_busy_15] at hF
    refine R_iload (pc := 15) h 4 rfl dX4_busy_15 ?_
    refine R_aload_n (pc := 17) h 1 rfl rfl dX4_busy_17 ?_
    refine R_getI (pc := 18) h flX4_121 lc_35 rfl dX4_busy_18 ?_
    refine R_icmp_ge (pc := 21) (tgt := 67) h dX4_busy_21 (by decide) (fun c1 => ?_) (fun c1 => ?_)
    · have hF := itp c1 hF
      refine R_aload_n (pc := 67) h 0 rfl rfl dX4_busy_67 ?_
      refine R_iload_n (pc := 68) h 3 rfl rfl dX4_busy_68 ?_
      obtain ⟨M2, hM2, hF⟩ := nm_e2 hF
      refine R_putI (pc := 69) h hM2 fpX4_39 lc_28 rfl dX4_busy_69 ?_
      refine R_iload_n (pc := 72) h 2 rfl rfl dX4_busy_72 ?_
      cases hF
      exact R_ireturn (pc := 73) h rfl rfl rfl dX4_busy_73
    · have hF := ifn c1 hF
      refine R_aload_n (pc := 24) h 0 rfl rfl dX4_busy_24 ?_
      refine R_getR (pc := 25) (q1 := 33) h flX4_27 lc_28 rfl dX4_busy_25 ?_
      refine R_getI (pc := 28) h flX4_164 lc_33 rfl dX4_busy_28 ?_
      refine R_iload (pc := 31) h 4 rfl dX4_busy_31 ?_
      refine R_ishr (pc := 33) h dX4_busy_33 ?_
      refine R_iconst (pc := 34) (v := 1) h (by decide) dX4_busy_34 ?_
      refine R_iand (pc := 35) h dX4_busy_35 ?_
      refine R_if_eq (pc := 36) (tgt := 61) h dX4_busy_36 (by decide) (fun c3 => ?_) (fun c3 => ?_)
      · have hF := itp c3 hF
        obtain ⟨v4, hv4, hF⟩ := nm_e2 hF
        refine R_iinc (pc := 61) (lv' := [(4, .int v4), (0, .ref (ad 28)), (1, .ref (ad 35)), (2, .int x2), (3, .int x3)]) h 4 rfl (by decide) hv4 (by decide) rfl dX4_busy_61 ?_
        refine R_goto (pc := 64) (tgt := 15) h dX4_busy_64 (by decide) ?_
        exact Wp_sub (nX := 0) (lv' := [(0, .ref (ad 28)), (1, .ref (ad 35)), (2, .int x2), (3, .int x3), (4, .int v4)]) [1, 2, 3, 4, 0] rfl (ih _ _ _ _ hF)
      · have hF := ifn c3 hF
        refine R_iload_n (pc := 39) h 3 rfl rfl dX4_busy_39 ?_
        refine R_iload_n (pc := 40) h 2 rfl rfl dX4_busy_40 ?_
        refine R_aload_n (pc := 41) h 1 rfl rfl dX4_busy_41 ?_
        refine R_getR (pc := 42) (q1 := 41) h flX4_184 lc_35 rfl dX4_busy_42 ?_
        refine R_iload (pc := 45) h 4 rfl dX4_busy_45 ?_
        obtain ⟨v5, hv5, hF⟩ := bd hF
        refine R_iald (pc := 47) h hv5 lc_41 dX4_busy_47 ?_
        refine R_iand (pc := 48) h dX4_busy_48 ?_
        refine R_ior (pc := 49) h dX4_busy_49 ?_
        obtain ⟨v6, hv6, hF⟩ := nm_e2 hF
        refine R_istore_n (pc := 50) (lv' := [(3, .int v6), (0, .ref (ad 28)), (1, .ref (ad 35)), (2, .int x2), (4, .int x4)]) h hv6 rfl (by decide) rfl dX4_busy_50 ?_
        refine R_iload_n (pc := 51) h 3 rfl rfl dX4_busy_51 ?_
        refine R_aload_n (pc := 52) h 2 rfl rfl dX4_busy_52 ?_
        refine R_getR (pc := 53) (q1 := 41) h flX4_184 lc_35 rfl dX4_busy_53 ?_
        refine R_iload (pc := 56) h 4 rfl dX4_busy_56 ?_
        obtain ⟨v7, hv7, hF⟩ := bd hF
        refine R_iald (pc := 58) h hv7 lc_41 dX4_busy_58 ?_
        refine R_ior (pc := 59) h dX4_busy_59 ?_
        obtain ⟨v8, hv8, hF⟩ := nm_e2 hF
        refine R_istore_n (pc := 60) (lv' := [(2, .int v8), (3, .int v6), (0, .ref (ad 28)), (1, .ref (ad 35)), (4, .int x4)]) h hv8 rfl (by decide) rfl dX4_busy_60 ?_
        obtain ⟨v9, hv9, hF⟩ := nm_e2 hF
        refine R_iinc (pc := 61) (lv' := [(4, .int v9), (2, .int v8), (3, .int v6), (0, .ref (ad 28)), (1, .ref (ad 35))]) h 4 rfl (by decide) hv9 (by decide) rfl dX4_busy_61 ?_
        refine R_goto (pc := 64) (tgt := 15) h dX4_busy_64 (by decide) ?_
        exact Wp_sub (nX := 0) (lv' := [(0, .ref (ad 28)), (1, .ref (ad 35)), (2, .int v8), (3, .int v6), (4, .int v9)]) [3, 4, 1, 2, 0] rfl (ih _ _ _ _ hF)
theorem w4_busy_15 {ad : Nat → Nat} {X : XX} {R : Mem × Int32} {fu : Nat}  (h : Cx layC ad X cX4_busy RX4 5 1 (some .int) (R.1) (some (.int R.2)))  {f : Nat} {x2 : Int32} {x3 : Int32} {x4 : Int32} {M : Mem} (hF : f4_busy_15 fu f x2 x3 x4 M = some R) : Wp layC ad X M 15 [(0, .ref (ad 28)), (1, .ref (ad 35)), (2, .int x2), (3, .int x3), (4, .int x4)] [] := w4_busyi_15 h  f _ _ _ _ hF
def f4_busy (fu : Nat) (M : Mem) : Option (Mem × Int32) :=
    (f4_busy_15 fu fu (0 : Int32) (0 : Int32) (0 : Int32) M)
set_option maxHeartbeats 4000000 in
set_option maxRecDepth 10000 in
theorem w4_busy {ad : Nat → Nat} {X : XX} {R : Mem × Int32} {fu : Nat} (h : Cx layC ad X cX4_busy RX4 5 1 (some .int) (R.1) (some (.int R.2))) {M : Mem} (hF : f4_busy fu M = some R) : Wp layC ad X M 0 [(0, .ref (ad 28))] [] := by
  unfold f4_busy at hF
  refine R_aload_n (pc := 0) h 0 rfl rfl dX4_busy_0 ?_
  refine R_getR (pc := 1) (q1 := 33) h flX4_27 lc_28 rfl dX4_busy_1 ?_
  refine R_getR (pc := 4) (q1 := 35) h flX4_104 lc_33 rfl dX4_busy_4 ?_
  refine R_astore_n (pc := 7) (lv' := [(1, .ref (ad 35)), (0, .ref (ad 28))]) h rfl rfl (by decide) rfl dX4_busy_7 ?_
  refine R_iconst (pc := 8) (v := 0) h (by decide) dX4_busy_8 ?_
  refine R_istore_n (pc := 9) (lv' := [(2, .int (0 : Int32)), (1, .ref (ad 35)), (0, .ref (ad 28))]) h rfl rfl (by decide) rfl dX4_busy_9 ?_
  refine R_iconst (pc := 10) (v := 0) h (by decide) dX4_busy_10 ?_
  refine R_istore_n (pc := 11) (lv' := [(3, .int (0 : Int32)), (2, .int (0 : Int32)), (1, .ref (ad 35)), (0, .ref (ad 28))]) h rfl rfl (by decide) rfl dX4_busy_11 ?_
  refine R_iconst (pc := 12) (v := 0) h (by decide) dX4_busy_12 ?_
  refine R_istore (pc := 13) (lv' := [(4, .int (0 : Int32)), (3, .int (0 : Int32)), (2, .int (0 : Int32)), (1, .ref (ad 35)), (0, .ref (ad 28))]) h rfl (by decide) rfl dX4_busy_13 ?_
  exact Wp_sub (nX := 0) (lv' := [(0, .ref (ad 28)), (1, .ref (ad 35)), (2, .int (0 : Int32)), (3, .int (0 : Int32)), (4, .int (0 : Int32))]) [4, 3, 2, 1, 0] rfl (w4_busy_15 h  (hF := hF))
theorem c4_busy {ad : Nat → Nat} {z : ZZ} {R : Mem × Int32} {fu : Nat} {M : Mem} (hF : f4_busy fu M = some R) : Con layC ad z yX4_busy cX4_busy 5 (some .int) 1 M [.ref (ad 28)] (R.1) (some (.int R.2)) := con_of (own := RX4) (lv := [(0, .ref (ad 28))]) (by decide +kernel) rfl (Nat.le_of_ble_eq_true rfl) rfl (fun X hz h => w4_busy h hF)
def f2_isSet (x0 : Int32) : Option (Int32) :=
    if x0 < 0 then ((some (0 : Int32)))
    else (if (256 : Int32) ≤ x0 then ((some (0 : Int32)))
    else ((some (1 : Int32))))
set_option maxHeartbeats 4000000 in
set_option maxRecDepth 10000 in
theorem w2_isSet {ad : Nat → Nat} {X : XX} {R : Int32} {M : Mem} (h : Cx layC ad X cX2_isSet RX2 1 1 (some .boolean) M (some (.int R))) {x0 : Int32} (hF : f2_isSet x0 = some R) : Wp layC ad X M 0 [(0, .int x0)] [] := by
  unfold f2_isSet at hF
  refine R_iload_n (pc := 0) h 0 rfl rfl dX2_isSet_0 ?_
  refine R_if_lt (pc := 1) (tgt := 15) h dX2_isSet_1 (by decide) (fun c1 => ?_) (fun c1 => ?_)
  · have hF := itp c1 hF
    refine R_iconst (pc := 15) (v := 0) h (by decide) dX2_isSet_15 ?_
    cases hF
    exact R_zreturn (pc := 16) h rfl zr0 rfl rfl dX2_isSet_16
  · have hF := ifn c1 hF
    refine R_iload_n (pc := 4) h 0 rfl rfl dX2_isSet_4 ?_
    refine R_sipush (pc := 5) (v := 256) h (by decide) dX2_isSet_5 ?_
    refine R_icmp_ge (pc := 8) (tgt := 15) h dX2_isSet_8 (by decide) (fun c2 => ?_) (fun c2 => ?_)
    · have hF := itp c2 hF
      refine R_iconst (pc := 15) (v := 0) h (by decide) dX2_isSet_15 ?_
      cases hF
      exact R_zreturn (pc := 16) h rfl zr0 rfl rfl dX2_isSet_16
    · have hF := ifn c2 hF
      refine R_iconst (pc := 11) (v := 1) h (by decide) dX2_isSet_11 ?_
      refine R_goto (pc := 12) (tgt := 16) h dX2_isSet_12 (by decide) ?_
      cases hF
      exact R_zreturn (pc := 16) h rfl zr1 rfl rfl dX2_isSet_16
theorem c2_isSet {ad : Nat → Nat} {z : ZZ} {R : Int32} {M : Mem} {x0 : Int32} (hF : f2_isSet x0 = some R) : Con layC ad z yX2_isSet cX2_isSet 1 (some .boolean) 1 M [.int x0] (M) (some (.int R)) := con_of (own := RX2) (lv := [(0, .int x0)]) (by decide +kernel) rfl (Nat.le_of_ble_eq_true rfl) rfl (fun X hz h => w2_isSet h hF)
def f2_sumOf (M : Mem) (x1 : Int32) : Option (Int32) :=
    (f2_isSet x1).bind fun r2 =>
    if r2 = 0 then ((some (0 : Int32)))
    else ((rd M 44 256 x1).bind fun v4 =>
    (some v4))
set_option maxHeartbeats 4000000 in
set_option maxRecDepth 10000 in
theorem w2_sumOf {ad : Nat → Nat} {X : XX} {R : Int32} {M : Mem} (h : Cx layC ad X cX2_sumOf RX2 2 2 (some .int) M (some (.int R))) {x1 : Int32} (hF : f2_sumOf M x1 = some R) : Wp layC ad X M 0 [(0, .ref (ad 35)), (1, .int x1)] [] := by
  unfold f2_sumOf at hF
  refine R_iload_n (pc := 0) h 1 rfl rfl dX2_sumOf_0 ?_
  obtain ⟨r2, hc1, hF⟩ := bd hF
  refine R_callS (pc := 1) (st := []) h [.int x1] csX2_50 (c2_isSet (ad := ad) (z := X.1) (M := M) hc1) rfl rfl (by decide) (by decide) (Nat.le_of_ble_eq_true rfl) dX2_sumOf_1 (st1 := [.int r2]) rfl ?_
  refine R_if_eq (pc := 4) (tgt := 16) h dX2_sumOf_4 (by decide) (fun c3 => ?_) (fun c3 => ?_)
  · have hF := itp c3 hF
    refine R_iconst (pc := 16) (v := 0) h (by decide) dX2_sumOf_16 ?_
    cases hF
    exact R_ireturn (pc := 17) h rfl rfl rfl dX2_sumOf_17
  · have hF := ifn c3 hF
    refine R_aload_n (pc := 7) h 0 rfl rfl dX2_sumOf_7 ?_
    refine R_getR (pc := 8) (q1 := 44) h flX2_40 lc_35 rfl dX2_sumOf_8 ?_
    refine R_iload_n (pc := 11) h 1 rfl rfl dX2_sumOf_11 ?_
    obtain ⟨v4, hv4, hF⟩ := bd hF
    refine R_iald (pc := 12) h hv4 lc_44 dX2_sumOf_12 ?_
    refine R_goto (pc := 13) (tgt := 17) h dX2_sumOf_13 (by decide) ?_
    cases hF
    exact R_ireturn (pc := 17) h rfl rfl rfl dX2_sumOf_17
theorem c2_sumOf {ad : Nat → Nat} {z : ZZ} {R : Int32} {M : Mem} {x1 : Int32} (hF : f2_sumOf M x1 = some R) : Con layC ad z yX2_sumOf cX2_sumOf 2 (some .int) 2 M [.ref (ad 35), .int x1] (M) (some (.int R)) := con_of (own := RX2) (lv := [(0, .ref (ad 35)), (1, .int x1)]) (by decide +kernel) rfl (Nat.le_of_ble_eq_true rfl) rfl (fun X hz h => w2_sumOf h hF)
def f4_clashes_12 (fu : Nat) : Nat → Int32 → Int32 → Mem → Option (Mem × Int32)
  | 0 => fun _ _ _ => none
  | f + 1 => fun x2 x3 M =>
    if (M.1 35 0) ≤ x3 then ((f2_sumOf M (M.1 33 3)).bind fun r3 =>
    nm (sI M 28 6 r3) fun M4 =>
    (some (M4, x2)))
    else (if (((M.1 33 3) >>> (x3 &&& 31)) &&& (1 : Int32)) = 0 then (nm (x3 + (1 : Int32)) fun v6 =>
    ((f4_clashes_12 fu f) x2 v6 M))
    else (nm ((M.1 33 3) &&& (((1 : Int32) <<< (x3 &&& 31)) - (1 : Int32))) fun v7 =>
    (rd M 41 8 x3).bind fun v8 =>
    (f2_apartFrom M fu v8).bind fun r10 =>
    (f6_bitCount (v7 &&& (r10 ^^^ (-1 : Int32)))).bind fun r12 =>
    nm (x2 + r12) fun v13 =>
    nm (x3 + (1 : Int32)) fun v14 =>
    ((f4_clashes_12 fu f) v13 v14 M)))
set_option maxHeartbeats 4000000 in
set_option maxRecDepth 10000 in
theorem w4_clashesi_12 {ad : Nat → Nat} {X : XX} {R : Mem × Int32} {fu : Nat}  (h : Cx layC ad X cX4_clashes RX4 5 3 (some .int) (R.1) (some (.int R.2)))  : ∀ (f : Nat) (x2 : Int32) (x3 : Int32) (M : Mem), f4_clashes_12 fu f x2 x3 M = some R → Wp layC ad X M 12 [(0, .ref (ad 28)), (1, .ref (ad 35)), (2, .int x2), (3, .int x3)] [] := by
  intro f
  induction f with
  | zero => intro x2 x3 M hF; exact absurd hF (by simp [f4_clashes_12])
  | succ f ih =>
    intro x2 x3 M hF
    rw [f4_clashes_12] at hF
    refine R_iload_n (pc := 12) h 3 rfl rfl dX4_clashes_12 ?_
    refine R_aload_n (pc := 13) h 1 rfl rfl dX4_clashes_13 ?_
    refine R_getI (pc := 14) h flX4_121 lc_35 rfl dX4_clashes_14 ?_
    refine R_icmp_ge (pc := 17) (tgt := 76) h dX4_clashes_17 (by decide) (fun c1 => ?_) (fun c1 => ?_)
    · have hF := itp c1 hF
      refine R_aload_n (pc := 76) h 0 rfl rfl dX4_clashes_76 ?_
      refine R_aload_n (pc := 77) h 1 rfl rfl dX4_clashes_77 ?_
      refine R_aload_n (pc := 78) h 0 rfl rfl dX4_clashes_78 ?_
      refine R_getR (pc := 79) (q1 := 33) h flX4_27 lc_28 rfl dX4_clashes_79 ?_
      refine R_getI (pc := 82) h flX4_164 lc_33 rfl dX4_clashes_82 ?_
      obtain ⟨r3, hc2, hF⟩ := bd hF
      refine R_callV (pc := 85) (st := [.ref (ad 28)]) h [.int (M.1 33 3)] cvX4_190 (c2_sumOf (ad := ad) (z := X.1) hc2) rfl rfl lc_35 (by decide) (by decide) (Nat.le_of_ble_eq_true rfl) dX4_clashes_85 (st1 := [.int r3, .ref (ad 28)]) rfl ?_
      obtain ⟨M4, hM4, hF⟩ := nm_e2 hF
      refine R_putI (pc := 88) h hM4 fpX4_39 lc_28 rfl dX4_clashes_88 ?_
      refine R_iload_n (pc := 91) h 2 rfl rfl dX4_clashes_91 ?_
      cases hF
      exact R_ireturn (pc := 92) h rfl rfl rfl dX4_clashes_92
    · have hF := ifn c1 hF
      refine R_aload_n (pc := 20) h 0 rfl rfl dX4_clashes_20 ?_
      refine R_getR (pc := 21) (q1 := 33) h flX4_27 lc_28 rfl dX4_clashes_21 ?_
      refine R_getI (pc := 24) h flX4_164 lc_33 rfl dX4_clashes_24 ?_
      refine R_iload_n (pc := 27) h 3 rfl rfl dX4_clashes_27 ?_
      refine R_ishr (pc := 28) h dX4_clashes_28 ?_
      refine R_iconst (pc := 29) (v := 1) h (by decide) dX4_clashes_29 ?_
      refine R_iand (pc := 30) h dX4_clashes_30 ?_
      refine R_if_eq (pc := 31) (tgt := 70) h dX4_clashes_31 (by decide) (fun c5 => ?_) (fun c5 => ?_)
      · have hF := itp c5 hF
        obtain ⟨v6, hv6, hF⟩ := nm_e2 hF
        refine R_iinc (pc := 70) (lv' := [(3, .int v6), (0, .ref (ad 28)), (1, .ref (ad 35)), (2, .int x2)]) h 3 rfl (by decide) hv6 (by decide) rfl dX4_clashes_70 ?_
        refine R_goto (pc := 73) (tgt := 12) h dX4_clashes_73 (by decide) ?_
        exact Wp_sub (nX := 0) (lv' := [(0, .ref (ad 28)), (1, .ref (ad 35)), (2, .int x2), (3, .int v6)]) [1, 2, 3, 0] rfl (ih _ _ _ hF)
      · have hF := ifn c5 hF
        refine R_aload_n (pc := 34) h 0 rfl rfl dX4_clashes_34 ?_
        refine R_getR (pc := 35) (q1 := 33) h flX4_27 lc_28 rfl dX4_clashes_35 ?_
        refine R_getI (pc := 38) h flX4_164 lc_33 rfl dX4_clashes_38 ?_
        refine R_iconst (pc := 41) (v := 1) h (by decide) dX4_clashes_41 ?_
        refine R_iload_n (pc := 42) h 3 rfl rfl dX4_clashes_42 ?_
        refine R_ishl (pc := 43) h dX4_clashes_43 ?_
        refine R_iconst (pc := 44) (v := 1) h (by decide) dX4_clashes_44 ?_
        refine R_isub (pc := 45) h dX4_clashes_45 ?_
        refine R_iand (pc := 46) h dX4_clashes_46 ?_
        obtain ⟨v7, hv7, hF⟩ := nm_e2 hF
        refine R_istore (pc := 47) (lv' := [(4, .int v7), (0, .ref (ad 28)), (1, .ref (ad 35)), (2, .int x2), (3, .int x3)]) h hv7 (by decide) rfl dX4_clashes_47 ?_
        refine R_iload_n (pc := 49) h 3 rfl rfl dX4_clashes_49 ?_
        refine R_iload (pc := 50) h 0 rfl dX4_clashes_50 ?_
        refine R_aload_n (pc := 52) h 2 rfl rfl dX4_clashes_52 ?_
        refine R_aload_n (pc := 53) h 2 rfl rfl dX4_clashes_53 ?_
        refine R_getR (pc := 54) (q1 := 41) h flX4_184 lc_35 rfl dX4_clashes_54 ?_
        refine R_iload_n (pc := 57) h 4 rfl rfl dX4_clashes_57 ?_
        obtain ⟨v8, hv8, hF⟩ := bd hF
        refine R_iald (pc := 58) h hv8 lc_41 dX4_clashes_58 ?_
        obtain ⟨r10, hc9, hF⟩ := bd hF
        refine R_callV (pc := 59) (st := [.int v7, .int x2]) h [.int v8] cvX4_187 (c2_apartFrom (ad := ad) (z := X.1) hc9) rfl rfl lc_35 (by decide) (by decide) (Nat.le_of_ble_eq_true rfl) dX4_clashes_59 (st1 := [.int r10, .int v7, .int x2]) rfl ?_
        refine R_iconst (pc := 62) (v := (-1)) h (by decide) dX4_clashes_62 ?_
        refine R_ixor (pc := 63) h dX4_clashes_63 ?_
        refine R_iand (pc := 64) h dX4_clashes_64 ?_
        obtain ⟨r12, hc11, hF⟩ := bd hF
        refine R_callS (pc := 65) (st := [.int x2]) h [.int (v7 &&& (r10 ^^^ (-1 : Int32)))] csX4_167 (c6_bitCount (ad := ad) (z := X.1) (M := M) hc11) rfl rfl (by decide) (by decide) (Nat.le_of_ble_eq_true rfl) dX4_clashes_65 (st1 := [.int r12, .int x2]) rfl ?_
        refine R_iadd (pc := 68) h dX4_clashes_68 ?_
        obtain ⟨v13, hv13, hF⟩ := nm_e2 hF
        refine R_istore_n (pc := 69) (lv' := [(2, .int v13), (4, .int v7), (0, .ref (ad 28)), (1, .ref (ad 35)), (3, .int x3)]) h hv13 rfl (by decide) rfl dX4_clashes_69 ?_
        obtain ⟨v14, hv14, hF⟩ := nm_e2 hF
        refine R_iinc (pc := 70) (lv' := [(3, .int v14), (2, .int v13), (4, .int v7), (0, .ref (ad 28)), (1, .ref (ad 35))]) h 4 rfl (by decide) hv14 (by decide) rfl dX4_clashes_70 ?_
        refine R_goto (pc := 73) (tgt := 12) h dX4_clashes_73 (by decide) ?_
        exact Wp_sub (nX := 0) (lv' := [(0, .ref (ad 28)), (1, .ref (ad 35)), (2, .int v13), (3, .int v14)]) [3, 4, 1, 0] rfl (ih _ _ _ hF)
theorem w4_clashes_12 {ad : Nat → Nat} {X : XX} {R : Mem × Int32} {fu : Nat}  (h : Cx layC ad X cX4_clashes RX4 5 3 (some .int) (R.1) (some (.int R.2)))  {f : Nat} {x2 : Int32} {x3 : Int32} {M : Mem} (hF : f4_clashes_12 fu f x2 x3 M = some R) : Wp layC ad X M 12 [(0, .ref (ad 28)), (1, .ref (ad 35)), (2, .int x2), (3, .int x3)] [] := w4_clashesi_12 h  f _ _ _ hF
def f4_clashes (fu : Nat) (M : Mem) : Option (Mem × Int32) :=
    (f4_clashes_12 fu fu (0 : Int32) (0 : Int32) M)
set_option maxHeartbeats 4000000 in
set_option maxRecDepth 10000 in
theorem w4_clashes {ad : Nat → Nat} {X : XX} {R : Mem × Int32} {fu : Nat} (h : Cx layC ad X cX4_clashes RX4 5 3 (some .int) (R.1) (some (.int R.2))) {M : Mem} (hF : f4_clashes fu M = some R) : Wp layC ad X M 0 [(0, .ref (ad 28))] [] := by
  unfold f4_clashes at hF
  refine R_aload_n (pc := 0) h 0 rfl rfl dX4_clashes_0 ?_
  refine R_getR (pc := 1) (q1 := 33) h flX4_27 lc_28 rfl dX4_clashes_1 ?_
  refine R_getR (pc := 4) (q1 := 35) h flX4_104 lc_33 rfl dX4_clashes_4 ?_
  refine R_astore_n (pc := 7) (lv' := [(1, .ref (ad 35)), (0, .ref (ad 28))]) h rfl rfl (by decide) rfl dX4_clashes_7 ?_
  refine R_iconst (pc := 8) (v := 0) h (by decide) dX4_clashes_8 ?_
  refine R_istore_n (pc := 9) (lv' := [(2, .int (0 : Int32)), (1, .ref (ad 35)), (0, .ref (ad 28))]) h rfl rfl (by decide) rfl dX4_clashes_9 ?_
  refine R_iconst (pc := 10) (v := 0) h (by decide) dX4_clashes_10 ?_
  refine R_istore_n (pc := 11) (lv' := [(3, .int (0 : Int32)), (2, .int (0 : Int32)), (1, .ref (ad 35)), (0, .ref (ad 28))]) h rfl rfl (by decide) rfl dX4_clashes_11 ?_
  exact Wp_sub (nX := 0) (lv' := [(0, .ref (ad 28)), (1, .ref (ad 35)), (2, .int (0 : Int32)), (3, .int (0 : Int32))]) [3, 2, 1, 0] rfl (w4_clashes_12 h  (hF := hF))
theorem c4_clashes {ad : Nat → Nat} {z : ZZ} {R : Mem × Int32} {fu : Nat} {M : Mem} (hF : f4_clashes fu M = some R) : Con layC ad z yX4_clashes cX4_clashes 5 (some .int) 3 M [.ref (ad 28)] (R.1) (some (.int R.2)) := con_of (own := RX4) (lv := [(0, .ref (ad 28))]) (by decide +kernel) rfl (Nat.le_of_ble_eq_true rfl) rfl (fun X hz h => w4_clashes h hF)
def f2_isApart (M : Mem) (x1 : Int32) : Option (Int32) :=
    (f2_isSet x1).bind fun r2 =>
    if r2 = 0 then ((some (0 : Int32)))
    else ((rd M 45 256 x1).bind fun v4 =>
    if v4 = 0 then ((some (0 : Int32)))
    else ((some (1 : Int32))))
set_option maxHeartbeats 4000000 in
set_option maxRecDepth 10000 in
theorem w2_isApart {ad : Nat → Nat} {X : XX} {R : Int32} {M : Mem} (h : Cx layC ad X cX2_isApart RX2 2 2 (some .boolean) M (some (.int R))) {x1 : Int32} (hF : f2_isApart M x1 = some R) : Wp layC ad X M 0 [(0, .ref (ad 35)), (1, .int x1)] [] := by
  unfold f2_isApart at hF
  refine R_iload_n (pc := 0) h 1 rfl rfl dX2_isApart_0 ?_
  obtain ⟨r2, hc1, hF⟩ := bd hF
  refine R_callS (pc := 1) (st := []) h [.int x1] csX2_50 (c2_isSet (ad := ad) (z := X.1) (M := M) hc1) rfl rfl (by decide) (by decide) (Nat.le_of_ble_eq_true rfl) dX2_isApart_1 (st1 := [.int r2]) rfl ?_
  refine R_if_eq (pc := 4) (tgt := 20) h dX2_isApart_4 (by decide) (fun c3 => ?_) (fun c3 => ?_)
  · have hF := itp c3 hF
    refine R_iconst (pc := 20) (v := 0) h (by decide) dX2_isApart_20 ?_
    cases hF
    exact R_zreturn (pc := 21) h rfl zr0 rfl rfl dX2_isApart_21
  · have hF := ifn c3 hF
    refine R_aload_n (pc := 7) h 0 rfl rfl dX2_isApart_7 ?_
    refine R_getR (pc := 8) (q1 := 45) h flX2_43 lc_35 rfl dX2_isApart_8 ?_
    refine R_iload_n (pc := 11) h 1 rfl rfl dX2_isApart_11 ?_
    obtain ⟨v4, hv4, hF⟩ := bd hF
    refine R_zald (pc := 12) h hv4 lc_45 dX2_isApart_12 ?_
    refine R_if_eq (pc := 13) (tgt := 20) h dX2_isApart_13 (by decide) (fun c5 => ?_) (fun c5 => ?_)
    · have hF := itp c5 hF
      refine R_iconst (pc := 20) (v := 0) h (by decide) dX2_isApart_20 ?_
      cases hF
      exact R_zreturn (pc := 21) h rfl zr0 rfl rfl dX2_isApart_21
    · have hF := ifn c5 hF
      refine R_iconst (pc := 16) (v := 1) h (by decide) dX2_isApart_16 ?_
      refine R_goto (pc := 17) (tgt := 21) h dX2_isApart_17 (by decide) ?_
      cases hF
      exact R_zreturn (pc := 21) h rfl zr1 rfl rfl dX2_isApart_21
theorem c2_isApart {ad : Nat → Nat} {z : ZZ} {R : Int32} {M : Mem} {x1 : Int32} (hF : f2_isApart M x1 = some R) : Con layC ad z yX2_isApart cX2_isApart 2 (some .boolean) 2 M [.ref (ad 35), .int x1] (M) (some (.int R)) := con_of (own := RX2) (lv := [(0, .ref (ad 35)), (1, .int x1)]) (by decide +kernel) rfl (Nat.le_of_ble_eq_true rfl) rfl (fun X hz h => w2_isApart h hF)
