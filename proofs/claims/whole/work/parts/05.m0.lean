theorem dX5_in_0 : decode cX5_in 0 = .ok (.lload_n 0, 1) := by decide +kernel
theorem dX5_in_1 : decode cX5_in 1 = .ok (.lload_n 2, 1) := by decide +kernel
theorem dX5_in_2 : decode cX5_in 2 = .ok (.lcmp, 1) := by decide +kernel
theorem dX5_in_3 : decode cX5_in 3 = .ok (.ifCond .lt 14, 3) := by decide +kernel
theorem dX5_in_6 : decode cX5_in 6 = .ok (.lload_n 0, 1) := by decide +kernel
theorem dX5_in_7 : decode cX5_in 7 = .ok (.lload 4, 2) := by decide +kernel
theorem dX5_in_9 : decode cX5_in 9 = .ok (.lcmp, 1) := by decide +kernel
theorem dX5_in_10 : decode cX5_in 10 = .ok (.ifCond .gt 7, 3) := by decide +kernel
theorem dX5_in_13 : decode cX5_in 13 = .ok (.iconst 1, 1) := by decide +kernel
theorem dX5_in_14 : decode cX5_in 14 = .ok (.goto 4, 3) := by decide +kernel
theorem dX5_in_17 : decode cX5_in 17 = .ok (.iconst 0, 1) := by decide +kernel
theorem dX5_in_18 : decode cX5_in 18 = .ok (.ireturn, 1) := by decide +kernel
theorem dX5_isRow_0 : decode cX5_isRow 0 = .ok (.iload_n 0, 1) := by decide +kernel
theorem dX5_isRow_1 : decode cX5_isRow 1 = .ok (.i2l, 1) := by decide +kernel
theorem dX5_isRow_2 : decode cX5_isRow 2 = .ok (.lconst 0, 1) := by decide +kernel
theorem dX5_isRow_3 : decode cX5_isRow 3 = .ok (.ldc2_w 69, 3) := by decide +kernel
theorem dX5_isRow_6 : decode cX5_isRow 6 = .ok (.invokestatic 71, 3) := by decide +kernel
theorem dX5_isRow_9 : decode cX5_isRow 9 = .ok (.ireturn, 1) := by decide +kernel
theorem dX5_found_0 : decode cX5_found 0 = .ok (.aload_n 0, 1) := by decide +kernel
theorem dX5_found_1 : decode cX5_found 1 = .ok (.iload_n 1, 1) := by decide +kernel
theorem dX5_found_2 : decode cX5_found 2 = .ok (.putfield 62, 3) := by decide +kernel
theorem dX5_found_5 : decode cX5_found 5 = .ok (.aload_n 0, 1) := by decide +kernel
theorem dX5_found_6 : decode cX5_found 6 = .ok (.getfield 26, 3) := by decide +kernel
theorem dX5_found_9 : decode cX5_found 9 = .ok (.iload_n 1, 1) := by decide +kernel
theorem dX5_found_10 : decode cX5_found 10 = .ok (.dup2, 1) := by decide +kernel
theorem dX5_found_11 : decode cX5_found 11 = .ok (.iaload, 1) := by decide +kernel
theorem dX5_found_12 : decode cX5_found 12 = .ok (.iconst 1, 1) := by decide +kernel
theorem dX5_found_13 : decode cX5_found 13 = .ok (.iadd, 1) := by decide +kernel
theorem dX5_found_14 : decode cX5_found 14 = .ok (.iastore, 1) := by decide +kernel
theorem dX5_found_15 : decode cX5_found 15 = .ok (.bipush (-3), 2) := by decide +kernel
theorem dX5_found_17 : decode cX5_found 17 = .ok (.ireturn, 1) := by decide +kernel
theorem dX5_row_0 : decode cX5_row 0 = .ok (.iload_n 1, 1) := by decide +kernel
theorem dX5_row_1 : decode cX5_row 1 = .ok (.invokestatic 77, 3) := by decide +kernel
theorem dX5_row_4 : decode cX5_row 4 = .ok (.ifCond .eq 9, 3) := by decide +kernel
theorem dX5_row_7 : decode cX5_row 7 = .ok (.iload_n 2, 1) := by decide +kernel
theorem dX5_row_8 : decode cX5_row 8 = .ok (.bipush 40, 2) := by decide +kernel
theorem dX5_row_10 : decode cX5_row 10 = .ok (.if_icmp .le 5, 3) := by decide +kernel
theorem dX5_row_13 : decode cX5_row 13 = .ok (.iconst (-1), 1) := by decide +kernel
theorem dX5_row_14 : decode cX5_row 14 = .ok (.ireturn, 1) := by decide +kernel
theorem dX5_row_15 : decode cX5_row 15 = .ok (.iload_n 2, 1) := by decide +kernel
theorem dX5_row_16 : decode cX5_row 16 = .ok (.ifCond .ge 9, 3) := by decide +kernel
theorem dX5_row_19 : decode cX5_row 19 = .ok (.aload_n 0, 1) := by decide +kernel
theorem dX5_row_20 : decode cX5_row 20 = .ok (.iconst 5, 1) := by decide +kernel
theorem dX5_row_21 : decode cX5_row 21 = .ok (.invokevirtual 81, 3) := by decide +kernel
theorem dX5_row_24 : decode cX5_row 24 = .ok (.ireturn, 1) := by decide +kernel
theorem dX5_row_25 : decode cX5_row 25 = .ok (.aload_n 0, 1) := by decide +kernel
theorem dX5_row_26 : decode cX5_row 26 = .ok (.getfield 13, 3) := by decide +kernel
theorem dX5_row_29 : decode cX5_row 29 = .ok (.iload_n 1, 1) := by decide +kernel
theorem dX5_row_30 : decode cX5_row 30 = .ok (.iload_n 2, 1) := by decide +kernel
theorem dX5_row_31 : decode cX5_row 31 = .ok (.iastore, 1) := by decide +kernel
theorem dX5_row_32 : decode cX5_row 32 = .ok (.iconst 0, 1) := by decide +kernel
theorem dX5_row_33 : decode cX5_row 33 = .ok (.istore_n 3, 1) := by decide +kernel
theorem dX5_row_34 : decode cX5_row 34 = .ok (.iload_n 3, 1) := by decide +kernel
theorem dX5_row_35 : decode cX5_row 35 = .ok (.bipush 40, 2) := by decide +kernel
theorem dX5_row_37 : decode cX5_row 37 = .ok (.if_icmp .ge 21, 3) := by decide +kernel
theorem dX5_row_40 : decode cX5_row 40 = .ok (.aload_n 0, 1) := by decide +kernel
theorem dX5_row_41 : decode cX5_row 41 = .ok (.getfield 7, 3) := by decide +kernel
theorem dX5_row_44 : decode cX5_row 44 = .ok (.bipush 40, 2) := by decide +kernel
theorem dX5_row_46 : decode cX5_row 46 = .ok (.iload_n 1, 1) := by decide +kernel
theorem dX5_row_47 : decode cX5_row 47 = .ok (.imul, 1) := by decide +kernel
theorem dX5_row_48 : decode cX5_row 48 = .ok (.iload_n 3, 1) := by decide +kernel
theorem dX5_row_49 : decode cX5_row 49 = .ok (.iadd, 1) := by decide +kernel
theorem dX5_row_50 : decode cX5_row 50 = .ok (.iconst 0, 1) := by decide +kernel
theorem dX5_row_51 : decode cX5_row 51 = .ok (.iastore, 1) := by decide +kernel
theorem dX5_row_52 : decode cX5_row 52 = .ok (.iinc 3 1, 3) := by decide +kernel
theorem dX5_row_55 : decode cX5_row 55 = .ok (.goto (-21), 3) := by decide +kernel
theorem dX5_row_58 : decode cX5_row 58 = .ok (.iload_n 2, 1) := by decide +kernel
theorem dX5_row_59 : decode cX5_row 59 = .ok (.ireturn, 1) := by decide +kernel
theorem dX5_tell_0 : decode cX5_tell 0 = .ok (.aload_n 0, 1) := by decide +kernel
theorem dX5_tell_1 : decode cX5_tell 1 = .ok (.iload_n 1, 1) := by decide +kernel
theorem dX5_tell_2 : decode cX5_tell 2 = .ok (.putfield 66, 3) := by decide +kernel
theorem dX5_tell_5 : decode cX5_tell 5 = .ok (.iconst 1, 1) := by decide +kernel
theorem dX5_tell_6 : decode cX5_tell 6 = .ok (.ireturn, 1) := by decide +kernel
theorem dX5_lay_0 : decode cX5_lay 0 = .ok (.iload_n 1, 1) := by decide +kernel
theorem dX5_lay_1 : decode cX5_lay 1 = .ok (.invokestatic 77, 3) := by decide +kernel
theorem dX5_lay_4 : decode cX5_lay 4 = .ok (.ifCond .ne 5, 3) := by decide +kernel
theorem dX5_lay_7 : decode cX5_lay 7 = .ok (.iconst (-1), 1) := by decide +kernel
theorem dX5_lay_8 : decode cX5_lay 8 = .ok (.ireturn, 1) := by decide +kernel
theorem dX5_lay_9 : decode cX5_lay 9 = .ok (.aload_n 0, 1) := by decide +kernel
theorem dX5_lay_10 : decode cX5_lay 10 = .ok (.getfield 13, 3) := by decide +kernel
theorem dX5_lay_13 : decode cX5_lay 13 = .ok (.iload_n 1, 1) := by decide +kernel
theorem dX5_lay_14 : decode cX5_lay 14 = .ok (.iaload, 1) := by decide +kernel
theorem dX5_lay_15 : decode cX5_lay 15 = .ok (.ifCond .ge 9, 3) := by decide +kernel
theorem dX5_lay_18 : decode cX5_lay 18 = .ok (.aload_n 0, 1) := by decide +kernel
theorem dX5_lay_19 : decode cX5_lay 19 = .ok (.iconst 1, 1) := by decide +kernel
theorem dX5_lay_20 : decode cX5_lay 20 = .ok (.invokevirtual 81, 3) := by decide +kernel
theorem dX5_lay_23 : decode cX5_lay 23 = .ok (.ireturn, 1) := by decide +kernel
theorem dX5_lay_24 : decode cX5_lay 24 = .ok (.iload_n 2, 1) := by decide +kernel
theorem dX5_lay_25 : decode cX5_lay 25 = .ok (.i2l, 1) := by decide +kernel
theorem dX5_lay_26 : decode cX5_lay 26 = .ok (.lconst 0, 1) := by decide +kernel
theorem dX5_lay_27 : decode cX5_lay 27 = .ok (.aload_n 0, 1) := by decide +kernel
theorem dX5_lay_28 : decode cX5_lay 28 = .ok (.getfield 13, 3) := by decide +kernel
theorem dX5_lay_31 : decode cX5_lay 31 = .ok (.iload_n 1, 1) := by decide +kernel
theorem dX5_lay_32 : decode cX5_lay 32 = .ok (.iaload, 1) := by decide +kernel
theorem dX5_lay_33 : decode cX5_lay 33 = .ok (.iconst 1, 1) := by decide +kernel
theorem dX5_lay_34 : decode cX5_lay 34 = .ok (.isub, 1) := by decide +kernel
theorem dX5_lay_35 : decode cX5_lay 35 = .ok (.i2l, 1) := by decide +kernel
theorem dX5_lay_36 : decode cX5_lay 36 = .ok (.invokestatic 71, 3) := by decide +kernel
theorem dX5_lay_39 : decode cX5_lay 39 = .ok (.ifCond .ne 9, 3) := by decide +kernel
theorem dX5_lay_42 : decode cX5_lay 42 = .ok (.aload_n 0, 1) := by decide +kernel
theorem dX5_lay_43 : decode cX5_lay 43 = .ok (.iconst 2, 1) := by decide +kernel
theorem dX5_lay_44 : decode cX5_lay 44 = .ok (.invokevirtual 81, 3) := by decide +kernel
theorem dX5_lay_47 : decode cX5_lay 47 = .ok (.ireturn, 1) := by decide +kernel
theorem dX5_lay_48 : decode cX5_lay 48 = .ok (.aload_n 0, 1) := by decide +kernel
theorem dX5_lay_49 : decode cX5_lay 49 = .ok (.getfield 7, 3) := by decide +kernel
theorem dX5_lay_52 : decode cX5_lay 52 = .ok (.bipush 40, 2) := by decide +kernel
theorem dX5_lay_54 : decode cX5_lay 54 = .ok (.iload_n 1, 1) := by decide +kernel
theorem dX5_lay_55 : decode cX5_lay 55 = .ok (.imul, 1) := by decide +kernel
theorem dX5_lay_56 : decode cX5_lay 56 = .ok (.iload_n 2, 1) := by decide +kernel
theorem dX5_lay_57 : decode cX5_lay 57 = .ok (.iadd, 1) := by decide +kernel
theorem dX5_lay_58 : decode cX5_lay 58 = .ok (.iaload, 1) := by decide +kernel
theorem dX5_lay_59 : decode cX5_lay 59 = .ok (.istore 4, 2) := by decide +kernel
theorem dX5_lay_61 : decode cX5_lay 61 = .ok (.aload_n 0, 1) := by decide +kernel
theorem dX5_lay_62 : decode cX5_lay 62 = .ok (.getfield 7, 3) := by decide +kernel
theorem dX5_lay_65 : decode cX5_lay 65 = .ok (.bipush 40, 2) := by decide +kernel
theorem dX5_lay_67 : decode cX5_lay 67 = .ok (.iload_n 1, 1) := by decide +kernel
theorem dX5_lay_68 : decode cX5_lay 68 = .ok (.imul, 1) := by decide +kernel
theorem dX5_lay_69 : decode cX5_lay 69 = .ok (.iload_n 2, 1) := by decide +kernel
theorem dX5_lay_70 : decode cX5_lay 70 = .ok (.iadd, 1) := by decide +kernel
theorem dX5_lay_71 : decode cX5_lay 71 = .ok (.iload_n 3, 1) := by decide +kernel
theorem dX5_lay_72 : decode cX5_lay 72 = .ok (.iastore, 1) := by decide +kernel
theorem dX5_lay_73 : decode cX5_lay 73 = .ok (.aload_n 0, 1) := by decide +kernel
theorem dX5_lay_74 : decode cX5_lay 74 = .ok (.iload 4, 2) := by decide +kernel
theorem dX5_lay_76 : decode cX5_lay 76 = .ok (.invokevirtual 85, 3) := by decide +kernel
theorem dX5_lay_79 : decode cX5_lay 79 = .ok (.ireturn, 1) := by decide +kernel
theorem dX5_at_0 : decode cX5_at 0 = .ok (.iload_n 1, 1) := by decide +kernel
theorem dX5_at_1 : decode cX5_at 1 = .ok (.invokestatic 77, 3) := by decide +kernel
theorem dX5_at_4 : decode cX5_at 4 = .ok (.ifCond .ne 5, 3) := by decide +kernel
theorem dX5_at_7 : decode cX5_at 7 = .ok (.iconst (-1), 1) := by decide +kernel
theorem dX5_at_8 : decode cX5_at 8 = .ok (.ireturn, 1) := by decide +kernel
theorem dX5_at_9 : decode cX5_at 9 = .ok (.aload_n 0, 1) := by decide +kernel
theorem dX5_at_10 : decode cX5_at 10 = .ok (.getfield 13, 3) := by decide +kernel
theorem dX5_at_13 : decode cX5_at 13 = .ok (.iload_n 1, 1) := by decide +kernel
theorem dX5_at_14 : decode cX5_at 14 = .ok (.iaload, 1) := by decide +kernel
theorem dX5_at_15 : decode cX5_at 15 = .ok (.ifCond .ge 9, 3) := by decide +kernel
theorem dX5_at_18 : decode cX5_at 18 = .ok (.aload_n 0, 1) := by decide +kernel
theorem dX5_at_19 : decode cX5_at 19 = .ok (.iconst 1, 1) := by decide +kernel
theorem dX5_at_20 : decode cX5_at 20 = .ok (.invokevirtual 81, 3) := by decide +kernel
theorem dX5_at_23 : decode cX5_at 23 = .ok (.ireturn, 1) := by decide +kernel
theorem dX5_at_24 : decode cX5_at 24 = .ok (.iload_n 2, 1) := by decide +kernel
theorem dX5_at_25 : decode cX5_at 25 = .ok (.i2l, 1) := by decide +kernel
theorem dX5_at_26 : decode cX5_at 26 = .ok (.lconst 0, 1) := by decide +kernel
theorem dX5_at_27 : decode cX5_at 27 = .ok (.aload_n 0, 1) := by decide +kernel
theorem dX5_at_28 : decode cX5_at 28 = .ok (.getfield 13, 3) := by decide +kernel
theorem dX5_at_31 : decode cX5_at 31 = .ok (.iload_n 1, 1) := by decide +kernel
theorem dX5_at_32 : decode cX5_at 32 = .ok (.iaload, 1) := by decide +kernel
theorem dX5_at_33 : decode cX5_at 33 = .ok (.iconst 1, 1) := by decide +kernel
theorem dX5_at_34 : decode cX5_at 34 = .ok (.isub, 1) := by decide +kernel
theorem dX5_at_35 : decode cX5_at 35 = .ok (.i2l, 1) := by decide +kernel
theorem dX5_at_36 : decode cX5_at 36 = .ok (.invokestatic 71, 3) := by decide +kernel
theorem dX5_at_39 : decode cX5_at 39 = .ok (.ifCond .eq 21, 3) := by decide +kernel
theorem dX5_at_42 : decode cX5_at 42 = .ok (.aload_n 0, 1) := by decide +kernel
theorem dX5_at_43 : decode cX5_at 43 = .ok (.aload_n 0, 1) := by decide +kernel
theorem dX5_at_44 : decode cX5_at 44 = .ok (.getfield 7, 3) := by decide +kernel
theorem dX5_at_47 : decode cX5_at 47 = .ok (.bipush 40, 2) := by decide +kernel
theorem dX5_at_49 : decode cX5_at 49 = .ok (.iload_n 1, 1) := by decide +kernel
theorem dX5_at_50 : decode cX5_at 50 = .ok (.imul, 1) := by decide +kernel
theorem dX5_at_51 : decode cX5_at 51 = .ok (.iload_n 2, 1) := by decide +kernel
theorem dX5_at_52 : decode cX5_at 52 = .ok (.iadd, 1) := by decide +kernel
theorem dX5_at_53 : decode cX5_at 53 = .ok (.iaload, 1) := by decide +kernel
theorem dX5_at_54 : decode cX5_at 54 = .ok (.invokevirtual 85, 3) := by decide +kernel
theorem dX5_at_57 : decode cX5_at 57 = .ok (.goto 8, 3) := by decide +kernel
theorem dX5_at_60 : decode cX5_at 60 = .ok (.aload_n 0, 1) := by decide +kernel
theorem dX5_at_61 : decode cX5_at 61 = .ok (.iconst 2, 1) := by decide +kernel
theorem dX5_at_62 : decode cX5_at 62 = .ok (.invokevirtual 81, 3) := by decide +kernel
theorem dX5_at_65 : decode cX5_at 65 = .ok (.ireturn, 1) := by decide +kernel
theorem dX5_tear_0 : decode cX5_tear 0 = .ok (.iload_n 1, 1) := by decide +kernel
theorem dX5_tear_1 : decode cX5_tear 1 = .ok (.invokestatic 77, 3) := by decide +kernel
theorem dX5_tear_4 : decode cX5_tear 4 = .ok (.ifCond .ne 5, 3) := by decide +kernel
theorem dX5_tear_7 : decode cX5_tear 7 = .ok (.iconst (-1), 1) := by decide +kernel
theorem dX5_tear_8 : decode cX5_tear 8 = .ok (.ireturn, 1) := by decide +kernel
theorem dX5_tear_9 : decode cX5_tear 9 = .ok (.aload_n 0, 1) := by decide +kernel
theorem dX5_tear_10 : decode cX5_tear 10 = .ok (.getfield 13, 3) := by decide +kernel
theorem dX5_tear_13 : decode cX5_tear 13 = .ok (.iload_n 1, 1) := by decide +kernel
theorem dX5_tear_14 : decode cX5_tear 14 = .ok (.iaload, 1) := by decide +kernel
theorem dX5_tear_15 : decode cX5_tear 15 = .ok (.ifCond .ge 9, 3) := by decide +kernel
theorem dX5_tear_18 : decode cX5_tear 18 = .ok (.aload_n 0, 1) := by decide +kernel
theorem dX5_tear_19 : decode cX5_tear 19 = .ok (.iconst 1, 1) := by decide +kernel
theorem dX5_tear_20 : decode cX5_tear 20 = .ok (.invokevirtual 81, 3) := by decide +kernel
theorem dX5_tear_23 : decode cX5_tear 23 = .ok (.ireturn, 1) := by decide +kernel
theorem dX5_tear_24 : decode cX5_tear 24 = .ok (.aload_n 0, 1) := by decide +kernel
theorem dX5_tear_25 : decode cX5_tear 25 = .ok (.getfield 13, 3) := by decide +kernel
theorem dX5_tear_28 : decode cX5_tear 28 = .ok (.iload_n 1, 1) := by decide +kernel
theorem dX5_tear_29 : decode cX5_tear 29 = .ok (.iconst (-1), 1) := by decide +kernel
theorem dX5_tear_30 : decode cX5_tear 30 = .ok (.iastore, 1) := by decide +kernel
theorem dX5_tear_31 : decode cX5_tear 31 = .ok (.iconst 1, 1) := by decide +kernel
theorem dX5_tear_32 : decode cX5_tear 32 = .ok (.ireturn, 1) := by decide +kernel
theorem dX5_copy_0 : decode cX5_copy 0 = .ok (.iload_n 1, 1) := by decide +kernel
theorem dX5_copy_1 : decode cX5_copy 1 = .ok (.invokestatic 77, 3) := by decide +kernel
theorem dX5_copy_4 : decode cX5_copy 4 = .ok (.ifCond .eq 10, 3) := by decide +kernel
theorem dX5_copy_7 : decode cX5_copy 7 = .ok (.iload_n 3, 1) := by decide +kernel
theorem dX5_copy_8 : decode cX5_copy 8 = .ok (.invokestatic 77, 3) := by decide +kernel
theorem dX5_copy_11 : decode cX5_copy 11 = .ok (.ifCond .ne 5, 3) := by decide +kernel
theorem dX5_copy_14 : decode cX5_copy 14 = .ok (.iconst (-1), 1) := by decide +kernel
theorem dX5_copy_15 : decode cX5_copy 15 = .ok (.ireturn, 1) := by decide +kernel
theorem dX5_copy_16 : decode cX5_copy 16 = .ok (.iload 5, 2) := by decide +kernel
theorem dX5_copy_18 : decode cX5_copy 18 = .ok (.ifCond .ge 9, 3) := by decide +kernel
theorem dX5_copy_21 : decode cX5_copy 21 = .ok (.aload_n 0, 1) := by decide +kernel
theorem dX5_copy_22 : decode cX5_copy 22 = .ok (.iconst 5, 1) := by decide +kernel
theorem dX5_copy_23 : decode cX5_copy 23 = .ok (.invokevirtual 81, 3) := by decide +kernel
theorem dX5_copy_26 : decode cX5_copy 26 = .ok (.ireturn, 1) := by decide +kernel
theorem dX5_copy_27 : decode cX5_copy 27 = .ok (.aload_n 0, 1) := by decide +kernel
theorem dX5_copy_28 : decode cX5_copy 28 = .ok (.getfield 13, 3) := by decide +kernel
theorem dX5_copy_31 : decode cX5_copy 31 = .ok (.iload_n 1, 1) := by decide +kernel
theorem dX5_copy_32 : decode cX5_copy 32 = .ok (.iaload, 1) := by decide +kernel
theorem dX5_copy_33 : decode cX5_copy 33 = .ok (.ifCond .lt 12, 3) := by decide +kernel
theorem dX5_copy_36 : decode cX5_copy 36 = .ok (.aload_n 0, 1) := by decide +kernel
theorem dX5_copy_37 : decode cX5_copy 37 = .ok (.getfield 13, 3) := by decide +kernel
theorem dX5_copy_40 : decode cX5_copy 40 = .ok (.iload_n 3, 1) := by decide +kernel
theorem dX5_copy_41 : decode cX5_copy 41 = .ok (.iaload, 1) := by decide +kernel
theorem dX5_copy_42 : decode cX5_copy 42 = .ok (.ifCond .ge 9, 3) := by decide +kernel
theorem dX5_copy_45 : decode cX5_copy 45 = .ok (.aload_n 0, 1) := by decide +kernel
theorem dX5_copy_46 : decode cX5_copy 46 = .ok (.iconst 1, 1) := by decide +kernel
theorem dX5_copy_47 : decode cX5_copy 47 = .ok (.invokevirtual 81, 3) := by decide +kernel
theorem dX5_copy_50 : decode cX5_copy 50 = .ok (.ireturn, 1) := by decide +kernel
theorem dX5_copy_51 : decode cX5_copy 51 = .ok (.iload_n 2, 1) := by decide +kernel
theorem dX5_copy_52 : decode cX5_copy 52 = .ok (.ifCond .lt 43, 3) := by decide +kernel
theorem dX5_copy_55 : decode cX5_copy 55 = .ok (.iload 4, 2) := by decide +kernel
theorem dX5_copy_57 : decode cX5_copy 57 = .ok (.ifCond .lt 38, 3) := by decide +kernel
theorem dX5_copy_60 : decode cX5_copy 60 = .ok (.iload_n 2, 1) := by decide +kernel
theorem dX5_copy_61 : decode cX5_copy 61 = .ok (.i2l, 1) := by decide +kernel
theorem dX5_copy_62 : decode cX5_copy 62 = .ok (.iload 5, 2) := by decide +kernel
theorem dX5_copy_64 : decode cX5_copy 64 = .ok (.i2l, 1) := by decide +kernel
theorem dX5_copy_65 : decode cX5_copy 65 = .ok (.ladd, 1) := by decide +kernel
theorem dX5_copy_66 : decode cX5_copy 66 = .ok (.aload_n 0, 1) := by decide +kernel
theorem dX5_copy_67 : decode cX5_copy 67 = .ok (.getfield 13, 3) := by decide +kernel
theorem dX5_copy_70 : decode cX5_copy 70 = .ok (.iload_n 1, 1) := by decide +kernel
theorem dX5_copy_71 : decode cX5_copy 71 = .ok (.iaload, 1) := by decide +kernel
theorem dX5_copy_72 : decode cX5_copy 72 = .ok (.i2l, 1) := by decide +kernel
theorem dX5_copy_73 : decode cX5_copy 73 = .ok (.lcmp, 1) := by decide +kernel
theorem dX5_copy_74 : decode cX5_copy 74 = .ok (.ifCond .gt 21, 3) := by decide +kernel
theorem dX5_copy_77 : decode cX5_copy 77 = .ok (.iload 4, 2) := by decide +kernel
theorem dX5_copy_79 : decode cX5_copy 79 = .ok (.i2l, 1) := by decide +kernel
theorem dX5_copy_80 : decode cX5_copy 80 = .ok (.iload 5, 2) := by decide +kernel
theorem dX5_copy_82 : decode cX5_copy 82 = .ok (.i2l, 1) := by decide +kernel
theorem dX5_copy_83 : decode cX5_copy 83 = .ok (.ladd, 1) := by decide +kernel
theorem dX5_copy_84 : decode cX5_copy 84 = .ok (.aload_n 0, 1) := by decide +kernel
theorem dX5_copy_85 : decode cX5_copy 85 = .ok (.getfield 13, 3) := by decide +kernel
theorem dX5_copy_88 : decode cX5_copy 88 = .ok (.iload_n 3, 1) := by decide +kernel
theorem dX5_copy_89 : decode cX5_copy 89 = .ok (.iaload, 1) := by decide +kernel
theorem dX5_copy_90 : decode cX5_copy 90 = .ok (.i2l, 1) := by decide +kernel
theorem dX5_copy_91 : decode cX5_copy 91 = .ok (.lcmp, 1) := by decide +kernel
theorem dX5_copy_92 : decode cX5_copy 92 = .ok (.ifCond .le 9, 3) := by decide +kernel
theorem dX5_copy_95 : decode cX5_copy 95 = .ok (.aload_n 0, 1) := by decide +kernel
theorem dX5_copy_96 : decode cX5_copy 96 = .ok (.iconst 2, 1) := by decide +kernel
theorem dX5_copy_97 : decode cX5_copy 97 = .ok (.invokevirtual 81, 3) := by decide +kernel
theorem dX5_copy_100 : decode cX5_copy 100 = .ok (.ireturn, 1) := by decide +kernel
theorem dX5_copy_101 : decode cX5_copy 101 = .ok (.iconst 0, 1) := by decide +kernel
theorem dX5_copy_102 : decode cX5_copy 102 = .ok (.istore 6, 2) := by decide +kernel
theorem dX5_copy_104 : decode cX5_copy 104 = .ok (.iload 6, 2) := by decide +kernel
theorem dX5_copy_106 : decode cX5_copy 106 = .ok (.iload 5, 2) := by decide +kernel
theorem dX5_copy_108 : decode cX5_copy 108 = .ok (.if_icmp .ge 58, 3) := by decide +kernel
theorem dX5_copy_111 : decode cX5_copy 111 = .ok (.iload 4, 2) := by decide +kernel
theorem dX5_copy_113 : decode cX5_copy 113 = .ok (.iload_n 2, 1) := by decide +kernel
theorem dX5_copy_114 : decode cX5_copy 114 = .ok (.if_icmp .le 13, 3) := by decide +kernel
theorem dX5_copy_117 : decode cX5_copy 117 = .ok (.iload 5, 2) := by decide +kernel
theorem dX5_copy_119 : decode cX5_copy 119 = .ok (.iconst 1, 1) := by decide +kernel
theorem dX5_copy_120 : decode cX5_copy 120 = .ok (.isub, 1) := by decide +kernel
theorem dX5_copy_121 : decode cX5_copy 121 = .ok (.iload 6, 2) := by decide +kernel
theorem dX5_copy_123 : decode cX5_copy 123 = .ok (.isub, 1) := by decide +kernel
theorem dX5_copy_124 : decode cX5_copy 124 = .ok (.goto 5, 3) := by decide +kernel
theorem dX5_copy_127 : decode cX5_copy 127 = .ok (.iload 6, 2) := by decide +kernel
theorem dX5_copy_129 : decode cX5_copy 129 = .ok (.istore 7, 2) := by decide +kernel
theorem dX5_copy_131 : decode cX5_copy 131 = .ok (.aload_n 0, 1) := by decide +kernel
theorem dX5_copy_132 : decode cX5_copy 132 = .ok (.getfield 7, 3) := by decide +kernel
theorem dX5_copy_135 : decode cX5_copy 135 = .ok (.bipush 40, 2) := by decide +kernel
theorem dX5_copy_137 : decode cX5_copy 137 = .ok (.iload_n 3, 1) := by decide +kernel
theorem dX5_copy_138 : decode cX5_copy 138 = .ok (.imul, 1) := by decide +kernel
theorem dX5_copy_139 : decode cX5_copy 139 = .ok (.iload 4, 2) := by decide +kernel
theorem dX5_copy_141 : decode cX5_copy 141 = .ok (.iadd, 1) := by decide +kernel
theorem dX5_copy_142 : decode cX5_copy 142 = .ok (.iload 7, 2) := by decide +kernel
theorem dX5_copy_144 : decode cX5_copy 144 = .ok (.iadd, 1) := by decide +kernel
theorem dX5_copy_145 : decode cX5_copy 145 = .ok (.aload_n 0, 1) := by decide +kernel
theorem dX5_copy_146 : decode cX5_copy 146 = .ok (.getfield 7, 3) := by decide +kernel
theorem dX5_copy_149 : decode cX5_copy 149 = .ok (.bipush 40, 2) := by decide +kernel
theorem dX5_copy_151 : decode cX5_copy 151 = .ok (.iload_n 1, 1) := by decide +kernel
theorem dX5_copy_152 : decode cX5_copy 152 = .ok (.imul, 1) := by decide +kernel
theorem dX5_copy_153 : decode cX5_copy 153 = .ok (.iload_n 2, 1) := by decide +kernel
theorem dX5_copy_154 : decode cX5_copy 154 = .ok (.iadd, 1) := by decide +kernel
theorem dX5_copy_155 : decode cX5_copy 155 = .ok (.iload 7, 2) := by decide +kernel
theorem dX5_copy_157 : decode cX5_copy 157 = .ok (.iadd, 1) := by decide +kernel
theorem dX5_copy_158 : decode cX5_copy 158 = .ok (.iaload, 1) := by decide +kernel
theorem dX5_copy_159 : decode cX5_copy 159 = .ok (.iastore, 1) := by decide +kernel
theorem dX5_copy_160 : decode cX5_copy 160 = .ok (.iinc 6 1, 3) := by decide +kernel
theorem dX5_copy_163 : decode cX5_copy 163 = .ok (.goto (-59), 3) := by decide +kernel
theorem dX5_copy_166 : decode cX5_copy 166 = .ok (.iconst 1, 1) := by decide +kernel
theorem dX5_copy_167 : decode cX5_copy 167 = .ok (.ireturn, 1) := by decide +kernel
theorem dX5_mean_0 : decode cX5_mean 0 = .ok (.iload_n 1, 1) := by decide +kernel
theorem dX5_mean_1 : decode cX5_mean 1 = .ok (.invokestatic 77, 3) := by decide +kernel
theorem dX5_mean_4 : decode cX5_mean 4 = .ok (.ifCond .ne 5, 3) := by decide +kernel
theorem dX5_mean_7 : decode cX5_mean 7 = .ok (.iconst (-1), 1) := by decide +kernel
theorem dX5_mean_8 : decode cX5_mean 8 = .ok (.ireturn, 1) := by decide +kernel
theorem dX5_mean_9 : decode cX5_mean 9 = .ok (.aload_n 0, 1) := by decide +kernel
theorem dX5_mean_10 : decode cX5_mean 10 = .ok (.getfield 13, 3) := by decide +kernel
theorem dX5_mean_13 : decode cX5_mean 13 = .ok (.iload_n 1, 1) := by decide +kernel
theorem dX5_mean_14 : decode cX5_mean 14 = .ok (.iaload, 1) := by decide +kernel
theorem dX5_mean_15 : decode cX5_mean 15 = .ok (.ifCond .ge 9, 3) := by decide +kernel
theorem dX5_mean_18 : decode cX5_mean 18 = .ok (.aload_n 0, 1) := by decide +kernel
theorem dX5_mean_19 : decode cX5_mean 19 = .ok (.iconst 1, 1) := by decide +kernel
theorem dX5_mean_20 : decode cX5_mean 20 = .ok (.invokevirtual 81, 3) := by decide +kernel
theorem dX5_mean_23 : decode cX5_mean 23 = .ok (.ireturn, 1) := by decide +kernel
theorem dX5_mean_24 : decode cX5_mean 24 = .ok (.aload_n 0, 1) := by decide +kernel
theorem dX5_mean_25 : decode cX5_mean 25 = .ok (.getfield 13, 3) := by decide +kernel
theorem dX5_mean_28 : decode cX5_mean 28 = .ok (.iload_n 1, 1) := by decide +kernel
theorem dX5_mean_29 : decode cX5_mean 29 = .ok (.iaload, 1) := by decide +kernel
theorem dX5_mean_30 : decode cX5_mean 30 = .ok (.ifCond .ne 9, 3) := by decide +kernel
theorem dX5_mean_33 : decode cX5_mean 33 = .ok (.aload_n 0, 1) := by decide +kernel
theorem dX5_mean_34 : decode cX5_mean 34 = .ok (.iconst 4, 1) := by decide +kernel
theorem dX5_mean_35 : decode cX5_mean 35 = .ok (.invokevirtual 81, 3) := by decide +kernel
theorem dX5_mean_38 : decode cX5_mean 38 = .ok (.ireturn, 1) := by decide +kernel
theorem dX5_mean_39 : decode cX5_mean 39 = .ok (.lconst 0, 1) := by decide +kernel
theorem dX5_mean_40 : decode cX5_mean 40 = .ok (.lstore_n 2, 1) := by decide +kernel
theorem dX5_mean_41 : decode cX5_mean 41 = .ok (.iconst 0, 1) := by decide +kernel
theorem dX5_mean_42 : decode cX5_mean 42 = .ok (.istore 4, 2) := by decide +kernel
theorem dX5_mean_44 : decode cX5_mean 44 = .ok (.iload 4, 2) := by decide +kernel
theorem dX5_mean_46 : decode cX5_mean 46 = .ok (.aload_n 0, 1) := by decide +kernel
theorem dX5_mean_47 : decode cX5_mean 47 = .ok (.getfield 13, 3) := by decide +kernel
theorem dX5_mean_50 : decode cX5_mean 50 = .ok (.iload_n 1, 1) := by decide +kernel
theorem dX5_mean_51 : decode cX5_mean 51 = .ok (.iaload, 1) := by decide +kernel
theorem dX5_mean_52 : decode cX5_mean 52 = .ok (.if_icmp .ge 25, 3) := by decide +kernel
theorem dX5_mean_55 : decode cX5_mean 55 = .ok (.lload_n 2, 1) := by decide +kernel
theorem dX5_mean_56 : decode cX5_mean 56 = .ok (.aload_n 0, 1) := by decide +kernel
theorem dX5_mean_57 : decode cX5_mean 57 = .ok (.getfield 7, 3) := by decide +kernel
theorem dX5_mean_60 : decode cX5_mean 60 = .ok (.bipush 40, 2) := by decide +kernel
theorem dX5_mean_62 : decode cX5_mean 62 = .ok (.iload_n 1, 1) := by decide +kernel
theorem dX5_mean_63 : decode cX5_mean 63 = .ok (.imul, 1) := by decide +kernel
theorem dX5_mean_64 : decode cX5_mean 64 = .ok (.iload 4, 2) := by decide +kernel
theorem dX5_mean_66 : decode cX5_mean 66 = .ok (.iadd, 1) := by decide +kernel
theorem dX5_mean_67 : decode cX5_mean 67 = .ok (.iaload, 1) := by decide +kernel
theorem dX5_mean_68 : decode cX5_mean 68 = .ok (.i2l, 1) := by decide +kernel
theorem dX5_mean_69 : decode cX5_mean 69 = .ok (.ladd, 1) := by decide +kernel
theorem dX5_mean_70 : decode cX5_mean 70 = .ok (.lstore_n 2, 1) := by decide +kernel
theorem dX5_mean_71 : decode cX5_mean 71 = .ok (.iinc 4 1, 3) := by decide +kernel
theorem dX5_mean_74 : decode cX5_mean 74 = .ok (.goto (-30), 3) := by decide +kernel
theorem dX5_mean_77 : decode cX5_mean 77 = .ok (.aload_n 0, 1) := by decide +kernel
theorem dX5_mean_78 : decode cX5_mean 78 = .ok (.lload_n 2, 1) := by decide +kernel
theorem dX5_mean_79 : decode cX5_mean 79 = .ok (.aload_n 0, 1) := by decide +kernel
theorem dX5_mean_80 : decode cX5_mean 80 = .ok (.getfield 13, 3) := by decide +kernel
theorem dX5_mean_83 : decode cX5_mean 83 = .ok (.iload_n 1, 1) := by decide +kernel
theorem dX5_mean_84 : decode cX5_mean 84 = .ok (.iaload, 1) := by decide +kernel
theorem dX5_mean_85 : decode cX5_mean 85 = .ok (.i2l, 1) := by decide +kernel
theorem dX5_mean_86 : decode cX5_mean 86 = .ok (.ldiv, 1) := by decide +kernel
theorem dX5_mean_87 : decode cX5_mean 87 = .ok (.l2i, 1) := by decide +kernel
theorem dX5_mean_88 : decode cX5_mean 88 = .ok (.invokevirtual 85, 3) := by decide +kernel
theorem dX5_mean_91 : decode cX5_mean 91 = .ok (.ireturn, 1) := by decide +kernel
theorem dX5_isText_0 : decode cX5_isText 0 = .ok (.iload_n 0, 1) := by decide +kernel
theorem dX5_isText_1 : decode cX5_isText 1 = .ok (.i2l, 1) := by decide +kernel
theorem dX5_isText_2 : decode cX5_isText 2 = .ok (.lconst 0, 1) := by decide +kernel
theorem dX5_isText_3 : decode cX5_isText 3 = .ok (.ldc2_w 75, 3) := by decide +kernel
theorem dX5_isText_6 : decode cX5_isText 6 = .ok (.invokestatic 71, 3) := by decide +kernel
theorem dX5_isText_9 : decode cX5_isText 9 = .ok (.ireturn, 1) := by decide +kernel
theorem dX5_text_0 : decode cX5_text 0 = .ok (.iload_n 1, 1) := by decide +kernel
theorem dX5_text_1 : decode cX5_text 1 = .ok (.invokestatic 88, 3) := by decide +kernel
theorem dX5_text_4 : decode cX5_text 4 = .ok (.ifCond .eq 9, 3) := by decide +kernel
theorem dX5_text_7 : decode cX5_text 7 = .ok (.iload_n 2, 1) := by decide +kernel
theorem dX5_text_8 : decode cX5_text 8 = .ok (.bipush 60, 2) := by decide +kernel
theorem dX5_text_10 : decode cX5_text 10 = .ok (.if_icmp .le 5, 3) := by decide +kernel
theorem dX5_text_13 : decode cX5_text 13 = .ok (.iconst (-1), 1) := by decide +kernel
theorem dX5_text_14 : decode cX5_text 14 = .ok (.ireturn, 1) := by decide +kernel
theorem dX5_text_15 : decode cX5_text 15 = .ok (.iload_n 2, 1) := by decide +kernel
theorem dX5_text_16 : decode cX5_text 16 = .ok (.ifCond .ge 9, 3) := by decide +kernel
theorem dX5_text_19 : decode cX5_text 19 = .ok (.aload_n 0, 1) := by decide +kernel
theorem dX5_text_20 : decode cX5_text 20 = .ok (.iconst 5, 1) := by decide +kernel
theorem dX5_text_21 : decode cX5_text 21 = .ok (.invokevirtual 81, 3) := by decide +kernel
theorem dX5_text_24 : decode cX5_text 24 = .ok (.ireturn, 1) := by decide +kernel
theorem dX5_text_25 : decode cX5_text 25 = .ok (.aload_n 0, 1) := by decide +kernel
theorem dX5_text_26 : decode cX5_text 26 = .ok (.getfield 19, 3) := by decide +kernel
theorem dX5_text_29 : decode cX5_text 29 = .ok (.iload_n 1, 1) := by decide +kernel
theorem dX5_text_30 : decode cX5_text 30 = .ok (.iload_n 2, 1) := by decide +kernel
theorem dX5_text_31 : decode cX5_text 31 = .ok (.iastore, 1) := by decide +kernel
theorem dX5_text_32 : decode cX5_text 32 = .ok (.iconst 0, 1) := by decide +kernel
theorem dX5_text_33 : decode cX5_text 33 = .ok (.istore_n 3, 1) := by decide +kernel
theorem dX5_text_34 : decode cX5_text 34 = .ok (.iload_n 3, 1) := by decide +kernel
theorem dX5_text_35 : decode cX5_text 35 = .ok (.bipush 60, 2) := by decide +kernel
theorem dX5_text_37 : decode cX5_text 37 = .ok (.if_icmp .ge 22, 3) := by decide +kernel
theorem dX5_text_40 : decode cX5_text 40 = .ok (.aload_n 0, 1) := by decide +kernel
theorem dX5_text_41 : decode cX5_text 41 = .ok (.getfield 16, 3) := by decide +kernel
theorem dX5_text_44 : decode cX5_text 44 = .ok (.bipush 60, 2) := by decide +kernel
theorem dX5_text_46 : decode cX5_text 46 = .ok (.iload_n 1, 1) := by decide +kernel
theorem dX5_text_47 : decode cX5_text 47 = .ok (.imul, 1) := by decide +kernel
theorem dX5_text_48 : decode cX5_text 48 = .ok (.iload_n 3, 1) := by decide +kernel
theorem dX5_text_49 : decode cX5_text 49 = .ok (.iadd, 1) := by decide +kernel
theorem dX5_text_50 : decode cX5_text 50 = .ok (.bipush 32, 2) := by decide +kernel
theorem dX5_text_52 : decode cX5_text 52 = .ok (.iastore, 1) := by decide +kernel
theorem dX5_text_53 : decode cX5_text 53 = .ok (.iinc 3 1, 3) := by decide +kernel
theorem dX5_text_56 : decode cX5_text 56 = .ok (.goto (-22), 3) := by decide +kernel
theorem dX5_text_59 : decode cX5_text 59 = .ok (.iload_n 2, 1) := by decide +kernel
theorem dX5_text_60 : decode cX5_text 60 = .ok (.ireturn, 1) := by decide +kernel
theorem dX5_put_0 : decode cX5_put 0 = .ok (.iload_n 1, 1) := by decide +kernel
theorem dX5_put_1 : decode cX5_put 1 = .ok (.invokestatic 88, 3) := by decide +kernel
theorem dX5_put_4 : decode cX5_put 4 = .ok (.ifCond .ne 5, 3) := by decide +kernel
theorem dX5_put_7 : decode cX5_put 7 = .ok (.iconst (-1), 1) := by decide +kernel
theorem dX5_put_8 : decode cX5_put 8 = .ok (.ireturn, 1) := by decide +kernel
theorem dX5_put_9 : decode cX5_put 9 = .ok (.aload_n 0, 1) := by decide +kernel
theorem dX5_put_10 : decode cX5_put 10 = .ok (.getfield 19, 3) := by decide +kernel
theorem dX5_put_13 : decode cX5_put 13 = .ok (.iload_n 1, 1) := by decide +kernel
theorem dX5_put_14 : decode cX5_put 14 = .ok (.iaload, 1) := by decide +kernel
theorem dX5_put_15 : decode cX5_put 15 = .ok (.ifCond .ge 9, 3) := by decide +kernel
theorem dX5_put_18 : decode cX5_put 18 = .ok (.aload_n 0, 1) := by decide +kernel
theorem dX5_put_19 : decode cX5_put 19 = .ok (.iconst 1, 1) := by decide +kernel
theorem dX5_put_20 : decode cX5_put 20 = .ok (.invokevirtual 81, 3) := by decide +kernel
theorem dX5_put_23 : decode cX5_put 23 = .ok (.ireturn, 1) := by decide +kernel
theorem dX5_put_24 : decode cX5_put 24 = .ok (.iload_n 2, 1) := by decide +kernel
theorem dX5_put_25 : decode cX5_put 25 = .ok (.i2l, 1) := by decide +kernel
theorem dX5_put_26 : decode cX5_put 26 = .ok (.lconst 0, 1) := by decide +kernel
theorem dX5_put_27 : decode cX5_put 27 = .ok (.aload_n 0, 1) := by decide +kernel
theorem dX5_put_28 : decode cX5_put 28 = .ok (.getfield 19, 3) := by decide +kernel
theorem dX5_put_31 : decode cX5_put 31 = .ok (.iload_n 1, 1) := by decide +kernel
theorem dX5_put_32 : decode cX5_put 32 = .ok (.iaload, 1) := by decide +kernel
theorem dX5_put_33 : decode cX5_put 33 = .ok (.iconst 1, 1) := by decide +kernel
theorem dX5_put_34 : decode cX5_put 34 = .ok (.isub, 1) := by decide +kernel
theorem dX5_put_35 : decode cX5_put 35 = .ok (.i2l, 1) := by decide +kernel
theorem dX5_put_36 : decode cX5_put 36 = .ok (.invokestatic 71, 3) := by decide +kernel
theorem dX5_put_39 : decode cX5_put 39 = .ok (.ifCond .ne 9, 3) := by decide +kernel
theorem dX5_put_42 : decode cX5_put 42 = .ok (.aload_n 0, 1) := by decide +kernel
theorem dX5_put_43 : decode cX5_put 43 = .ok (.iconst 2, 1) := by decide +kernel
theorem dX5_put_44 : decode cX5_put 44 = .ok (.invokevirtual 81, 3) := by decide +kernel
theorem dX5_put_47 : decode cX5_put 47 = .ok (.ireturn, 1) := by decide +kernel
theorem dX5_put_48 : decode cX5_put 48 = .ok (.aload_n 0, 1) := by decide +kernel
theorem dX5_put_49 : decode cX5_put 49 = .ok (.getfield 16, 3) := by decide +kernel
theorem dX5_put_52 : decode cX5_put 52 = .ok (.bipush 60, 2) := by decide +kernel
theorem dX5_put_54 : decode cX5_put 54 = .ok (.iload_n 1, 1) := by decide +kernel
theorem dX5_put_55 : decode cX5_put 55 = .ok (.imul, 1) := by decide +kernel
theorem dX5_put_56 : decode cX5_put 56 = .ok (.iload_n 2, 1) := by decide +kernel
theorem dX5_put_57 : decode cX5_put 57 = .ok (.iadd, 1) := by decide +kernel
theorem dX5_put_58 : decode cX5_put 58 = .ok (.iaload, 1) := by decide +kernel
theorem dX5_put_59 : decode cX5_put 59 = .ok (.istore 4, 2) := by decide +kernel
theorem dX5_put_61 : decode cX5_put 61 = .ok (.aload_n 0, 1) := by decide +kernel
theorem dX5_put_62 : decode cX5_put 62 = .ok (.getfield 16, 3) := by decide +kernel
theorem dX5_put_65 : decode cX5_put 65 = .ok (.bipush 60, 2) := by decide +kernel
theorem dX5_put_67 : decode cX5_put 67 = .ok (.iload_n 1, 1) := by decide +kernel
theorem dX5_put_68 : decode cX5_put 68 = .ok (.imul, 1) := by decide +kernel
theorem dX5_put_69 : decode cX5_put 69 = .ok (.iload_n 2, 1) := by decide +kernel
theorem dX5_put_70 : decode cX5_put 70 = .ok (.iadd, 1) := by decide +kernel
theorem dX5_put_71 : decode cX5_put 71 = .ok (.iload_n 3, 1) := by decide +kernel
theorem dX5_put_72 : decode cX5_put 72 = .ok (.i2b, 1) := by decide +kernel
theorem dX5_put_73 : decode cX5_put 73 = .ok (.iastore, 1) := by decide +kernel
theorem dX5_put_74 : decode cX5_put 74 = .ok (.iload 4, 2) := by decide +kernel
theorem dX5_put_76 : decode cX5_put 76 = .ok (.sipush 1000, 3) := by decide +kernel
theorem dX5_put_79 : decode cX5_put 79 = .ok (.iadd, 1) := by decide +kernel
theorem dX5_put_80 : decode cX5_put 80 = .ok (.ireturn, 1) := by decide +kernel
theorem dX5_here_0 : decode cX5_here 0 = .ok (.aload_n 0, 1) := by decide +kernel
theorem dX5_here_1 : decode cX5_here 1 = .ok (.getfield 94, 3) := by decide +kernel
theorem dX5_here_4 : decode cX5_here 4 = .ok (.aload_n 0, 1) := by decide +kernel
theorem dX5_here_5 : decode cX5_here 5 = .ok (.getfield 97, 3) := by decide +kernel
theorem dX5_here_8 : decode cX5_here 8 = .ok (.if_icmp .ge 23, 3) := by decide +kernel
theorem dX5_here_11 : decode cX5_here 11 = .ok (.aload_n 0, 1) := by decide +kernel
theorem dX5_here_12 : decode cX5_here 12 = .ok (.getfield 16, 3) := by decide +kernel
theorem dX5_here_15 : decode cX5_here 15 = .ok (.bipush 60, 2) := by decide +kernel
theorem dX5_here_17 : decode cX5_here 17 = .ok (.aload_n 0, 1) := by decide +kernel
theorem dX5_here_18 : decode cX5_here 18 = .ok (.getfield 100, 3) := by decide +kernel
theorem dX5_here_21 : decode cX5_here 21 = .ok (.imul, 1) := by decide +kernel
theorem dX5_here_22 : decode cX5_here 22 = .ok (.aload_n 0, 1) := by decide +kernel
theorem dX5_here_23 : decode cX5_here 23 = .ok (.getfield 94, 3) := by decide +kernel
theorem dX5_here_26 : decode cX5_here 26 = .ok (.iadd, 1) := by decide +kernel
theorem dX5_here_27 : decode cX5_here 27 = .ok (.iaload, 1) := by decide +kernel
theorem dX5_here_28 : decode cX5_here 28 = .ok (.goto 4, 3) := by decide +kernel
theorem dX5_here_31 : decode cX5_here 31 = .ok (.iconst (-1), 1) := by decide +kernel
theorem dX5_here_32 : decode cX5_here 32 = .ok (.ireturn, 1) := by decide +kernel
theorem dX5_skips_0 : decode cX5_skips 0 = .ok (.aload_n 0, 1) := by decide +kernel
theorem dX5_skips_1 : decode cX5_skips 1 = .ok (.invokevirtual 103, 3) := by decide +kernel
theorem dX5_skips_4 : decode cX5_skips 4 = .ok (.bipush 32, 2) := by decide +kernel
theorem dX5_skips_6 : decode cX5_skips 6 = .ok (.if_icmp .ne 16, 3) := by decide +kernel
theorem dX5_skips_9 : decode cX5_skips 9 = .ok (.aload_n 0, 1) := by decide +kernel
theorem dX5_skips_10 : decode cX5_skips 10 = .ok (.dup, 1) := by decide +kernel
theorem dX5_skips_11 : decode cX5_skips 11 = .ok (.getfield 94, 3) := by decide +kernel
theorem dX5_skips_14 : decode cX5_skips 14 = .ok (.iconst 1, 1) := by decide +kernel
theorem dX5_skips_15 : decode cX5_skips 15 = .ok (.iadd, 1) := by decide +kernel
theorem dX5_skips_16 : decode cX5_skips 16 = .ok (.putfield 94, 3) := by decide +kernel
theorem dX5_skips_19 : decode cX5_skips 19 = .ok (.goto (-19), 3) := by decide +kernel
theorem dX5_skips_22 : decode cX5_skips 22 = .ok (.return_, 1) := by decide +kernel
theorem dX5_kindOf_0 : decode cX5_kindOf 0 = .ok (.iload_n 0, 1) := by decide +kernel
theorem dX5_kindOf_1 : decode cX5_kindOf 1 = .ok (.lookupswitch 71 #[(98, 67), (99, 61), (108, 63), (109, 65), (112, 59), (119, 69)], 59) := by decide +kernel
theorem dX5_kindOf_60 : decode cX5_kindOf 60 = .ok (.iconst 0, 1) := by decide +kernel
theorem dX5_kindOf_61 : decode cX5_kindOf 61 = .ok (.ireturn, 1) := by decide +kernel
theorem dX5_kindOf_62 : decode cX5_kindOf 62 = .ok (.iconst 1, 1) := by decide +kernel
theorem dX5_kindOf_63 : decode cX5_kindOf 63 = .ok (.ireturn, 1) := by decide +kernel
theorem dX5_kindOf_64 : decode cX5_kindOf 64 = .ok (.iconst 2, 1) := by decide +kernel
theorem dX5_kindOf_65 : decode cX5_kindOf 65 = .ok (.ireturn, 1) := by decide +kernel
theorem dX5_kindOf_66 : decode cX5_kindOf 66 = .ok (.iconst 3, 1) := by decide +kernel
theorem dX5_kindOf_67 : decode cX5_kindOf 67 = .ok (.ireturn, 1) := by decide +kernel
theorem dX5_kindOf_68 : decode cX5_kindOf 68 = .ok (.iconst 4, 1) := by decide +kernel
theorem dX5_kindOf_69 : decode cX5_kindOf 69 = .ok (.ireturn, 1) := by decide +kernel
theorem dX5_kindOf_70 : decode cX5_kindOf 70 = .ok (.iconst 5, 1) := by decide +kernel
theorem dX5_kindOf_71 : decode cX5_kindOf 71 = .ok (.ireturn, 1) := by decide +kernel
theorem dX5_kindOf_72 : decode cX5_kindOf 72 = .ok (.bipush (-9), 2) := by decide +kernel
theorem dX5_kindOf_74 : decode cX5_kindOf 74 = .ok (.ireturn, 1) := by decide +kernel
theorem dX5_isFigure_0 : decode cX5_isFigure 0 = .ok (.aload_n 0, 1) := by decide +kernel
theorem dX5_isFigure_1 : decode cX5_isFigure 1 = .ok (.invokevirtual 103, 3) := by decide +kernel
theorem dX5_isFigure_4 : decode cX5_isFigure 4 = .ok (.i2l, 1) := by decide +kernel
theorem dX5_isFigure_5 : decode cX5_isFigure 5 = .ok (.bipush 48, 2) := by decide +kernel
theorem dX5_isFigure_7 : decode cX5_isFigure 7 = .ok (.iload_n 1, 1) := by decide +kernel
theorem dX5_isFigure_8 : decode cX5_isFigure 8 = .ok (.iadd, 1) := by decide +kernel
theorem dX5_isFigure_9 : decode cX5_isFigure 9 = .ok (.i2l, 1) := by decide +kernel
theorem dX5_isFigure_10 : decode cX5_isFigure 10 = .ok (.bipush 48, 2) := by decide +kernel
theorem dX5_isFigure_12 : decode cX5_isFigure 12 = .ok (.iload_n 2, 1) := by decide +kernel
theorem dX5_isFigure_13 : decode cX5_isFigure 13 = .ok (.iadd, 1) := by decide +kernel
theorem dX5_isFigure_14 : decode cX5_isFigure 14 = .ok (.i2l, 1) := by decide +kernel
theorem dX5_isFigure_15 : decode cX5_isFigure 15 = .ok (.invokestatic 71, 3) := by decide +kernel
theorem dX5_isFigure_18 : decode cX5_isFigure 18 = .ok (.ifCond .ne 5, 3) := by decide +kernel
theorem dX5_isFigure_21 : decode cX5_isFigure 21 = .ok (.iconst 0, 1) := by decide +kernel
theorem dX5_isFigure_22 : decode cX5_isFigure 22 = .ok (.ireturn, 1) := by decide +kernel
theorem dX5_isFigure_23 : decode cX5_isFigure 23 = .ok (.aload_n 0, 1) := by decide +kernel
theorem dX5_isFigure_24 : decode cX5_isFigure 24 = .ok (.aload_n 0, 1) := by decide +kernel
theorem dX5_isFigure_25 : decode cX5_isFigure 25 = .ok (.invokevirtual 103, 3) := by decide +kernel
theorem dX5_isFigure_28 : decode cX5_isFigure 28 = .ok (.bipush 48, 2) := by decide +kernel
theorem dX5_isFigure_30 : decode cX5_isFigure 30 = .ok (.isub, 1) := by decide +kernel
theorem dX5_isFigure_31 : decode cX5_isFigure 31 = .ok (.putfield 107, 3) := by decide +kernel
theorem dX5_isFigure_34 : decode cX5_isFigure 34 = .ok (.aload_n 0, 1) := by decide +kernel
theorem dX5_isFigure_35 : decode cX5_isFigure 35 = .ok (.dup, 1) := by decide +kernel
theorem dX5_isFigure_36 : decode cX5_isFigure 36 = .ok (.getfield 94, 3) := by decide +kernel
theorem dX5_isFigure_39 : decode cX5_isFigure 39 = .ok (.iconst 1, 1) := by decide +kernel
theorem dX5_isFigure_40 : decode cX5_isFigure 40 = .ok (.iadd, 1) := by decide +kernel
theorem dX5_isFigure_41 : decode cX5_isFigure 41 = .ok (.putfield 94, 3) := by decide +kernel
theorem dX5_isFigure_44 : decode cX5_isFigure 44 = .ok (.iconst 1, 1) := by decide +kernel
theorem dX5_isFigure_45 : decode cX5_isFigure 45 = .ok (.ireturn, 1) := by decide +kernel
theorem dX5_readsPin_0 : decode cX5_readsPin 0 = .ok (.aload_n 0, 1) := by decide +kernel
theorem dX5_readsPin_1 : decode cX5_readsPin 1 = .ok (.invokevirtual 103, 3) := by decide +kernel
theorem dX5_readsPin_4 : decode cX5_readsPin 4 = .ok (.invokestatic 110, 3) := by decide +kernel
theorem dX5_readsPin_7 : decode cX5_readsPin 7 = .ok (.istore_n 1, 1) := by decide +kernel
theorem dX5_readsPin_8 : decode cX5_readsPin 8 = .ok (.iload_n 1, 1) := by decide +kernel
theorem dX5_readsPin_9 : decode cX5_readsPin 9 = .ok (.bipush (-9), 2) := by decide +kernel
theorem dX5_readsPin_11 : decode cX5_readsPin 11 = .ok (.if_icmp .eq 12, 3) := by decide +kernel
theorem dX5_readsPin_14 : decode cX5_readsPin 14 = .ok (.aload_n 0, 1) := by decide +kernel
theorem dX5_readsPin_15 : decode cX5_readsPin 15 = .ok (.getfield 113, 3) := by decide +kernel
theorem dX5_readsPin_18 : decode cX5_readsPin 18 = .ok (.bipush 8, 2) := by decide +kernel
theorem dX5_readsPin_20 : decode cX5_readsPin 20 = .ok (.if_icmp .ne 5, 3) := by decide +kernel
theorem dX5_readsPin_23 : decode cX5_readsPin 23 = .ok (.iconst 0, 1) := by decide +kernel
theorem dX5_readsPin_24 : decode cX5_readsPin 24 = .ok (.ireturn, 1) := by decide +kernel
theorem dX5_readsPin_25 : decode cX5_readsPin 25 = .ok (.aload_n 0, 1) := by decide +kernel
theorem dX5_readsPin_26 : decode cX5_readsPin 26 = .ok (.dup, 1) := by decide +kernel
theorem dX5_readsPin_27 : decode cX5_readsPin 27 = .ok (.getfield 94, 3) := by decide +kernel
theorem dX5_readsPin_30 : decode cX5_readsPin 30 = .ok (.iconst 1, 1) := by decide +kernel
theorem dX5_readsPin_31 : decode cX5_readsPin 31 = .ok (.iadd, 1) := by decide +kernel
theorem dX5_readsPin_32 : decode cX5_readsPin 32 = .ok (.putfield 94, 3) := by decide +kernel
theorem dX5_readsPin_35 : decode cX5_readsPin 35 = .ok (.aload_n 0, 1) := by decide +kernel
theorem dX5_readsPin_36 : decode cX5_readsPin 36 = .ok (.getfield 50, 3) := by decide +kernel
theorem dX5_readsPin_39 : decode cX5_readsPin 39 = .ok (.iconst 5, 1) := by decide +kernel
theorem dX5_readsPin_40 : decode cX5_readsPin 40 = .ok (.aload_n 0, 1) := by decide +kernel
theorem dX5_readsPin_41 : decode cX5_readsPin 41 = .ok (.getfield 113, 3) := by decide +kernel
theorem dX5_readsPin_44 : decode cX5_readsPin 44 = .ok (.imul, 1) := by decide +kernel
theorem dX5_readsPin_45 : decode cX5_readsPin 45 = .ok (.iload_n 1, 1) := by decide +kernel
theorem dX5_readsPin_46 : decode cX5_readsPin 46 = .ok (.iastore, 1) := by decide +kernel
theorem dX5_readsPin_47 : decode cX5_readsPin 47 = .ok (.iconst 1, 1) := by decide +kernel
theorem dX5_readsPin_48 : decode cX5_readsPin 48 = .ok (.istore_n 2, 1) := by decide +kernel
theorem dX5_readsPin_49 : decode cX5_readsPin 49 = .ok (.iload_n 2, 1) := by decide +kernel
theorem dX5_readsPin_50 : decode cX5_readsPin 50 = .ok (.iconst 5, 1) := by decide +kernel
theorem dX5_readsPin_51 : decode cX5_readsPin 51 = .ok (.if_icmp .ge 56, 3) := by decide +kernel
theorem dX5_readsPin_54 : decode cX5_readsPin 54 = .ok (.aload_n 0, 1) := by decide +kernel
theorem dX5_readsPin_55 : decode cX5_readsPin 55 = .ok (.iload_n 2, 1) := by decide +kernel
theorem dX5_readsPin_56 : decode cX5_readsPin 56 = .ok (.iconst 3, 1) := by decide +kernel
theorem dX5_readsPin_57 : decode cX5_readsPin 57 = .ok (.if_icmp .ne 7, 3) := by decide +kernel
theorem dX5_readsPin_60 : decode cX5_readsPin 60 = .ok (.iconst 1, 1) := by decide +kernel
theorem dX5_readsPin_61 : decode cX5_readsPin 61 = .ok (.goto 4, 3) := by decide +kernel
theorem dX5_readsPin_64 : decode cX5_readsPin 64 = .ok (.iconst 0, 1) := by decide +kernel
theorem dX5_readsPin_65 : decode cX5_readsPin 65 = .ok (.iload_n 2, 1) := by decide +kernel
theorem dX5_readsPin_66 : decode cX5_readsPin 66 = .ok (.iconst 3, 1) := by decide +kernel
theorem dX5_readsPin_67 : decode cX5_readsPin 67 = .ok (.if_icmp .ne 7, 3) := by decide +kernel
theorem dX5_readsPin_70 : decode cX5_readsPin 70 = .ok (.iconst 4, 1) := by decide +kernel
theorem dX5_readsPin_71 : decode cX5_readsPin 71 = .ok (.goto 5, 3) := by decide +kernel
theorem dX5_readsPin_74 : decode cX5_readsPin 74 = .ok (.bipush 9, 2) := by decide +kernel
theorem dX5_readsPin_76 : decode cX5_readsPin 76 = .ok (.invokevirtual 116, 3) := by decide +kernel
theorem dX5_readsPin_79 : decode cX5_readsPin 79 = .ok (.ifCond .ne 5, 3) := by decide +kernel
theorem dX5_readsPin_82 : decode cX5_readsPin 82 = .ok (.iconst 0, 1) := by decide +kernel
theorem dX5_readsPin_83 : decode cX5_readsPin 83 = .ok (.ireturn, 1) := by decide +kernel
theorem dX5_readsPin_84 : decode cX5_readsPin 84 = .ok (.aload_n 0, 1) := by decide +kernel
theorem dX5_readsPin_85 : decode cX5_readsPin 85 = .ok (.getfield 50, 3) := by decide +kernel
theorem dX5_readsPin_88 : decode cX5_readsPin 88 = .ok (.iconst 5, 1) := by decide +kernel
theorem dX5_readsPin_89 : decode cX5_readsPin 89 = .ok (.aload_n 0, 1) := by decide +kernel
theorem dX5_readsPin_90 : decode cX5_readsPin 90 = .ok (.getfield 113, 3) := by decide +kernel
theorem dX5_readsPin_93 : decode cX5_readsPin 93 = .ok (.imul, 1) := by decide +kernel
theorem dX5_readsPin_94 : decode cX5_readsPin 94 = .ok (.iload_n 2, 1) := by decide +kernel
theorem dX5_readsPin_95 : decode cX5_readsPin 95 = .ok (.iadd, 1) := by decide +kernel
theorem dX5_readsPin_96 : decode cX5_readsPin 96 = .ok (.aload_n 0, 1) := by decide +kernel
theorem dX5_readsPin_97 : decode cX5_readsPin 97 = .ok (.getfield 107, 3) := by decide +kernel
theorem dX5_readsPin_100 : decode cX5_readsPin 100 = .ok (.iastore, 1) := by decide +kernel
theorem dX5_readsPin_101 : decode cX5_readsPin 101 = .ok (.iinc 2 1, 3) := by decide +kernel
theorem dX5_readsPin_104 : decode cX5_readsPin 104 = .ok (.goto (-55), 3) := by decide +kernel
theorem dX5_readsPin_107 : decode cX5_readsPin 107 = .ok (.aload_n 0, 1) := by decide +kernel
theorem dX5_readsPin_108 : decode cX5_readsPin 108 = .ok (.dup, 1) := by decide +kernel
theorem dX5_readsPin_109 : decode cX5_readsPin 109 = .ok (.getfield 113, 3) := by decide +kernel
theorem dX5_readsPin_112 : decode cX5_readsPin 112 = .ok (.iconst 1, 1) := by decide +kernel
theorem dX5_readsPin_113 : decode cX5_readsPin 113 = .ok (.iadd, 1) := by decide +kernel
theorem dX5_readsPin_114 : decode cX5_readsPin 114 = .ok (.putfield 113, 3) := by decide +kernel
theorem dX5_readsPin_117 : decode cX5_readsPin 117 = .ok (.iconst 1, 1) := by decide +kernel
theorem dX5_readsPin_118 : decode cX5_readsPin 118 = .ok (.ireturn, 1) := by decide +kernel
theorem dX5_reads_0 : decode cX5_reads 0 = .ok (.aload_n 0, 1) := by decide +kernel
theorem dX5_reads_1 : decode cX5_reads 1 = .ok (.iload_n 1, 1) := by decide +kernel
theorem dX5_reads_2 : decode cX5_reads 2 = .ok (.putfield 100, 3) := by decide +kernel
theorem dX5_reads_5 : decode cX5_reads 5 = .ok (.aload_n 0, 1) := by decide +kernel
theorem dX5_reads_6 : decode cX5_reads 6 = .ok (.aload_n 0, 1) := by decide +kernel
theorem dX5_reads_7 : decode cX5_reads 7 = .ok (.getfield 19, 3) := by decide +kernel
theorem dX5_reads_10 : decode cX5_reads 10 = .ok (.iload_n 1, 1) := by decide +kernel
theorem dX5_reads_11 : decode cX5_reads 11 = .ok (.iaload, 1) := by decide +kernel
theorem dX5_reads_12 : decode cX5_reads 12 = .ok (.putfield 97, 3) := by decide +kernel
theorem dX5_reads_15 : decode cX5_reads 15 = .ok (.aload_n 0, 1) := by decide +kernel
theorem dX5_reads_16 : decode cX5_reads 16 = .ok (.iconst 0, 1) := by decide +kernel
theorem dX5_reads_17 : decode cX5_reads 17 = .ok (.putfield 94, 3) := by decide +kernel
theorem dX5_reads_20 : decode cX5_reads 20 = .ok (.aload_n 0, 1) := by decide +kernel
theorem dX5_reads_21 : decode cX5_reads 21 = .ok (.iconst 0, 1) := by decide +kernel
theorem dX5_reads_22 : decode cX5_reads 22 = .ok (.putfield 113, 3) := by decide +kernel
theorem dX5_reads_25 : decode cX5_reads 25 = .ok (.iconst 1, 1) := by decide +kernel
theorem dX5_reads_26 : decode cX5_reads 26 = .ok (.istore_n 2, 1) := by decide +kernel
theorem dX5_reads_27 : decode cX5_reads 27 = .ok (.aload_n 0, 1) := by decide +kernel
theorem dX5_reads_28 : decode cX5_reads 28 = .ok (.invokevirtual 120, 3) := by decide +kernel
theorem dX5_reads_31 : decode cX5_reads 31 = .ok (.aload_n 0, 1) := by decide +kernel
theorem dX5_reads_32 : decode cX5_reads 32 = .ok (.getfield 94, 3) := by decide +kernel
theorem dX5_reads_35 : decode cX5_reads 35 = .ok (.aload_n 0, 1) := by decide +kernel
theorem dX5_reads_36 : decode cX5_reads 36 = .ok (.getfield 97, 3) := by decide +kernel
theorem dX5_reads_39 : decode cX5_reads 39 = .ok (.if_icmp .ge 23, 3) := by decide +kernel
theorem dX5_reads_42 : decode cX5_reads 42 = .ok (.iload_n 2, 1) := by decide +kernel
theorem dX5_reads_43 : decode cX5_reads 43 = .ok (.ifCond .eq 19, 3) := by decide +kernel
theorem dX5_reads_46 : decode cX5_reads 46 = .ok (.aload_n 0, 1) := by decide +kernel
theorem dX5_reads_47 : decode cX5_reads 47 = .ok (.invokevirtual 123, 3) := by decide +kernel
theorem dX5_reads_50 : decode cX5_reads 50 = .ok (.istore_n 2, 1) := by decide +kernel
theorem dX5_reads_51 : decode cX5_reads 51 = .ok (.iload_n 2, 1) := by decide +kernel
theorem dX5_reads_52 : decode cX5_reads 52 = .ok (.ifCond .eq (-21), 3) := by decide +kernel
theorem dX5_reads_55 : decode cX5_reads 55 = .ok (.aload_n 0, 1) := by decide +kernel
theorem dX5_reads_56 : decode cX5_reads 56 = .ok (.invokevirtual 120, 3) := by decide +kernel
theorem dX5_reads_59 : decode cX5_reads 59 = .ok (.goto (-28), 3) := by decide +kernel
theorem dX5_reads_62 : decode cX5_reads 62 = .ok (.iload_n 2, 1) := by decide +kernel
theorem dX5_reads_63 : decode cX5_reads 63 = .ok (.ifCond .eq 15, 3) := by decide +kernel
theorem dX5_reads_66 : decode cX5_reads 66 = .ok (.aload_n 0, 1) := by decide +kernel
theorem dX5_reads_67 : decode cX5_reads 67 = .ok (.getfield 113, 3) := by decide +kernel
theorem dX5_reads_70 : decode cX5_reads 70 = .ok (.ifCond .le 8, 3) := by decide +kernel
theorem dX5_reads_73 : decode cX5_reads 73 = .ok (.bipush (-9), 2) := by decide +kernel
theorem dX5_reads_75 : decode cX5_reads 75 = .ok (.goto 7, 3) := by decide +kernel
theorem dX5_reads_78 : decode cX5_reads 78 = .ok (.aload_n 0, 1) := by decide +kernel
theorem dX5_reads_79 : decode cX5_reads 79 = .ok (.getfield 94, 3) := by decide +kernel
theorem dX5_reads_82 : decode cX5_reads 82 = .ok (.ireturn, 1) := by decide +kernel
theorem dX5_fault_0 : decode cX5_fault 0 = .ok (.iload_n 1, 1) := by decide +kernel
theorem dX5_fault_1 : decode cX5_fault 1 = .ok (.invokestatic 88, 3) := by decide +kernel
theorem dX5_fault_4 : decode cX5_fault 4 = .ok (.ifCond .ne 5, 3) := by decide +kernel
theorem dX5_fault_7 : decode cX5_fault 7 = .ok (.iconst (-1), 1) := by decide +kernel
theorem dX5_fault_8 : decode cX5_fault 8 = .ok (.ireturn, 1) := by decide +kernel
theorem dX5_fault_9 : decode cX5_fault 9 = .ok (.aload_n 0, 1) := by decide +kernel
theorem dX5_fault_10 : decode cX5_fault 10 = .ok (.getfield 19, 3) := by decide +kernel
theorem dX5_fault_13 : decode cX5_fault 13 = .ok (.iload_n 1, 1) := by decide +kernel
theorem dX5_fault_14 : decode cX5_fault 14 = .ok (.iaload, 1) := by decide +kernel
theorem dX5_fault_15 : decode cX5_fault 15 = .ok (.ifCond .ge 11, 3) := by decide +kernel
theorem dX5_fault_18 : decode cX5_fault 18 = .ok (.aload_n 0, 1) := by decide +kernel
theorem dX5_fault_19 : decode cX5_fault 19 = .ok (.iconst 1, 1) := by decide +kernel
theorem dX5_fault_20 : decode cX5_fault 20 = .ok (.invokevirtual 81, 3) := by decide +kernel
theorem dX5_fault_23 : decode cX5_fault 23 = .ok (.goto 8, 3) := by decide +kernel
theorem dX5_fault_26 : decode cX5_fault 26 = .ok (.aload_n 0, 1) := by decide +kernel
theorem dX5_fault_27 : decode cX5_fault 27 = .ok (.iload_n 1, 1) := by decide +kernel
theorem dX5_fault_28 : decode cX5_fault 28 = .ok (.invokevirtual 127, 3) := by decide +kernel
theorem dX5_fault_31 : decode cX5_fault 31 = .ok (.ireturn, 1) := by decide +kernel
theorem dX5_forgets_0 : decode cX5_forgets 0 = .ok (.aload_n 0, 1) := by decide +kernel
theorem dX5_forgets_1 : decode cX5_forgets 1 = .ok (.getfield 41, 3) := by decide +kernel
theorem dX5_forgets_4 : decode cX5_forgets 4 = .ok (.iconst 0, 1) := by decide +kernel
theorem dX5_forgets_5 : decode cX5_forgets 5 = .ok (.iconst 0, 1) := by decide +kernel
theorem dX5_forgets_6 : decode cX5_forgets 6 = .ok (.iastore, 1) := by decide +kernel
theorem dX5_forgets_7 : decode cX5_forgets 7 = .ok (.aload_n 0, 1) := by decide +kernel
theorem dX5_forgets_8 : decode cX5_forgets 8 = .ok (.iconst 0, 1) := by decide +kernel
theorem dX5_forgets_9 : decode cX5_forgets 9 = .ok (.putfield 91, 3) := by decide +kernel
theorem dX5_forgets_12 : decode cX5_forgets 12 = .ok (.iconst 0, 1) := by decide +kernel
theorem dX5_forgets_13 : decode cX5_forgets 13 = .ok (.istore_n 1, 1) := by decide +kernel
theorem dX5_forgets_14 : decode cX5_forgets 14 = .ok (.iload_n 1, 1) := by decide +kernel
theorem dX5_forgets_15 : decode cX5_forgets 15 = .ok (.iconst 3, 1) := by decide +kernel
theorem dX5_forgets_16 : decode cX5_forgets 16 = .ok (.if_icmp .ge 20, 3) := by decide +kernel
theorem dX5_forgets_19 : decode cX5_forgets 19 = .ok (.aload_n 0, 1) := by decide +kernel
theorem dX5_forgets_20 : decode cX5_forgets 20 = .ok (.getfield 47, 3) := by decide +kernel
theorem dX5_forgets_23 : decode cX5_forgets 23 = .ok (.sipush 370, 3) := by decide +kernel
theorem dX5_forgets_26 : decode cX5_forgets 26 = .ok (.iload_n 1, 1) := by decide +kernel
theorem dX5_forgets_27 : decode cX5_forgets 27 = .ok (.imul, 1) := by decide +kernel
theorem dX5_forgets_28 : decode cX5_forgets 28 = .ok (.iconst (-1), 1) := by decide +kernel
theorem dX5_forgets_29 : decode cX5_forgets 29 = .ok (.iastore, 1) := by decide +kernel
theorem dX5_forgets_30 : decode cX5_forgets 30 = .ok (.iinc 1 1, 3) := by decide +kernel
theorem dX5_forgets_33 : decode cX5_forgets 33 = .ok (.goto (-19), 3) := by decide +kernel
theorem dX5_forgets_36 : decode cX5_forgets 36 = .ok (.return_, 1) := by decide +kernel
theorem dX5_street_0 : decode cX5_street 0 = .ok (.iload_n 1, 1) := by decide +kernel
theorem dX5_street_1 : decode cX5_street 1 = .ok (.invokestatic 88, 3) := by decide +kernel
theorem dX5_street_4 : decode cX5_street 4 = .ok (.ifCond .ne 5, 3) := by decide +kernel
theorem dX5_street_7 : decode cX5_street 7 = .ok (.iconst (-1), 1) := by decide +kernel
theorem dX5_street_8 : decode cX5_street 8 = .ok (.ireturn, 1) := by decide +kernel
theorem dX5_street_9 : decode cX5_street 9 = .ok (.aload_n 0, 1) := by decide +kernel
theorem dX5_street_10 : decode cX5_street 10 = .ok (.getfield 19, 3) := by decide +kernel
theorem dX5_street_13 : decode cX5_street 13 = .ok (.iload_n 1, 1) := by decide +kernel
theorem dX5_street_14 : decode cX5_street 14 = .ok (.iaload, 1) := by decide +kernel
theorem dX5_street_15 : decode cX5_street 15 = .ok (.ifCond .ge 9, 3) := by decide +kernel
theorem dX5_street_18 : decode cX5_street 18 = .ok (.aload_n 0, 1) := by decide +kernel
theorem dX5_street_19 : decode cX5_street 19 = .ok (.iconst 1, 1) := by decide +kernel
theorem dX5_street_20 : decode cX5_street 20 = .ok (.invokevirtual 81, 3) := by decide +kernel
theorem dX5_street_23 : decode cX5_street 23 = .ok (.ireturn, 1) := by decide +kernel
theorem dX5_street_24 : decode cX5_street 24 = .ok (.aload_n 0, 1) := by decide +kernel
theorem dX5_street_25 : decode cX5_street 25 = .ok (.iload_n 1, 1) := by decide +kernel
theorem dX5_street_26 : decode cX5_street 26 = .ok (.invokevirtual 127, 3) := by decide +kernel
theorem dX5_street_29 : decode cX5_street 29 = .ok (.bipush (-9), 2) := by decide +kernel
theorem dX5_street_31 : decode cX5_street 31 = .ok (.if_icmp .eq 6, 3) := by decide +kernel
theorem dX5_street_34 : decode cX5_street 34 = .ok (.bipush (-4), 2) := by decide +kernel
theorem dX5_street_36 : decode cX5_street 36 = .ok (.ireturn, 1) := by decide +kernel
theorem dX5_street_37 : decode cX5_street 37 = .ok (.aload_n 0, 1) := by decide +kernel
theorem dX5_street_38 : decode cX5_street 38 = .ok (.aload_n 0, 1) := by decide +kernel
theorem dX5_street_39 : decode cX5_street 39 = .ok (.getfield 113, 3) := by decide +kernel
theorem dX5_street_42 : decode cX5_street 42 = .ok (.putfield 130, 3) := by decide +kernel
theorem dX5_street_45 : decode cX5_street 45 = .ok (.iconst 0, 1) := by decide +kernel
theorem dX5_street_46 : decode cX5_street 46 = .ok (.istore_n 2, 1) := by decide +kernel
theorem dX5_street_47 : decode cX5_street 47 = .ok (.iload_n 2, 1) := by decide +kernel
theorem dX5_street_48 : decode cX5_street 48 = .ok (.aload_n 0, 1) := by decide +kernel
theorem dX5_street_49 : decode cX5_street 49 = .ok (.getfield 130, 3) := by decide +kernel
theorem dX5_street_52 : decode cX5_street 52 = .ok (.if_icmp .ge 89, 3) := by decide +kernel
theorem dX5_street_55 : decode cX5_street 55 = .ok (.aload_n 0, 1) := by decide +kernel
theorem dX5_street_56 : decode cX5_street 56 = .ok (.getfield 29, 3) := by decide +kernel
theorem dX5_street_59 : decode cX5_street 59 = .ok (.iload_n 2, 1) := by decide +kernel
theorem dX5_street_60 : decode cX5_street 60 = .ok (.aload_n 0, 1) := by decide +kernel
theorem dX5_street_61 : decode cX5_street 61 = .ok (.getfield 50, 3) := by decide +kernel
theorem dX5_street_64 : decode cX5_street 64 = .ok (.iconst 5, 1) := by decide +kernel
theorem dX5_street_65 : decode cX5_street 65 = .ok (.iload_n 2, 1) := by decide +kernel
theorem dX5_street_66 : decode cX5_street 66 = .ok (.imul, 1) := by decide +kernel
theorem dX5_street_67 : decode cX5_street 67 = .ok (.iaload, 1) := by decide +kernel
theorem dX5_street_68 : decode cX5_street 68 = .ok (.iastore, 1) := by decide +kernel
theorem dX5_street_69 : decode cX5_street 69 = .ok (.aload_n 0, 1) := by decide +kernel
theorem dX5_street_70 : decode cX5_street 70 = .ok (.getfield 41, 3) := by decide +kernel
theorem dX5_street_73 : decode cX5_street 73 = .ok (.iconst 1, 1) := by decide +kernel
theorem dX5_street_74 : decode cX5_street 74 = .ok (.iload_n 2, 1) := by decide +kernel
theorem dX5_street_75 : decode cX5_street 75 = .ok (.iadd, 1) := by decide +kernel
theorem dX5_street_76 : decode cX5_street 76 = .ok (.aload_n 0, 1) := by decide +kernel
theorem dX5_street_77 : decode cX5_street 77 = .ok (.getfield 50, 3) := by decide +kernel
theorem dX5_street_80 : decode cX5_street 80 = .ok (.iconst 5, 1) := by decide +kernel
theorem dX5_street_81 : decode cX5_street 81 = .ok (.iload_n 2, 1) := by decide +kernel
theorem dX5_street_82 : decode cX5_street 82 = .ok (.imul, 1) := by decide +kernel
theorem dX5_street_83 : decode cX5_street 83 = .ok (.iconst 1, 1) := by decide +kernel
theorem dX5_street_84 : decode cX5_street 84 = .ok (.iadd, 1) := by decide +kernel
theorem dX5_street_85 : decode cX5_street 85 = .ok (.iaload, 1) := by decide +kernel
theorem dX5_street_86 : decode cX5_street 86 = .ok (.iastore, 1) := by decide +kernel
theorem dX5_street_87 : decode cX5_street 87 = .ok (.aload_n 0, 1) := by decide +kernel
theorem dX5_street_88 : decode cX5_street 88 = .ok (.getfield 32, 3) := by decide +kernel
theorem dX5_street_91 : decode cX5_street 91 = .ok (.iload_n 2, 1) := by decide +kernel
theorem dX5_street_92 : decode cX5_street 92 = .ok (.aload_n 0, 1) := by decide +kernel
theorem dX5_street_93 : decode cX5_street 93 = .ok (.getfield 50, 3) := by decide +kernel
theorem dX5_street_96 : decode cX5_street 96 = .ok (.iconst 5, 1) := by decide +kernel
theorem dX5_street_97 : decode cX5_street 97 = .ok (.iload_n 2, 1) := by decide +kernel
theorem dX5_street_98 : decode cX5_street 98 = .ok (.imul, 1) := by decide +kernel
theorem dX5_street_99 : decode cX5_street 99 = .ok (.iconst 2, 1) := by decide +kernel
theorem dX5_street_100 : decode cX5_street 100 = .ok (.iadd, 1) := by decide +kernel
theorem dX5_street_101 : decode cX5_street 101 = .ok (.iaload, 1) := by decide +kernel
theorem dX5_street_102 : decode cX5_street 102 = .ok (.iastore, 1) := by decide +kernel
theorem dX5_street_103 : decode cX5_street 103 = .ok (.aload_n 0, 1) := by decide +kernel
theorem dX5_street_104 : decode cX5_street 104 = .ok (.getfield 35, 3) := by decide +kernel
theorem dX5_street_107 : decode cX5_street 107 = .ok (.iload_n 2, 1) := by decide +kernel
theorem dX5_street_108 : decode cX5_street 108 = .ok (.aload_n 0, 1) := by decide +kernel
theorem dX5_street_109 : decode cX5_street 109 = .ok (.getfield 50, 3) := by decide +kernel
theorem dX5_street_112 : decode cX5_street 112 = .ok (.iconst 5, 1) := by decide +kernel
theorem dX5_street_113 : decode cX5_street 113 = .ok (.iload_n 2, 1) := by decide +kernel
theorem dX5_street_114 : decode cX5_street 114 = .ok (.imul, 1) := by decide +kernel
theorem dX5_street_115 : decode cX5_street 115 = .ok (.iconst 3, 1) := by decide +kernel
theorem dX5_street_116 : decode cX5_street 116 = .ok (.iadd, 1) := by decide +kernel
theorem dX5_street_117 : decode cX5_street 117 = .ok (.iaload, 1) := by decide +kernel
theorem dX5_street_118 : decode cX5_street 118 = .ok (.iastore, 1) := by decide +kernel
theorem dX5_street_119 : decode cX5_street 119 = .ok (.aload_n 0, 1) := by decide +kernel
theorem dX5_street_120 : decode cX5_street 120 = .ok (.getfield 38, 3) := by decide +kernel
theorem dX5_street_123 : decode cX5_street 123 = .ok (.iload_n 2, 1) := by decide +kernel
theorem dX5_street_124 : decode cX5_street 124 = .ok (.aload_n 0, 1) := by decide +kernel
theorem dX5_street_125 : decode cX5_street 125 = .ok (.getfield 50, 3) := by decide +kernel
theorem dX5_street_128 : decode cX5_street 128 = .ok (.iconst 5, 1) := by decide +kernel
theorem dX5_street_129 : decode cX5_street 129 = .ok (.iload_n 2, 1) := by decide +kernel
theorem dX5_street_130 : decode cX5_street 130 = .ok (.imul, 1) := by decide +kernel
theorem dX5_street_131 : decode cX5_street 131 = .ok (.iconst 4, 1) := by decide +kernel
theorem dX5_street_132 : decode cX5_street 132 = .ok (.iadd, 1) := by decide +kernel
theorem dX5_street_133 : decode cX5_street 133 = .ok (.iaload, 1) := by decide +kernel
theorem dX5_street_134 : decode cX5_street 134 = .ok (.iastore, 1) := by decide +kernel
theorem dX5_street_135 : decode cX5_street 135 = .ok (.iinc 2 1, 3) := by decide +kernel
theorem dX5_street_138 : decode cX5_street 138 = .ok (.goto (-91), 3) := by decide +kernel
theorem dX5_street_141 : decode cX5_street 141 = .ok (.aload_n 0, 1) := by decide +kernel
theorem dX5_street_142 : decode cX5_street 142 = .ok (.invokevirtual 59, 3) := by decide +kernel
theorem dX5_street_145 : decode cX5_street 145 = .ok (.aload_n 0, 1) := by decide +kernel
theorem dX5_street_146 : decode cX5_street 146 = .ok (.getfield 130, 3) := by decide +kernel
theorem dX5_street_149 : decode cX5_street 149 = .ok (.ireturn, 1) := by decide +kernel
theorem dX5_isPin_0 : decode cX5_isPin 0 = .ok (.iload_n 1, 1) := by decide +kernel
theorem dX5_isPin_1 : decode cX5_isPin 1 = .ok (.i2l, 1) := by decide +kernel
theorem dX5_isPin_2 : decode cX5_isPin 2 = .ok (.lconst 0, 1) := by decide +kernel
theorem dX5_isPin_3 : decode cX5_isPin 3 = .ok (.aload_n 0, 1) := by decide +kernel
theorem dX5_isPin_4 : decode cX5_isPin 4 = .ok (.getfield 130, 3) := by decide +kernel
theorem dX5_isPin_7 : decode cX5_isPin 7 = .ok (.iconst 1, 1) := by decide +kernel
theorem dX5_isPin_8 : decode cX5_isPin 8 = .ok (.isub, 1) := by decide +kernel
theorem dX5_isPin_9 : decode cX5_isPin 9 = .ok (.i2l, 1) := by decide +kernel
theorem dX5_isPin_10 : decode cX5_isPin 10 = .ok (.invokestatic 71, 3) := by decide +kernel
theorem dX5_isPin_13 : decode cX5_isPin 13 = .ok (.ireturn, 1) := by decide +kernel
theorem dX5_lies_0 : decode cX5_lies 0 = .ok (.aload_n 0, 1) := by decide +kernel
theorem dX5_lies_1 : decode cX5_lies 1 = .ok (.getfield 41, 3) := by decide +kernel
theorem dX5_lies_4 : decode cX5_lies 4 = .ok (.iconst 1, 1) := by decide +kernel
theorem dX5_lies_5 : decode cX5_lies 5 = .ok (.iload_n 1, 1) := by decide +kernel
theorem dX5_lies_6 : decode cX5_lies 6 = .ok (.iadd, 1) := by decide +kernel
theorem dX5_lies_7 : decode cX5_lies 7 = .ok (.iaload, 1) := by decide +kernel
theorem dX5_lies_8 : decode cX5_lies 8 = .ok (.ifCond .lt 7, 3) := by decide +kernel
theorem dX5_lies_11 : decode cX5_lies 11 = .ok (.iconst 1, 1) := by decide +kernel
theorem dX5_lies_12 : decode cX5_lies 12 = .ok (.goto 4, 3) := by decide +kernel
theorem dX5_lies_15 : decode cX5_lies 15 = .ok (.iconst 0, 1) := by decide +kernel
theorem dX5_lies_16 : decode cX5_lies 16 = .ok (.ireturn, 1) := by decide +kernel
theorem dX5_hoursOf_0 : decode cX5_hoursOf 0 = .ok (.iconst 1, 1) := by decide +kernel
theorem dX5_hoursOf_1 : decode cX5_hoursOf 1 = .ok (.aload_n 0, 1) := by decide +kernel
theorem dX5_hoursOf_2 : decode cX5_hoursOf 2 = .ok (.getfield 35, 3) := by decide +kernel
theorem dX5_hoursOf_5 : decode cX5_hoursOf 5 = .ok (.iload_n 1, 1) := by decide +kernel
theorem dX5_hoursOf_6 : decode cX5_hoursOf 6 = .ok (.iaload, 1) := by decide +kernel
theorem dX5_hoursOf_7 : decode cX5_hoursOf 7 = .ok (.ishl, 1) := by decide +kernel
theorem dX5_hoursOf_8 : decode cX5_hoursOf 8 = .ok (.iconst 1, 1) := by decide +kernel
theorem dX5_hoursOf_9 : decode cX5_hoursOf 9 = .ok (.isub, 1) := by decide +kernel
theorem dX5_hoursOf_10 : decode cX5_hoursOf 10 = .ok (.aload_n 0, 1) := by decide +kernel
theorem dX5_hoursOf_11 : decode cX5_hoursOf 11 = .ok (.getfield 32, 3) := by decide +kernel
theorem dX5_hoursOf_14 : decode cX5_hoursOf 14 = .ok (.iload_n 1, 1) := by decide +kernel
theorem dX5_hoursOf_15 : decode cX5_hoursOf 15 = .ok (.iaload, 1) := by decide +kernel
theorem dX5_hoursOf_16 : decode cX5_hoursOf 16 = .ok (.ishl, 1) := by decide +kernel
theorem dX5_hoursOf_17 : decode cX5_hoursOf 17 = .ok (.ireturn, 1) := by decide +kernel
theorem dX5_has_0 : decode cX5_has 0 = .ok (.iload_n 0, 1) := by decide +kernel
theorem dX5_has_1 : decode cX5_has 1 = .ok (.iload_n 1, 1) := by decide +kernel
theorem dX5_has_2 : decode cX5_has 2 = .ok (.ishr, 1) := by decide +kernel
theorem dX5_has_3 : decode cX5_has 3 = .ok (.iconst 1, 1) := by decide +kernel
theorem dX5_has_4 : decode cX5_has 4 = .ok (.iand, 1) := by decide +kernel
theorem dX5_has_5 : decode cX5_has 5 = .ok (.iconst 1, 1) := by decide +kernel
theorem dX5_has_6 : decode cX5_has 6 = .ok (.if_icmp .ne 7, 3) := by decide +kernel
theorem dX5_has_9 : decode cX5_has 9 = .ok (.iconst 1, 1) := by decide +kernel
theorem dX5_has_10 : decode cX5_has 10 = .ok (.goto 4, 3) := by decide +kernel
theorem dX5_has_13 : decode cX5_has 13 = .ok (.iconst 0, 1) := by decide +kernel
theorem dX5_has_14 : decode cX5_has 14 = .ok (.ireturn, 1) := by decide +kernel
theorem dX5_worthBy_0 : decode cX5_worthBy 0 = .ok (.aload_n 0, 1) := by decide +kernel
theorem dX5_worthBy_1 : decode cX5_worthBy 1 = .ok (.iload_n 2, 1) := by decide +kernel
theorem dX5_worthBy_2 : decode cX5_worthBy 2 = .ok (.invokevirtual 136, 3) := by decide +kernel
theorem dX5_worthBy_5 : decode cX5_worthBy 5 = .ok (.iconst 5, 1) := by decide +kernel
theorem dX5_worthBy_6 : decode cX5_worthBy 6 = .ok (.invokestatic 139, 3) := by decide +kernel
theorem dX5_worthBy_9 : decode cX5_worthBy 9 = .ok (.ifCond .eq 9, 3) := by decide +kernel
theorem dX5_worthBy_12 : decode cX5_worthBy 12 = .ok (.iload_n 3, 1) := by decide +kernel
theorem dX5_worthBy_13 : decode cX5_worthBy 13 = .ok (.iconst 3, 1) := by decide +kernel
theorem dX5_worthBy_14 : decode cX5_worthBy 14 = .ok (.iadd, 1) := by decide +kernel
theorem dX5_worthBy_15 : decode cX5_worthBy 15 = .ok (.goto 4, 3) := by decide +kernel
theorem dX5_worthBy_18 : decode cX5_worthBy 18 = .ok (.iload_n 3, 1) := by decide +kernel
theorem dX5_worthBy_19 : decode cX5_worthBy 19 = .ok (.istore 4, 2) := by decide +kernel
theorem dX5_worthBy_21 : decode cX5_worthBy 21 = .ok (.iload_n 1, 1) := by decide +kernel
theorem dX5_worthBy_22 : decode cX5_worthBy 22 = .ok (.tableswitch 68 1 5 #[34, 39, 42, 51, 56], 34) := by decide +kernel
theorem dX5_worthBy_56 : decode cX5_worthBy 56 = .ok (.iload_n 3, 1) := by decide +kernel
theorem dX5_worthBy_57 : decode cX5_worthBy 57 = .ok (.bipush 10, 2) := by decide +kernel
theorem dX5_worthBy_59 : decode cX5_worthBy 59 = .ok (.isub, 1) := by decide +kernel
theorem dX5_worthBy_60 : decode cX5_worthBy 60 = .ok (.ireturn, 1) := by decide +kernel
theorem dX5_worthBy_61 : decode cX5_worthBy 61 = .ok (.iload 4, 2) := by decide +kernel
theorem dX5_worthBy_63 : decode cX5_worthBy 63 = .ok (.ireturn, 1) := by decide +kernel
theorem dX5_worthBy_64 : decode cX5_worthBy 64 = .ok (.iload_n 3, 1) := by decide +kernel
theorem dX5_worthBy_65 : decode cX5_worthBy 65 = .ok (.aload_n 0, 1) := by decide +kernel
theorem dX5_worthBy_66 : decode cX5_worthBy 66 = .ok (.getfield 35, 3) := by decide +kernel
theorem dX5_worthBy_69 : decode cX5_worthBy 69 = .ok (.iload_n 2, 1) := by decide +kernel
theorem dX5_worthBy_70 : decode cX5_worthBy 70 = .ok (.iaload, 1) := by decide +kernel
theorem dX5_worthBy_71 : decode cX5_worthBy 71 = .ok (.imul, 1) := by decide +kernel
theorem dX5_worthBy_72 : decode cX5_worthBy 72 = .ok (.ireturn, 1) := by decide +kernel
theorem dX5_worthBy_73 : decode cX5_worthBy 73 = .ok (.iconst 2, 1) := by decide +kernel
theorem dX5_worthBy_74 : decode cX5_worthBy 74 = .ok (.iload 4, 2) := by decide +kernel
theorem dX5_worthBy_76 : decode cX5_worthBy 76 = .ok (.imul, 1) := by decide +kernel
theorem dX5_worthBy_77 : decode cX5_worthBy 77 = .ok (.ireturn, 1) := by decide +kernel
theorem dX5_worthBy_78 : decode cX5_worthBy 78 = .ok (.iload_n 3, 1) := by decide +kernel
theorem dX5_worthBy_79 : decode cX5_worthBy 79 = .ok (.bipush 10, 2) := by decide +kernel
theorem dX5_worthBy_81 : decode cX5_worthBy 81 = .ok (.isub, 1) := by decide +kernel
theorem dX5_worthBy_82 : decode cX5_worthBy 82 = .ok (.aload_n 0, 1) := by decide +kernel
theorem dX5_worthBy_83 : decode cX5_worthBy 83 = .ok (.getfield 35, 3) := by decide +kernel
theorem dX5_worthBy_86 : decode cX5_worthBy 86 = .ok (.iload_n 2, 1) := by decide +kernel
theorem dX5_worthBy_87 : decode cX5_worthBy 87 = .ok (.iaload, 1) := by decide +kernel
theorem dX5_worthBy_88 : decode cX5_worthBy 88 = .ok (.isub, 1) := by decide +kernel
theorem dX5_worthBy_89 : decode cX5_worthBy 89 = .ok (.ireturn, 1) := by decide +kernel
theorem dX5_worthBy_90 : decode cX5_worthBy 90 = .ok (.iload_n 3, 1) := by decide +kernel
theorem dX5_worthBy_91 : decode cX5_worthBy 91 = .ok (.ireturn, 1) := by decide +kernel
theorem dX5_worthOf_0 : decode cX5_worthOf 0 = .ok (.aload_n 0, 1) := by decide +kernel
theorem dX5_worthOf_1 : decode cX5_worthOf 1 = .ok (.aload_n 0, 1) := by decide +kernel
theorem dX5_worthOf_2 : decode cX5_worthOf 2 = .ok (.getfield 29, 3) := by decide +kernel
theorem dX5_worthOf_5 : decode cX5_worthOf 5 = .ok (.iload_n 1, 1) := by decide +kernel
theorem dX5_worthOf_6 : decode cX5_worthOf 6 = .ok (.iaload, 1) := by decide +kernel
theorem dX5_worthOf_7 : decode cX5_worthOf 7 = .ok (.iload_n 1, 1) := by decide +kernel
theorem dX5_worthOf_8 : decode cX5_worthOf 8 = .ok (.aload_n 0, 1) := by decide +kernel
theorem dX5_worthOf_9 : decode cX5_worthOf 9 = .ok (.getfield 38, 3) := by decide +kernel
theorem dX5_worthOf_12 : decode cX5_worthOf 12 = .ok (.iload_n 1, 1) := by decide +kernel
theorem dX5_worthOf_13 : decode cX5_worthOf 13 = .ok (.iaload, 1) := by decide +kernel
theorem dX5_worthOf_14 : decode cX5_worthOf 14 = .ok (.invokevirtual 142, 3) := by decide +kernel
theorem dX5_worthOf_17 : decode cX5_worthOf 17 = .ok (.ireturn, 1) := by decide +kernel
def f5_in (x0 : Int64) (x2 : Int64) (x4 : Int64) : Option (Int32) :=
    if (lg_cmp x0 x2) < 0 then ((some (0 : Int32)))
    else (if 0 < (lg_cmp x0 x4) then ((some (0 : Int32)))
    else ((some (1 : Int32))))
set_option maxHeartbeats 4000000 in
set_option maxRecDepth 10000 in
theorem w5_in {ad : Nat → Nat} {X : XX} {R : Int32} {M : Mem} (h : Cx layM ad X cX5_in RX5 6 1 (some .boolean) M (some (.int R))) {x0 : Int64} {x2 : Int64} {x4 : Int64} (hF : f5_in x0 x2 x4 = some R) : Wp layM ad X M 0 [(0, .long x0), (2, .long x2), (4, .long x4)] [] := by
  unfold f5_in at hF
  refine R_lload_n (pc := 0) h 0 rfl rfl dX5_in_0 ?_
  refine R_lload_n (pc := 1) h 1 rfl rfl dX5_in_1 ?_
  refine R_lcmp (pc := 2) h dX5_in_2 ?_
  refine R_if_lt (pc := 3) (tgt := 17) h dX5_in_3 (by decide) (fun c1 => ?_) (fun c1 => ?_)
  · have hF := itp c1 hF
    refine R_iconst (pc := 17) (v := 0) h (by decide) dX5_in_17 ?_
    cases hF
    exact R_zreturn (pc := 18) h rfl zr0 rfl rfl dX5_in_18
  · have hF := ifn c1 hF
    refine R_lload_n (pc := 6) h 0 rfl rfl dX5_in_6 ?_
    refine R_lload (pc := 7) h 2 rfl dX5_in_7 ?_
    refine R_lcmp (pc := 9) h dX5_in_9 ?_
    refine R_if_gt (pc := 10) (tgt := 17) h dX5_in_10 (by decide) (fun c2 => ?_) (fun c2 => ?_)
    · have hF := itp c2 hF
      refine R_iconst (pc := 17) (v := 0) h (by decide) dX5_in_17 ?_
      cases hF
      exact R_zreturn (pc := 18) h rfl zr0 rfl rfl dX5_in_18
    · have hF := ifn c2 hF
      refine R_iconst (pc := 13) (v := 1) h (by decide) dX5_in_13 ?_
      refine R_goto (pc := 14) (tgt := 18) h dX5_in_14 (by decide) ?_
      cases hF
      exact R_zreturn (pc := 18) h rfl zr1 rfl rfl dX5_in_18
theorem c5_in {ad : Nat → Nat} {z : ZZ} {R : Int32} {M : Mem} {x0 : Int64} {x2 : Int64} {x4 : Int64} (hF : f5_in x0 x2 x4 = some R) : Con layM ad z yX5_in cX5_in 6 (some .boolean) 1 M [.long x0, .long x2, .long x4] (M) (some (.int R)) := con_of (own := RX5) (lv := [(0, .long x0), (2, .long x2), (4, .long x4)]) (by decide +kernel) rfl (Nat.le_of_ble_eq_true rfl) rfl (fun X hz h => w5_in h hF)
def f5_isRow (x0 : Int32) : Option (Int32) :=
    (f5_in x0.toInt64 (0 : Int64) (5 : Int64)).bind fun r2 =>
    (zr r2).bind fun v3 =>
    (some v3)
set_option maxHeartbeats 4000000 in
set_option maxRecDepth 10000 in
theorem w5_isRow {ad : Nat → Nat} {X : XX} {R : Int32} {M : Mem} (h : Cx layM ad X cX5_isRow RX5 1 2 (some .boolean) M (some (.int R))) {x0 : Int32} (hF : f5_isRow x0 = some R) : Wp layM ad X M 0 [(0, .int x0)] [] := by
  unfold f5_isRow at hF
  refine R_iload_n (pc := 0) h 0 rfl rfl dX5_isRow_0 ?_
  refine R_i2l (pc := 1) h dX5_isRow_1 ?_
  refine R_lconst (pc := 2) (v := 0) h (by decide) dX5_isRow_2 ?_
  refine R_ldc2 (pc := 3) h klX5_69 dX5_isRow_3 ?_
  obtain ⟨r2, hc1, hF⟩ := bd hF
  refine R_callS (pc := 6) (st := []) h [.long x0.toInt64, .long (0 : Int64), .long (5 : Int64)] csX5_71 (c5_in (ad := ad) (z := X.1) (M := M) hc1) rfl rfl (by decide) (by decide) (Nat.le_of_ble_eq_true rfl) dX5_isRow_6 (st1 := [.int r2]) rfl ?_
  obtain ⟨v3, hv3, hF⟩ := bd hF
  cases hF
  exact R_zreturn (pc := 9) h rfl hv3 rfl rfl dX5_isRow_9
theorem c5_isRow {ad : Nat → Nat} {z : ZZ} {R : Int32} {M : Mem} {x0 : Int32} (hF : f5_isRow x0 = some R) : Con layM ad z yX5_isRow cX5_isRow 1 (some .boolean) 2 M [.int x0] (M) (some (.int R)) := con_of (own := RX5) (lv := [(0, .int x0)]) (by decide +kernel) rfl (Nat.le_of_ble_eq_true rfl) rfl (fun X hz h => w5_isRow h hF)
def f5_found (x1 : Int32) (M : Mem) : Option (Mem × Int32) :=
    nm (sI M 0 7 x1) fun M1 =>
    (rd M1 5 6 x1).bind fun v2 =>
    (wr M1 5 6 x1 (v2 + (1 : Int32))).bind fun M3 =>
    (some (M3, (-3 : Int32)))
set_option maxHeartbeats 4000000 in
set_option maxRecDepth 10000 in
theorem w5_found {ad : Nat → Nat} {X : XX} {R : Mem × Int32} (h : Cx layM ad X cX5_found RX5 2 1 (some .int) (R.1) (some (.int R.2))) {x1 : Int32} {M : Mem} (hF : f5_found x1 M = some R) : Wp layM ad X M 0 [(0, .ref (ad 0)), (1, .int x1)] [] := by
  unfold f5_found at hF
  refine R_aload_n (pc := 0) h 0 rfl rfl dX5_found_0 ?_
  refine R_iload_n (pc := 1) h 1 rfl rfl dX5_found_1 ?_
  obtain ⟨M1, hM1, hF⟩ := nm_e2 hF
  refine R_putI (pc := 2) h hM1 fpX5_62 lm_0 rfl dX5_found_2 ?_
  refine R_aload_n (pc := 5) h 0 rfl rfl dX5_found_5 ?_
  refine R_getR (pc := 6) (q1 := 5) h flX5_26 lm_0 rfl dX5_found_6 ?_
  refine R_iload_n (pc := 9) h 1 rfl rfl dX5_found_9 ?_
  refine R_dup2 (pc := 10) h rfl rfl dX5_found_10 ?_
  obtain ⟨v2, hv2, hF⟩ := bd hF
  refine R_iald (pc := 11) h hv2 lm_5 dX5_found_11 ?_
  refine R_iconst (pc := 12) (v := 1) h (by decide) dX5_found_12 ?_
  refine R_iadd (pc := 13) h dX5_found_13 ?_
  obtain ⟨M3, hM3, hF⟩ := bd hF
  refine R_iast (pc := 14) h hM3 lm_5 dX5_found_14 ?_
  refine R_bipush (pc := 15) (v := (-3)) h (by decide) dX5_found_15 ?_
  cases hF
  exact R_ireturn (pc := 17) h rfl rfl rfl dX5_found_17
theorem c5_found {ad : Nat → Nat} {z : ZZ} {R : Mem × Int32} {x1 : Int32} {M : Mem} (hF : f5_found x1 M = some R) : Con layM ad z yX5_found cX5_found 2 (some .int) 1 M [.ref (ad 0), .int x1] (R.1) (some (.int R.2)) := con_of (own := RX5) (lv := [(0, .ref (ad 0)), (1, .int x1)]) (by decide +kernel) rfl (Nat.le_of_ble_eq_true rfl) rfl (fun X hz h => w5_found h hF)
def f5_row_34 (fu : Nat) : Nat → Int32 → Int32 → Int32 → Mem → Option (Mem × Int32)
  | 0 => fun _ _ _ _ => none
  | f + 1 => fun x1 x2 x3 M =>
    if (40 : Int32) ≤ x3 then ((some (M, x2)))
    else ((wr M 1 240 (((40 : Int32) * x1) + x3) (0 : Int32)).bind fun M2 =>
    nm (x3 + (1 : Int32)) fun v3 =>
    ((f5_row_34 fu f) x1 x2 v3 M2))
set_option maxHeartbeats 4000000 in
set_option maxRecDepth 10000 in
theorem w5_rowi_34 {ad : Nat → Nat} {X : XX} {R : Mem × Int32} {fu : Nat}  (h : Cx layM ad X cX5_row RX5 4 3 (some .int) (R.1) (some (.int R.2)))  : ∀ (f : Nat) (x1 : Int32) (x2 : Int32) (x3 : Int32) (M : Mem), f5_row_34 fu f x1 x2 x3 M = some R → Wp layM ad X M 34 [(0, .ref (ad 0)), (1, .int x1), (2, .int x2), (3, .int x3)] [] := by
  intro f
  induction f with
  | zero => intro x1 x2 x3 M hF; exact absurd hF (by simp [f5_row_34])
  | succ f ih =>
    intro x1 x2 x3 M hF
    rw [f5_row_34] at hF
    refine R_iload_n (pc := 34) h 3 rfl rfl dX5_row_34 ?_
    refine R_bipush (pc := 35) (v := 40) h (by decide) dX5_row_35 ?_
    refine R_icmp_ge (pc := 37) (tgt := 58) h dX5_row_37 (by decide) (fun c1 => ?_) (fun c1 => ?_)
    · have hF := itp c1 hF
      refine R_iload_n (pc := 58) h 2 rfl rfl dX5_row_58 ?_
      cases hF
      exact R_ireturn (pc := 59) h rfl rfl rfl dX5_row_59
    · have hF := ifn c1 hF
      refine R_aload_n (pc := 40) h 0 rfl rfl dX5_row_40 ?_
      refine R_getR (pc := 41) (q1 := 1) h flX5_7 lm_0 rfl dX5_row_41 ?_
      refine R_bipush (pc := 44) (v := 40) h (by decide) dX5_row_44 ?_
      refine R_iload_n (pc := 46) h 1 rfl rfl dX5_row_46 ?_
      refine R_imul (pc := 47) h dX5_row_47 ?_
      refine R_iload_n (pc := 48) h 3 rfl rfl dX5_row_48 ?_
      refine R_iadd (pc := 49) h dX5_row_49 ?_
      refine R_iconst (pc := 50) (v := 0) h (by decide) dX5_row_50 ?_
      obtain ⟨M2, hM2, hF⟩ := bd hF
      refine R_iast (pc := 51) h hM2 lm_1 dX5_row_51 ?_
      obtain ⟨v3, hv3, hF⟩ := nm_e2 hF
      refine R_iinc (pc := 52) (lv' := [(3, .int v3), (0, .ref (ad 0)), (1, .int x1), (2, .int x2)]) h 3 rfl (by decide) hv3 (by decide) rfl dX5_row_52 ?_
      refine R_goto (pc := 55) (tgt := 34) h dX5_row_55 (by decide) ?_
      exact Wp_sub (nX := 0) (lv' := [(0, .ref (ad 0)), (1, .int x1), (2, .int x2), (3, .int v3)]) [1, 2, 3, 0] rfl (ih _ _ _ _ hF)
theorem w5_row_34 {ad : Nat → Nat} {X : XX} {R : Mem × Int32} {fu : Nat}  (h : Cx layM ad X cX5_row RX5 4 3 (some .int) (R.1) (some (.int R.2)))  {f : Nat} {x1 : Int32} {x2 : Int32} {x3 : Int32} {M : Mem} (hF : f5_row_34 fu f x1 x2 x3 M = some R) : Wp layM ad X M 34 [(0, .ref (ad 0)), (1, .int x1), (2, .int x2), (3, .int x3)] [] := w5_rowi_34 h  f _ _ _ _ hF
def f5_row (fu : Nat) (x1 : Int32) (x2 : Int32) (M : Mem) : Option (Mem × Int32) :=
    (f5_isRow x1).bind fun r2 =>
    if r2 = 0 then ((some (M, (-1 : Int32))))
    else (if x2 ≤ (40 : Int32) then (if 0 ≤ x2 then ((wr M 2 6 x1 x2).bind fun M6 =>
    (f5_row_34 fu fu x1 x2 (0 : Int32) M6))
    else ((f5_found (5 : Int32) M).bind fun ⟨M8, r9⟩ =>
    (some (M8, r9))))
    else ((some (M, (-1 : Int32)))))
set_option maxHeartbeats 4000000 in
set_option maxRecDepth 10000 in
theorem w5_row {ad : Nat → Nat} {X : XX} {R : Mem × Int32} {fu : Nat} (h : Cx layM ad X cX5_row RX5 4 3 (some .int) (R.1) (some (.int R.2))) {x1 : Int32} {x2 : Int32} {M : Mem} (hF : f5_row fu x1 x2 M = some R) : Wp layM ad X M 0 [(0, .ref (ad 0)), (1, .int x1), (2, .int x2)] [] := by
  unfold f5_row at hF
  refine R_iload_n (pc := 0) h 1 rfl rfl dX5_row_0 ?_
  obtain ⟨r2, hc1, hF⟩ := bd hF
  refine R_callS (pc := 1) (st := []) h [.int x1] csX5_77 (c5_isRow (ad := ad) (z := X.1) (M := M) hc1) rfl rfl (by decide) (by decide) (Nat.le_of_ble_eq_true rfl) dX5_row_1 (st1 := [.int r2]) rfl ?_
  refine R_if_eq (pc := 4) (tgt := 13) h dX5_row_4 (by decide) (fun c3 => ?_) (fun c3 => ?_)
  · have hF := itp c3 hF
    refine R_iconst (pc := 13) (v := (-1)) h (by decide) dX5_row_13 ?_
    cases hF
    exact R_ireturn (pc := 14) h rfl rfl rfl dX5_row_14
  · have hF := ifn c3 hF
    refine R_iload_n (pc := 7) h 2 rfl rfl dX5_row_7 ?_
    refine R_bipush (pc := 8) (v := 40) h (by decide) dX5_row_8 ?_
    refine R_icmp_le (pc := 10) (tgt := 15) h dX5_row_10 (by decide) (fun c4 => ?_) (fun c4 => ?_)
    · have hF := itp c4 hF
      refine R_iload_n (pc := 15) h 2 rfl rfl dX5_row_15 ?_
      refine R_if_ge (pc := 16) (tgt := 25) h dX5_row_16 (by decide) (fun c5 => ?_) (fun c5 => ?_)
      · have hF := itp c5 hF
        refine R_aload_n (pc := 25) h 0 rfl rfl dX5_row_25 ?_
        refine R_getR (pc := 26) (q1 := 2) h flX5_13 lm_0 rfl dX5_row_26 ?_
        refine R_iload_n (pc := 29) h 1 rfl rfl dX5_row_29 ?_
        refine R_iload_n (pc := 30) h 2 rfl rfl dX5_row_30 ?_
        obtain ⟨M6, hM6, hF⟩ := bd hF
        refine R_iast (pc := 31) h hM6 lm_2 dX5_row_31 ?_
        refine R_iconst (pc := 32) (v := 0) h (by decide) dX5_row_32 ?_
        refine R_istore_n (pc := 33) (lv' := [(3, .int (0 : Int32)), (0, .ref (ad 0)), (1, .int x1), (2, .int x2)]) h rfl rfl (by decide) rfl dX5_row_33 ?_
        exact Wp_sub (nX := 0) (lv' := [(0, .ref (ad 0)), (1, .int x1), (2, .int x2), (3, .int (0 : Int32))]) [1, 2, 3, 0] rfl (w5_row_34 h  (hF := hF))
      · have hF := ifn c5 hF
        refine R_aload_n (pc := 19) h 0 rfl rfl dX5_row_19 ?_
        refine R_iconst (pc := 20) (v := 5) h (by decide) dX5_row_20 ?_
        obtain ⟨⟨M8, r9⟩, hc7, hF⟩ := bd hF
        refine R_callV (pc := 21) (st := []) h [.int (5 : Int32)] cvX5_81 (c5_found (ad := ad) (z := X.1) hc7) rfl rfl lm_0 (by decide) (by decide) (Nat.le_of_ble_eq_true rfl) dX5_row_21 (st1 := [.int r9]) rfl ?_
        cases hF
        exact R_ireturn (pc := 24) h rfl rfl rfl dX5_row_24
    · have hF := ifn c4 hF
      refine R_iconst (pc := 13) (v := (-1)) h (by decide) dX5_row_13 ?_
      cases hF
      exact R_ireturn (pc := 14) h rfl rfl rfl dX5_row_14
theorem c5_row {ad : Nat → Nat} {z : ZZ} {R : Mem × Int32} {fu : Nat} {x1 : Int32} {x2 : Int32} {M : Mem} (hF : f5_row fu x1 x2 M = some R) : Con layM ad z yX5_row cX5_row 4 (some .int) 3 M [.ref (ad 0), .int x1, .int x2] (R.1) (some (.int R.2)) := con_of (own := RX5) (lv := [(0, .ref (ad 0)), (1, .int x1), (2, .int x2)]) (by decide +kernel) rfl (Nat.le_of_ble_eq_true rfl) rfl (fun X hz h => w5_row h hF)
def f5_tell (x1 : Int32) (M : Mem) : Option (Mem × Int32) :=
    nm (sI M 0 4 x1) fun M1 =>
    (some (M1, (1 : Int32)))
set_option maxHeartbeats 4000000 in
set_option maxRecDepth 10000 in
theorem w5_tell {ad : Nat → Nat} {X : XX} {R : Mem × Int32} (h : Cx layM ad X cX5_tell RX5 2 1 (some .int) (R.1) (some (.int R.2))) {x1 : Int32} {M : Mem} (hF : f5_tell x1 M = some R) : Wp layM ad X M 0 [(0, .ref (ad 0)), (1, .int x1)] [] := by
  unfold f5_tell at hF
  refine R_aload_n (pc := 0) h 0 rfl rfl dX5_tell_0 ?_
  refine R_iload_n (pc := 1) h 1 rfl rfl dX5_tell_1 ?_
  obtain ⟨M1, hM1, hF⟩ := nm_e2 hF
  refine R_putI (pc := 2) h hM1 fpX5_66 lm_0 rfl dX5_tell_2 ?_
  refine R_iconst (pc := 5) (v := 1) h (by decide) dX5_tell_5 ?_
  cases hF
  exact R_ireturn (pc := 6) h rfl rfl rfl dX5_tell_6
theorem c5_tell {ad : Nat → Nat} {z : ZZ} {R : Mem × Int32} {x1 : Int32} {M : Mem} (hF : f5_tell x1 M = some R) : Con layM ad z yX5_tell cX5_tell 2 (some .int) 1 M [.ref (ad 0), .int x1] (R.1) (some (.int R.2)) := con_of (own := RX5) (lv := [(0, .ref (ad 0)), (1, .int x1)]) (by decide +kernel) rfl (Nat.le_of_ble_eq_true rfl) rfl (fun X hz h => w5_tell h hF)
def f5_lay (x1 : Int32) (x2 : Int32) (x3 : Int32) (M : Mem) : Option (Mem × Int32) :=
    (f5_isRow x1).bind fun r2 =>
    if r2 = 0 then ((some (M, (-1 : Int32))))
    else ((rd M 2 6 x1).bind fun v4 =>
    if 0 ≤ v4 then ((rd M 2 6 x1).bind fun v6 =>
    (f5_in x2.toInt64 (0 : Int64) (v6 - (1 : Int32)).toInt64).bind fun r8 =>
    if r8 = 0 then ((f5_found (2 : Int32) M).bind fun ⟨M11, r12⟩ =>
    (some (M11, r12)))
    else ((rd M 1 240 (((40 : Int32) * x1) + x2)).bind fun v13 =>
    (wr M 1 240 (((40 : Int32) * x1) + x2) x3).bind fun M14 =>
    (f5_tell v13 M14).bind fun ⟨M16, r17⟩ =>
    (some (M16, r17))))
    else ((f5_found (1 : Int32) M).bind fun ⟨M19, r20⟩ =>
    (some (M19, r20))))
set_option maxHeartbeats 4000000 in
set_option maxRecDepth 10000 in
theorem w5_lay {ad : Nat → Nat} {X : XX} {R : Mem × Int32} (h : Cx layM ad X cX5_lay RX5 5 3 (some .int) (R.1) (some (.int R.2))) {x1 : Int32} {x2 : Int32} {x3 : Int32} {M : Mem} (hF : f5_lay x1 x2 x3 M = some R) : Wp layM ad X M 0 [(0, .ref (ad 0)), (1, .int x1), (2, .int x2), (3, .int x3)] [] := by
  unfold f5_lay at hF
  refine R_iload_n (pc := 0) h 1 rfl rfl dX5_lay_0 ?_
  obtain ⟨r2, hc1, hF⟩ := bd hF
  refine R_callS (pc := 1) (st := []) h [.int x1] csX5_77 (c5_isRow (ad := ad) (z := X.1) (M := M) hc1) rfl rfl (by decide) (by decide) (Nat.le_of_ble_eq_true rfl) dX5_lay_1 (st1 := [.int r2]) rfl ?_
  refine R_if_ne (pc := 4) (tgt := 9) h dX5_lay_4 (by decide) (fun c3 => ?_) (fun c3 => ?_)
  · have hF := ifn c3 hF
    refine R_aload_n (pc := 9) h 0 rfl rfl dX5_lay_9 ?_
    refine R_getR (pc := 10) (q1 := 2) h flX5_13 lm_0 rfl dX5_lay_10 ?_
    refine R_iload_n (pc := 13) h 1 rfl rfl dX5_lay_13 ?_
    obtain ⟨v4, hv4, hF⟩ := bd hF
    refine R_iald (pc := 14) h hv4 lm_2 dX5_lay_14 ?_
    refine R_if_ge (pc := 15) (tgt := 24) h dX5_lay_15 (by decide) (fun c5 => ?_) (fun c5 => ?_)
    · have hF := itp c5 hF
      refine R_iload_n (pc := 24) h 2 rfl rfl dX5_lay_24 ?_
      refine R_i2l (pc := 25) h dX5_lay_25 ?_
      refine R_lconst (pc := 26) (v := 0) h (by decide) dX5_lay_26 ?_
      refine R_aload_n (pc := 27) h 0 rfl rfl dX5_lay_27 ?_
      refine R_getR (pc := 28) (q1 := 2) h flX5_13 lm_0 rfl dX5_lay_28 ?_
      refine R_iload_n (pc := 31) h 1 rfl rfl dX5_lay_31 ?_
      obtain ⟨v6, hv6, hF⟩ := bd hF
      refine R_iald (pc := 32) h hv6 lm_2 dX5_lay_32 ?_
      refine R_iconst (pc := 33) (v := 1) h (by decide) dX5_lay_33 ?_
      refine R_isub (pc := 34) h dX5_lay_34 ?_
      refine R_i2l (pc := 35) h dX5_lay_35 ?_
      obtain ⟨r8, hc7, hF⟩ := bd hF
      refine R_callS (pc := 36) (st := []) h [.long x2.toInt64, .long (0 : Int64), .long (v6 - (1 : Int32)).toInt64] csX5_71 (c5_in (ad := ad) (z := X.1) (M := M) hc7) rfl rfl (by decide) (by decide) (Nat.le_of_ble_eq_true rfl) dX5_lay_36 (st1 := [.int r8]) rfl ?_
      refine R_if_ne (pc := 39) (tgt := 48) h dX5_lay_39 (by decide) (fun c9 => ?_) (fun c9 => ?_)
      · have hF := ifn c9 hF
        refine R_aload_n (pc := 48) h 0 rfl rfl dX5_lay_48 ?_
        refine R_getR (pc := 49) (q1 := 1) h flX5_7 lm_0 rfl dX5_lay_49 ?_
        refine R_bipush (pc := 52) (v := 40) h (by decide) dX5_lay_52 ?_
        refine R_iload_n (pc := 54) h 1 rfl rfl dX5_lay_54 ?_
        refine R_imul (pc := 55) h dX5_lay_55 ?_
        refine R_iload_n (pc := 56) h 2 rfl rfl dX5_lay_56 ?_
        refine R_iadd (pc := 57) h dX5_lay_57 ?_
        obtain ⟨v13, hv13, hF⟩ := bd hF
        refine R_iald (pc := 58) h hv13 lm_1 dX5_lay_58 ?_
        refine R_istore (pc := 59) (lv' := [(4, .int v13), (0, .ref (ad 0)), (1, .int x1), (2, .int x2), (3, .int x3)]) h rfl (by decide) rfl dX5_lay_59 ?_
        refine R_aload_n (pc := 61) h 1 rfl rfl dX5_lay_61 ?_
        refine R_getR (pc := 62) (q1 := 1) h flX5_7 lm_0 rfl dX5_lay_62 ?_
        refine R_bipush (pc := 65) (v := 40) h (by decide) dX5_lay_65 ?_
        refine R_iload_n (pc := 67) h 2 rfl rfl dX5_lay_67 ?_
        refine R_imul (pc := 68) h dX5_lay_68 ?_
        refine R_iload_n (pc := 69) h 3 rfl rfl dX5_lay_69 ?_
        refine R_iadd (pc := 70) h dX5_lay_70 ?_
        refine R_iload_n (pc := 71) h 4 rfl rfl dX5_lay_71 ?_
        obtain ⟨M14, hM14, hF⟩ := bd hF
        refine R_iast (pc := 72) h hM14 lm_1 dX5_lay_72 ?_
        refine R_aload_n (pc := 73) h 1 rfl rfl dX5_lay_73 ?_
        refine R_iload (pc := 74) h 0 rfl dX5_lay_74 ?_
        obtain ⟨⟨M16, r17⟩, hc15, hF⟩ := bd hF
        refine R_callV (pc := 76) (st := []) h [.int v13] cvX5_85 (c5_tell (ad := ad) (z := X.1) hc15) rfl rfl lm_0 (by decide) (by decide) (Nat.le_of_ble_eq_true rfl) dX5_lay_76 (st1 := [.int r17]) rfl ?_
        cases hF
        exact R_ireturn (pc := 79) h rfl rfl rfl dX5_lay_79
      · have hF := itp c9 hF
        refine R_aload_n (pc := 42) h 0 rfl rfl dX5_lay_42 ?_
        refine R_iconst (pc := 43) (v := 2) h (by decide) dX5_lay_43 ?_
        obtain ⟨⟨M11, r12⟩, hc10, hF⟩ := bd hF
        refine R_callV (pc := 44) (st := []) h [.int (2 : Int32)] cvX5_81 (c5_found (ad := ad) (z := X.1) hc10) rfl rfl lm_0 (by decide) (by decide) (Nat.le_of_ble_eq_true rfl) dX5_lay_44 (st1 := [.int r12]) rfl ?_
        cases hF
        exact R_ireturn (pc := 47) h rfl rfl rfl dX5_lay_47
    · have hF := ifn c5 hF
      refine R_aload_n (pc := 18) h 0 rfl rfl dX5_lay_18 ?_
      refine R_iconst (pc := 19) (v := 1) h (by decide) dX5_lay_19 ?_
      obtain ⟨⟨M19, r20⟩, hc18, hF⟩ := bd hF
      refine R_callV (pc := 20) (st := []) h [.int (1 : Int32)] cvX5_81 (c5_found (ad := ad) (z := X.1) hc18) rfl rfl lm_0 (by decide) (by decide) (Nat.le_of_ble_eq_true rfl) dX5_lay_20 (st1 := [.int r20]) rfl ?_
      cases hF
      exact R_ireturn (pc := 23) h rfl rfl rfl dX5_lay_23
  · have hF := itp c3 hF
    refine R_iconst (pc := 7) (v := (-1)) h (by decide) dX5_lay_7 ?_
    cases hF
    exact R_ireturn (pc := 8) h rfl rfl rfl dX5_lay_8
theorem c5_lay {ad : Nat → Nat} {z : ZZ} {R : Mem × Int32} {x1 : Int32} {x2 : Int32} {x3 : Int32} {M : Mem} (hF : f5_lay x1 x2 x3 M = some R) : Con layM ad z yX5_lay cX5_lay 5 (some .int) 3 M [.ref (ad 0), .int x1, .int x2, .int x3] (R.1) (some (.int R.2)) := con_of (own := RX5) (lv := [(0, .ref (ad 0)), (1, .int x1), (2, .int x2), (3, .int x3)]) (by decide +kernel) rfl (Nat.le_of_ble_eq_true rfl) rfl (fun X hz h => w5_lay h hF)
def f5_at (x1 : Int32) (x2 : Int32) (M : Mem) : Option (Mem × Int32) :=
    (f5_isRow x1).bind fun r2 =>
    if r2 = 0 then ((some (M, (-1 : Int32))))
    else ((rd M 2 6 x1).bind fun v4 =>
    if 0 ≤ v4 then ((rd M 2 6 x1).bind fun v6 =>
    (f5_in x2.toInt64 (0 : Int64) (v6 - (1 : Int32)).toInt64).bind fun r8 =>
    if r8 = 0 then ((f5_found (2 : Int32) M).bind fun ⟨M11, r12⟩ =>
    (some (M11, r12)))
    else ((rd M 1 240 (((40 : Int32) * x1) + x2)).bind fun v13 =>
    (f5_tell v13 M).bind fun ⟨M15, r16⟩ =>
    (some (M15, r16))))
    else ((f5_found (1 : Int32) M).bind fun ⟨M18, r19⟩ =>
    (some (M18, r19))))
set_option maxHeartbeats 4000000 in
set_option maxRecDepth 10000 in
theorem w5_at {ad : Nat → Nat} {X : XX} {R : Mem × Int32} (h : Cx layM ad X cX5_at RX5 3 3 (some .int) (R.1) (some (.int R.2))) {x1 : Int32} {x2 : Int32} {M : Mem} (hF : f5_at x1 x2 M = some R) : Wp layM ad X M 0 [(0, .ref (ad 0)), (1, .int x1), (2, .int x2)] [] := by
  unfold f5_at at hF
  refine R_iload_n (pc := 0) h 1 rfl rfl dX5_at_0 ?_
  obtain ⟨r2, hc1, hF⟩ := bd hF
  refine R_callS (pc := 1) (st := []) h [.int x1] csX5_77 (c5_isRow (ad := ad) (z := X.1) (M := M) hc1) rfl rfl (by decide) (by decide) (Nat.le_of_ble_eq_true rfl) dX5_at_1 (st1 := [.int r2]) rfl ?_
  refine R_if_ne (pc := 4) (tgt := 9) h dX5_at_4 (by decide) (fun c3 => ?_) (fun c3 => ?_)
  · have hF := ifn c3 hF
    refine R_aload_n (pc := 9) h 0 rfl rfl dX5_at_9 ?_
    refine R_getR (pc := 10) (q1 := 2) h flX5_13 lm_0 rfl dX5_at_10 ?_
    refine R_iload_n (pc := 13) h 1 rfl rfl dX5_at_13 ?_
    obtain ⟨v4, hv4, hF⟩ := bd hF
    refine R_iald (pc := 14) h hv4 lm_2 dX5_at_14 ?_
    refine R_if_ge (pc := 15) (tgt := 24) h dX5_at_15 (by decide) (fun c5 => ?_) (fun c5 => ?_)
    · have hF := itp c5 hF
      refine R_iload_n (pc := 24) h 2 rfl rfl dX5_at_24 ?_
      refine R_i2l (pc := 25) h dX5_at_25 ?_
      refine R_lconst (pc := 26) (v := 0) h (by decide) dX5_at_26 ?_
      refine R_aload_n (pc := 27) h 0 rfl rfl dX5_at_27 ?_
      refine R_getR (pc := 28) (q1 := 2) h flX5_13 lm_0 rfl dX5_at_28 ?_
      refine R_iload_n (pc := 31) h 1 rfl rfl dX5_at_31 ?_
      obtain ⟨v6, hv6, hF⟩ := bd hF
      refine R_iald (pc := 32) h hv6 lm_2 dX5_at_32 ?_
      refine R_iconst (pc := 33) (v := 1) h (by decide) dX5_at_33 ?_
      refine R_isub (pc := 34) h dX5_at_34 ?_
      refine R_i2l (pc := 35) h dX5_at_35 ?_
      obtain ⟨r8, hc7, hF⟩ := bd hF
      refine R_callS (pc := 36) (st := []) h [.long x2.toInt64, .long (0 : Int64), .long (v6 - (1 : Int32)).toInt64] csX5_71 (c5_in (ad := ad) (z := X.1) (M := M) hc7) rfl rfl (by decide) (by decide) (Nat.le_of_ble_eq_true rfl) dX5_at_36 (st1 := [.int r8]) rfl ?_
      refine R_if_eq (pc := 39) (tgt := 60) h dX5_at_39 (by decide) (fun c9 => ?_) (fun c9 => ?_)
      · have hF := itp c9 hF
        refine R_aload_n (pc := 60) h 0 rfl rfl dX5_at_60 ?_
        refine R_iconst (pc := 61) (v := 2) h (by decide) dX5_at_61 ?_
        obtain ⟨⟨M11, r12⟩, hc10, hF⟩ := bd hF
        refine R_callV (pc := 62) (st := []) h [.int (2 : Int32)] cvX5_81 (c5_found (ad := ad) (z := X.1) hc10) rfl rfl lm_0 (by decide) (by decide) (Nat.le_of_ble_eq_true rfl) dX5_at_62 (st1 := [.int r12]) rfl ?_
        cases hF
        exact R_ireturn (pc := 65) h rfl rfl rfl dX5_at_65
      · have hF := ifn c9 hF
        refine R_aload_n (pc := 42) h 0 rfl rfl dX5_at_42 ?_
        refine R_aload_n (pc := 43) h 0 rfl rfl dX5_at_43 ?_
        refine R_getR (pc := 44) (q1 := 1) h flX5_7 lm_0 rfl dX5_at_44 ?_
        refine R_bipush (pc := 47) (v := 40) h (by decide) dX5_at_47 ?_
        refine R_iload_n (pc := 49) h 1 rfl rfl dX5_at_49 ?_
        refine R_imul (pc := 50) h dX5_at_50 ?_
        refine R_iload_n (pc := 51) h 2 rfl rfl dX5_at_51 ?_
        refine R_iadd (pc := 52) h dX5_at_52 ?_
        obtain ⟨v13, hv13, hF⟩ := bd hF
        refine R_iald (pc := 53) h hv13 lm_1 dX5_at_53 ?_
        obtain ⟨⟨M15, r16⟩, hc14, hF⟩ := bd hF
        refine R_callV (pc := 54) (st := []) h [.int v13] cvX5_85 (c5_tell (ad := ad) (z := X.1) hc14) rfl rfl lm_0 (by decide) (by decide) (Nat.le_of_ble_eq_true rfl) dX5_at_54 (st1 := [.int r16]) rfl ?_
        refine R_goto (pc := 57) (tgt := 65) h dX5_at_57 (by decide) ?_
        cases hF
        exact R_ireturn (pc := 65) h rfl rfl rfl dX5_at_65
    · have hF := ifn c5 hF
      refine R_aload_n (pc := 18) h 0 rfl rfl dX5_at_18 ?_
      refine R_iconst (pc := 19) (v := 1) h (by decide) dX5_at_19 ?_
      obtain ⟨⟨M18, r19⟩, hc17, hF⟩ := bd hF
      refine R_callV (pc := 20) (st := []) h [.int (1 : Int32)] cvX5_81 (c5_found (ad := ad) (z := X.1) hc17) rfl rfl lm_0 (by decide) (by decide) (Nat.le_of_ble_eq_true rfl) dX5_at_20 (st1 := [.int r19]) rfl ?_
      cases hF
      exact R_ireturn (pc := 23) h rfl rfl rfl dX5_at_23
  · have hF := itp c3 hF
    refine R_iconst (pc := 7) (v := (-1)) h (by decide) dX5_at_7 ?_
    cases hF
    exact R_ireturn (pc := 8) h rfl rfl rfl dX5_at_8
theorem c5_at {ad : Nat → Nat} {z : ZZ} {R : Mem × Int32} {x1 : Int32} {x2 : Int32} {M : Mem} (hF : f5_at x1 x2 M = some R) : Con layM ad z yX5_at cX5_at 3 (some .int) 3 M [.ref (ad 0), .int x1, .int x2] (R.1) (some (.int R.2)) := con_of (own := RX5) (lv := [(0, .ref (ad 0)), (1, .int x1), (2, .int x2)]) (by decide +kernel) rfl (Nat.le_of_ble_eq_true rfl) rfl (fun X hz h => w5_at h hF)
def f5_tear (x1 : Int32) (M : Mem) : Option (Mem × Int32) :=
    (f5_isRow x1).bind fun r2 =>
    if r2 = 0 then ((some (M, (-1 : Int32))))
    else ((rd M 2 6 x1).bind fun v4 =>
    if 0 ≤ v4 then ((wr M 2 6 x1 (-1 : Int32)).bind fun M6 =>
    (some (M6, (1 : Int32))))
    else ((f5_found (1 : Int32) M).bind fun ⟨M8, r9⟩ =>
    (some (M8, r9))))
set_option maxHeartbeats 4000000 in
set_option maxRecDepth 10000 in
theorem w5_tear {ad : Nat → Nat} {X : XX} {R : Mem × Int32} (h : Cx layM ad X cX5_tear RX5 2 3 (some .int) (R.1) (some (.int R.2))) {x1 : Int32} {M : Mem} (hF : f5_tear x1 M = some R) : Wp layM ad X M 0 [(0, .ref (ad 0)), (1, .int x1)] [] := by
  unfold f5_tear at hF
  refine R_iload_n (pc := 0) h 1 rfl rfl dX5_tear_0 ?_
  obtain ⟨r2, hc1, hF⟩ := bd hF
  refine R_callS (pc := 1) (st := []) h [.int x1] csX5_77 (c5_isRow (ad := ad) (z := X.1) (M := M) hc1) rfl rfl (by decide) (by decide) (Nat.le_of_ble_eq_true rfl) dX5_tear_1 (st1 := [.int r2]) rfl ?_
  refine R_if_ne (pc := 4) (tgt := 9) h dX5_tear_4 (by decide) (fun c3 => ?_) (fun c3 => ?_)
  · have hF := ifn c3 hF
    refine R_aload_n (pc := 9) h 0 rfl rfl dX5_tear_9 ?_
    refine R_getR (pc := 10) (q1 := 2) h flX5_13 lm_0 rfl dX5_tear_10 ?_
    refine R_iload_n (pc := 13) h 1 rfl rfl dX5_tear_13 ?_
    obtain ⟨v4, hv4, hF⟩ := bd hF
    refine R_iald (pc := 14) h hv4 lm_2 dX5_tear_14 ?_
    refine R_if_ge (pc := 15) (tgt := 24) h dX5_tear_15 (by decide) (fun c5 => ?_) (fun c5 => ?_)
    · have hF := itp c5 hF
      refine R_aload_n (pc := 24) h 0 rfl rfl dX5_tear_24 ?_
      refine R_getR (pc := 25) (q1 := 2) h flX5_13 lm_0 rfl dX5_tear_25 ?_
      refine R_iload_n (pc := 28) h 1 rfl rfl dX5_tear_28 ?_
      refine R_iconst (pc := 29) (v := (-1)) h (by decide) dX5_tear_29 ?_
      obtain ⟨M6, hM6, hF⟩ := bd hF
      refine R_iast (pc := 30) h hM6 lm_2 dX5_tear_30 ?_
      refine R_iconst (pc := 31) (v := 1) h (by decide) dX5_tear_31 ?_
      cases hF
      exact R_ireturn (pc := 32) h rfl rfl rfl dX5_tear_32
    · have hF := ifn c5 hF
      refine R_aload_n (pc := 18) h 0 rfl rfl dX5_tear_18 ?_
      refine R_iconst (pc := 19) (v := 1) h (by decide) dX5_tear_19 ?_
      obtain ⟨⟨M8, r9⟩, hc7, hF⟩ := bd hF
      refine R_callV (pc := 20) (st := []) h [.int (1 : Int32)] cvX5_81 (c5_found (ad := ad) (z := X.1) hc7) rfl rfl lm_0 (by decide) (by decide) (Nat.le_of_ble_eq_true rfl) dX5_tear_20 (st1 := [.int r9]) rfl ?_
      cases hF
      exact R_ireturn (pc := 23) h rfl rfl rfl dX5_tear_23
  · have hF := itp c3 hF
    refine R_iconst (pc := 7) (v := (-1)) h (by decide) dX5_tear_7 ?_
    cases hF
    exact R_ireturn (pc := 8) h rfl rfl rfl dX5_tear_8
theorem c5_tear {ad : Nat → Nat} {z : ZZ} {R : Mem × Int32} {x1 : Int32} {M : Mem} (hF : f5_tear x1 M = some R) : Con layM ad z yX5_tear cX5_tear 2 (some .int) 3 M [.ref (ad 0), .int x1] (R.1) (some (.int R.2)) := con_of (own := RX5) (lv := [(0, .ref (ad 0)), (1, .int x1)]) (by decide +kernel) rfl (Nat.le_of_ble_eq_true rfl) rfl (fun X hz h => w5_tear h hF)
def f5_copy_45 (fu : Nat) (M : Mem) : Option (Mem × Int32) :=
    (f5_found (1 : Int32) M).bind fun ⟨M2, r3⟩ =>
    (some (M2, r3))
set_option maxHeartbeats 4000000 in
set_option maxRecDepth 10000 in
theorem w5_copy_45 {ad : Nat → Nat} {X : XX} {R : Mem × Int32} {fu : Nat}  (h : Cx layM ad X cX5_copy RX5 8 3 (some .int) (R.1) (some (.int R.2)))  {M : Mem} (hF : f5_copy_45 fu M = some R) : Wp layM ad X M 45 [(0, .ref (ad 0))] [] := by
  unfold f5_copy_45 at hF
  refine R_aload_n (pc := 45) h 0 rfl rfl dX5_copy_45 ?_
  refine R_iconst (pc := 46) (v := 1) h (by decide) dX5_copy_46 ?_
  obtain ⟨⟨M2, r3⟩, hc1, hF⟩ := bd hF
  refine R_callV (pc := 47) (st := []) h [.int (1 : Int32)] cvX5_81 (c5_found (ad := ad) (z := X.1) hc1) rfl rfl lm_0 (by decide) (by decide) (Nat.le_of_ble_eq_true rfl) dX5_copy_47 (st1 := [.int r3]) rfl ?_
  cases hF
  exact R_ireturn (pc := 50) h rfl rfl rfl dX5_copy_50
def f5_copy_95 (fu : Nat) (M : Mem) : Option (Mem × Int32) :=
    (f5_found (2 : Int32) M).bind fun ⟨M2, r3⟩ =>
    (some (M2, r3))
set_option maxHeartbeats 4000000 in
set_option maxRecDepth 10000 in
theorem w5_copy_95 {ad : Nat → Nat} {X : XX} {R : Mem × Int32} {fu : Nat}  (h : Cx layM ad X cX5_copy RX5 8 3 (some .int) (R.1) (some (.int R.2)))  {M : Mem} (hF : f5_copy_95 fu M = some R) : Wp layM ad X M 95 [(0, .ref (ad 0))] [] := by
  unfold f5_copy_95 at hF
  refine R_aload_n (pc := 95) h 0 rfl rfl dX5_copy_95 ?_
  refine R_iconst (pc := 96) (v := 2) h (by decide) dX5_copy_96 ?_
  obtain ⟨⟨M2, r3⟩, hc1, hF⟩ := bd hF
  refine R_callV (pc := 97) (st := []) h [.int (2 : Int32)] cvX5_81 (c5_found (ad := ad) (z := X.1) hc1) rfl rfl lm_0 (by decide) (by decide) (Nat.le_of_ble_eq_true rfl) dX5_copy_97 (st1 := [.int r3]) rfl ?_
  cases hF
  exact R_ireturn (pc := 100) h rfl rfl rfl dX5_copy_100
def f5_copy_129 (fu : Nat) (k104 : Int32 → Int32 → Int32 → Int32 → Int32 → Int32 → Mem → Option (Mem × Int32)) (x1 : Int32) (x2 : Int32) (x3 : Int32) (x4 : Int32) (x5 : Int32) (x6 : Int32) (s0 : Int32) (M : Mem) : Option (Mem × Int32) :=
    (rd M 1 240 ((((40 : Int32) * x1) + x2) + s0)).bind fun v1 =>
    (wr M 1 240 ((((40 : Int32) * x3) + x4) + s0) v1).bind fun M2 =>
    nm (x6 + (1 : Int32)) fun v3 =>
    (k104 x1 x2 x3 x4 x5 v3 M2)
set_option maxHeartbeats 4000000 in
set_option maxRecDepth 10000 in
theorem w5_copy_129 {ad : Nat → Nat} {X : XX} {R : Mem × Int32} {fu : Nat} {k104 : Int32 → Int32 → Int32 → Int32 → Int32 → Int32 → Mem → Option (Mem × Int32)} (h : Cx layM ad X cX5_copy RX5 8 3 (some .int) (R.1) (some (.int R.2))) (hk104 : ∀ (x1 : Int32) (x2 : Int32) (x3 : Int32) (x4 : Int32) (x5 : Int32) (x6 : Int32) (M : Mem), k104 x1 x2 x3 x4 x5 x6 M = some R → Wp layM ad X M 104 [(0, .ref (ad 0)), (1, .int x1), (2, .int x2), (3, .int x3), (4, .int x4), (5, .int x5), (6, .int x6)] []) {x1 : Int32} {x2 : Int32} {x3 : Int32} {x4 : Int32} {x5 : Int32} {x6 : Int32} {s0 : Int32} {M : Mem} (hF : f5_copy_129 fu k104 x1 x2 x3 x4 x5 x6 s0 M = some R) : Wp layM ad X M 129 [(0, .ref (ad 0)), (1, .int x1), (2, .int x2), (3, .int x3), (4, .int x4), (5, .int x5), (6, .int x6)] [.int s0] := by
  unfold f5_copy_129 at hF
  refine R_istore (pc := 129) (lv' := [(7, .int s0), (0, .ref (ad 0)), (1, .int x1), (2, .int x2), (3, .int x3), (4, .int x4), (5, .int x5), (6, .int x6)]) h rfl (by decide) rfl dX5_copy_129 ?_
  refine R_aload_n (pc := 131) h 1 rfl rfl dX5_copy_131 ?_
  refine R_getR (pc := 132) (q1 := 1) h flX5_7 lm_0 rfl dX5_copy_132 ?_
  refine R_bipush (pc := 135) (v := 40) h (by decide) dX5_copy_135 ?_
  refine R_iload_n (pc := 137) h 4 rfl rfl dX5_copy_137 ?_
  refine R_imul (pc := 138) h dX5_copy_138 ?_
  refine R_iload (pc := 139) h 5 rfl dX5_copy_139 ?_
  refine R_iadd (pc := 141) h dX5_copy_141 ?_
  refine R_iload (pc := 142) h 0 rfl dX5_copy_142 ?_
  refine R_iadd (pc := 144) h dX5_copy_144 ?_
  refine R_aload_n (pc := 145) h 1 rfl rfl dX5_copy_145 ?_
  refine R_getR (pc := 146) (q1 := 1) h flX5_7 lm_0 rfl dX5_copy_146 ?_
  refine R_bipush (pc := 149) (v := 40) h (by decide) dX5_copy_149 ?_
  refine R_iload_n (pc := 151) h 2 rfl rfl dX5_copy_151 ?_
  refine R_imul (pc := 152) h dX5_copy_152 ?_
  refine R_iload_n (pc := 153) h 3 rfl rfl dX5_copy_153 ?_
  refine R_iadd (pc := 154) h dX5_copy_154 ?_
  refine R_iload (pc := 155) h 0 rfl dX5_copy_155 ?_
  refine R_iadd (pc := 157) h dX5_copy_157 ?_
  obtain ⟨v1, hv1, hF⟩ := bd hF
  refine R_iald (pc := 158) h hv1 lm_1 dX5_copy_158 ?_
  obtain ⟨M2, hM2, hF⟩ := bd hF
  refine R_iast (pc := 159) h hM2 lm_1 dX5_copy_159 ?_
  obtain ⟨v3, hv3, hF⟩ := nm_e2 hF
  refine R_iinc (pc := 160) (lv' := [(6, .int v3), (7, .int s0), (0, .ref (ad 0)), (1, .int x1), (2, .int x2), (3, .int x3), (4, .int x4), (5, .int x5)]) h 7 rfl (by decide) hv3 (by decide) rfl dX5_copy_160 ?_
  refine R_goto (pc := 163) (tgt := 104) h dX5_copy_163 (by decide) ?_
  exact Wp_sub (nX := 0) (lv' := [(0, .ref (ad 0)), (1, .int x1), (2, .int x2), (3, .int x3), (4, .int x4), (5, .int x5), (6, .int v3)]) [2, 3, 4, 5, 6, 7, 0] rfl (hk104 _ _ _ _ _ _ _ hF)
def f5_copy_104 (fu : Nat) : Nat → Int32 → Int32 → Int32 → Int32 → Int32 → Int32 → Mem → Option (Mem × Int32)
  | 0 => fun _ _ _ _ _ _ _ => none
  | f + 1 => fun x1 x2 x3 x4 x5 x6 M =>
    if x5 ≤ x6 then ((some (M, (1 : Int32))))
    else (if x4 ≤ x2 then ((f5_copy_129 fu (f5_copy_104 fu f) x1 x2 x3 x4 x5 x6 x6 M))
    else ((f5_copy_129 fu (f5_copy_104 fu f) x1 x2 x3 x4 x5 x6 ((x5 - (1 : Int32)) - x6) M)))
set_option maxHeartbeats 4000000 in
set_option maxRecDepth 10000 in
theorem w5_copyi_104 {ad : Nat → Nat} {X : XX} {R : Mem × Int32} {fu : Nat}  (h : Cx layM ad X cX5_copy RX5 8 3 (some .int) (R.1) (some (.int R.2)))  : ∀ (f : Nat) (x1 : Int32) (x2 : Int32) (x3 : Int32) (x4 : Int32) (x5 : Int32) (x6 : Int32) (M : Mem), f5_copy_104 fu f x1 x2 x3 x4 x5 x6 M = some R → Wp layM ad X M 104 [(0, .ref (ad 0)), (1, .int x1), (2, .int x2), (3, .int x3), (4, .int x4), (5, .int x5), (6, .int x6)] [] := by
  intro f
  induction f with
  | zero => intro x1 x2 x3 x4 x5 x6 M hF; exact absurd hF (by simp [f5_copy_104])
  | succ f ih =>
    intro x1 x2 x3 x4 x5 x6 M hF
    rw [f5_copy_104] at hF
    refine R_iload (pc := 104) h 6 rfl dX5_copy_104 ?_
    refine R_iload (pc := 106) h 5 rfl dX5_copy_106 ?_
    refine R_icmp_ge (pc := 108) (tgt := 166) h dX5_copy_108 (by decide) (fun c1 => ?_) (fun c1 => ?_)
    · have hF := itp c1 hF
      refine R_iconst (pc := 166) (v := 1) h (by decide) dX5_copy_166 ?_
      cases hF
      exact R_ireturn (pc := 167) h rfl rfl rfl dX5_copy_167
    · have hF := ifn c1 hF
      refine R_iload (pc := 111) h 4 rfl dX5_copy_111 ?_
      refine R_iload_n (pc := 113) h 2 rfl rfl dX5_copy_113 ?_
      refine R_icmp_le (pc := 114) (tgt := 127) h dX5_copy_114 (by decide) (fun c2 => ?_) (fun c2 => ?_)
      · have hF := itp c2 hF
        refine R_iload (pc := 127) h 6 rfl dX5_copy_127 ?_
        exact Wp_sub (nX := 0) (lv' := [(0, .ref (ad 0)), (1, .int x1), (2, .int x2), (3, .int x3), (4, .int x4), (5, .int x5), (6, .int x6)]) [0, 1, 2, 3, 4, 5, 6] rfl (w5_copy_129 h (hk104 := fun a0 a1 a2 a3 a4 a5 a6 hF => ih a0 a1 a2 a3 a4 a5 a6 hF) (hF := hF))
      · have hF := ifn c2 hF
        refine R_iload (pc := 117) h 5 rfl dX5_copy_117 ?_
        refine R_iconst (pc := 119) (v := 1) h (by decide) dX5_copy_119 ?_
        refine R_isub (pc := 120) h dX5_copy_120 ?_
        refine R_iload (pc := 121) h 6 rfl dX5_copy_121 ?_
        refine R_isub (pc := 123) h dX5_copy_123 ?_
        refine R_goto (pc := 124) (tgt := 129) h dX5_copy_124 (by decide) ?_
        exact Wp_sub (nX := 0) (lv' := [(0, .ref (ad 0)), (1, .int x1), (2, .int x2), (3, .int x3), (4, .int x4), (5, .int x5), (6, .int x6)]) [0, 1, 2, 3, 4, 5, 6] rfl (w5_copy_129 h (hk104 := fun a0 a1 a2 a3 a4 a5 a6 hF => ih a0 a1 a2 a3 a4 a5 a6 hF) (hF := hF))
theorem w5_copy_104 {ad : Nat → Nat} {X : XX} {R : Mem × Int32} {fu : Nat}  (h : Cx layM ad X cX5_copy RX5 8 3 (some .int) (R.1) (some (.int R.2)))  {f : Nat} {x1 : Int32} {x2 : Int32} {x3 : Int32} {x4 : Int32} {x5 : Int32} {x6 : Int32} {M : Mem} (hF : f5_copy_104 fu f x1 x2 x3 x4 x5 x6 M = some R) : Wp layM ad X M 104 [(0, .ref (ad 0)), (1, .int x1), (2, .int x2), (3, .int x3), (4, .int x4), (5, .int x5), (6, .int x6)] [] := w5_copyi_104 h  f _ _ _ _ _ _ _ hF
def f5_copy (fu : Nat) (x1 : Int32) (x2 : Int32) (x3 : Int32) (x4 : Int32) (x5 : Int32) (M : Mem) : Option (Mem × Int32) :=
    (f5_isRow x1).bind fun r2 =>
    if r2 = 0 then ((some (M, (-1 : Int32))))
    else ((f5_isRow x3).bind fun r5 =>
    if r5 = 0 then ((some (M, (-1 : Int32))))
    else (if 0 ≤ x5 then ((rd M 2 6 x1).bind fun v8 =>
    if v8 < 0 then ((f5_copy_45 fu M))
    else ((rd M 2 6 x3).bind fun v10 =>
    if 0 ≤ v10 then (if x2 < 0 then ((f5_copy_95 fu M))
    else (if x4 < 0 then ((f5_copy_95 fu M))
    else ((rd M 2 6 x1).bind fun v14 =>
    if 0 < (lg_cmp (x2.toInt64 + x5.toInt64) v14.toInt64) then ((f5_copy_95 fu M))
    else ((rd M 2 6 x3).bind fun v16 =>
    if (lg_cmp (x4.toInt64 + x5.toInt64) v16.toInt64) ≤ 0 then ((f5_copy_104 fu fu x1 x2 x3 x4 x5 (0 : Int32) M))
    else ((f5_copy_95 fu M))))))
    else ((f5_copy_45 fu M))))
    else ((f5_found (5 : Int32) M).bind fun ⟨M19, r20⟩ =>
    (some (M19, r20)))))
set_option maxHeartbeats 4000000 in
set_option maxRecDepth 10000 in
theorem w5_copy {ad : Nat → Nat} {X : XX} {R : Mem × Int32} {fu : Nat} (h : Cx layM ad X cX5_copy RX5 8 3 (some .int) (R.1) (some (.int R.2))) {x1 : Int32} {x2 : Int32} {x3 : Int32} {x4 : Int32} {x5 : Int32} {M : Mem} (hF : f5_copy fu x1 x2 x3 x4 x5 M = some R) : Wp layM ad X M 0 [(0, .ref (ad 0)), (1, .int x1), (2, .int x2), (3, .int x3), (4, .int x4), (5, .int x5)] [] := by
  unfold f5_copy at hF
  refine R_iload_n (pc := 0) h 1 rfl rfl dX5_copy_0 ?_
  obtain ⟨r2, hc1, hF⟩ := bd hF
  refine R_callS (pc := 1) (st := []) h [.int x1] csX5_77 (c5_isRow (ad := ad) (z := X.1) (M := M) hc1) rfl rfl (by decide) (by decide) (Nat.le_of_ble_eq_true rfl) dX5_copy_1 (st1 := [.int r2]) rfl ?_
  refine R_if_eq (pc := 4) (tgt := 14) h dX5_copy_4 (by decide) (fun c3 => ?_) (fun c3 => ?_)
  · have hF := itp c3 hF
    refine R_iconst (pc := 14) (v := (-1)) h (by decide) dX5_copy_14 ?_
    cases hF
    exact R_ireturn (pc := 15) h rfl rfl rfl dX5_copy_15
  · have hF := ifn c3 hF
    refine R_iload_n (pc := 7) h 3 rfl rfl dX5_copy_7 ?_
    obtain ⟨r5, hc4, hF⟩ := bd hF
    refine R_callS (pc := 8) (st := []) h [.int x3] csX5_77 (c5_isRow (ad := ad) (z := X.1) (M := M) hc4) rfl rfl (by decide) (by decide) (Nat.le_of_ble_eq_true rfl) dX5_copy_8 (st1 := [.int r5]) rfl ?_
    refine R_if_ne (pc := 11) (tgt := 16) h dX5_copy_11 (by decide) (fun c6 => ?_) (fun c6 => ?_)
    · have hF := ifn c6 hF
      refine R_iload (pc := 16) h 5 rfl dX5_copy_16 ?_
      refine R_if_ge (pc := 18) (tgt := 27) h dX5_copy_18 (by decide) (fun c7 => ?_) (fun c7 => ?_)
      · have hF := itp c7 hF
        refine R_aload_n (pc := 27) h 0 rfl rfl dX5_copy_27 ?_
        refine R_getR (pc := 28) (q1 := 2) h flX5_13 lm_0 rfl dX5_copy_28 ?_
        refine R_iload_n (pc := 31) h 1 rfl rfl dX5_copy_31 ?_
        obtain ⟨v8, hv8, hF⟩ := bd hF
        refine R_iald (pc := 32) h hv8 lm_2 dX5_copy_32 ?_
        refine R_if_lt (pc := 33) (tgt := 45) h dX5_copy_33 (by decide) (fun c9 => ?_) (fun c9 => ?_)
        · have hF := itp c9 hF
          exact Wp_sub (nX := 0) (lv' := [(0, .ref (ad 0))]) [0] rfl (w5_copy_45 h  (hF := hF))
        · have hF := ifn c9 hF
          refine R_aload_n (pc := 36) h 0 rfl rfl dX5_copy_36 ?_
          refine R_getR (pc := 37) (q1 := 2) h flX5_13 lm_0 rfl dX5_copy_37 ?_
          refine R_iload_n (pc := 40) h 3 rfl rfl dX5_copy_40 ?_
          obtain ⟨v10, hv10, hF⟩ := bd hF
          refine R_iald (pc := 41) h hv10 lm_2 dX5_copy_41 ?_
          refine R_if_ge (pc := 42) (tgt := 51) h dX5_copy_42 (by decide) (fun c11 => ?_) (fun c11 => ?_)
          · have hF := itp c11 hF
            refine R_iload_n (pc := 51) h 2 rfl rfl dX5_copy_51 ?_
            refine R_if_lt (pc := 52) (tgt := 95) h dX5_copy_52 (by decide) (fun c12 => ?_) (fun c12 => ?_)
            · have hF := itp c12 hF
              exact Wp_sub (nX := 0) (lv' := [(0, .ref (ad 0))]) [0] rfl (w5_copy_95 h  (hF := hF))
            · have hF := ifn c12 hF
              refine R_iload (pc := 55) h 4 rfl dX5_copy_55 ?_
              refine R_if_lt (pc := 57) (tgt := 95) h dX5_copy_57 (by decide) (fun c13 => ?_) (fun c13 => ?_)
              · have hF := itp c13 hF
                exact Wp_sub (nX := 0) (lv' := [(0, .ref (ad 0))]) [0] rfl (w5_copy_95 h  (hF := hF))
              · have hF := ifn c13 hF
                refine R_iload_n (pc := 60) h 2 rfl rfl dX5_copy_60 ?_
                refine R_i2l (pc := 61) h dX5_copy_61 ?_
                refine R_iload (pc := 62) h 5 rfl dX5_copy_62 ?_
                refine R_i2l (pc := 64) h dX5_copy_64 ?_
                refine R_ladd (pc := 65) h dX5_copy_65 ?_
                refine R_aload_n (pc := 66) h 0 rfl rfl dX5_copy_66 ?_
                refine R_getR (pc := 67) (q1 := 2) h flX5_13 lm_0 rfl dX5_copy_67 ?_
                refine R_iload_n (pc := 70) h 1 rfl rfl dX5_copy_70 ?_
                obtain ⟨v14, hv14, hF⟩ := bd hF
                refine R_iald (pc := 71) h hv14 lm_2 dX5_copy_71 ?_
                refine R_i2l (pc := 72) h dX5_copy_72 ?_
                refine R_lcmp (pc := 73) h dX5_copy_73 ?_
                refine R_if_gt (pc := 74) (tgt := 95) h dX5_copy_74 (by decide) (fun c15 => ?_) (fun c15 => ?_)
                · have hF := itp c15 hF
                  exact Wp_sub (nX := 0) (lv' := [(0, .ref (ad 0))]) [0] rfl (w5_copy_95 h  (hF := hF))
                · have hF := ifn c15 hF
                  refine R_iload (pc := 77) h 4 rfl dX5_copy_77 ?_
                  refine R_i2l (pc := 79) h dX5_copy_79 ?_
                  refine R_iload (pc := 80) h 5 rfl dX5_copy_80 ?_
                  refine R_i2l (pc := 82) h dX5_copy_82 ?_
                  refine R_ladd (pc := 83) h dX5_copy_83 ?_
                  refine R_aload_n (pc := 84) h 0 rfl rfl dX5_copy_84 ?_
                  refine R_getR (pc := 85) (q1 := 2) h flX5_13 lm_0 rfl dX5_copy_85 ?_
                  refine R_iload_n (pc := 88) h 3 rfl rfl dX5_copy_88 ?_
                  obtain ⟨v16, hv16, hF⟩ := bd hF
                  refine R_iald (pc := 89) h hv16 lm_2 dX5_copy_89 ?_
                  refine R_i2l (pc := 90) h dX5_copy_90 ?_
                  refine R_lcmp (pc := 91) h dX5_copy_91 ?_
                  refine R_if_le (pc := 92) (tgt := 101) h dX5_copy_92 (by decide) (fun c17 => ?_) (fun c17 => ?_)
                  · have hF := itp c17 hF
                    refine R_iconst (pc := 101) (v := 0) h (by decide) dX5_copy_101 ?_
                    refine R_istore (pc := 102) (lv' := [(6, .int (0 : Int32)), (0, .ref (ad 0)), (1, .int x1), (2, .int x2), (3, .int x3), (4, .int x4), (5, .int x5)]) h rfl (by decide) rfl dX5_copy_102 ?_
                    exact Wp_sub (nX := 0) (lv' := [(0, .ref (ad 0)), (1, .int x1), (2, .int x2), (3, .int x3), (4, .int x4), (5, .int x5), (6, .int (0 : Int32))]) [1, 2, 3, 4, 5, 6, 0] rfl (w5_copy_104 h  (hF := hF))
                  · have hF := ifn c17 hF
                    exact Wp_sub (nX := 0) (lv' := [(0, .ref (ad 0))]) [0] rfl (w5_copy_95 h  (hF := hF))
          · have hF := ifn c11 hF
            exact Wp_sub (nX := 0) (lv' := [(0, .ref (ad 0))]) [0] rfl (w5_copy_45 h  (hF := hF))
      · have hF := ifn c7 hF
        refine R_aload_n (pc := 21) h 0 rfl rfl dX5_copy_21 ?_
        refine R_iconst (pc := 22) (v := 5) h (by decide) dX5_copy_22 ?_
        obtain ⟨⟨M19, r20⟩, hc18, hF⟩ := bd hF
        refine R_callV (pc := 23) (st := []) h [.int (5 : Int32)] cvX5_81 (c5_found (ad := ad) (z := X.1) hc18) rfl rfl lm_0 (by decide) (by decide) (Nat.le_of_ble_eq_true rfl) dX5_copy_23 (st1 := [.int r20]) rfl ?_
        cases hF
        exact R_ireturn (pc := 26) h rfl rfl rfl dX5_copy_26
    · have hF := itp c6 hF
      refine R_iconst (pc := 14) (v := (-1)) h (by decide) dX5_copy_14 ?_
      cases hF
      exact R_ireturn (pc := 15) h rfl rfl rfl dX5_copy_15
theorem c5_copy {ad : Nat → Nat} {z : ZZ} {R : Mem × Int32} {fu : Nat} {x1 : Int32} {x2 : Int32} {x3 : Int32} {x4 : Int32} {x5 : Int32} {M : Mem} (hF : f5_copy fu x1 x2 x3 x4 x5 M = some R) : Con layM ad z yX5_copy cX5_copy 8 (some .int) 3 M [.ref (ad 0), .int x1, .int x2, .int x3, .int x4, .int x5] (R.1) (some (.int R.2)) := con_of (own := RX5) (lv := [(0, .ref (ad 0)), (1, .int x1), (2, .int x2), (3, .int x3), (4, .int x4), (5, .int x5)]) (by decide +kernel) rfl (Nat.le_of_ble_eq_true rfl) rfl (fun X hz h => w5_copy h hF)
def f5_mean_44 (fu : Nat) : Nat → Int32 → Int64 → Int32 → Mem → Option (Mem × Int32)
  | 0 => fun _ _ _ _ => none
  | f + 1 => fun x1 x2 x4 M =>
    (rd M 2 6 x1).bind fun v1 =>
    if v1 ≤ x4 then ((rd M 2 6 x1).bind fun v3 =>
    (dvL x2 v3.toInt64).bind fun v4 =>
    (f5_tell v4.toInt32 M).bind fun ⟨M6, r7⟩ =>
    (some (M6, r7)))
    else ((rd M 1 240 (((40 : Int32) * x1) + x4)).bind fun v8 =>
    nm (x2 + v8.toInt64) fun v9 =>
    nm (x4 + (1 : Int32)) fun v10 =>
    ((f5_mean_44 fu f) x1 v9 v10 M))
set_option maxHeartbeats 4000000 in
set_option maxRecDepth 10000 in
theorem w5_meani_44 {ad : Nat → Nat} {X : XX} {R : Mem × Int32} {fu : Nat}  (h : Cx layM ad X cX5_mean RX5 5 3 (some .int) (R.1) (some (.int R.2)))  : ∀ (f : Nat) (x1 : Int32) (x2 : Int64) (x4 : Int32) (M : Mem), f5_mean_44 fu f x1 x2 x4 M = some R → Wp layM ad X M 44 [(0, .ref (ad 0)), (1, .int x1), (2, .long x2), (4, .int x4)] [] := by
  intro f
  induction f with
  | zero => intro x1 x2 x4 M hF; exact absurd hF (by simp [f5_mean_44])
  | succ f ih =>
    intro x1 x2 x4 M hF
    rw [f5_mean_44] at hF
    refine R_iload (pc := 44) h 3 rfl dX5_mean_44 ?_
    refine R_aload_n (pc := 46) h 0 rfl rfl dX5_mean_46 ?_
    refine R_getR (pc := 47) (q1 := 2) h flX5_13 lm_0 rfl dX5_mean_47 ?_
    refine R_iload_n (pc := 50) h 1 rfl rfl dX5_mean_50 ?_
    obtain ⟨v1, hv1, hF⟩ := bd hF
    refine R_iald (pc := 51) h hv1 lm_2 dX5_mean_51 ?_
    refine R_icmp_ge (pc := 52) (tgt := 77) h dX5_mean_52 (by decide) (fun c2 => ?_) (fun c2 => ?_)
    · have hF := itp c2 hF
      refine R_aload_n (pc := 77) h 0 rfl rfl dX5_mean_77 ?_
      refine R_lload_n (pc := 78) h 2 rfl rfl dX5_mean_78 ?_
      refine R_aload_n (pc := 79) h 0 rfl rfl dX5_mean_79 ?_
      refine R_getR (pc := 80) (q1 := 2) h flX5_13 lm_0 rfl dX5_mean_80 ?_
      refine R_iload_n (pc := 83) h 1 rfl rfl dX5_mean_83 ?_
      obtain ⟨v3, hv3, hF⟩ := bd hF
      refine R_iald (pc := 84) h hv3 lm_2 dX5_mean_84 ?_
      refine R_i2l (pc := 85) h dX5_mean_85 ?_
      obtain ⟨v4, hv4, hF⟩ := bd hF
      refine R_ldiv (pc := 86) h hv4 dX5_mean_86 ?_
      refine R_l2i (pc := 87) h dX5_mean_87 ?_
      obtain ⟨⟨M6, r7⟩, hc5, hF⟩ := bd hF
      refine R_callV (pc := 88) (st := []) h [.int v4.toInt32] cvX5_85 (c5_tell (ad := ad) (z := X.1) hc5) rfl rfl lm_0 (by decide) (by decide) (Nat.le_of_ble_eq_true rfl) dX5_mean_88 (st1 := [.int r7]) rfl ?_
      cases hF
      exact R_ireturn (pc := 91) h rfl rfl rfl dX5_mean_91
    · have hF := ifn c2 hF
      refine R_lload_n (pc := 55) h 2 rfl rfl dX5_mean_55 ?_
      refine R_aload_n (pc := 56) h 0 rfl rfl dX5_mean_56 ?_
      refine R_getR (pc := 57) (q1 := 1) h flX5_7 lm_0 rfl dX5_mean_57 ?_
      refine R_bipush (pc := 60) (v := 40) h (by decide) dX5_mean_60 ?_
      refine R_iload_n (pc := 62) h 1 rfl rfl dX5_mean_62 ?_
      refine R_imul (pc := 63) h dX5_mean_63 ?_
      refine R_iload (pc := 64) h 3 rfl dX5_mean_64 ?_
      refine R_iadd (pc := 66) h dX5_mean_66 ?_
      obtain ⟨v8, hv8, hF⟩ := bd hF
      refine R_iald (pc := 67) h hv8 lm_1 dX5_mean_67 ?_
      refine R_i2l (pc := 68) h dX5_mean_68 ?_
      refine R_ladd (pc := 69) h dX5_mean_69 ?_
      obtain ⟨v9, hv9, hF⟩ := nm_e2 hF
      refine R_lstore_n (pc := 70) (lv' := [(2, .long v9), (0, .ref (ad 0)), (1, .int x1), (4, .int x4)]) h hv9 rfl (by decide) rfl dX5_mean_70 ?_
      obtain ⟨v10, hv10, hF⟩ := nm_e2 hF
      refine R_iinc (pc := 71) (lv' := [(4, .int v10), (2, .long v9), (0, .ref (ad 0)), (1, .int x1)]) h 3 rfl (by decide) hv10 (by decide) rfl dX5_mean_71 ?_
      refine R_goto (pc := 74) (tgt := 44) h dX5_mean_74 (by decide) ?_
      exact Wp_sub (nX := 0) (lv' := [(0, .ref (ad 0)), (1, .int x1), (2, .long v9), (4, .int v10)]) [2, 3, 1, 0] rfl (ih _ _ _ _ hF)
theorem w5_mean_44 {ad : Nat → Nat} {X : XX} {R : Mem × Int32} {fu : Nat}  (h : Cx layM ad X cX5_mean RX5 5 3 (some .int) (R.1) (some (.int R.2)))  {f : Nat} {x1 : Int32} {x2 : Int64} {x4 : Int32} {M : Mem} (hF : f5_mean_44 fu f x1 x2 x4 M = some R) : Wp layM ad X M 44 [(0, .ref (ad 0)), (1, .int x1), (2, .long x2), (4, .int x4)] [] := w5_meani_44 h  f _ _ _ _ hF
def f5_mean (fu : Nat) (x1 : Int32) (M : Mem) : Option (Mem × Int32) :=
    (f5_isRow x1).bind fun r2 =>
    if r2 = 0 then ((some (M, (-1 : Int32))))
    else ((rd M 2 6 x1).bind fun v4 =>
    if 0 ≤ v4 then ((rd M 2 6 x1).bind fun v6 =>
    if v6 = 0 then ((f5_found (4 : Int32) M).bind fun ⟨M9, r10⟩ =>
    (some (M9, r10)))
    else ((f5_mean_44 fu fu x1 (0 : Int64) (0 : Int32) M)))
    else ((f5_found (1 : Int32) M).bind fun ⟨M12, r13⟩ =>
    (some (M12, r13))))
set_option maxHeartbeats 4000000 in
set_option maxRecDepth 10000 in
theorem w5_mean {ad : Nat → Nat} {X : XX} {R : Mem × Int32} {fu : Nat} (h : Cx layM ad X cX5_mean RX5 5 3 (some .int) (R.1) (some (.int R.2))) {x1 : Int32} {M : Mem} (hF : f5_mean fu x1 M = some R) : Wp layM ad X M 0 [(0, .ref (ad 0)), (1, .int x1)] [] := by
  unfold f5_mean at hF
  refine R_iload_n (pc := 0) h 1 rfl rfl dX5_mean_0 ?_
  obtain ⟨r2, hc1, hF⟩ := bd hF
  refine R_callS (pc := 1) (st := []) h [.int x1] csX5_77 (c5_isRow (ad := ad) (z := X.1) (M := M) hc1) rfl rfl (by decide) (by decide) (Nat.le_of_ble_eq_true rfl) dX5_mean_1 (st1 := [.int r2]) rfl ?_
  refine R_if_ne (pc := 4) (tgt := 9) h dX5_mean_4 (by decide) (fun c3 => ?_) (fun c3 => ?_)
  · have hF := ifn c3 hF
    refine R_aload_n (pc := 9) h 0 rfl rfl dX5_mean_9 ?_
    refine R_getR (pc := 10) (q1 := 2) h flX5_13 lm_0 rfl dX5_mean_10 ?_
    refine R_iload_n (pc := 13) h 1 rfl rfl dX5_mean_13 ?_
    obtain ⟨v4, hv4, hF⟩ := bd hF
    refine R_iald (pc := 14) h hv4 lm_2 dX5_mean_14 ?_
    refine R_if_ge (pc := 15) (tgt := 24) h dX5_mean_15 (by decide) (fun c5 => ?_) (fun c5 => ?_)
    · have hF := itp c5 hF
      refine R_aload_n (pc := 24) h 0 rfl rfl dX5_mean_24 ?_
      refine R_getR (pc := 25) (q1 := 2) h flX5_13 lm_0 rfl dX5_mean_25 ?_
      refine R_iload_n (pc := 28) h 1 rfl rfl dX5_mean_28 ?_
      obtain ⟨v6, hv6, hF⟩ := bd hF
      refine R_iald (pc := 29) h hv6 lm_2 dX5_mean_29 ?_
      refine R_if_ne (pc := 30) (tgt := 39) h dX5_mean_30 (by decide) (fun c7 => ?_) (fun c7 => ?_)
      · have hF := ifn c7 hF
        refine R_lconst (pc := 39) (v := 0) h (by decide) dX5_mean_39 ?_
        refine R_lstore_n (pc := 40) (lv' := [(2, .long (0 : Int64)), (0, .ref (ad 0)), (1, .int x1)]) h rfl rfl (by decide) rfl dX5_mean_40 ?_
        refine R_iconst (pc := 41) (v := 0) h (by decide) dX5_mean_41 ?_
        refine R_istore (pc := 42) (lv' := [(4, .int (0 : Int32)), (2, .long (0 : Int64)), (0, .ref (ad 0)), (1, .int x1)]) h rfl (by decide) rfl dX5_mean_42 ?_
        exact Wp_sub (nX := 0) (lv' := [(0, .ref (ad 0)), (1, .int x1), (2, .long (0 : Int64)), (4, .int (0 : Int32))]) [2, 3, 1, 0] rfl (w5_mean_44 h  (hF := hF))
      · have hF := itp c7 hF
        refine R_aload_n (pc := 33) h 0 rfl rfl dX5_mean_33 ?_
        refine R_iconst (pc := 34) (v := 4) h (by decide) dX5_mean_34 ?_
        obtain ⟨⟨M9, r10⟩, hc8, hF⟩ := bd hF
        refine R_callV (pc := 35) (st := []) h [.int (4 : Int32)] cvX5_81 (c5_found (ad := ad) (z := X.1) hc8) rfl rfl lm_0 (by decide) (by decide) (Nat.le_of_ble_eq_true rfl) dX5_mean_35 (st1 := [.int r10]) rfl ?_
        cases hF
        exact R_ireturn (pc := 38) h rfl rfl rfl dX5_mean_38
    · have hF := ifn c5 hF
      refine R_aload_n (pc := 18) h 0 rfl rfl dX5_mean_18 ?_
      refine R_iconst (pc := 19) (v := 1) h (by decide) dX5_mean_19 ?_
      obtain ⟨⟨M12, r13⟩, hc11, hF⟩ := bd hF
      refine R_callV (pc := 20) (st := []) h [.int (1 : Int32)] cvX5_81 (c5_found (ad := ad) (z := X.1) hc11) rfl rfl lm_0 (by decide) (by decide) (Nat.le_of_ble_eq_true rfl) dX5_mean_20 (st1 := [.int r13]) rfl ?_
      cases hF
      exact R_ireturn (pc := 23) h rfl rfl rfl dX5_mean_23
  · have hF := itp c3 hF
    refine R_iconst (pc := 7) (v := (-1)) h (by decide) dX5_mean_7 ?_
    cases hF
    exact R_ireturn (pc := 8) h rfl rfl rfl dX5_mean_8
theorem c5_mean {ad : Nat → Nat} {z : ZZ} {R : Mem × Int32} {fu : Nat} {x1 : Int32} {M : Mem} (hF : f5_mean fu x1 M = some R) : Con layM ad z yX5_mean cX5_mean 5 (some .int) 3 M [.ref (ad 0), .int x1] (R.1) (some (.int R.2)) := con_of (own := RX5) (lv := [(0, .ref (ad 0)), (1, .int x1)]) (by decide +kernel) rfl (Nat.le_of_ble_eq_true rfl) rfl (fun X hz h => w5_mean h hF)
def f5_isText (x0 : Int32) : Option (Int32) :=
    (f5_in x0.toInt64 (0 : Int64) (3 : Int64)).bind fun r2 =>
    (zr r2).bind fun v3 =>
    (some v3)
set_option maxHeartbeats 4000000 in
set_option maxRecDepth 10000 in
theorem w5_isText {ad : Nat → Nat} {X : XX} {R : Int32} {M : Mem} (h : Cx layM ad X cX5_isText RX5 1 2 (some .boolean) M (some (.int R))) {x0 : Int32} (hF : f5_isText x0 = some R) : Wp layM ad X M 0 [(0, .int x0)] [] := by
  unfold f5_isText at hF
  refine R_iload_n (pc := 0) h 0 rfl rfl dX5_isText_0 ?_
  refine R_i2l (pc := 1) h dX5_isText_1 ?_
  refine R_lconst (pc := 2) (v := 0) h (by decide) dX5_isText_2 ?_
  refine R_ldc2 (pc := 3) h klX5_75 dX5_isText_3 ?_
  obtain ⟨r2, hc1, hF⟩ := bd hF
  refine R_callS (pc := 6) (st := []) h [.long x0.toInt64, .long (0 : Int64), .long (3 : Int64)] csX5_71 (c5_in (ad := ad) (z := X.1) (M := M) hc1) rfl rfl (by decide) (by decide) (Nat.le_of_ble_eq_true rfl) dX5_isText_6 (st1 := [.int r2]) rfl ?_
  obtain ⟨v3, hv3, hF⟩ := bd hF
  cases hF
  exact R_zreturn (pc := 9) h rfl hv3 rfl rfl dX5_isText_9
theorem c5_isText {ad : Nat → Nat} {z : ZZ} {R : Int32} {M : Mem} {x0 : Int32} (hF : f5_isText x0 = some R) : Con layM ad z yX5_isText cX5_isText 1 (some .boolean) 2 M [.int x0] (M) (some (.int R)) := con_of (own := RX5) (lv := [(0, .int x0)]) (by decide +kernel) rfl (Nat.le_of_ble_eq_true rfl) rfl (fun X hz h => w5_isText h hF)
def f5_text_34 (fu : Nat) : Nat → Int32 → Int32 → Int32 → Mem → Option (Mem × Int32)
  | 0 => fun _ _ _ _ => none
  | f + 1 => fun x1 x2 x3 M =>
    if (60 : Int32) ≤ x3 then ((some (M, x2)))
    else ((wr M 3 240 (((60 : Int32) * x1) + x3) (32 : Int32)).bind fun M2 =>
    nm (x3 + (1 : Int32)) fun v3 =>
    ((f5_text_34 fu f) x1 x2 v3 M2))
set_option maxHeartbeats 4000000 in
set_option maxRecDepth 10000 in
theorem w5_texti_34 {ad : Nat → Nat} {X : XX} {R : Mem × Int32} {fu : Nat}  (h : Cx layM ad X cX5_text RX5 4 3 (some .int) (R.1) (some (.int R.2)))  : ∀ (f : Nat) (x1 : Int32) (x2 : Int32) (x3 : Int32) (M : Mem), f5_text_34 fu f x1 x2 x3 M = some R → Wp layM ad X M 34 [(0, .ref (ad 0)), (1, .int x1), (2, .int x2), (3, .int x3)] [] := by
  intro f
  induction f with
  | zero => intro x1 x2 x3 M hF; exact absurd hF (by simp [f5_text_34])
  | succ f ih =>
    intro x1 x2 x3 M hF
    rw [f5_text_34] at hF
    refine R_iload_n (pc := 34) h 3 rfl rfl dX5_text_34 ?_
    refine R_bipush (pc := 35) (v := 60) h (by decide) dX5_text_35 ?_
    refine R_icmp_ge (pc := 37) (tgt := 59) h dX5_text_37 (by decide) (fun c1 => ?_) (fun c1 => ?_)
    · have hF := itp c1 hF
      refine R_iload_n (pc := 59) h 2 rfl rfl dX5_text_59 ?_
      cases hF
      exact R_ireturn (pc := 60) h rfl rfl rfl dX5_text_60
    · have hF := ifn c1 hF
      refine R_aload_n (pc := 40) h 0 rfl rfl dX5_text_40 ?_
      refine R_getR (pc := 41) (q1 := 3) h flX5_16 lm_0 rfl dX5_text_41 ?_
      refine R_bipush (pc := 44) (v := 60) h (by decide) dX5_text_44 ?_
      refine R_iload_n (pc := 46) h 1 rfl rfl dX5_text_46 ?_
      refine R_imul (pc := 47) h dX5_text_47 ?_
      refine R_iload_n (pc := 48) h 3 rfl rfl dX5_text_48 ?_
      refine R_iadd (pc := 49) h dX5_text_49 ?_
      refine R_bipush (pc := 50) (v := 32) h (by decide) dX5_text_50 ?_
      obtain ⟨M2, hM2, hF⟩ := bd hF
      refine R_iast (pc := 52) h hM2 lm_3 dX5_text_52 ?_
      obtain ⟨v3, hv3, hF⟩ := nm_e2 hF
      refine R_iinc (pc := 53) (lv' := [(3, .int v3), (0, .ref (ad 0)), (1, .int x1), (2, .int x2)]) h 3 rfl (by decide) hv3 (by decide) rfl dX5_text_53 ?_
      refine R_goto (pc := 56) (tgt := 34) h dX5_text_56 (by decide) ?_
      exact Wp_sub (nX := 0) (lv' := [(0, .ref (ad 0)), (1, .int x1), (2, .int x2), (3, .int v3)]) [1, 2, 3, 0] rfl (ih _ _ _ _ hF)
theorem w5_text_34 {ad : Nat → Nat} {X : XX} {R : Mem × Int32} {fu : Nat}  (h : Cx layM ad X cX5_text RX5 4 3 (some .int) (R.1) (some (.int R.2)))  {f : Nat} {x1 : Int32} {x2 : Int32} {x3 : Int32} {M : Mem} (hF : f5_text_34 fu f x1 x2 x3 M = some R) : Wp layM ad X M 34 [(0, .ref (ad 0)), (1, .int x1), (2, .int x2), (3, .int x3)] [] := w5_texti_34 h  f _ _ _ _ hF
def f5_text (fu : Nat) (x1 : Int32) (x2 : Int32) (M : Mem) : Option (Mem × Int32) :=
    (f5_isText x1).bind fun r2 =>
    if r2 = 0 then ((some (M, (-1 : Int32))))
    else (if x2 ≤ (60 : Int32) then (if 0 ≤ x2 then ((wr M 4 4 x1 x2).bind fun M6 =>
    (f5_text_34 fu fu x1 x2 (0 : Int32) M6))
    else ((f5_found (5 : Int32) M).bind fun ⟨M8, r9⟩ =>
    (some (M8, r9))))
    else ((some (M, (-1 : Int32)))))
set_option maxHeartbeats 4000000 in
set_option maxRecDepth 10000 in
theorem w5_text {ad : Nat → Nat} {X : XX} {R : Mem × Int32} {fu : Nat} (h : Cx layM ad X cX5_text RX5 4 3 (some .int) (R.1) (some (.int R.2))) {x1 : Int32} {x2 : Int32} {M : Mem} (hF : f5_text fu x1 x2 M = some R) : Wp layM ad X M 0 [(0, .ref (ad 0)), (1, .int x1), (2, .int x2)] [] := by
  unfold f5_text at hF
  refine R_iload_n (pc := 0) h 1 rfl rfl dX5_text_0 ?_
  obtain ⟨r2, hc1, hF⟩ := bd hF
  refine R_callS (pc := 1) (st := []) h [.int x1] csX5_88 (c5_isText (ad := ad) (z := X.1) (M := M) hc1) rfl rfl (by decide) (by decide) (Nat.le_of_ble_eq_true rfl) dX5_text_1 (st1 := [.int r2]) rfl ?_
  refine R_if_eq (pc := 4) (tgt := 13) h dX5_text_4 (by decide) (fun c3 => ?_) (fun c3 => ?_)
  · have hF := itp c3 hF
    refine R_iconst (pc := 13) (v := (-1)) h (by decide) dX5_text_13 ?_
    cases hF
    exact R_ireturn (pc := 14) h rfl rfl rfl dX5_text_14
  · have hF := ifn c3 hF
    refine R_iload_n (pc := 7) h 2 rfl rfl dX5_text_7 ?_
    refine R_bipush (pc := 8) (v := 60) h (by decide) dX5_text_8 ?_
    refine R_icmp_le (pc := 10) (tgt := 15) h dX5_text_10 (by decide) (fun c4 => ?_) (fun c4 => ?_)
    · have hF := itp c4 hF
      refine R_iload_n (pc := 15) h 2 rfl rfl dX5_text_15 ?_
      refine R_if_ge (pc := 16) (tgt := 25) h dX5_text_16 (by decide) (fun c5 => ?_) (fun c5 => ?_)
      · have hF := itp c5 hF
        refine R_aload_n (pc := 25) h 0 rfl rfl dX5_text_25 ?_
        refine R_getR (pc := 26) (q1 := 4) h flX5_19 lm_0 rfl dX5_text_26 ?_
        refine R_iload_n (pc := 29) h 1 rfl rfl dX5_text_29 ?_
        refine R_iload_n (pc := 30) h 2 rfl rfl dX5_text_30 ?_
        obtain ⟨M6, hM6, hF⟩ := bd hF
        refine R_iast (pc := 31) h hM6 lm_4 dX5_text_31 ?_
        refine R_iconst (pc := 32) (v := 0) h (by decide) dX5_text_32 ?_
        refine R_istore_n (pc := 33) (lv' := [(3, .int (0 : Int32)), (0, .ref (ad 0)), (1, .int x1), (2, .int x2)]) h rfl rfl (by decide) rfl dX5_text_33 ?_
        exact Wp_sub (nX := 0) (lv' := [(0, .ref (ad 0)), (1, .int x1), (2, .int x2), (3, .int (0 : Int32))]) [1, 2, 3, 0] rfl (w5_text_34 h  (hF := hF))
      · have hF := ifn c5 hF
        refine R_aload_n (pc := 19) h 0 rfl rfl dX5_text_19 ?_
        refine R_iconst (pc := 20) (v := 5) h (by decide) dX5_text_20 ?_
        obtain ⟨⟨M8, r9⟩, hc7, hF⟩ := bd hF
        refine R_callV (pc := 21) (st := []) h [.int (5 : Int32)] cvX5_81 (c5_found (ad := ad) (z := X.1) hc7) rfl rfl lm_0 (by decide) (by decide) (Nat.le_of_ble_eq_true rfl) dX5_text_21 (st1 := [.int r9]) rfl ?_
        cases hF
        exact R_ireturn (pc := 24) h rfl rfl rfl dX5_text_24
    · have hF := ifn c4 hF
      refine R_iconst (pc := 13) (v := (-1)) h (by decide) dX5_text_13 ?_
      cases hF
      exact R_ireturn (pc := 14) h rfl rfl rfl dX5_text_14
theorem c5_text {ad : Nat → Nat} {z : ZZ} {R : Mem × Int32} {fu : Nat} {x1 : Int32} {x2 : Int32} {M : Mem} (hF : f5_text fu x1 x2 M = some R) : Con layM ad z yX5_text cX5_text 4 (some .int) 3 M [.ref (ad 0), .int x1, .int x2] (R.1) (some (.int R.2)) := con_of (own := RX5) (lv := [(0, .ref (ad 0)), (1, .int x1), (2, .int x2)]) (by decide +kernel) rfl (Nat.le_of_ble_eq_true rfl) rfl (fun X hz h => w5_text h hF)
def f5_put (x1 : Int32) (x2 : Int32) (x3 : Int32) (M : Mem) : Option (Mem × Int32) :=
    (f5_isText x1).bind fun r2 =>
    if r2 = 0 then ((some (M, (-1 : Int32))))
    else ((rd M 4 4 x1).bind fun v4 =>
    if 0 ≤ v4 then ((rd M 4 4 x1).bind fun v6 =>
    (f5_in x2.toInt64 (0 : Int64) (v6 - (1 : Int32)).toInt64).bind fun r8 =>
    if r8 = 0 then ((f5_found (2 : Int32) M).bind fun ⟨M11, r12⟩ =>
    (some (M11, r12)))
    else ((rd M 3 240 (((60 : Int32) * x1) + x2)).bind fun v13 =>
    (wr M 3 240 (((60 : Int32) * x1) + x2) x3.toInt8.toInt32).bind fun M14 =>
    (some (M14, (v13 + (1000 : Int32))))))
    else ((f5_found (1 : Int32) M).bind fun ⟨M16, r17⟩ =>
    (some (M16, r17))))
set_option maxHeartbeats 4000000 in
set_option maxRecDepth 10000 in
theorem w5_put {ad : Nat → Nat} {X : XX} {R : Mem × Int32} (h : Cx layM ad X cX5_put RX5 5 3 (some .int) (R.1) (some (.int R.2))) {x1 : Int32} {x2 : Int32} {x3 : Int32} {M : Mem} (hF : f5_put x1 x2 x3 M = some R) : Wp layM ad X M 0 [(0, .ref (ad 0)), (1, .int x1), (2, .int x2), (3, .int x3)] [] := by
  unfold f5_put at hF
  refine R_iload_n (pc := 0) h 1 rfl rfl dX5_put_0 ?_
  obtain ⟨r2, hc1, hF⟩ := bd hF
  refine R_callS (pc := 1) (st := []) h [.int x1] csX5_88 (c5_isText (ad := ad) (z := X.1) (M := M) hc1) rfl rfl (by decide) (by decide) (Nat.le_of_ble_eq_true rfl) dX5_put_1 (st1 := [.int r2]) rfl ?_
  refine R_if_ne (pc := 4) (tgt := 9) h dX5_put_4 (by decide) (fun c3 => ?_) (fun c3 => ?_)
  · have hF := ifn c3 hF
    refine R_aload_n (pc := 9) h 0 rfl rfl dX5_put_9 ?_
    refine R_getR (pc := 10) (q1 := 4) h flX5_19 lm_0 rfl dX5_put_10 ?_
    refine R_iload_n (pc := 13) h 1 rfl rfl dX5_put_13 ?_
    obtain ⟨v4, hv4, hF⟩ := bd hF
    refine R_iald (pc := 14) h hv4 lm_4 dX5_put_14 ?_
    refine R_if_ge (pc := 15) (tgt := 24) h dX5_put_15 (by decide) (fun c5 => ?_) (fun c5 => ?_)
    · have hF := itp c5 hF
      refine R_iload_n (pc := 24) h 2 rfl rfl dX5_put_24 ?_
      refine R_i2l (pc := 25) h dX5_put_25 ?_
      refine R_lconst (pc := 26) (v := 0) h (by decide) dX5_put_26 ?_
      refine R_aload_n (pc := 27) h 0 rfl rfl dX5_put_27 ?_
      refine R_getR (pc := 28) (q1 := 4) h flX5_19 lm_0 rfl dX5_put_28 ?_
      refine R_iload_n (pc := 31) h 1 rfl rfl dX5_put_31 ?_
      obtain ⟨v6, hv6, hF⟩ := bd hF
      refine R_iald (pc := 32) h hv6 lm_4 dX5_put_32 ?_
      refine R_iconst (pc := 33) (v := 1) h (by decide) dX5_put_33 ?_
      refine R_isub (pc := 34) h dX5_put_34 ?_
      refine R_i2l (pc := 35) h dX5_put_35 ?_
      obtain ⟨r8, hc7, hF⟩ := bd hF
      refine R_callS (pc := 36) (st := []) h [.long x2.toInt64, .long (0 : Int64), .long (v6 - (1 : Int32)).toInt64] csX5_71 (c5_in (ad := ad) (z := X.1) (M := M) hc7) rfl rfl (by decide) (by decide) (Nat.le_of_ble_eq_true rfl) dX5_put_36 (st1 := [.int r8]) rfl ?_
      refine R_if_ne (pc := 39) (tgt := 48) h dX5_put_39 (by decide) (fun c9 => ?_) (fun c9 => ?_)
      · have hF := ifn c9 hF
        refine R_aload_n (pc := 48) h 0 rfl rfl dX5_put_48 ?_
        refine R_getR (pc := 49) (q1 := 3) h flX5_16 lm_0 rfl dX5_put_49 ?_
        refine R_bipush (pc := 52) (v := 60) h (by decide) dX5_put_52 ?_
        refine R_iload_n (pc := 54) h 1 rfl rfl dX5_put_54 ?_
        refine R_imul (pc := 55) h dX5_put_55 ?_
        refine R_iload_n (pc := 56) h 2 rfl rfl dX5_put_56 ?_
        refine R_iadd (pc := 57) h dX5_put_57 ?_
        obtain ⟨v13, hv13, hF⟩ := bd hF
        refine R_iald (pc := 58) h hv13 lm_3 dX5_put_58 ?_
        refine R_istore (pc := 59) (lv' := [(4, .int v13), (0, .ref (ad 0)), (1, .int x1), (2, .int x2), (3, .int x3)]) h rfl (by decide) rfl dX5_put_59 ?_
        refine R_aload_n (pc := 61) h 1 rfl rfl dX5_put_61 ?_
        refine R_getR (pc := 62) (q1 := 3) h flX5_16 lm_0 rfl dX5_put_62 ?_
        refine R_bipush (pc := 65) (v := 60) h (by decide) dX5_put_65 ?_
        refine R_iload_n (pc := 67) h 2 rfl rfl dX5_put_67 ?_
        refine R_imul (pc := 68) h dX5_put_68 ?_
        refine R_iload_n (pc := 69) h 3 rfl rfl dX5_put_69 ?_
        refine R_iadd (pc := 70) h dX5_put_70 ?_
        refine R_iload_n (pc := 71) h 4 rfl rfl dX5_put_71 ?_
        refine R_i2b (pc := 72) h dX5_put_72 ?_
        obtain ⟨M14, hM14, hF⟩ := bd hF
        refine R_iast (pc := 73) h hM14 lm_3 dX5_put_73 ?_
        refine R_iload (pc := 74) h 0 rfl dX5_put_74 ?_
        refine R_sipush (pc := 76) (v := 1000) h (by decide) dX5_put_76 ?_
        refine R_iadd (pc := 79) h dX5_put_79 ?_
        cases hF
        exact R_ireturn (pc := 80) h rfl rfl rfl dX5_put_80
      · have hF := itp c9 hF
        refine R_aload_n (pc := 42) h 0 rfl rfl dX5_put_42 ?_
        refine R_iconst (pc := 43) (v := 2) h (by decide) dX5_put_43 ?_
        obtain ⟨⟨M11, r12⟩, hc10, hF⟩ := bd hF
        refine R_callV (pc := 44) (st := []) h [.int (2 : Int32)] cvX5_81 (c5_found (ad := ad) (z := X.1) hc10) rfl rfl lm_0 (by decide) (by decide) (Nat.le_of_ble_eq_true rfl) dX5_put_44 (st1 := [.int r12]) rfl ?_
        cases hF
        exact R_ireturn (pc := 47) h rfl rfl rfl dX5_put_47
    · have hF := ifn c5 hF
      refine R_aload_n (pc := 18) h 0 rfl rfl dX5_put_18 ?_
      refine R_iconst (pc := 19) (v := 1) h (by decide) dX5_put_19 ?_
      obtain ⟨⟨M16, r17⟩, hc15, hF⟩ := bd hF
      refine R_callV (pc := 20) (st := []) h [.int (1 : Int32)] cvX5_81 (c5_found (ad := ad) (z := X.1) hc15) rfl rfl lm_0 (by decide) (by decide) (Nat.le_of_ble_eq_true rfl) dX5_put_20 (st1 := [.int r17]) rfl ?_
      cases hF
      exact R_ireturn (pc := 23) h rfl rfl rfl dX5_put_23
  · have hF := itp c3 hF
    refine R_iconst (pc := 7) (v := (-1)) h (by decide) dX5_put_7 ?_
    cases hF
    exact R_ireturn (pc := 8) h rfl rfl rfl dX5_put_8
theorem c5_put {ad : Nat → Nat} {z : ZZ} {R : Mem × Int32} {x1 : Int32} {x2 : Int32} {x3 : Int32} {M : Mem} (hF : f5_put x1 x2 x3 M = some R) : Con layM ad z yX5_put cX5_put 5 (some .int) 3 M [.ref (ad 0), .int x1, .int x2, .int x3] (R.1) (some (.int R.2)) := con_of (own := RX5) (lv := [(0, .ref (ad 0)), (1, .int x1), (2, .int x2), (3, .int x3)]) (by decide +kernel) rfl (Nat.le_of_ble_eq_true rfl) rfl (fun X hz h => w5_put h hF)
def f5_here (M : Mem) : Option (Int32) :=
    if (M.1 0 19) ≤ (M.1 0 18) then ((some (-1 : Int32)))
    else ((rd M 3 240 (((60 : Int32) * (M.1 0 20)) + (M.1 0 18))).bind fun v2 =>
    (some v2))
set_option maxHeartbeats 4000000 in
set_option maxRecDepth 10000 in
theorem w5_here {ad : Nat → Nat} {X : XX} {R : Int32} {M : Mem} (h : Cx layM ad X cX5_here RX5 1 1 (some .int) M (some (.int R)))  (hF : f5_here M = some R) : Wp layM ad X M 0 [(0, .ref (ad 0))] [] := by
  unfold f5_here at hF
  refine R_aload_n (pc := 0) h 0 rfl rfl dX5_here_0 ?_
  refine R_getI (pc := 1) h flX5_94 lm_0 rfl dX5_here_1 ?_
  refine R_aload_n (pc := 4) h 0 rfl rfl dX5_here_4 ?_
  refine R_getI (pc := 5) h flX5_97 lm_0 rfl dX5_here_5 ?_
  refine R_icmp_ge (pc := 8) (tgt := 31) h dX5_here_8 (by decide) (fun c1 => ?_) (fun c1 => ?_)
  · have hF := itp c1 hF
    refine R_iconst (pc := 31) (v := (-1)) h (by decide) dX5_here_31 ?_
    cases hF
    exact R_ireturn (pc := 32) h rfl rfl rfl dX5_here_32
  · have hF := ifn c1 hF
    refine R_aload_n (pc := 11) h 0 rfl rfl dX5_here_11 ?_
    refine R_getR (pc := 12) (q1 := 3) h flX5_16 lm_0 rfl dX5_here_12 ?_
    refine R_bipush (pc := 15) (v := 60) h (by decide) dX5_here_15 ?_
    refine R_aload_n (pc := 17) h 0 rfl rfl dX5_here_17 ?_
    refine R_getI (pc := 18) h flX5_100 lm_0 rfl dX5_here_18 ?_
    refine R_imul (pc := 21) h dX5_here_21 ?_
    refine R_aload_n (pc := 22) h 0 rfl rfl dX5_here_22 ?_
    refine R_getI (pc := 23) h flX5_94 lm_0 rfl dX5_here_23 ?_
    refine R_iadd (pc := 26) h dX5_here_26 ?_
    obtain ⟨v2, hv2, hF⟩ := bd hF
    refine R_iald (pc := 27) h hv2 lm_3 dX5_here_27 ?_
    refine R_goto (pc := 28) (tgt := 32) h dX5_here_28 (by decide) ?_
    cases hF
    exact R_ireturn (pc := 32) h rfl rfl rfl dX5_here_32
theorem c5_here {ad : Nat → Nat} {z : ZZ} {R : Int32} {M : Mem}  (hF : f5_here M = some R) : Con layM ad z yX5_here cX5_here 1 (some .int) 1 M [.ref (ad 0)] (M) (some (.int R)) := con_of (own := RX5) (lv := [(0, .ref (ad 0))]) (by decide +kernel) rfl (Nat.le_of_ble_eq_true rfl) rfl (fun X hz h => w5_here h hF)
def f5_skips_0 (fu : Nat) : Nat → Mem → Option (Mem)
  | 0 => fun _ => none
  | f + 1 => fun M =>
    (f5_here M).bind fun r2 =>
    if r2 = (32 : Int32) then (nm (sI M 0 18 ((M.1 0 18) + (1 : Int32))) fun M4 =>
    ((f5_skips_0 fu f) M4))
    else ((some M))
set_option maxHeartbeats 4000000 in
set_option maxRecDepth 10000 in
theorem w5_skipsi_0 {ad : Nat → Nat} {X : XX} {R : Mem} {fu : Nat}  (h : Cx layM ad X cX5_skips RX5 1 2 none (R) none)  : ∀ (f : Nat) (M : Mem), f5_skips_0 fu f M = some R → Wp layM ad X M 0 [(0, .ref (ad 0))] [] := by
  intro f
  induction f with
  | zero => intro M hF; exact absurd hF (by simp [f5_skips_0])
  | succ f ih =>
    intro M hF
    rw [f5_skips_0] at hF
    refine R_aload_n (pc := 0) h 0 rfl rfl dX5_skips_0 ?_
    obtain ⟨r2, hc1, hF⟩ := bd hF
    refine R_callV (pc := 1) (st := []) h [] cvX5_103 (c5_here (ad := ad) (z := X.1) hc1) rfl rfl lm_0 (by decide) (by decide) (Nat.le_of_ble_eq_true rfl) dX5_skips_1 (st1 := [.int r2]) rfl ?_
    refine R_bipush (pc := 4) (v := 32) h (by decide) dX5_skips_4 ?_
    refine R_icmp_ne (pc := 6) (tgt := 22) h dX5_skips_6 (by decide) (fun c3 => ?_) (fun c3 => ?_)
    · have hF := ifn c3 hF
      cases hF
      exact R_return (pc := 22) h rfl rfl rfl dX5_skips_22
    · have hF := itp c3 hF
      refine R_aload_n (pc := 9) h 0 rfl rfl dX5_skips_9 ?_
      refine R_dup (pc := 10) h rfl dX5_skips_10 ?_
      refine R_getI (pc := 11) h flX5_94 lm_0 rfl dX5_skips_11 ?_
      refine R_iconst (pc := 14) (v := 1) h (by decide) dX5_skips_14 ?_
      refine R_iadd (pc := 15) h dX5_skips_15 ?_
      obtain ⟨M4, hM4, hF⟩ := nm_e2 hF
      refine R_putI (pc := 16) h hM4 fpX5_94 lm_0 rfl dX5_skips_16 ?_
      refine R_goto (pc := 19) (tgt := 0) h dX5_skips_19 (by decide) ?_
      exact Wp_sub (nX := 0) (lv' := [(0, .ref (ad 0))]) [0] rfl (ih _ hF)
theorem w5_skips_0 {ad : Nat → Nat} {X : XX} {R : Mem} {fu : Nat}  (h : Cx layM ad X cX5_skips RX5 1 2 none (R) none)  {f : Nat} {M : Mem} (hF : f5_skips_0 fu f M = some R) : Wp layM ad X M 0 [(0, .ref (ad 0))] [] := w5_skipsi_0 h  f _ hF
def f5_skips (fu : Nat) (M : Mem) : Option (Mem) :=
    (f5_skips_0 fu fu M)
set_option maxHeartbeats 4000000 in
set_option maxRecDepth 10000 in
theorem w5_skips {ad : Nat → Nat} {X : XX} {R : Mem} {fu : Nat} (h : Cx layM ad X cX5_skips RX5 1 2 none (R) none) {M : Mem} (hF : f5_skips fu M = some R) : Wp layM ad X M 0 [(0, .ref (ad 0))] [] := by
  unfold f5_skips at hF
  exact Wp_sub (nX := 0) (lv' := [(0, .ref (ad 0))]) [0] rfl (w5_skips_0 h  (hF := hF))
theorem c5_skips {ad : Nat → Nat} {z : ZZ} {R : Mem} {fu : Nat} {M : Mem} (hF : f5_skips fu M = some R) : Con layM ad z yX5_skips cX5_skips 1 none 2 M [.ref (ad 0)] (R) none := con_of (own := RX5) (lv := [(0, .ref (ad 0))]) (by decide +kernel) rfl (Nat.le_of_ble_eq_true rfl) rfl (fun X hz h => w5_skips h hF)
def f5_kindOf (x0 : Int32) : Option (Int32) :=
    if x0 = 98 then ((some (4 : Int32)))
    else if x0 = 99 then ((some (1 : Int32)))
    else if x0 = 108 then ((some (2 : Int32)))
    else if x0 = 109 then ((some (3 : Int32)))
    else if x0 = 112 then ((some (0 : Int32)))
    else if x0 = 119 then ((some (5 : Int32)))
    else ((some (-9 : Int32)))
set_option maxHeartbeats 4000000 in
set_option maxRecDepth 10000 in
theorem w5_kindOf {ad : Nat → Nat} {X : XX} {R : Int32} {M : Mem} (h : Cx layM ad X cX5_kindOf RX5 1 1 (some .int) M (some (.int R))) {x0 : Int32} (hF : f5_kindOf x0 = some R) : Wp layM ad X M 0 [(0, .int x0)] [] := by
  unfold f5_kindOf at hF
  refine R_iload_n (pc := 0) h 0 rfl rfl dX5_kindOf_0 ?_
  by_cases c1 : x0 = 98
  · have hF := itp c1 hF
    refine R_lookup (pc := 1) (off := 67) (tgt := 68) h dX5_kindOf_1 (by decide +kernel) (by rw [c1]; decide +kernel) (by decide) ?_
    refine R_iconst (pc := 68) (v := 4) h (by decide) dX5_kindOf_68 ?_
    cases hF
    exact R_ireturn (pc := 69) h rfl rfl rfl dX5_kindOf_69
  have hF := ifn c1 hF
  by_cases c2 : x0 = 99
  · have hF := itp c2 hF
    refine R_lookup (pc := 1) (off := 61) (tgt := 62) h dX5_kindOf_1 (by decide +kernel) (by rw [c2]; decide +kernel) (by decide) ?_
    refine R_iconst (pc := 62) (v := 1) h (by decide) dX5_kindOf_62 ?_
    cases hF
    exact R_ireturn (pc := 63) h rfl rfl rfl dX5_kindOf_63
  have hF := ifn c2 hF
  by_cases c3 : x0 = 108
  · have hF := itp c3 hF
    refine R_lookup (pc := 1) (off := 63) (tgt := 64) h dX5_kindOf_1 (by decide +kernel) (by rw [c3]; decide +kernel) (by decide) ?_
    refine R_iconst (pc := 64) (v := 2) h (by decide) dX5_kindOf_64 ?_
    cases hF
    exact R_ireturn (pc := 65) h rfl rfl rfl dX5_kindOf_65
  have hF := ifn c3 hF
  by_cases c4 : x0 = 109
  · have hF := itp c4 hF
    refine R_lookup (pc := 1) (off := 65) (tgt := 66) h dX5_kindOf_1 (by decide +kernel) (by rw [c4]; decide +kernel) (by decide) ?_
    refine R_iconst (pc := 66) (v := 3) h (by decide) dX5_kindOf_66 ?_
    cases hF
    exact R_ireturn (pc := 67) h rfl rfl rfl dX5_kindOf_67
  have hF := ifn c4 hF
  by_cases c5 : x0 = 112
  · have hF := itp c5 hF
    refine R_lookup (pc := 1) (off := 59) (tgt := 60) h dX5_kindOf_1 (by decide +kernel) (by rw [c5]; decide +kernel) (by decide) ?_
    refine R_iconst (pc := 60) (v := 0) h (by decide) dX5_kindOf_60 ?_
    cases hF
    exact R_ireturn (pc := 61) h rfl rfl rfl dX5_kindOf_61
  have hF := ifn c5 hF
  by_cases c6 : x0 = 119
  · have hF := itp c6 hF
    refine R_lookup (pc := 1) (off := 69) (tgt := 70) h dX5_kindOf_1 (by decide +kernel) (by rw [c6]; decide +kernel) (by decide) ?_
    refine R_iconst (pc := 70) (v := 5) h (by decide) dX5_kindOf_70 ?_
    cases hF
    exact R_ireturn (pc := 71) h rfl rfl rfl dX5_kindOf_71
  have hF := ifn c6 hF
  refine R_lookup (pc := 1) (off := 71) (tgt := 72) h dX5_kindOf_1 (by decide +kernel) (by refine (lv_osw c1 (by decide)).trans ?_; refine (lv_osw c2 (by decide)).trans ?_; refine (lv_osw c3 (by decide)).trans ?_; refine (lv_osw c4 (by decide)).trans ?_; refine (lv_osw c5 (by decide)).trans ?_; refine (lv_osw c6 (by decide)).trans ?_; rfl) (by decide) ?_
  refine R_bipush (pc := 72) (v := (-9)) h (by decide) dX5_kindOf_72 ?_
  cases hF
  exact R_ireturn (pc := 74) h rfl rfl rfl dX5_kindOf_74
theorem c5_kindOf {ad : Nat → Nat} {z : ZZ} {R : Int32} {M : Mem} {x0 : Int32} (hF : f5_kindOf x0 = some R) : Con layM ad z yX5_kindOf cX5_kindOf 1 (some .int) 1 M [.int x0] (M) (some (.int R)) := con_of (own := RX5) (lv := [(0, .int x0)]) (by decide +kernel) rfl (Nat.le_of_ble_eq_true rfl) rfl (fun X hz h => w5_kindOf h hF)
def f5_isFigure (x1 : Int32) (x2 : Int32) (M : Mem) : Option (Mem × Int32) :=
    (f5_here M).bind fun r2 =>
    (f5_in r2.toInt64 ((48 : Int32) + x1).toInt64 ((48 : Int32) + x2).toInt64).bind fun r4 =>
    if r4 = 0 then ((some (M, (0 : Int32))))
    else ((f5_here M).bind fun r7 =>
    nm (sI M 0 21 (r7 - (48 : Int32))) fun M8 =>
    nm (sI M8 0 18 ((M8.1 0 18) + (1 : Int32))) fun M9 =>
    (some (M9, (1 : Int32))))
set_option maxHeartbeats 4000000 in
set_option maxRecDepth 10000 in
theorem w5_isFigure {ad : Nat → Nat} {X : XX} {R : Mem × Int32} (h : Cx layM ad X cX5_isFigure RX5 3 2 (some .boolean) (R.1) (some (.int R.2))) {x1 : Int32} {x2 : Int32} {M : Mem} (hF : f5_isFigure x1 x2 M = some R) : Wp layM ad X M 0 [(0, .ref (ad 0)), (1, .int x1), (2, .int x2)] [] := by
  unfold f5_isFigure at hF
  refine R_aload_n (pc := 0) h 0 rfl rfl dX5_isFigure_0 ?_
  obtain ⟨r2, hc1, hF⟩ := bd hF
  refine R_callV (pc := 1) (st := []) h [] cvX5_103 (c5_here (ad := ad) (z := X.1) hc1) rfl rfl lm_0 (by decide) (by decide) (Nat.le_of_ble_eq_true rfl) dX5_isFigure_1 (st1 := [.int r2]) rfl ?_
  refine R_i2l (pc := 4) h dX5_isFigure_4 ?_
  refine R_bipush (pc := 5) (v := 48) h (by decide) dX5_isFigure_5 ?_
  refine R_iload_n (pc := 7) h 1 rfl rfl dX5_isFigure_7 ?_
  refine R_iadd (pc := 8) h dX5_isFigure_8 ?_
  refine R_i2l (pc := 9) h dX5_isFigure_9 ?_
  refine R_bipush (pc := 10) (v := 48) h (by decide) dX5_isFigure_10 ?_
  refine R_iload_n (pc := 12) h 2 rfl rfl dX5_isFigure_12 ?_
  refine R_iadd (pc := 13) h dX5_isFigure_13 ?_
  refine R_i2l (pc := 14) h dX5_isFigure_14 ?_
  obtain ⟨r4, hc3, hF⟩ := bd hF
  refine R_callS (pc := 15) (st := []) h [.long r2.toInt64, .long ((48 : Int32) + x1).toInt64, .long ((48 : Int32) + x2).toInt64] csX5_71 (c5_in (ad := ad) (z := X.1) (M := M) hc3) rfl rfl (by decide) (by decide) (Nat.le_of_ble_eq_true rfl) dX5_isFigure_15 (st1 := [.int r4]) rfl ?_
  refine R_if_ne (pc := 18) (tgt := 23) h dX5_isFigure_18 (by decide) (fun c5 => ?_) (fun c5 => ?_)
  · have hF := ifn c5 hF
    refine R_aload_n (pc := 23) h 0 rfl rfl dX5_isFigure_23 ?_
    refine R_aload_n (pc := 24) h 0 rfl rfl dX5_isFigure_24 ?_
    obtain ⟨r7, hc6, hF⟩ := bd hF
    refine R_callV (pc := 25) (st := [.ref (ad 0)]) h [] cvX5_103 (c5_here (ad := ad) (z := X.1) hc6) rfl rfl lm_0 (by decide) (by decide) (Nat.le_of_ble_eq_true rfl) dX5_isFigure_25 (st1 := [.int r7, .ref (ad 0)]) rfl ?_
    refine R_bipush (pc := 28) (v := 48) h (by decide) dX5_isFigure_28 ?_
    refine R_isub (pc := 30) h dX5_isFigure_30 ?_
    obtain ⟨M8, hM8, hF⟩ := nm_e2 hF
    refine R_putI (pc := 31) h hM8 fpX5_107 lm_0 rfl dX5_isFigure_31 ?_
    refine R_aload_n (pc := 34) h 0 rfl rfl dX5_isFigure_34 ?_
    refine R_dup (pc := 35) h rfl dX5_isFigure_35 ?_
    refine R_getI (pc := 36) h flX5_94 lm_0 rfl dX5_isFigure_36 ?_
    refine R_iconst (pc := 39) (v := 1) h (by decide) dX5_isFigure_39 ?_
    refine R_iadd (pc := 40) h dX5_isFigure_40 ?_
    obtain ⟨M9, hM9, hF⟩ := nm_e2 hF
    refine R_putI (pc := 41) h hM9 fpX5_94 lm_0 rfl dX5_isFigure_41 ?_
    refine R_iconst (pc := 44) (v := 1) h (by decide) dX5_isFigure_44 ?_
    cases hF
    exact R_zreturn (pc := 45) h rfl zr1 rfl rfl dX5_isFigure_45
  · have hF := itp c5 hF
    refine R_iconst (pc := 21) (v := 0) h (by decide) dX5_isFigure_21 ?_
    cases hF
    exact R_zreturn (pc := 22) h rfl zr0 rfl rfl dX5_isFigure_22
theorem c5_isFigure {ad : Nat → Nat} {z : ZZ} {R : Mem × Int32} {x1 : Int32} {x2 : Int32} {M : Mem} (hF : f5_isFigure x1 x2 M = some R) : Con layM ad z yX5_isFigure cX5_isFigure 3 (some .boolean) 2 M [.ref (ad 0), .int x1, .int x2] (R.1) (some (.int R.2)) := con_of (own := RX5) (lv := [(0, .ref (ad 0)), (1, .int x1), (2, .int x2)]) (by decide +kernel) rfl (Nat.le_of_ble_eq_true rfl) rfl (fun X hz h => w5_isFigure h hF)
def f5_readsPin_76 (fu : Nat) (k49 : Int32 → Mem → Option (Mem × Int32)) (x2 : Int32) (s0 : Int32) (s1 : Int32) (M : Mem) : Option (Mem × Int32) :=
    (f5_isFigure s1 s0 M).bind fun ⟨M2, r3⟩ =>
    if r3 = 0 then ((some (M2, (0 : Int32))))
    else ((wr M2 13 40 (((5 : Int32) * (M2.1 0 22)) + x2) (M2.1 0 21)).bind fun M5 =>
    nm (x2 + (1 : Int32)) fun v6 =>
    (k49 v6 M5))
set_option maxHeartbeats 4000000 in
set_option maxRecDepth 10000 in
theorem w5_readsPin_76 {ad : Nat → Nat} {X : XX} {R : Mem × Int32} {fu : Nat} {k49 : Int32 → Mem → Option (Mem × Int32)} (h : Cx layM ad X cX5_readsPin RX5 3 3 (some .boolean) (R.1) (some (.int R.2))) (hk49 : ∀ (x2 : Int32) (M : Mem), k49 x2 M = some R → Wp layM ad X M 49 [(0, .ref (ad 0)), (2, .int x2)] []) {x2 : Int32} {s0 : Int32} {s1 : Int32} {M : Mem} (hF : f5_readsPin_76 fu k49 x2 s0 s1 M = some R) : Wp layM ad X M 76 [(0, .ref (ad 0)), (2, .int x2)] [.int s0, .int s1, .ref (ad 0)] := by
  unfold f5_readsPin_76 at hF
  obtain ⟨⟨M2, r3⟩, hc1, hF⟩ := bd hF
  refine R_callV (pc := 76) (st := []) h [.int s1, .int s0] cvX5_116 (c5_isFigure (ad := ad) (z := X.1) hc1) rfl rfl lm_0 (by decide) (by decide) (Nat.le_of_ble_eq_true rfl) dX5_readsPin_76 (st1 := [.int r3]) rfl ?_
  refine R_if_ne (pc := 79) (tgt := 84) h dX5_readsPin_79 (by decide) (fun c4 => ?_) (fun c4 => ?_)
  · have hF := ifn c4 hF
    refine R_aload_n (pc := 84) h 0 rfl rfl dX5_readsPin_84 ?_
    refine R_getR (pc := 85) (q1 := 13) h flX5_50 lm_0 rfl dX5_readsPin_85 ?_
    refine R_iconst (pc := 88) (v := 5) h (by decide) dX5_readsPin_88 ?_
    refine R_aload_n (pc := 89) h 0 rfl rfl dX5_readsPin_89 ?_
    refine R_getI (pc := 90) h flX5_113 lm_0 rfl dX5_readsPin_90 ?_
    refine R_imul (pc := 93) h dX5_readsPin_93 ?_
    refine R_iload_n (pc := 94) h 1 rfl rfl dX5_readsPin_94 ?_
    refine R_iadd (pc := 95) h dX5_readsPin_95 ?_
    refine R_aload_n (pc := 96) h 0 rfl rfl dX5_readsPin_96 ?_
    refine R_getI (pc := 97) h flX5_107 lm_0 rfl dX5_readsPin_97 ?_
    obtain ⟨M5, hM5, hF⟩ := bd hF
    refine R_iast (pc := 100) h hM5 lm_13 dX5_readsPin_100 ?_
    obtain ⟨v6, hv6, hF⟩ := nm_e2 hF
    refine R_iinc (pc := 101) (lv' := [(2, .int v6), (0, .ref (ad 0))]) h 1 rfl (by decide) hv6 (by decide) rfl dX5_readsPin_101 ?_
    refine R_goto (pc := 104) (tgt := 49) h dX5_readsPin_104 (by decide) ?_
    exact Wp_sub (nX := 0) (lv' := [(0, .ref (ad 0)), (2, .int v6)]) [1, 0] rfl (hk49 _ _ hF)
  · have hF := itp c4 hF
    refine R_iconst (pc := 82) (v := 0) h (by decide) dX5_readsPin_82 ?_
    cases hF
    exact R_zreturn (pc := 83) h rfl zr0 rfl rfl dX5_readsPin_83
def f5_readsPin_65 (fu : Nat) (k49 : Int32 → Mem → Option (Mem × Int32)) (x2 : Int32) (s0 : Int32) (M : Mem) : Option (Mem × Int32) :=
    if x2 = (3 : Int32) then ((f5_readsPin_76 fu k49 x2 (4 : Int32) s0 M))
    else ((f5_readsPin_76 fu k49 x2 (9 : Int32) s0 M))
set_option maxHeartbeats 4000000 in
set_option maxRecDepth 10000 in
theorem w5_readsPin_65 {ad : Nat → Nat} {X : XX} {R : Mem × Int32} {fu : Nat} {k49 : Int32 → Mem → Option (Mem × Int32)} (h : Cx layM ad X cX5_readsPin RX5 3 3 (some .boolean) (R.1) (some (.int R.2))) (hk49 : ∀ (x2 : Int32) (M : Mem), k49 x2 M = some R → Wp layM ad X M 49 [(0, .ref (ad 0)), (2, .int x2)] []) {x2 : Int32} {s0 : Int32} {M : Mem} (hF : f5_readsPin_65 fu k49 x2 s0 M = some R) : Wp layM ad X M 65 [(0, .ref (ad 0)), (2, .int x2)] [.int s0, .ref (ad 0)] := by
  unfold f5_readsPin_65 at hF
  refine R_iload_n (pc := 65) h 1 rfl rfl dX5_readsPin_65 ?_
  refine R_iconst (pc := 66) (v := 3) h (by decide) dX5_readsPin_66 ?_
  refine R_icmp_ne (pc := 67) (tgt := 74) h dX5_readsPin_67 (by decide) (fun c1 => ?_) (fun c1 => ?_)
  · have hF := ifn c1 hF
    refine R_bipush (pc := 74) (v := 9) h (by decide) dX5_readsPin_74 ?_
    exact Wp_sub (nX := 0) (lv' := [(0, .ref (ad 0)), (2, .int x2)]) [0, 1] rfl (w5_readsPin_76 h (hk49 := hk49) (hF := hF))
  · have hF := itp c1 hF
    refine R_iconst (pc := 70) (v := 4) h (by decide) dX5_readsPin_70 ?_
    refine R_goto (pc := 71) (tgt := 76) h dX5_readsPin_71 (by decide) ?_
    exact Wp_sub (nX := 0) (lv' := [(0, .ref (ad 0)), (2, .int x2)]) [0, 1] rfl (w5_readsPin_76 h (hk49 := hk49) (hF := hF))
def f5_readsPin_49 (fu : Nat) : Nat → Int32 → Mem → Option (Mem × Int32)
  | 0 => fun _ _ => none
  | f + 1 => fun x2 M =>
    if (5 : Int32) ≤ x2 then (nm (sI M 0 22 ((M.1 0 22) + (1 : Int32))) fun M2 =>
    (some (M2, (1 : Int32))))
    else (if x2 = (3 : Int32) then ((f5_readsPin_65 fu (f5_readsPin_49 fu f) x2 (1 : Int32) M))
    else ((f5_readsPin_65 fu (f5_readsPin_49 fu f) x2 (0 : Int32) M)))
set_option maxHeartbeats 4000000 in
set_option maxRecDepth 10000 in
theorem w5_readsPini_49 {ad : Nat → Nat} {X : XX} {R : Mem × Int32} {fu : Nat}  (h : Cx layM ad X cX5_readsPin RX5 3 3 (some .boolean) (R.1) (some (.int R.2)))  : ∀ (f : Nat) (x2 : Int32) (M : Mem), f5_readsPin_49 fu f x2 M = some R → Wp layM ad X M 49 [(0, .ref (ad 0)), (2, .int x2)] [] := by
  intro f
  induction f with
  | zero => intro x2 M hF; exact absurd hF (by simp [f5_readsPin_49])
  | succ f ih =>
    intro x2 M hF
    rw [f5_readsPin_49] at hF
    refine R_iload_n (pc := 49) h 1 rfl rfl dX5_readsPin_49 ?_
    refine R_iconst (pc := 50) (v := 5) h (by decide) dX5_readsPin_50 ?_
    refine R_icmp_ge (pc := 51) (tgt := 107) h dX5_readsPin_51 (by decide) (fun c1 => ?_) (fun c1 => ?_)
    · have hF := itp c1 hF
      refine R_aload_n (pc := 107) h 0 rfl rfl dX5_readsPin_107 ?_
      refine R_dup (pc := 108) h rfl dX5_readsPin_108 ?_
      refine R_getI (pc := 109) h flX5_113 lm_0 rfl dX5_readsPin_109 ?_
      refine R_iconst (pc := 112) (v := 1) h (by decide) dX5_readsPin_112 ?_
      refine R_iadd (pc := 113) h dX5_readsPin_113 ?_
      obtain ⟨M2, hM2, hF⟩ := nm_e2 hF
      refine R_putI (pc := 114) h hM2 fpX5_113 lm_0 rfl dX5_readsPin_114 ?_
      refine R_iconst (pc := 117) (v := 1) h (by decide) dX5_readsPin_117 ?_
      cases hF
      exact R_zreturn (pc := 118) h rfl zr1 rfl rfl dX5_readsPin_118
    · have hF := ifn c1 hF
      refine R_aload_n (pc := 54) h 0 rfl rfl dX5_readsPin_54 ?_
      refine R_iload_n (pc := 55) h 1 rfl rfl dX5_readsPin_55 ?_
      refine R_iconst (pc := 56) (v := 3) h (by decide) dX5_readsPin_56 ?_
      refine R_icmp_ne (pc := 57) (tgt := 64) h dX5_readsPin_57 (by decide) (fun c3 => ?_) (fun c3 => ?_)
      · have hF := ifn c3 hF
        refine R_iconst (pc := 64) (v := 0) h (by decide) dX5_readsPin_64 ?_
        exact Wp_sub (nX := 0) (lv' := [(0, .ref (ad 0)), (2, .int x2)]) [0, 1] rfl (w5_readsPin_65 h (hk49 := fun a0 a1 hF => ih a0 a1 hF) (hF := hF))
      · have hF := itp c3 hF
        refine R_iconst (pc := 60) (v := 1) h (by decide) dX5_readsPin_60 ?_
        refine R_goto (pc := 61) (tgt := 65) h dX5_readsPin_61 (by decide) ?_
        exact Wp_sub (nX := 0) (lv' := [(0, .ref (ad 0)), (2, .int x2)]) [0, 1] rfl (w5_readsPin_65 h (hk49 := fun a0 a1 hF => ih a0 a1 hF) (hF := hF))
theorem w5_readsPin_49 {ad : Nat → Nat} {X : XX} {R : Mem × Int32} {fu : Nat}  (h : Cx layM ad X cX5_readsPin RX5 3 3 (some .boolean) (R.1) (some (.int R.2)))  {f : Nat} {x2 : Int32} {M : Mem} (hF : f5_readsPin_49 fu f x2 M = some R) : Wp layM ad X M 49 [(0, .ref (ad 0)), (2, .int x2)] [] := w5_readsPini_49 h  f _ _ hF
def f5_readsPin (fu : Nat) (M : Mem) : Option (Mem × Int32) :=
    (f5_here M).bind fun r2 =>
    (f5_kindOf r2).bind fun r4 =>
    if r4 = (-9 : Int32) then ((some (M, (0 : Int32))))
    else (if (M.1 0 22) = (8 : Int32) then ((some (M, (0 : Int32))))
    else (nm (sI M 0 18 ((M.1 0 18) + (1 : Int32))) fun M7 =>
    (wr M7 13 40 ((5 : Int32) * (M7.1 0 22)) r4).bind fun M8 =>
    (f5_readsPin_49 fu fu (1 : Int32) M8)))
set_option maxHeartbeats 4000000 in
set_option maxRecDepth 10000 in
theorem w5_readsPin {ad : Nat → Nat} {X : XX} {R : Mem × Int32} {fu : Nat} (h : Cx layM ad X cX5_readsPin RX5 3 3 (some .boolean) (R.1) (some (.int R.2))) {M : Mem} (hF : f5_readsPin fu M = some R) : Wp layM ad X M 0 [(0, .ref (ad 0))] [] := by
  unfold f5_readsPin at hF
  refine R_aload_n (pc := 0) h 0 rfl rfl dX5_readsPin_0 ?_
  obtain ⟨r2, hc1, hF⟩ := bd hF
  refine R_callV (pc := 1) (st := []) h [] cvX5_103 (c5_here (ad := ad) (z := X.1) hc1) rfl rfl lm_0 (by decide) (by decide) (Nat.le_of_ble_eq_true rfl) dX5_readsPin_1 (st1 := [.int r2]) rfl ?_
  obtain ⟨r4, hc3, hF⟩ := bd hF
  refine R_callS (pc := 4) (st := []) h [.int r2] csX5_110 (c5_kindOf (ad := ad) (z := X.1) (M := M) hc3) rfl rfl (by decide) (by decide) (Nat.le_of_ble_eq_true rfl) dX5_readsPin_4 (st1 := [.int r4]) rfl ?_
  refine R_istore_n (pc := 7) (lv' := [(1, .int r4), (0, .ref (ad 0))]) h rfl rfl (by decide) rfl dX5_readsPin_7 ?_
  refine R_iload_n (pc := 8) h 0 rfl rfl dX5_readsPin_8 ?_
  refine R_bipush (pc := 9) (v := (-9)) h (by decide) dX5_readsPin_9 ?_
  refine R_icmp_eq (pc := 11) (tgt := 23) h dX5_readsPin_11 (by decide) (fun c5 => ?_) (fun c5 => ?_)
  · have hF := itp c5 hF
    refine R_iconst (pc := 23) (v := 0) h (by decide) dX5_readsPin_23 ?_
    cases hF
    exact R_zreturn (pc := 24) h rfl zr0 rfl rfl dX5_readsPin_24
  · have hF := ifn c5 hF
    refine R_aload_n (pc := 14) h 1 rfl rfl dX5_readsPin_14 ?_
    refine R_getI (pc := 15) h flX5_113 lm_0 rfl dX5_readsPin_15 ?_
    refine R_bipush (pc := 18) (v := 8) h (by decide) dX5_readsPin_18 ?_
    refine R_icmp_ne (pc := 20) (tgt := 25) h dX5_readsPin_20 (by decide) (fun c6 => ?_) (fun c6 => ?_)
    · have hF := ifn c6 hF
      refine R_aload_n (pc := 25) h 1 rfl rfl dX5_readsPin_25 ?_
      refine R_dup (pc := 26) h rfl dX5_readsPin_26 ?_
      refine R_getI (pc := 27) h flX5_94 lm_0 rfl dX5_readsPin_27 ?_
      refine R_iconst (pc := 30) (v := 1) h (by decide) dX5_readsPin_30 ?_
      refine R_iadd (pc := 31) h dX5_readsPin_31 ?_
      obtain ⟨M7, hM7, hF⟩ := nm_e2 hF
      refine R_putI (pc := 32) h hM7 fpX5_94 lm_0 rfl dX5_readsPin_32 ?_
      refine R_aload_n (pc := 35) h 1 rfl rfl dX5_readsPin_35 ?_
      refine R_getR (pc := 36) (q1 := 13) h flX5_50 lm_0 rfl dX5_readsPin_36 ?_
      refine R_iconst (pc := 39) (v := 5) h (by decide) dX5_readsPin_39 ?_
      refine R_aload_n (pc := 40) h 1 rfl rfl dX5_readsPin_40 ?_
      refine R_getI (pc := 41) h flX5_113 lm_0 rfl dX5_readsPin_41 ?_
      refine R_imul (pc := 44) h dX5_readsPin_44 ?_
      refine R_iload_n (pc := 45) h 0 rfl rfl dX5_readsPin_45 ?_
      obtain ⟨M8, hM8, hF⟩ := bd hF
      refine R_iast (pc := 46) h hM8 lm_13 dX5_readsPin_46 ?_
      refine R_iconst (pc := 47) (v := 1) h (by decide) dX5_readsPin_47 ?_
      refine R_istore_n (pc := 48) (lv' := [(2, .int (1 : Int32)), (1, .int r4), (0, .ref (ad 0))]) h rfl rfl (by decide) rfl dX5_readsPin_48 ?_
      exact Wp_sub (nX := 0) (lv' := [(0, .ref (ad 0)), (2, .int (1 : Int32))]) [2, 0] rfl (w5_readsPin_49 h  (hF := hF))
    · have hF := itp c6 hF
      refine R_iconst (pc := 23) (v := 0) h (by decide) dX5_readsPin_23 ?_
      cases hF
      exact R_zreturn (pc := 24) h rfl zr0 rfl rfl dX5_readsPin_24
theorem c5_readsPin {ad : Nat → Nat} {z : ZZ} {R : Mem × Int32} {fu : Nat} {M : Mem} (hF : f5_readsPin fu M = some R) : Con layM ad z yX5_readsPin cX5_readsPin 3 (some .boolean) 3 M [.ref (ad 0)] (R.1) (some (.int R.2)) := con_of (own := RX5) (lv := [(0, .ref (ad 0))]) (by decide +kernel) rfl (Nat.le_of_ble_eq_true rfl) rfl (fun X hz h => w5_readsPin h hF)
def f5_reads_62 (fu : Nat) (x2 : Int32) (M : Mem) : Option (Mem × Int32) :=
    if x2 = 0 then ((some (M, (M.1 0 18))))
    else (if (M.1 0 22) ≤ 0 then ((some (M, (M.1 0 18))))
    else ((some (M, (-9 : Int32)))))
set_option maxHeartbeats 4000000 in
set_option maxRecDepth 10000 in
theorem w5_reads_62 {ad : Nat → Nat} {X : XX} {R : Mem × Int32} {fu : Nat}  (h : Cx layM ad X cX5_reads RX5 3 4 (some .int) (R.1) (some (.int R.2)))  {x2 : Int32} {M : Mem} (hF : f5_reads_62 fu x2 M = some R) : Wp layM ad X M 62 [(0, .ref (ad 0)), (2, .int x2)] [] := by
  unfold f5_reads_62 at hF
  refine R_iload_n (pc := 62) h 1 rfl rfl dX5_reads_62 ?_
  refine R_if_eq (pc := 63) (tgt := 78) h dX5_reads_63 (by decide) (fun c1 => ?_) (fun c1 => ?_)
  · have hF := itp c1 hF
    refine R_aload_n (pc := 78) h 0 rfl rfl dX5_reads_78 ?_
    refine R_getI (pc := 79) h flX5_94 lm_0 rfl dX5_reads_79 ?_
    cases hF
    exact R_ireturn (pc := 82) h rfl rfl rfl dX5_reads_82
  · have hF := ifn c1 hF
    refine R_aload_n (pc := 66) h 0 rfl rfl dX5_reads_66 ?_
    refine R_getI (pc := 67) h flX5_113 lm_0 rfl dX5_reads_67 ?_
    refine R_if_le (pc := 70) (tgt := 78) h dX5_reads_70 (by decide) (fun c2 => ?_) (fun c2 => ?_)
    · have hF := itp c2 hF
      refine R_aload_n (pc := 78) h 0 rfl rfl dX5_reads_78 ?_
      refine R_getI (pc := 79) h flX5_94 lm_0 rfl dX5_reads_79 ?_
      cases hF
      exact R_ireturn (pc := 82) h rfl rfl rfl dX5_reads_82
    · have hF := ifn c2 hF
      refine R_bipush (pc := 73) (v := (-9)) h (by decide) dX5_reads_73 ?_
      refine R_goto (pc := 75) (tgt := 82) h dX5_reads_75 (by decide) ?_
      cases hF
      exact R_ireturn (pc := 82) h rfl rfl rfl dX5_reads_82
def f5_reads_31 (fu : Nat) : Nat → Int32 → Mem → Option (Mem × Int32)
  | 0 => fun _ _ => none
  | f + 1 => fun x2 M =>
    if (M.1 0 19) ≤ (M.1 0 18) then ((f5_reads_62 fu x2 M))
    else (if x2 = 0 then ((f5_reads_62 fu x2 M))
    else ((f5_readsPin fu M).bind fun ⟨M4, r5⟩ =>
    if r5 = 0 then (((f5_reads_31 fu f) r5 M4))
    else ((f5_skips fu M4).bind fun M8 =>
    ((f5_reads_31 fu f) r5 M8))))
set_option maxHeartbeats 4000000 in
set_option maxRecDepth 10000 in
theorem w5_readsi_31 {ad : Nat → Nat} {X : XX} {R : Mem × Int32} {fu : Nat}  (h : Cx layM ad X cX5_reads RX5 3 4 (some .int) (R.1) (some (.int R.2)))  : ∀ (f : Nat) (x2 : Int32) (M : Mem), f5_reads_31 fu f x2 M = some R → Wp layM ad X M 31 [(0, .ref (ad 0)), (2, .int x2)] [] := by
  intro f
  induction f with
  | zero => intro x2 M hF; exact absurd hF (by simp [f5_reads_31])
  | succ f ih =>
    intro x2 M hF
    rw [f5_reads_31] at hF
    refine R_aload_n (pc := 31) h 0 rfl rfl dX5_reads_31 ?_
    refine R_getI (pc := 32) h flX5_94 lm_0 rfl dX5_reads_32 ?_
    refine R_aload_n (pc := 35) h 0 rfl rfl dX5_reads_35 ?_
    refine R_getI (pc := 36) h flX5_97 lm_0 rfl dX5_reads_36 ?_
    refine R_icmp_ge (pc := 39) (tgt := 62) h dX5_reads_39 (by decide) (fun c1 => ?_) (fun c1 => ?_)
    · have hF := itp c1 hF
      exact Wp_sub (nX := 0) (lv' := [(0, .ref (ad 0)), (2, .int x2)]) [0, 1] rfl (w5_reads_62 h  (hF := hF))
    · have hF := ifn c1 hF
      refine R_iload_n (pc := 42) h 1 rfl rfl dX5_reads_42 ?_
      refine R_if_eq (pc := 43) (tgt := 62) h dX5_reads_43 (by decide) (fun c2 => ?_) (fun c2 => ?_)
      · have hF := itp c2 hF
        exact Wp_sub (nX := 0) (lv' := [(0, .ref (ad 0)), (2, .int x2)]) [0, 1] rfl (w5_reads_62 h  (hF := hF))
      · have hF := ifn c2 hF
        refine R_aload_n (pc := 46) h 0 rfl rfl dX5_reads_46 ?_
        obtain ⟨⟨M4, r5⟩, hc3, hF⟩ := bd hF
        refine R_callV (pc := 47) (st := []) h [] cvX5_123 (c5_readsPin (ad := ad) (z := X.1) hc3) rfl rfl lm_0 (by decide) (by decide) (Nat.le_of_ble_eq_true rfl) dX5_reads_47 (st1 := [.int r5]) rfl ?_
        refine R_istore_n (pc := 50) (lv' := [(2, .int r5), (0, .ref (ad 0))]) h rfl rfl (by decide) rfl dX5_reads_50 ?_
        refine R_iload_n (pc := 51) h 0 rfl rfl dX5_reads_51 ?_
        refine R_if_eq (pc := 52) (tgt := 31) h dX5_reads_52 (by decide) (fun c6 => ?_) (fun c6 => ?_)
        · have hF := itp c6 hF
          exact Wp_sub (nX := 0) (lv' := [(0, .ref (ad 0)), (2, .int r5)]) [1, 0] rfl (ih _ _ hF)
        · have hF := ifn c6 hF
          refine R_aload_n (pc := 55) h 1 rfl rfl dX5_reads_55 ?_
          obtain ⟨M8, hc7, hF⟩ := bd hF
          refine R_callV (pc := 56) (st := []) h [] cvX5_120 (c5_skips (ad := ad) (z := X.1) hc7) rfl rfl lm_0 (by decide) (by decide) (Nat.le_of_ble_eq_true rfl) dX5_reads_56 (st1 := []) rfl ?_
          refine R_goto (pc := 59) (tgt := 31) h dX5_reads_59 (by decide) ?_
          exact Wp_sub (nX := 0) (lv' := [(0, .ref (ad 0)), (2, .int r5)]) [1, 0] rfl (ih _ _ hF)
theorem w5_reads_31 {ad : Nat → Nat} {X : XX} {R : Mem × Int32} {fu : Nat}  (h : Cx layM ad X cX5_reads RX5 3 4 (some .int) (R.1) (some (.int R.2)))  {f : Nat} {x2 : Int32} {M : Mem} (hF : f5_reads_31 fu f x2 M = some R) : Wp layM ad X M 31 [(0, .ref (ad 0)), (2, .int x2)] [] := w5_readsi_31 h  f _ _ hF
def f5_reads (fu : Nat) (x1 : Int32) (M : Mem) : Option (Mem × Int32) :=
    nm (sI M 0 20 x1) fun M1 =>
    (rd M1 4 4 x1).bind fun v2 =>
    nm (sI M1 0 19 v2) fun M3 =>
    nm (sI M3 0 18 (0 : Int32)) fun M4 =>
    nm (sI M4 0 22 (0 : Int32)) fun M5 =>
    (f5_skips fu M5).bind fun M7 =>
    (f5_reads_31 fu fu (1 : Int32) M7)
set_option maxHeartbeats 4000000 in
set_option maxRecDepth 10000 in
theorem w5_reads {ad : Nat → Nat} {X : XX} {R : Mem × Int32} {fu : Nat} (h : Cx layM ad X cX5_reads RX5 3 4 (some .int) (R.1) (some (.int R.2))) {x1 : Int32} {M : Mem} (hF : f5_reads fu x1 M = some R) : Wp layM ad X M 0 [(0, .ref (ad 0)), (1, .int x1)] [] := by
  unfold f5_reads at hF
  refine R_aload_n (pc := 0) h 0 rfl rfl dX5_reads_0 ?_
  refine R_iload_n (pc := 1) h 1 rfl rfl dX5_reads_1 ?_
  obtain ⟨M1, hM1, hF⟩ := nm_e2 hF
  refine R_putI (pc := 2) h hM1 fpX5_100 lm_0 rfl dX5_reads_2 ?_
  refine R_aload_n (pc := 5) h 0 rfl rfl dX5_reads_5 ?_
  refine R_aload_n (pc := 6) h 0 rfl rfl dX5_reads_6 ?_
  refine R_getR (pc := 7) (q1 := 4) h flX5_19 lm_0 rfl dX5_reads_7 ?_
  refine R_iload_n (pc := 10) h 1 rfl rfl dX5_reads_10 ?_
  obtain ⟨v2, hv2, hF⟩ := bd hF
  refine R_iald (pc := 11) h hv2 lm_4 dX5_reads_11 ?_
  obtain ⟨M3, hM3, hF⟩ := nm_e2 hF
  refine R_putI (pc := 12) h hM3 fpX5_97 lm_0 rfl dX5_reads_12 ?_
  refine R_aload_n (pc := 15) h 0 rfl rfl dX5_reads_15 ?_
  refine R_iconst (pc := 16) (v := 0) h (by decide) dX5_reads_16 ?_
  obtain ⟨M4, hM4, hF⟩ := nm_e2 hF
  refine R_putI (pc := 17) h hM4 fpX5_94 lm_0 rfl dX5_reads_17 ?_
  refine R_aload_n (pc := 20) h 0 rfl rfl dX5_reads_20 ?_
  refine R_iconst (pc := 21) (v := 0) h (by decide) dX5_reads_21 ?_
  obtain ⟨M5, hM5, hF⟩ := nm_e2 hF
  refine R_putI (pc := 22) h hM5 fpX5_113 lm_0 rfl dX5_reads_22 ?_
  refine R_iconst (pc := 25) (v := 1) h (by decide) dX5_reads_25 ?_
  refine R_istore_n (pc := 26) (lv' := [(2, .int (1 : Int32)), (0, .ref (ad 0)), (1, .int x1)]) h rfl rfl (by decide) rfl dX5_reads_26 ?_
  refine R_aload_n (pc := 27) h 1 rfl rfl dX5_reads_27 ?_
  obtain ⟨M7, hc6, hF⟩ := bd hF
  refine R_callV (pc := 28) (st := []) h [] cvX5_120 (c5_skips (ad := ad) (z := X.1) hc6) rfl rfl lm_0 (by decide) (by decide) (Nat.le_of_ble_eq_true rfl) dX5_reads_28 (st1 := []) rfl ?_
  exact Wp_sub (nX := 0) (lv' := [(0, .ref (ad 0)), (2, .int (1 : Int32))]) [1, 0] rfl (w5_reads_31 h  (hF := hF))
theorem c5_reads {ad : Nat → Nat} {z : ZZ} {R : Mem × Int32} {fu : Nat} {x1 : Int32} {M : Mem} (hF : f5_reads fu x1 M = some R) : Con layM ad z yX5_reads cX5_reads 3 (some .int) 4 M [.ref (ad 0), .int x1] (R.1) (some (.int R.2)) := con_of (own := RX5) (lv := [(0, .ref (ad 0)), (1, .int x1)]) (by decide +kernel) rfl (Nat.le_of_ble_eq_true rfl) rfl (fun X hz h => w5_reads h hF)
def f5_fault (fu : Nat) (x1 : Int32) (M : Mem) : Option (Mem × Int32) :=
    (f5_isText x1).bind fun r2 =>
    if r2 = 0 then ((some (M, (-1 : Int32))))
    else ((rd M 4 4 x1).bind fun v4 =>
    if 0 ≤ v4 then ((f5_reads fu x1 M).bind fun ⟨M7, r8⟩ =>
    (some (M7, r8)))
    else ((f5_found (1 : Int32) M).bind fun ⟨M10, r11⟩ =>
    (some (M10, r11))))
set_option maxHeartbeats 4000000 in
set_option maxRecDepth 10000 in
theorem w5_fault {ad : Nat → Nat} {X : XX} {R : Mem × Int32} {fu : Nat} (h : Cx layM ad X cX5_fault RX5 2 5 (some .int) (R.1) (some (.int R.2))) {x1 : Int32} {M : Mem} (hF : f5_fault fu x1 M = some R) : Wp layM ad X M 0 [(0, .ref (ad 0)), (1, .int x1)] [] := by
  unfold f5_fault at hF
  refine R_iload_n (pc := 0) h 1 rfl rfl dX5_fault_0 ?_
  obtain ⟨r2, hc1, hF⟩ := bd hF
  refine R_callS (pc := 1) (st := []) h [.int x1] csX5_88 (c5_isText (ad := ad) (z := X.1) (M := M) hc1) rfl rfl (by decide) (by decide) (Nat.le_of_ble_eq_true rfl) dX5_fault_1 (st1 := [.int r2]) rfl ?_
  refine R_if_ne (pc := 4) (tgt := 9) h dX5_fault_4 (by decide) (fun c3 => ?_) (fun c3 => ?_)
  · have hF := ifn c3 hF
    refine R_aload_n (pc := 9) h 0 rfl rfl dX5_fault_9 ?_
    refine R_getR (pc := 10) (q1 := 4) h flX5_19 lm_0 rfl dX5_fault_10 ?_
    refine R_iload_n (pc := 13) h 1 rfl rfl dX5_fault_13 ?_
    obtain ⟨v4, hv4, hF⟩ := bd hF
    refine R_iald (pc := 14) h hv4 lm_4 dX5_fault_14 ?_
    refine R_if_ge (pc := 15) (tgt := 26) h dX5_fault_15 (by decide) (fun c5 => ?_) (fun c5 => ?_)
    · have hF := itp c5 hF
      refine R_aload_n (pc := 26) h 0 rfl rfl dX5_fault_26 ?_
      refine R_iload_n (pc := 27) h 1 rfl rfl dX5_fault_27 ?_
      obtain ⟨⟨M7, r8⟩, hc6, hF⟩ := bd hF
      refine R_callV (pc := 28) (st := []) h [.int x1] cvX5_127 (c5_reads (ad := ad) (z := X.1) hc6) rfl rfl lm_0 (by decide) (by decide) (Nat.le_of_ble_eq_true rfl) dX5_fault_28 (st1 := [.int r8]) rfl ?_
      cases hF
      exact R_ireturn (pc := 31) h rfl rfl rfl dX5_fault_31
    · have hF := ifn c5 hF
      refine R_aload_n (pc := 18) h 0 rfl rfl dX5_fault_18 ?_
      refine R_iconst (pc := 19) (v := 1) h (by decide) dX5_fault_19 ?_
      obtain ⟨⟨M10, r11⟩, hc9, hF⟩ := bd hF
      refine R_callV (pc := 20) (st := []) h [.int (1 : Int32)] cvX5_81 (c5_found (ad := ad) (z := X.1) hc9) rfl rfl lm_0 (by decide) (by decide) (Nat.le_of_ble_eq_true rfl) dX5_fault_20 (st1 := [.int r11]) rfl ?_
      refine R_goto (pc := 23) (tgt := 31) h dX5_fault_23 (by decide) ?_
      cases hF
      exact R_ireturn (pc := 31) h rfl rfl rfl dX5_fault_31
  · have hF := itp c3 hF
    refine R_iconst (pc := 7) (v := (-1)) h (by decide) dX5_fault_7 ?_
    cases hF
    exact R_ireturn (pc := 8) h rfl rfl rfl dX5_fault_8
theorem c5_fault {ad : Nat → Nat} {z : ZZ} {R : Mem × Int32} {fu : Nat} {x1 : Int32} {M : Mem} (hF : f5_fault fu x1 M = some R) : Con layM ad z yX5_fault cX5_fault 2 (some .int) 5 M [.ref (ad 0), .int x1] (R.1) (some (.int R.2)) := con_of (own := RX5) (lv := [(0, .ref (ad 0)), (1, .int x1)]) (by decide +kernel) rfl (Nat.le_of_ble_eq_true rfl) rfl (fun X hz h => w5_fault h hF)
def f5_forgets_14 (fu : Nat) : Nat → Int32 → Mem → Option (Mem)
  | 0 => fun _ _ => none
  | f + 1 => fun x1 M =>
    if (3 : Int32) ≤ x1 then ((some M))
    else ((wr M 12 1110 ((370 : Int32) * x1) (-1 : Int32)).bind fun M2 =>
    nm (x1 + (1 : Int32)) fun v3 =>
    ((f5_forgets_14 fu f) v3 M2))
set_option maxHeartbeats 4000000 in
set_option maxRecDepth 10000 in
theorem w5_forgetsi_14 {ad : Nat → Nat} {X : XX} {R : Mem} {fu : Nat}  (h : Cx layM ad X cX5_forgets RX5 2 1 none (R) none)  : ∀ (f : Nat) (x1 : Int32) (M : Mem), f5_forgets_14 fu f x1 M = some R → Wp layM ad X M 14 [(0, .ref (ad 0)), (1, .int x1)] [] := by
  intro f
  induction f with
  | zero => intro x1 M hF; exact absurd hF (by simp [f5_forgets_14])
  | succ f ih =>
    intro x1 M hF
    rw [f5_forgets_14] at hF
    refine R_iload_n (pc := 14) h 1 rfl rfl dX5_forgets_14 ?_
    refine R_iconst (pc := 15) (v := 3) h (by decide) dX5_forgets_15 ?_
    refine R_icmp_ge (pc := 16) (tgt := 36) h dX5_forgets_16 (by decide) (fun c1 => ?_) (fun c1 => ?_)
    · have hF := itp c1 hF
      cases hF
      exact R_return (pc := 36) h rfl rfl rfl dX5_forgets_36
    · have hF := ifn c1 hF
      refine R_aload_n (pc := 19) h 0 rfl rfl dX5_forgets_19 ?_
      refine R_getR (pc := 20) (q1 := 12) h flX5_47 lm_0 rfl dX5_forgets_20 ?_
      refine R_sipush (pc := 23) (v := 370) h (by decide) dX5_forgets_23 ?_
      refine R_iload_n (pc := 26) h 1 rfl rfl dX5_forgets_26 ?_
      refine R_imul (pc := 27) h dX5_forgets_27 ?_
      refine R_iconst (pc := 28) (v := (-1)) h (by decide) dX5_forgets_28 ?_
      obtain ⟨M2, hM2, hF⟩ := bd hF
      refine R_iast (pc := 29) h hM2 lm_12 dX5_forgets_29 ?_
      obtain ⟨v3, hv3, hF⟩ := nm_e2 hF
      refine R_iinc (pc := 30) (lv' := [(1, .int v3), (0, .ref (ad 0))]) h 1 rfl (by decide) hv3 (by decide) rfl dX5_forgets_30 ?_
      refine R_goto (pc := 33) (tgt := 14) h dX5_forgets_33 (by decide) ?_
      exact Wp_sub (nX := 0) (lv' := [(0, .ref (ad 0)), (1, .int v3)]) [1, 0] rfl (ih _ _ hF)
theorem w5_forgets_14 {ad : Nat → Nat} {X : XX} {R : Mem} {fu : Nat}  (h : Cx layM ad X cX5_forgets RX5 2 1 none (R) none)  {f : Nat} {x1 : Int32} {M : Mem} (hF : f5_forgets_14 fu f x1 M = some R) : Wp layM ad X M 14 [(0, .ref (ad 0)), (1, .int x1)] [] := w5_forgetsi_14 h  f _ _ hF
def f5_forgets (fu : Nat) (M : Mem) : Option (Mem) :=
    (wr M 10 9 (0 : Int32) (0 : Int32)).bind fun M1 =>
    nm (sI M1 0 16 (0 : Int32)) fun M2 =>
    (f5_forgets_14 fu fu (0 : Int32) M2)
set_option maxHeartbeats 4000000 in
set_option maxRecDepth 10000 in
theorem w5_forgets {ad : Nat → Nat} {X : XX} {R : Mem} {fu : Nat} (h : Cx layM ad X cX5_forgets RX5 2 1 none (R) none) {M : Mem} (hF : f5_forgets fu M = some R) : Wp layM ad X M 0 [(0, .ref (ad 0))] [] := by
  unfold f5_forgets at hF
  refine R_aload_n (pc := 0) h 0 rfl rfl dX5_forgets_0 ?_
  refine R_getR (pc := 1) (q1 := 10) h flX5_41 lm_0 rfl dX5_forgets_1 ?_
  refine R_iconst (pc := 4) (v := 0) h (by decide) dX5_forgets_4 ?_
  refine R_iconst (pc := 5) (v := 0) h (by decide) dX5_forgets_5 ?_
  obtain ⟨M1, hM1, hF⟩ := bd hF
  refine R_iast (pc := 6) h hM1 lm_10 dX5_forgets_6 ?_
  refine R_aload_n (pc := 7) h 0 rfl rfl dX5_forgets_7 ?_
  refine R_iconst (pc := 8) (v := 0) h (by decide) dX5_forgets_8 ?_
  obtain ⟨M2, hM2, hF⟩ := nm_e2 hF
  refine R_putI (pc := 9) h hM2 fpX5_91 lm_0 rfl dX5_forgets_9 ?_
  refine R_iconst (pc := 12) (v := 0) h (by decide) dX5_forgets_12 ?_
  refine R_istore_n (pc := 13) (lv' := [(1, .int (0 : Int32)), (0, .ref (ad 0))]) h rfl rfl (by decide) rfl dX5_forgets_13 ?_
  exact Wp_sub (nX := 0) (lv' := [(0, .ref (ad 0)), (1, .int (0 : Int32))]) [1, 0] rfl (w5_forgets_14 h  (hF := hF))
theorem c5_forgets {ad : Nat → Nat} {z : ZZ} {R : Mem} {fu : Nat} {M : Mem} (hF : f5_forgets fu M = some R) : Con layM ad z yX5_forgets cX5_forgets 2 none 1 M [.ref (ad 0)] (R) none := con_of (own := RX5) (lv := [(0, .ref (ad 0))]) (by decide +kernel) rfl (Nat.le_of_ble_eq_true rfl) rfl (fun X hz h => w5_forgets h hF)
def f5_street_47 (fu : Nat) : Nat → Int32 → Mem → Option (Mem × Int32)
  | 0 => fun _ _ => none
  | f + 1 => fun x2 M =>
    if (M.1 0 9) ≤ x2 then ((f5_forgets fu M).bind fun M3 =>
    (some (M3, (M3.1 0 9))))
    else ((rd M 13 40 ((5 : Int32) * x2)).bind fun v4 =>
    (wr M 6 8 x2 v4).bind fun M5 =>
    (rd M5 13 40 (((5 : Int32) * x2) + (1 : Int32))).bind fun v6 =>
    (wr M5 10 9 ((1 : Int32) + x2) v6).bind fun M7 =>
    (rd M7 13 40 (((5 : Int32) * x2) + (2 : Int32))).bind fun v8 =>
    (wr M7 7 8 x2 v8).bind fun M9 =>
    (rd M9 13 40 (((5 : Int32) * x2) + (3 : Int32))).bind fun v10 =>
    (wr M9 8 8 x2 v10).bind fun M11 =>
    (rd M11 13 40 (((5 : Int32) * x2) + (4 : Int32))).bind fun v12 =>
    (wr M11 9 8 x2 v12).bind fun M13 =>
    nm (x2 + (1 : Int32)) fun v14 =>
    ((f5_street_47 fu f) v14 M13))
set_option maxHeartbeats 4000000 in
set_option maxRecDepth 10000 in
theorem w5_streeti_47 {ad : Nat → Nat} {X : XX} {R : Mem × Int32} {fu : Nat}  (h : Cx layM ad X cX5_street RX5 3 5 (some .int) (R.1) (some (.int R.2)))  : ∀ (f : Nat) (x2 : Int32) (M : Mem), f5_street_47 fu f x2 M = some R → Wp layM ad X M 47 [(0, .ref (ad 0)), (2, .int x2)] [] := by
  intro f
  induction f with
  | zero => intro x2 M hF; exact absurd hF (by simp [f5_street_47])
  | succ f ih =>
    intro x2 M hF
    rw [f5_street_47] at hF
    refine R_iload_n (pc := 47) h 1 rfl rfl dX5_street_47 ?_
    refine R_aload_n (pc := 48) h 0 rfl rfl dX5_street_48 ?_
    refine R_getI (pc := 49) h flX5_130 lm_0 rfl dX5_street_49 ?_
    refine R_icmp_ge (pc := 52) (tgt := 141) h dX5_street_52 (by decide) (fun c1 => ?_) (fun c1 => ?_)
    · have hF := itp c1 hF
      refine R_aload_n (pc := 141) h 0 rfl rfl dX5_street_141 ?_
      obtain ⟨M3, hc2, hF⟩ := bd hF
      refine R_callV (pc := 142) (st := []) h [] cvX5_59 (c5_forgets (ad := ad) (z := X.1) hc2) rfl rfl lm_0 (by decide) (by decide) (Nat.le_of_ble_eq_true rfl) dX5_street_142 (st1 := []) rfl ?_
      refine R_aload_n (pc := 145) h 0 rfl rfl dX5_street_145 ?_
      refine R_getI (pc := 146) h flX5_130 lm_0 rfl dX5_street_146 ?_
      cases hF
      exact R_ireturn (pc := 149) h rfl rfl rfl dX5_street_149
    · have hF := ifn c1 hF
      refine R_aload_n (pc := 55) h 0 rfl rfl dX5_street_55 ?_
      refine R_getR (pc := 56) (q1 := 6) h flX5_29 lm_0 rfl dX5_street_56 ?_
      refine R_iload_n (pc := 59) h 1 rfl rfl dX5_street_59 ?_
      refine R_aload_n (pc := 60) h 0 rfl rfl dX5_street_60 ?_
      refine R_getR (pc := 61) (q1 := 13) h flX5_50 lm_0 rfl dX5_street_61 ?_
      refine R_iconst (pc := 64) (v := 5) h (by decide) dX5_street_64 ?_
      refine R_iload_n (pc := 65) h 1 rfl rfl dX5_street_65 ?_
      refine R_imul (pc := 66) h dX5_street_66 ?_
      obtain ⟨v4, hv4, hF⟩ := bd hF
      refine R_iald (pc := 67) h hv4 lm_13 dX5_street_67 ?_
      obtain ⟨M5, hM5, hF⟩ := bd hF
      refine R_iast (pc := 68) h hM5 lm_6 dX5_street_68 ?_
      refine R_aload_n (pc := 69) h 0 rfl rfl dX5_street_69 ?_
      refine R_getR (pc := 70) (q1 := 10) h flX5_41 lm_0 rfl dX5_street_70 ?_
      refine R_iconst (pc := 73) (v := 1) h (by decide) dX5_street_73 ?_
      refine R_iload_n (pc := 74) h 1 rfl rfl dX5_street_74 ?_
      refine R_iadd (pc := 75) h dX5_street_75 ?_
      refine R_aload_n (pc := 76) h 0 rfl rfl dX5_street_76 ?_
      refine R_getR (pc := 77) (q1 := 13) h flX5_50 lm_0 rfl dX5_street_77 ?_
      refine R_iconst (pc := 80) (v := 5) h (by decide) dX5_street_80 ?_
      refine R_iload_n (pc := 81) h 1 rfl rfl dX5_street_81 ?_
      refine R_imul (pc := 82) h dX5_street_82 ?_
      refine R_iconst (pc := 83) (v := 1) h (by decide) dX5_street_83 ?_
      refine R_iadd (pc := 84) h dX5_street_84 ?_
      obtain ⟨v6, hv6, hF⟩ := bd hF
      refine R_iald (pc := 85) h hv6 lm_13 dX5_street_85 ?_
      obtain ⟨M7, hM7, hF⟩ := bd hF
      refine R_iast (pc := 86) h hM7 lm_10 dX5_street_86 ?_
      refine R_aload_n (pc := 87) h 0 rfl rfl dX5_street_87 ?_
      refine R_getR (pc := 88) (q1 := 7) h flX5_32 lm_0 rfl dX5_street_88 ?_
      refine R_iload_n (pc := 91) h 1 rfl rfl dX5_street_91 ?_
      refine R_aload_n (pc := 92) h 0 rfl rfl dX5_street_92 ?_
      refine R_getR (pc := 93) (q1 := 13) h flX5_50 lm_0 rfl dX5_street_93 ?_
      refine R_iconst (pc := 96) (v := 5) h (by decide) dX5_street_96 ?_
      refine R_iload_n (pc := 97) h 1 rfl rfl dX5_street_97 ?_
      refine R_imul (pc := 98) h dX5_street_98 ?_
      refine R_iconst (pc := 99) (v := 2) h (by decide) dX5_street_99 ?_
      refine R_iadd (pc := 100) h dX5_street_100 ?_
      obtain ⟨v8, hv8, hF⟩ := bd hF
      refine R_iald (pc := 101) h hv8 lm_13 dX5_street_101 ?_
      obtain ⟨M9, hM9, hF⟩ := bd hF
      refine R_iast (pc := 102) h hM9 lm_7 dX5_street_102 ?_
      refine R_aload_n (pc := 103) h 0 rfl rfl dX5_street_103 ?_
      refine R_getR (pc := 104) (q1 := 8) h flX5_35 lm_0 rfl dX5_street_104 ?_
      refine R_iload_n (pc := 107) h 1 rfl rfl dX5_street_107 ?_
      refine R_aload_n (pc := 108) h 0 rfl rfl dX5_street_108 ?_
      refine R_getR (pc := 109) (q1 := 13) h flX5_50 lm_0 rfl dX5_street_109 ?_
      refine R_iconst (pc := 112) (v := 5) h (by decide) dX5_street_112 ?_
      refine R_iload_n (pc := 113) h 1 rfl rfl dX5_street_113 ?_
      refine R_imul (pc := 114) h dX5_street_114 ?_
      refine R_iconst (pc := 115) (v := 3) h (by decide) dX5_street_115 ?_
      refine R_iadd (pc := 116) h dX5_street_116 ?_
      obtain ⟨v10, hv10, hF⟩ := bd hF
      refine R_iald (pc := 117) h hv10 lm_13 dX5_street_117 ?_
      obtain ⟨M11, hM11, hF⟩ := bd hF
      refine R_iast (pc := 118) h hM11 lm_8 dX5_street_118 ?_
      refine R_aload_n (pc := 119) h 0 rfl rfl dX5_street_119 ?_
      refine R_getR (pc := 120) (q1 := 9) h flX5_38 lm_0 rfl dX5_street_120 ?_
      refine R_iload_n (pc := 123) h 1 rfl rfl dX5_street_123 ?_
      refine R_aload_n (pc := 124) h 0 rfl rfl dX5_street_124 ?_
      refine R_getR (pc := 125) (q1 := 13) h flX5_50 lm_0 rfl dX5_street_125 ?_
      refine R_iconst (pc := 128) (v := 5) h (by decide) dX5_street_128 ?_
      refine R_iload_n (pc := 129) h 1 rfl rfl dX5_street_129 ?_
      refine R_imul (pc := 130) h dX5_street_130 ?_
      refine R_iconst (pc := 131) (v := 4) h (by decide) dX5_street_131 ?_
      refine R_iadd (pc := 132) h dX5_street_132 ?_
      obtain ⟨v12, hv12, hF⟩ := bd hF
      refine R_iald (pc := 133) h hv12 lm_13 dX5_street_133 ?_
      obtain ⟨M13, hM13, hF⟩ := bd hF
      refine R_iast (pc := 134) h hM13 lm_9 dX5_street_134 ?_
      obtain ⟨v14, hv14, hF⟩ := nm_e2 hF
      refine R_iinc (pc := 135) (lv' := [(2, .int v14), (0, .ref (ad 0))]) h 1 rfl (by decide) hv14 (by decide) rfl dX5_street_135 ?_
      refine R_goto (pc := 138) (tgt := 47) h dX5_street_138 (by decide) ?_
      exact Wp_sub (nX := 0) (lv' := [(0, .ref (ad 0)), (2, .int v14)]) [1, 0] rfl (ih _ _ hF)
theorem w5_street_47 {ad : Nat → Nat} {X : XX} {R : Mem × Int32} {fu : Nat}  (h : Cx layM ad X cX5_street RX5 3 5 (some .int) (R.1) (some (.int R.2)))  {f : Nat} {x2 : Int32} {M : Mem} (hF : f5_street_47 fu f x2 M = some R) : Wp layM ad X M 47 [(0, .ref (ad 0)), (2, .int x2)] [] := w5_streeti_47 h  f _ _ hF
def f5_street (fu : Nat) (x1 : Int32) (M : Mem) : Option (Mem × Int32) :=
    (f5_isText x1).bind fun r2 =>
    if r2 = 0 then ((some (M, (-1 : Int32))))
    else ((rd M 4 4 x1).bind fun v4 =>
    if 0 ≤ v4 then ((f5_reads fu x1 M).bind fun ⟨M7, r8⟩ =>
    if r8 = (-9 : Int32) then (nm (sI M7 0 9 (M7.1 0 22)) fun M10 =>
    (f5_street_47 fu fu (0 : Int32) M10))
    else ((some (M7, (-4 : Int32)))))
    else ((f5_found (1 : Int32) M).bind fun ⟨M12, r13⟩ =>
    (some (M12, r13))))
set_option maxHeartbeats 4000000 in
set_option maxRecDepth 10000 in
theorem w5_street {ad : Nat → Nat} {X : XX} {R : Mem × Int32} {fu : Nat} (h : Cx layM ad X cX5_street RX5 3 5 (some .int) (R.1) (some (.int R.2))) {x1 : Int32} {M : Mem} (hF : f5_street fu x1 M = some R) : Wp layM ad X M 0 [(0, .ref (ad 0)), (1, .int x1)] [] := by
  unfold f5_street at hF
  refine R_iload_n (pc := 0) h 1 rfl rfl dX5_street_0 ?_
  obtain ⟨r2, hc1, hF⟩ := bd hF
  refine R_callS (pc := 1) (st := []) h [.int x1] csX5_88 (c5_isText (ad := ad) (z := X.1) (M := M) hc1) rfl rfl (by decide) (by decide) (Nat.le_of_ble_eq_true rfl) dX5_street_1 (st1 := [.int r2]) rfl ?_
  refine R_if_ne (pc := 4) (tgt := 9) h dX5_street_4 (by decide) (fun c3 => ?_) (fun c3 => ?_)
  · have hF := ifn c3 hF
    refine R_aload_n (pc := 9) h 0 rfl rfl dX5_street_9 ?_
    refine R_getR (pc := 10) (q1 := 4) h flX5_19 lm_0 rfl dX5_street_10 ?_
    refine R_iload_n (pc := 13) h 1 rfl rfl dX5_street_13 ?_
    obtain ⟨v4, hv4, hF⟩ := bd hF
    refine R_iald (pc := 14) h hv4 lm_4 dX5_street_14 ?_
    refine R_if_ge (pc := 15) (tgt := 24) h dX5_street_15 (by decide) (fun c5 => ?_) (fun c5 => ?_)
    · have hF := itp c5 hF
      refine R_aload_n (pc := 24) h 0 rfl rfl dX5_street_24 ?_
      refine R_iload_n (pc := 25) h 1 rfl rfl dX5_street_25 ?_
      obtain ⟨⟨M7, r8⟩, hc6, hF⟩ := bd hF
      refine R_callV (pc := 26) (st := []) h [.int x1] cvX5_127 (c5_reads (ad := ad) (z := X.1) hc6) rfl rfl lm_0 (by decide) (by decide) (Nat.le_of_ble_eq_true rfl) dX5_street_26 (st1 := [.int r8]) rfl ?_
      refine R_bipush (pc := 29) (v := (-9)) h (by decide) dX5_street_29 ?_
      refine R_icmp_eq (pc := 31) (tgt := 37) h dX5_street_31 (by decide) (fun c9 => ?_) (fun c9 => ?_)
      · have hF := itp c9 hF
        refine R_aload_n (pc := 37) h 0 rfl rfl dX5_street_37 ?_
        refine R_aload_n (pc := 38) h 0 rfl rfl dX5_street_38 ?_
        refine R_getI (pc := 39) h flX5_113 lm_0 rfl dX5_street_39 ?_
        obtain ⟨M10, hM10, hF⟩ := nm_e2 hF
        refine R_putI (pc := 42) h hM10 fpX5_130 lm_0 rfl dX5_street_42 ?_
        refine R_iconst (pc := 45) (v := 0) h (by decide) dX5_street_45 ?_
        refine R_istore_n (pc := 46) (lv' := [(2, .int (0 : Int32)), (0, .ref (ad 0)), (1, .int x1)]) h rfl rfl (by decide) rfl dX5_street_46 ?_
        exact Wp_sub (nX := 0) (lv' := [(0, .ref (ad 0)), (2, .int (0 : Int32))]) [1, 0] rfl (w5_street_47 h  (hF := hF))
      · have hF := ifn c9 hF
        refine R_bipush (pc := 34) (v := (-4)) h (by decide) dX5_street_34 ?_
        cases hF
        exact R_ireturn (pc := 36) h rfl rfl rfl dX5_street_36
    · have hF := ifn c5 hF
      refine R_aload_n (pc := 18) h 0 rfl rfl dX5_street_18 ?_
      refine R_iconst (pc := 19) (v := 1) h (by decide) dX5_street_19 ?_
      obtain ⟨⟨M12, r13⟩, hc11, hF⟩ := bd hF
      refine R_callV (pc := 20) (st := []) h [.int (1 : Int32)] cvX5_81 (c5_found (ad := ad) (z := X.1) hc11) rfl rfl lm_0 (by decide) (by decide) (Nat.le_of_ble_eq_true rfl) dX5_street_20 (st1 := [.int r13]) rfl ?_
      cases hF
      exact R_ireturn (pc := 23) h rfl rfl rfl dX5_street_23
  · have hF := itp c3 hF
    refine R_iconst (pc := 7) (v := (-1)) h (by decide) dX5_street_7 ?_
    cases hF
    exact R_ireturn (pc := 8) h rfl rfl rfl dX5_street_8
theorem c5_street {ad : Nat → Nat} {z : ZZ} {R : Mem × Int32} {fu : Nat} {x1 : Int32} {M : Mem} (hF : f5_street fu x1 M = some R) : Con layM ad z yX5_street cX5_street 3 (some .int) 5 M [.ref (ad 0), .int x1] (R.1) (some (.int R.2)) := con_of (own := RX5) (lv := [(0, .ref (ad 0)), (1, .int x1)]) (by decide +kernel) rfl (Nat.le_of_ble_eq_true rfl) rfl (fun X hz h => w5_street h hF)
def f5_isPin (M : Mem) (x1 : Int32) : Option (Int32) :=
    (f5_in x1.toInt64 (0 : Int64) ((M.1 0 9) - (1 : Int32)).toInt64).bind fun r2 =>
    (zr r2).bind fun v3 =>
    (some v3)
set_option maxHeartbeats 4000000 in
set_option maxRecDepth 10000 in
theorem w5_isPin {ad : Nat → Nat} {X : XX} {R : Int32} {M : Mem} (h : Cx layM ad X cX5_isPin RX5 2 2 (some .boolean) M (some (.int R))) {x1 : Int32} (hF : f5_isPin M x1 = some R) : Wp layM ad X M 0 [(0, .ref (ad 0)), (1, .int x1)] [] := by
  unfold f5_isPin at hF
  refine R_iload_n (pc := 0) h 1 rfl rfl dX5_isPin_0 ?_
  refine R_i2l (pc := 1) h dX5_isPin_1 ?_
  refine R_lconst (pc := 2) (v := 0) h (by decide) dX5_isPin_2 ?_
  refine R_aload_n (pc := 3) h 0 rfl rfl dX5_isPin_3 ?_
  refine R_getI (pc := 4) h flX5_130 lm_0 rfl dX5_isPin_4 ?_
  refine R_iconst (pc := 7) (v := 1) h (by decide) dX5_isPin_7 ?_
  refine R_isub (pc := 8) h dX5_isPin_8 ?_
  refine R_i2l (pc := 9) h dX5_isPin_9 ?_
  obtain ⟨r2, hc1, hF⟩ := bd hF
  refine R_callS (pc := 10) (st := []) h [.long x1.toInt64, .long (0 : Int64), .long ((M.1 0 9) - (1 : Int32)).toInt64] csX5_71 (c5_in (ad := ad) (z := X.1) (M := M) hc1) rfl rfl (by decide) (by decide) (Nat.le_of_ble_eq_true rfl) dX5_isPin_10 (st1 := [.int r2]) rfl ?_
  obtain ⟨v3, hv3, hF⟩ := bd hF
  cases hF
  exact R_zreturn (pc := 13) h rfl hv3 rfl rfl dX5_isPin_13
theorem c5_isPin {ad : Nat → Nat} {z : ZZ} {R : Int32} {M : Mem} {x1 : Int32} (hF : f5_isPin M x1 = some R) : Con layM ad z yX5_isPin cX5_isPin 2 (some .boolean) 2 M [.ref (ad 0), .int x1] (M) (some (.int R)) := con_of (own := RX5) (lv := [(0, .ref (ad 0)), (1, .int x1)]) (by decide +kernel) rfl (Nat.le_of_ble_eq_true rfl) rfl (fun X hz h => w5_isPin h hF)
def f5_lies (M : Mem) (x1 : Int32) : Option (Int32) :=
    (rd M 10 9 ((1 : Int32) + x1)).bind fun v1 =>
    if v1 < 0 then ((some (0 : Int32)))
    else ((some (1 : Int32)))
set_option maxHeartbeats 4000000 in
set_option maxRecDepth 10000 in
theorem w5_lies {ad : Nat → Nat} {X : XX} {R : Int32} {M : Mem} (h : Cx layM ad X cX5_lies RX5 2 1 (some .boolean) M (some (.int R))) {x1 : Int32} (hF : f5_lies M x1 = some R) : Wp layM ad X M 0 [(0, .ref (ad 0)), (1, .int x1)] [] := by
  unfold f5_lies at hF
  refine R_aload_n (pc := 0) h 0 rfl rfl dX5_lies_0 ?_
  refine R_getR (pc := 1) (q1 := 10) h flX5_41 lm_0 rfl dX5_lies_1 ?_
  refine R_iconst (pc := 4) (v := 1) h (by decide) dX5_lies_4 ?_
  refine R_iload_n (pc := 5) h 1 rfl rfl dX5_lies_5 ?_
  refine R_iadd (pc := 6) h dX5_lies_6 ?_
  obtain ⟨v1, hv1, hF⟩ := bd hF
  refine R_iald (pc := 7) h hv1 lm_10 dX5_lies_7 ?_
  refine R_if_lt (pc := 8) (tgt := 15) h dX5_lies_8 (by decide) (fun c2 => ?_) (fun c2 => ?_)
  · have hF := itp c2 hF
    refine R_iconst (pc := 15) (v := 0) h (by decide) dX5_lies_15 ?_
    cases hF
    exact R_zreturn (pc := 16) h rfl zr0 rfl rfl dX5_lies_16
  · have hF := ifn c2 hF
    refine R_iconst (pc := 11) (v := 1) h (by decide) dX5_lies_11 ?_
    refine R_goto (pc := 12) (tgt := 16) h dX5_lies_12 (by decide) ?_
    cases hF
    exact R_zreturn (pc := 16) h rfl zr1 rfl rfl dX5_lies_16
theorem c5_lies {ad : Nat → Nat} {z : ZZ} {R : Int32} {M : Mem} {x1 : Int32} (hF : f5_lies M x1 = some R) : Con layM ad z yX5_lies cX5_lies 2 (some .boolean) 1 M [.ref (ad 0), .int x1] (M) (some (.int R)) := con_of (own := RX5) (lv := [(0, .ref (ad 0)), (1, .int x1)]) (by decide +kernel) rfl (Nat.le_of_ble_eq_true rfl) rfl (fun X hz h => w5_lies h hF)
def f5_hoursOf (M : Mem) (x1 : Int32) : Option (Int32) :=
    (rd M 8 8 x1).bind fun v1 =>
    (rd M 7 8 x1).bind fun v2 =>
    (some ((((1 : Int32) <<< (v1 &&& 31)) - (1 : Int32)) <<< (v2 &&& 31)))
set_option maxHeartbeats 4000000 in
set_option maxRecDepth 10000 in
theorem w5_hoursOf {ad : Nat → Nat} {X : XX} {R : Int32} {M : Mem} (h : Cx layM ad X cX5_hoursOf RX5 2 1 (some .int) M (some (.int R))) {x1 : Int32} (hF : f5_hoursOf M x1 = some R) : Wp layM ad X M 0 [(0, .ref (ad 0)), (1, .int x1)] [] := by
  unfold f5_hoursOf at hF
  refine R_iconst (pc := 0) (v := 1) h (by decide) dX5_hoursOf_0 ?_
  refine R_aload_n (pc := 1) h 0 rfl rfl dX5_hoursOf_1 ?_
  refine R_getR (pc := 2) (q1 := 8) h flX5_35 lm_0 rfl dX5_hoursOf_2 ?_
  refine R_iload_n (pc := 5) h 1 rfl rfl dX5_hoursOf_5 ?_
  obtain ⟨v1, hv1, hF⟩ := bd hF
  refine R_iald (pc := 6) h hv1 lm_8 dX5_hoursOf_6 ?_
  refine R_ishl (pc := 7) h dX5_hoursOf_7 ?_
  refine R_iconst (pc := 8) (v := 1) h (by decide) dX5_hoursOf_8 ?_
  refine R_isub (pc := 9) h dX5_hoursOf_9 ?_
  refine R_aload_n (pc := 10) h 0 rfl rfl dX5_hoursOf_10 ?_
  refine R_getR (pc := 11) (q1 := 7) h flX5_32 lm_0 rfl dX5_hoursOf_11 ?_
  refine R_iload_n (pc := 14) h 1 rfl rfl dX5_hoursOf_14 ?_
  obtain ⟨v2, hv2, hF⟩ := bd hF
  refine R_iald (pc := 15) h hv2 lm_7 dX5_hoursOf_15 ?_
  refine R_ishl (pc := 16) h dX5_hoursOf_16 ?_
  cases hF
  exact R_ireturn (pc := 17) h rfl rfl rfl dX5_hoursOf_17
theorem c5_hoursOf {ad : Nat → Nat} {z : ZZ} {R : Int32} {M : Mem} {x1 : Int32} (hF : f5_hoursOf M x1 = some R) : Con layM ad z yX5_hoursOf cX5_hoursOf 2 (some .int) 1 M [.ref (ad 0), .int x1] (M) (some (.int R)) := con_of (own := RX5) (lv := [(0, .ref (ad 0)), (1, .int x1)]) (by decide +kernel) rfl (Nat.le_of_ble_eq_true rfl) rfl (fun X hz h => w5_hoursOf h hF)
def f5_has (x0 : Int32) (x1 : Int32) : Option (Int32) :=
    if ((x0 >>> (x1 &&& 31)) &&& (1 : Int32)) = (1 : Int32) then ((some (1 : Int32)))
    else ((some (0 : Int32)))
set_option maxHeartbeats 4000000 in
set_option maxRecDepth 10000 in
theorem w5_has {ad : Nat → Nat} {X : XX} {R : Int32} {M : Mem} (h : Cx layM ad X cX5_has RX5 2 1 (some .boolean) M (some (.int R))) {x0 : Int32} {x1 : Int32} (hF : f5_has x0 x1 = some R) : Wp layM ad X M 0 [(0, .int x0), (1, .int x1)] [] := by
  unfold f5_has at hF
  refine R_iload_n (pc := 0) h 0 rfl rfl dX5_has_0 ?_
  refine R_iload_n (pc := 1) h 1 rfl rfl dX5_has_1 ?_
  refine R_ishr (pc := 2) h dX5_has_2 ?_
  refine R_iconst (pc := 3) (v := 1) h (by decide) dX5_has_3 ?_
  refine R_iand (pc := 4) h dX5_has_4 ?_
  refine R_iconst (pc := 5) (v := 1) h (by decide) dX5_has_5 ?_
  refine R_icmp_ne (pc := 6) (tgt := 13) h dX5_has_6 (by decide) (fun c1 => ?_) (fun c1 => ?_)
  · have hF := ifn c1 hF
    refine R_iconst (pc := 13) (v := 0) h (by decide) dX5_has_13 ?_
    cases hF
    exact R_zreturn (pc := 14) h rfl zr0 rfl rfl dX5_has_14
  · have hF := itp c1 hF
    refine R_iconst (pc := 9) (v := 1) h (by decide) dX5_has_9 ?_
    refine R_goto (pc := 10) (tgt := 14) h dX5_has_10 (by decide) ?_
    cases hF
    exact R_zreturn (pc := 14) h rfl zr1 rfl rfl dX5_has_14
theorem c5_has {ad : Nat → Nat} {z : ZZ} {R : Int32} {M : Mem} {x0 : Int32} {x1 : Int32} (hF : f5_has x0 x1 = some R) : Con layM ad z yX5_has cX5_has 2 (some .boolean) 1 M [.int x0, .int x1] (M) (some (.int R)) := con_of (own := RX5) (lv := [(0, .int x0), (1, .int x1)]) (by decide +kernel) rfl (Nat.le_of_ble_eq_true rfl) rfl (fun X hz h => w5_has h hF)
def f5_worthBy_19 (M : Mem) (x1 : Int32) (x2 : Int32) (x3 : Int32) (s0 : Int32) : Option (Int32) :=
    if x1 = 1 then ((some (x3 - (10 : Int32))))
    else if x1 = 2 then ((some s0))
    else if x1 = 3 then ((rd M 8 8 x2).bind fun v4 =>
    (some (x3 * v4)))
    else if x1 = 4 then ((some ((2 : Int32) * s0)))
    else if x1 = 5 then ((rd M 8 8 x2).bind fun v7 =>
    (some ((x3 - (10 : Int32)) - v7)))
    else ((some x3))
set_option maxHeartbeats 4000000 in
set_option maxRecDepth 10000 in
theorem w5_worthBy_19 {ad : Nat → Nat} {X : XX} {R : Int32} {M : Mem}  (h : Cx layM ad X cX5_worthBy RX5 5 2 (some .int) M (some (.int R)))  {x1 : Int32} {x2 : Int32} {x3 : Int32} {s0 : Int32} (hF : f5_worthBy_19 M x1 x2 x3 s0 = some R) : Wp layM ad X M 19 [(0, .ref (ad 0)), (1, .int x1), (2, .int x2), (3, .int x3)] [.int s0] := by
  unfold f5_worthBy_19 at hF
  refine R_istore (pc := 19) (lv' := [(4, .int s0), (0, .ref (ad 0)), (1, .int x1), (2, .int x2), (3, .int x3)]) h rfl (by decide) rfl dX5_worthBy_19 ?_
  refine R_iload_n (pc := 21) h 2 rfl rfl dX5_worthBy_21 ?_
  by_cases c1 : x1 = 1
  · have hF := itp c1 hF
    refine R_tableIn (pc := 22) (off := 34) (tgt := 56) h dX5_worthBy_22 (by rw [c1]; decide +kernel) (by rw [c1]; decide +kernel) (by rw [c1]; decide +kernel) (by decide) ?_
    refine R_iload_n (pc := 56) h 4 rfl rfl dX5_worthBy_56 ?_
    refine R_bipush (pc := 57) (v := 10) h (by decide) dX5_worthBy_57 ?_
    refine R_isub (pc := 59) h dX5_worthBy_59 ?_
    cases hF
    exact R_ireturn (pc := 60) h rfl rfl rfl dX5_worthBy_60
  have hF := ifn c1 hF
  by_cases c2 : x1 = 2
  · have hF := itp c2 hF
    refine R_tableIn (pc := 22) (off := 39) (tgt := 61) h dX5_worthBy_22 (by rw [c2]; decide +kernel) (by rw [c2]; decide +kernel) (by rw [c2]; decide +kernel) (by decide) ?_
    refine R_iload (pc := 61) h 0 rfl dX5_worthBy_61 ?_
    cases hF
    exact R_ireturn (pc := 63) h rfl rfl rfl dX5_worthBy_63
  have hF := ifn c2 hF
  by_cases c3 : x1 = 3
  · have hF := itp c3 hF
    refine R_tableIn (pc := 22) (off := 42) (tgt := 64) h dX5_worthBy_22 (by rw [c3]; decide +kernel) (by rw [c3]; decide +kernel) (by rw [c3]; decide +kernel) (by decide) ?_
    refine R_iload_n (pc := 64) h 4 rfl rfl dX5_worthBy_64 ?_
    refine R_aload_n (pc := 65) h 1 rfl rfl dX5_worthBy_65 ?_
    refine R_getR (pc := 66) (q1 := 8) h flX5_35 lm_0 rfl dX5_worthBy_66 ?_
    refine R_iload_n (pc := 69) h 3 rfl rfl dX5_worthBy_69 ?_
    obtain ⟨v4, hv4, hF⟩ := bd hF
    refine R_iald (pc := 70) h hv4 lm_8 dX5_worthBy_70 ?_
    refine R_imul (pc := 71) h dX5_worthBy_71 ?_
    cases hF
    exact R_ireturn (pc := 72) h rfl rfl rfl dX5_worthBy_72
  have hF := ifn c3 hF
  by_cases c5 : x1 = 4
  · have hF := itp c5 hF
    refine R_tableIn (pc := 22) (off := 51) (tgt := 73) h dX5_worthBy_22 (by rw [c5]; decide +kernel) (by rw [c5]; decide +kernel) (by rw [c5]; decide +kernel) (by decide) ?_
    refine R_iconst (pc := 73) (v := 2) h (by decide) dX5_worthBy_73 ?_
    refine R_iload (pc := 74) h 0 rfl dX5_worthBy_74 ?_
    refine R_imul (pc := 76) h dX5_worthBy_76 ?_
    cases hF
    exact R_ireturn (pc := 77) h rfl rfl rfl dX5_worthBy_77
  have hF := ifn c5 hF
  by_cases c6 : x1 = 5
  · have hF := itp c6 hF
    refine R_tableIn (pc := 22) (off := 56) (tgt := 78) h dX5_worthBy_22 (by rw [c6]; decide +kernel) (by rw [c6]; decide +kernel) (by rw [c6]; decide +kernel) (by decide) ?_
    refine R_iload_n (pc := 78) h 4 rfl rfl dX5_worthBy_78 ?_
    refine R_bipush (pc := 79) (v := 10) h (by decide) dX5_worthBy_79 ?_
    refine R_isub (pc := 81) h dX5_worthBy_81 ?_
    refine R_aload_n (pc := 82) h 1 rfl rfl dX5_worthBy_82 ?_
    refine R_getR (pc := 83) (q1 := 8) h flX5_35 lm_0 rfl dX5_worthBy_83 ?_
    refine R_iload_n (pc := 86) h 3 rfl rfl dX5_worthBy_86 ?_
    obtain ⟨v7, hv7, hF⟩ := bd hF
    refine R_iald (pc := 87) h hv7 lm_8 dX5_worthBy_87 ?_
    refine R_isub (pc := 88) h dX5_worthBy_88 ?_
    cases hF
    exact R_ireturn (pc := 89) h rfl rfl rfl dX5_worthBy_89
  have hF := ifn c6 hF
  refine R_tableOut (pc := 22) (tgt := 90) h dX5_worthBy_22 (by have e0 := lv_neT c1 (a := 1) (by decide); have e1 := lv_neT c2 (a := 2) (by decide); have e2 := lv_neT c3 (a := 3) (by decide); have e3 := lv_neT c5 (a := 4) (by decide); have e4 := lv_neT c6 (a := 5) (by decide); omega) (by decide) ?_
  refine R_iload_n (pc := 90) h 4 rfl rfl dX5_worthBy_90 ?_
  cases hF
  exact R_ireturn (pc := 91) h rfl rfl rfl dX5_worthBy_91
def f5_worthBy (M : Mem) (x1 : Int32) (x2 : Int32) (x3 : Int32) : Option (Int32) :=
    (f5_hoursOf M x2).bind fun r2 =>
    (f5_has r2 (5 : Int32)).bind fun r4 =>
    if r4 = 0 then ((f5_worthBy_19 M x1 x2 x3 x3))
    else ((f5_worthBy_19 M x1 x2 x3 (x3 + (3 : Int32))))
set_option maxHeartbeats 4000000 in
set_option maxRecDepth 10000 in
theorem w5_worthBy {ad : Nat → Nat} {X : XX} {R : Int32} {M : Mem} (h : Cx layM ad X cX5_worthBy RX5 5 2 (some .int) M (some (.int R))) {x1 : Int32} {x2 : Int32} {x3 : Int32} (hF : f5_worthBy M x1 x2 x3 = some R) : Wp layM ad X M 0 [(0, .ref (ad 0)), (1, .int x1), (2, .int x2), (3, .int x3)] [] := by
  unfold f5_worthBy at hF
  refine R_aload_n (pc := 0) h 0 rfl rfl dX5_worthBy_0 ?_
  refine R_iload_n (pc := 1) h 2 rfl rfl dX5_worthBy_1 ?_
  obtain ⟨r2, hc1, hF⟩ := bd hF
  refine R_callV (pc := 2) (st := []) h [.int x2] cvX5_136 (c5_hoursOf (ad := ad) (z := X.1) hc1) rfl rfl lm_0 (by decide) (by decide) (Nat.le_of_ble_eq_true rfl) dX5_worthBy_2 (st1 := [.int r2]) rfl ?_
  refine R_iconst (pc := 5) (v := 5) h (by decide) dX5_worthBy_5 ?_
  obtain ⟨r4, hc3, hF⟩ := bd hF
  refine R_callS (pc := 6) (st := []) h [.int r2, .int (5 : Int32)] csX5_139 (c5_has (ad := ad) (z := X.1) (M := M) hc3) rfl rfl (by decide) (by decide) (Nat.le_of_ble_eq_true rfl) dX5_worthBy_6 (st1 := [.int r4]) rfl ?_
  refine R_if_eq (pc := 9) (tgt := 18) h dX5_worthBy_9 (by decide) (fun c5 => ?_) (fun c5 => ?_)
  · have hF := itp c5 hF
    refine R_iload_n (pc := 18) h 3 rfl rfl dX5_worthBy_18 ?_
    exact Wp_sub (nX := 0) (lv' := [(0, .ref (ad 0)), (1, .int x1), (2, .int x2), (3, .int x3)]) [0, 1, 2, 3] rfl (w5_worthBy_19 h  (hF := hF))
  · have hF := ifn c5 hF
    refine R_iload_n (pc := 12) h 3 rfl rfl dX5_worthBy_12 ?_
    refine R_iconst (pc := 13) (v := 3) h (by decide) dX5_worthBy_13 ?_
    refine R_iadd (pc := 14) h dX5_worthBy_14 ?_
    refine R_goto (pc := 15) (tgt := 19) h dX5_worthBy_15 (by decide) ?_
    exact Wp_sub (nX := 0) (lv' := [(0, .ref (ad 0)), (1, .int x1), (2, .int x2), (3, .int x3)]) [0, 1, 2, 3] rfl (w5_worthBy_19 h  (hF := hF))
theorem c5_worthBy {ad : Nat → Nat} {z : ZZ} {R : Int32} {M : Mem} {x1 : Int32} {x2 : Int32} {x3 : Int32} (hF : f5_worthBy M x1 x2 x3 = some R) : Con layM ad z yX5_worthBy cX5_worthBy 5 (some .int) 2 M [.ref (ad 0), .int x1, .int x2, .int x3] (M) (some (.int R)) := con_of (own := RX5) (lv := [(0, .ref (ad 0)), (1, .int x1), (2, .int x2), (3, .int x3)]) (by decide +kernel) rfl (Nat.le_of_ble_eq_true rfl) rfl (fun X hz h => w5_worthBy h hF)
def f5_worthOf (M : Mem) (x1 : Int32) : Option (Int32) :=
    (rd M 6 8 x1).bind fun v1 =>
    (rd M 9 8 x1).bind fun v2 =>
    (f5_worthBy M v1 x1 v2).bind fun r4 =>
    (some r4)
set_option maxHeartbeats 4000000 in
set_option maxRecDepth 10000 in
theorem w5_worthOf {ad : Nat → Nat} {X : XX} {R : Int32} {M : Mem} (h : Cx layM ad X cX5_worthOf RX5 2 3 (some .int) M (some (.int R))) {x1 : Int32} (hF : f5_worthOf M x1 = some R) : Wp layM ad X M 0 [(0, .ref (ad 0)), (1, .int x1)] [] := by
  unfold f5_worthOf at hF
  refine R_aload_n (pc := 0) h 0 rfl rfl dX5_worthOf_0 ?_
  refine R_aload_n (pc := 1) h 0 rfl rfl dX5_worthOf_1 ?_
  refine R_getR (pc := 2) (q1 := 6) h flX5_29 lm_0 rfl dX5_worthOf_2 ?_
  refine R_iload_n (pc := 5) h 1 rfl rfl dX5_worthOf_5 ?_
  obtain ⟨v1, hv1, hF⟩ := bd hF
  refine R_iald (pc := 6) h hv1 lm_6 dX5_worthOf_6 ?_
  refine R_iload_n (pc := 7) h 1 rfl rfl dX5_worthOf_7 ?_
  refine R_aload_n (pc := 8) h 0 rfl rfl dX5_worthOf_8 ?_
  refine R_getR (pc := 9) (q1 := 9) h flX5_38 lm_0 rfl dX5_worthOf_9 ?_
  refine R_iload_n (pc := 12) h 1 rfl rfl dX5_worthOf_12 ?_
  obtain ⟨v2, hv2, hF⟩ := bd hF
  refine R_iald (pc := 13) h hv2 lm_9 dX5_worthOf_13 ?_
  obtain ⟨r4, hc3, hF⟩ := bd hF
  refine R_callV (pc := 14) (st := []) h [.int v1, .int x1, .int v2] cvX5_142 (c5_worthBy (ad := ad) (z := X.1) hc3) rfl rfl lm_0 (by decide) (by decide) (Nat.le_of_ble_eq_true rfl) dX5_worthOf_14 (st1 := [.int r4]) rfl ?_
  cases hF
  exact R_ireturn (pc := 17) h rfl rfl rfl dX5_worthOf_17
theorem c5_worthOf {ad : Nat → Nat} {z : ZZ} {R : Int32} {M : Mem} {x1 : Int32} (hF : f5_worthOf M x1 = some R) : Con layM ad z yX5_worthOf cX5_worthOf 2 (some .int) 3 M [.ref (ad 0), .int x1] (M) (some (.int R)) := con_of (own := RX5) (lv := [(0, .ref (ad 0)), (1, .int x1)]) (by decide +kernel) rfl (Nat.le_of_ble_eq_true rfl) rfl (fun X hz h => w5_worthOf h hF)
