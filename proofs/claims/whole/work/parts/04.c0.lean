theorem dX4_rowAt_0 : decode cX4_rowAt 0 = .ok (.iload_n 1, 1) := by decide +kernel
theorem dX4_rowAt_1 : decode cX4_rowAt 1 = .ok (.ifCond .lt 18, 3) := by decide +kernel
theorem dX4_rowAt_4 : decode cX4_rowAt 4 = .ok (.iload_n 1, 1) := by decide +kernel
theorem dX4_rowAt_5 : decode cX4_rowAt 5 = .ok (.bipush 6, 2) := by decide +kernel
theorem dX4_rowAt_7 : decode cX4_rowAt 7 = .ok (.if_icmp .ge 12, 3) := by decide +kernel
theorem dX4_rowAt_10 : decode cX4_rowAt 10 = .ok (.aload_n 0, 1) := by decide +kernel
theorem dX4_rowAt_11 : decode cX4_rowAt 11 = .ok (.getfield 11, 3) := by decide +kernel
theorem dX4_rowAt_14 : decode cX4_rowAt 14 = .ok (.iload_n 1, 1) := by decide +kernel
theorem dX4_rowAt_15 : decode cX4_rowAt 15 = .ok (.aaload, 1) := by decide +kernel
theorem dX4_rowAt_16 : decode cX4_rowAt 16 = .ok (.goto 4, 3) := by decide +kernel
theorem dX4_rowAt_19 : decode cX4_rowAt 19 = .ok (.aconst_null, 1) := by decide +kernel
theorem dX4_rowAt_20 : decode cX4_rowAt 20 = .ok (.areturn, 1) := by decide +kernel
theorem dX4_makeCells_0 : decode cX4_makeCells 0 = .ok (.aload_n 1, 1) := by decide +kernel
theorem dX4_makeCells_1 : decode cX4_makeCells 1 = .ok (.ifnull 8, 3) := by decide +kernel
theorem dX4_makeCells_4 : decode cX4_makeCells 4 = .ok (.iload_n 2, 1) := by decide +kernel
theorem dX4_makeCells_5 : decode cX4_makeCells 5 = .ok (.iload_n 3, 1) := by decide +kernel
theorem dX4_makeCells_6 : decode cX4_makeCells 6 = .ok (.if_icmp .le 5, 3) := by decide +kernel
theorem dX4_makeCells_9 : decode cX4_makeCells 9 = .ok (.iconst (-1), 1) := by decide +kernel
theorem dX4_makeCells_10 : decode cX4_makeCells 10 = .ok (.ireturn, 1) := by decide +kernel
theorem dX4_makeCells_11 : decode cX4_makeCells 11 = .ok (.iload_n 2, 1) := by decide +kernel
theorem dX4_makeCells_12 : decode cX4_makeCells 12 = .ok (.ifCond .ge 9, 3) := by decide +kernel
theorem dX4_makeCells_15 : decode cX4_makeCells 15 = .ok (.aload_n 0, 1) := by decide +kernel
theorem dX4_makeCells_16 : decode cX4_makeCells 16 = .ok (.iconst 5, 1) := by decide +kernel
theorem dX4_makeCells_17 : decode cX4_makeCells 17 = .ok (.invokevirtual 78, 3) := by decide +kernel
theorem dX4_makeCells_20 : decode cX4_makeCells 20 = .ok (.ireturn, 1) := by decide +kernel
theorem dX4_makeCells_21 : decode cX4_makeCells 21 = .ok (.aload_n 1, 1) := by decide +kernel
theorem dX4_makeCells_22 : decode cX4_makeCells 22 = .ok (.iload_n 2, 1) := by decide +kernel
theorem dX4_makeCells_23 : decode cX4_makeCells 23 = .ok (.iload 4, 2) := by decide +kernel
theorem dX4_makeCells_25 : decode cX4_makeCells 25 = .ok (.invokevirtual 287, 3) := by decide +kernel
theorem dX4_makeCells_28 : decode cX4_makeCells 28 = .ok (.iload_n 2, 1) := by decide +kernel
theorem dX4_makeCells_29 : decode cX4_makeCells 29 = .ok (.ireturn, 1) := by decide +kernel
theorem dX0_begin_0 : decode cX0_begin 0 = .ok (.aload_n 0, 1) := by decide +kernel
theorem dX0_begin_1 : decode cX0_begin 1 = .ok (.iload_n 1, 1) := by decide +kernel
theorem dX0_begin_2 : decode cX0_begin 2 = .ok (.aload_n 0, 1) := by decide +kernel
theorem dX0_begin_3 : decode cX0_begin 3 = .ok (.getfield 15, 3) := by decide +kernel
theorem dX0_begin_6 : decode cX0_begin 6 = .ok (.arraylength, 1) := by decide +kernel
theorem dX0_begin_7 : decode cX0_begin 7 = .ok (.invokestatic 19, 3) := by decide +kernel
theorem dX0_begin_10 : decode cX0_begin 10 = .ok (.putfield 9, 3) := by decide +kernel
theorem dX0_begin_13 : decode cX0_begin 13 = .ok (.iconst 0, 1) := by decide +kernel
theorem dX0_begin_14 : decode cX0_begin 14 = .ok (.istore_n 3, 1) := by decide +kernel
theorem dX0_begin_15 : decode cX0_begin 15 = .ok (.iload_n 3, 1) := by decide +kernel
theorem dX0_begin_16 : decode cX0_begin 16 = .ok (.aload_n 0, 1) := by decide +kernel
theorem dX0_begin_17 : decode cX0_begin 17 = .ok (.getfield 9, 3) := by decide +kernel
theorem dX0_begin_20 : decode cX0_begin 20 = .ok (.if_icmp .ge 16, 3) := by decide +kernel
theorem dX0_begin_23 : decode cX0_begin 23 = .ok (.aload_n 0, 1) := by decide +kernel
theorem dX0_begin_24 : decode cX0_begin 24 = .ok (.getfield 15, 3) := by decide +kernel
theorem dX0_begin_27 : decode cX0_begin 27 = .ok (.iload_n 3, 1) := by decide +kernel
theorem dX0_begin_28 : decode cX0_begin 28 = .ok (.iload_n 2, 1) := by decide +kernel
theorem dX0_begin_29 : decode cX0_begin 29 = .ok (.iastore, 1) := by decide +kernel
theorem dX0_begin_30 : decode cX0_begin 30 = .ok (.iinc 3 1, 3) := by decide +kernel
theorem dX0_begin_33 : decode cX0_begin 33 = .ok (.goto (-18), 3) := by decide +kernel
theorem dX0_begin_36 : decode cX0_begin 36 = .ok (.return_, 1) := by decide +kernel
theorem dX4_find_0 : decode cX4_find 0 = .ok (.aload_n 0, 1) := by decide +kernel
theorem dX4_find_1 : decode cX4_find 1 = .ok (.iload_n 1, 1) := by decide +kernel
theorem dX4_find_2 : decode cX4_find 2 = .ok (.putfield 35, 3) := by decide +kernel
theorem dX4_find_5 : decode cX4_find 5 = .ok (.iload_n 1, 1) := by decide +kernel
theorem dX4_find_6 : decode cX4_find 6 = .ok (.iconst 1, 1) := by decide +kernel
theorem dX4_find_7 : decode cX4_find 7 = .ok (.if_icmp .lt 18, 3) := by decide +kernel
theorem dX4_find_10 : decode cX4_find 10 = .ok (.iload_n 1, 1) := by decide +kernel
theorem dX4_find_11 : decode cX4_find 11 = .ok (.iconst 5, 1) := by decide +kernel
theorem dX4_find_12 : decode cX4_find 12 = .ok (.if_icmp .gt 13, 3) := by decide +kernel
theorem dX4_find_15 : decode cX4_find 15 = .ok (.aload_n 0, 1) := by decide +kernel
theorem dX4_find_16 : decode cX4_find 16 = .ok (.getfield 31, 3) := by decide +kernel
theorem dX4_find_19 : decode cX4_find 19 = .ok (.iload_n 1, 1) := by decide +kernel
theorem dX4_find_20 : decode cX4_find 20 = .ok (.dup2, 1) := by decide +kernel
theorem dX4_find_21 : decode cX4_find 21 = .ok (.iaload, 1) := by decide +kernel
theorem dX4_find_22 : decode cX4_find 22 = .ok (.iconst 1, 1) := by decide +kernel
theorem dX4_find_23 : decode cX4_find 23 = .ok (.iadd, 1) := by decide +kernel
theorem dX4_find_24 : decode cX4_find 24 = .ok (.iastore, 1) := by decide +kernel
theorem dX4_find_25 : decode cX4_find 25 = .ok (.bipush (-3), 2) := by decide +kernel
theorem dX4_find_27 : decode cX4_find 27 = .ok (.ireturn, 1) := by decide +kernel
theorem dX4_row_0 : decode cX4_row 0 = .ok (.aload_n 0, 1) := by decide +kernel
theorem dX4_row_1 : decode cX4_row 1 = .ok (.aload_n 0, 1) := by decide +kernel
theorem dX4_row_2 : decode cX4_row 2 = .ok (.iload_n 1, 1) := by decide +kernel
theorem dX4_row_3 : decode cX4_row 3 = .ok (.invokevirtual 51, 3) := by decide +kernel
theorem dX4_row_6 : decode cX4_row 6 = .ok (.iload_n 2, 1) := by decide +kernel
theorem dX4_row_7 : decode cX4_row 7 = .ok (.bipush 40, 2) := by decide +kernel
theorem dX4_row_9 : decode cX4_row 9 = .ok (.iconst 0, 1) := by decide +kernel
theorem dX4_row_10 : decode cX4_row 10 = .ok (.invokevirtual 55, 3) := by decide +kernel
theorem dX4_row_13 : decode cX4_row 13 = .ok (.ireturn, 1) := by decide +kernel
theorem dX4_refuseMissing_0 : decode cX4_refuseMissing 0 = .ok (.aload_n 1, 1) := by decide +kernel
theorem dX4_refuseMissing_1 : decode cX4_refuseMissing 1 = .ok (.ifnonnull 5, 3) := by decide +kernel
theorem dX4_refuseMissing_4 : decode cX4_refuseMissing 4 = .ok (.iconst (-1), 1) := by decide +kernel
theorem dX4_refuseMissing_5 : decode cX4_refuseMissing 5 = .ok (.ireturn, 1) := by decide +kernel
theorem dX4_refuseMissing_6 : decode cX4_refuseMissing 6 = .ok (.aload_n 1, 1) := by decide +kernel
theorem dX4_refuseMissing_7 : decode cX4_refuseMissing 7 = .ok (.invokevirtual 81, 3) := by decide +kernel
theorem dX4_refuseMissing_10 : decode cX4_refuseMissing 10 = .ok (.ifCond .eq 11, 3) := by decide +kernel
theorem dX4_refuseMissing_13 : decode cX4_refuseMissing 13 = .ok (.aload_n 0, 1) := by decide +kernel
theorem dX4_refuseMissing_14 : decode cX4_refuseMissing 14 = .ok (.iconst 1, 1) := by decide +kernel
theorem dX4_refuseMissing_15 : decode cX4_refuseMissing 15 = .ok (.invokevirtual 78, 3) := by decide +kernel
theorem dX4_refuseMissing_18 : decode cX4_refuseMissing 18 = .ok (.goto 4, 3) := by decide +kernel
theorem dX4_refuseMissing_21 : decode cX4_refuseMissing 21 = .ok (.iconst 0, 1) := by decide +kernel
theorem dX4_refuseMissing_22 : decode cX4_refuseMissing 22 = .ok (.ireturn, 1) := by decide +kernel
theorem dX4_refusePlace_0 : decode cX4_refusePlace 0 = .ok (.aload_n 0, 1) := by decide +kernel
theorem dX4_refusePlace_1 : decode cX4_refusePlace 1 = .ok (.aload_n 1, 1) := by decide +kernel
theorem dX4_refusePlace_2 : decode cX4_refusePlace 2 = .ok (.invokevirtual 71, 3) := by decide +kernel
theorem dX4_refusePlace_5 : decode cX4_refusePlace 5 = .ok (.istore_n 3, 1) := by decide +kernel
theorem dX4_refusePlace_6 : decode cX4_refusePlace 6 = .ok (.aload_n 1, 1) := by decide +kernel
theorem dX4_refusePlace_7 : decode cX4_refusePlace 7 = .ok (.ifnull 7, 3) := by decide +kernel
theorem dX4_refusePlace_10 : decode cX4_refusePlace 10 = .ok (.iload_n 3, 1) := by decide +kernel
theorem dX4_refusePlace_11 : decode cX4_refusePlace 11 = .ok (.ifCond .eq 5, 3) := by decide +kernel
theorem dX4_refusePlace_14 : decode cX4_refusePlace 14 = .ok (.iload_n 3, 1) := by decide +kernel
theorem dX4_refusePlace_15 : decode cX4_refusePlace 15 = .ok (.ireturn, 1) := by decide +kernel
theorem dX4_refusePlace_16 : decode cX4_refusePlace 16 = .ok (.aload_n 1, 1) := by decide +kernel
theorem dX4_refusePlace_17 : decode cX4_refusePlace 17 = .ok (.iload_n 2, 1) := by decide +kernel
theorem dX4_refusePlace_18 : decode cX4_refusePlace 18 = .ok (.invokevirtual 290, 3) := by decide +kernel
theorem dX4_refusePlace_21 : decode cX4_refusePlace 21 = .ok (.ifCond .eq 7, 3) := by decide +kernel
theorem dX4_refusePlace_24 : decode cX4_refusePlace 24 = .ok (.iconst 0, 1) := by decide +kernel
theorem dX4_refusePlace_25 : decode cX4_refusePlace 25 = .ok (.goto 8, 3) := by decide +kernel
theorem dX4_refusePlace_28 : decode cX4_refusePlace 28 = .ok (.aload_n 0, 1) := by decide +kernel
theorem dX4_refusePlace_29 : decode cX4_refusePlace 29 = .ok (.iconst 2, 1) := by decide +kernel
theorem dX4_refusePlace_30 : decode cX4_refusePlace 30 = .ok (.invokevirtual 78, 3) := by decide +kernel
theorem dX4_refusePlace_33 : decode cX4_refusePlace 33 = .ok (.ireturn, 1) := by decide +kernel
theorem dX0_isMissing_0 : decode cX0_isMissing 0 = .ok (.aload_n 0, 1) := by decide +kernel
theorem dX0_isMissing_1 : decode cX0_isMissing 1 = .ok (.getfield 9, 3) := by decide +kernel
theorem dX0_isMissing_4 : decode cX0_isMissing 4 = .ok (.ifCond .ge 7, 3) := by decide +kernel
theorem dX0_isMissing_7 : decode cX0_isMissing 7 = .ok (.iconst 1, 1) := by decide +kernel
theorem dX0_isMissing_8 : decode cX0_isMissing 8 = .ok (.goto 4, 3) := by decide +kernel
theorem dX0_isMissing_11 : decode cX0_isMissing 11 = .ok (.iconst 0, 1) := by decide +kernel
theorem dX0_isMissing_12 : decode cX0_isMissing 12 = .ok (.ireturn, 1) := by decide +kernel
theorem dX0_hasCell_0 : decode cX0_hasCell 0 = .ok (.iload_n 1, 1) := by decide +kernel
theorem dX0_hasCell_1 : decode cX0_hasCell 1 = .ok (.ifCond .lt 15, 3) := by decide +kernel
theorem dX0_hasCell_4 : decode cX0_hasCell 4 = .ok (.iload_n 1, 1) := by decide +kernel
theorem dX0_hasCell_5 : decode cX0_hasCell 5 = .ok (.aload_n 0, 1) := by decide +kernel
theorem dX0_hasCell_6 : decode cX0_hasCell 6 = .ok (.getfield 9, 3) := by decide +kernel
theorem dX0_hasCell_9 : decode cX0_hasCell 9 = .ok (.if_icmp .ge 7, 3) := by decide +kernel
theorem dX0_hasCell_12 : decode cX0_hasCell 12 = .ok (.iconst 1, 1) := by decide +kernel
theorem dX0_hasCell_13 : decode cX0_hasCell 13 = .ok (.goto 4, 3) := by decide +kernel
theorem dX0_hasCell_16 : decode cX0_hasCell 16 = .ok (.iconst 0, 1) := by decide +kernel
theorem dX0_hasCell_17 : decode cX0_hasCell 17 = .ok (.ireturn, 1) := by decide +kernel
theorem dX0_cellAt_0 : decode cX0_cellAt 0 = .ok (.iload_n 1, 1) := by decide +kernel
theorem dX0_cellAt_1 : decode cX0_cellAt 1 = .ok (.ifCond .lt 21, 3) := by decide +kernel
theorem dX0_cellAt_4 : decode cX0_cellAt 4 = .ok (.iload_n 1, 1) := by decide +kernel
theorem dX0_cellAt_5 : decode cX0_cellAt 5 = .ok (.aload_n 0, 1) := by decide +kernel
theorem dX0_cellAt_6 : decode cX0_cellAt 6 = .ok (.getfield 15, 3) := by decide +kernel
theorem dX0_cellAt_9 : decode cX0_cellAt 9 = .ok (.arraylength, 1) := by decide +kernel
theorem dX0_cellAt_10 : decode cX0_cellAt 10 = .ok (.if_icmp .ge 12, 3) := by decide +kernel
theorem dX0_cellAt_13 : decode cX0_cellAt 13 = .ok (.aload_n 0, 1) := by decide +kernel
theorem dX0_cellAt_14 : decode cX0_cellAt 14 = .ok (.getfield 15, 3) := by decide +kernel
theorem dX0_cellAt_17 : decode cX0_cellAt 17 = .ok (.iload_n 1, 1) := by decide +kernel
theorem dX0_cellAt_18 : decode cX0_cellAt 18 = .ok (.iaload, 1) := by decide +kernel
theorem dX0_cellAt_19 : decode cX0_cellAt 19 = .ok (.goto 4, 3) := by decide +kernel
theorem dX0_cellAt_22 : decode cX0_cellAt 22 = .ok (.iconst 0, 1) := by decide +kernel
theorem dX0_cellAt_23 : decode cX0_cellAt 23 = .ok (.ireturn, 1) := by decide +kernel
theorem dX0_setCell_0 : decode cX0_setCell 0 = .ok (.iload_n 1, 1) := by decide +kernel
theorem dX0_setCell_1 : decode cX0_setCell 1 = .ok (.ifCond .lt 19, 3) := by decide +kernel
theorem dX0_setCell_4 : decode cX0_setCell 4 = .ok (.iload_n 1, 1) := by decide +kernel
theorem dX0_setCell_5 : decode cX0_setCell 5 = .ok (.aload_n 0, 1) := by decide +kernel
theorem dX0_setCell_6 : decode cX0_setCell 6 = .ok (.getfield 15, 3) := by decide +kernel
theorem dX0_setCell_9 : decode cX0_setCell 9 = .ok (.arraylength, 1) := by decide +kernel
theorem dX0_setCell_10 : decode cX0_setCell 10 = .ok (.if_icmp .ge 10, 3) := by decide +kernel
theorem dX0_setCell_13 : decode cX0_setCell 13 = .ok (.aload_n 0, 1) := by decide +kernel
theorem dX0_setCell_14 : decode cX0_setCell 14 = .ok (.getfield 15, 3) := by decide +kernel
theorem dX0_setCell_17 : decode cX0_setCell 17 = .ok (.iload_n 1, 1) := by decide +kernel
theorem dX0_setCell_18 : decode cX0_setCell 18 = .ok (.iload_n 2, 1) := by decide +kernel
theorem dX0_setCell_19 : decode cX0_setCell 19 = .ok (.iastore, 1) := by decide +kernel
theorem dX0_setCell_20 : decode cX0_setCell 20 = .ok (.return_, 1) := by decide +kernel
theorem dX4_lay_0 : decode cX4_lay 0 = .ok (.aload_n 0, 1) := by decide +kernel
theorem dX4_lay_1 : decode cX4_lay 1 = .ok (.iload_n 1, 1) := by decide +kernel
theorem dX4_lay_2 : decode cX4_lay 2 = .ok (.invokevirtual 51, 3) := by decide +kernel
theorem dX4_lay_5 : decode cX4_lay 5 = .ok (.astore 4, 2) := by decide +kernel
theorem dX4_lay_7 : decode cX4_lay 7 = .ok (.aload_n 0, 1) := by decide +kernel
theorem dX4_lay_8 : decode cX4_lay 8 = .ok (.aload 4, 2) := by decide +kernel
theorem dX4_lay_10 : decode cX4_lay 10 = .ok (.iload_n 2, 1) := by decide +kernel
theorem dX4_lay_11 : decode cX4_lay 11 = .ok (.invokevirtual 59, 3) := by decide +kernel
theorem dX4_lay_14 : decode cX4_lay 14 = .ok (.istore 5, 2) := by decide +kernel
theorem dX4_lay_16 : decode cX4_lay 16 = .ok (.aload 4, 2) := by decide +kernel
theorem dX4_lay_18 : decode cX4_lay 18 = .ok (.ifnull 8, 3) := by decide +kernel
theorem dX4_lay_21 : decode cX4_lay 21 = .ok (.iload 5, 2) := by decide +kernel
theorem dX4_lay_23 : decode cX4_lay 23 = .ok (.ifCond .eq 6, 3) := by decide +kernel
theorem dX4_lay_26 : decode cX4_lay 26 = .ok (.iload 5, 2) := by decide +kernel
theorem dX4_lay_28 : decode cX4_lay 28 = .ok (.ireturn, 1) := by decide +kernel
theorem dX4_lay_29 : decode cX4_lay 29 = .ok (.aload_n 0, 1) := by decide +kernel
theorem dX4_lay_30 : decode cX4_lay 30 = .ok (.aload 4, 2) := by decide +kernel
theorem dX4_lay_32 : decode cX4_lay 32 = .ok (.iload_n 2, 1) := by decide +kernel
theorem dX4_lay_33 : decode cX4_lay 33 = .ok (.invokevirtual 63, 3) := by decide +kernel
theorem dX4_lay_36 : decode cX4_lay 36 = .ok (.putfield 39, 3) := by decide +kernel
theorem dX4_lay_39 : decode cX4_lay 39 = .ok (.aload 4, 2) := by decide +kernel
theorem dX4_lay_41 : decode cX4_lay 41 = .ok (.iload_n 2, 1) := by decide +kernel
theorem dX4_lay_42 : decode cX4_lay 42 = .ok (.iload_n 3, 1) := by decide +kernel
theorem dX4_lay_43 : decode cX4_lay 43 = .ok (.invokevirtual 67, 3) := by decide +kernel
theorem dX4_lay_46 : decode cX4_lay 46 = .ok (.iconst 1, 1) := by decide +kernel
theorem dX4_lay_47 : decode cX4_lay 47 = .ok (.ireturn, 1) := by decide +kernel
theorem dX4_at_0 : decode cX4_at 0 = .ok (.aload_n 0, 1) := by decide +kernel
theorem dX4_at_1 : decode cX4_at 1 = .ok (.iload_n 1, 1) := by decide +kernel
theorem dX4_at_2 : decode cX4_at 2 = .ok (.invokevirtual 51, 3) := by decide +kernel
theorem dX4_at_5 : decode cX4_at 5 = .ok (.astore_n 3, 1) := by decide +kernel
theorem dX4_at_6 : decode cX4_at 6 = .ok (.aload_n 0, 1) := by decide +kernel
theorem dX4_at_7 : decode cX4_at 7 = .ok (.aload_n 3, 1) := by decide +kernel
theorem dX4_at_8 : decode cX4_at 8 = .ok (.iload_n 2, 1) := by decide +kernel
theorem dX4_at_9 : decode cX4_at 9 = .ok (.invokevirtual 59, 3) := by decide +kernel
theorem dX4_at_12 : decode cX4_at 12 = .ok (.istore 4, 2) := by decide +kernel
theorem dX4_at_14 : decode cX4_at 14 = .ok (.aload_n 3, 1) := by decide +kernel
theorem dX4_at_15 : decode cX4_at 15 = .ok (.ifnull 8, 3) := by decide +kernel
theorem dX4_at_18 : decode cX4_at 18 = .ok (.iload 4, 2) := by decide +kernel
theorem dX4_at_20 : decode cX4_at 20 = .ok (.ifCond .eq 6, 3) := by decide +kernel
theorem dX4_at_23 : decode cX4_at 23 = .ok (.iload 4, 2) := by decide +kernel
theorem dX4_at_25 : decode cX4_at 25 = .ok (.ireturn, 1) := by decide +kernel
theorem dX4_at_26 : decode cX4_at 26 = .ok (.aload_n 0, 1) := by decide +kernel
theorem dX4_at_27 : decode cX4_at 27 = .ok (.aload_n 3, 1) := by decide +kernel
theorem dX4_at_28 : decode cX4_at 28 = .ok (.iload_n 2, 1) := by decide +kernel
theorem dX4_at_29 : decode cX4_at 29 = .ok (.invokevirtual 63, 3) := by decide +kernel
theorem dX4_at_32 : decode cX4_at 32 = .ok (.putfield 39, 3) := by decide +kernel
theorem dX4_at_35 : decode cX4_at 35 = .ok (.iconst 1, 1) := by decide +kernel
theorem dX4_at_36 : decode cX4_at 36 = .ok (.ireturn, 1) := by decide +kernel
theorem dX4_tear_0 : decode cX4_tear 0 = .ok (.aload_n 0, 1) := by decide +kernel
theorem dX4_tear_1 : decode cX4_tear 1 = .ok (.iload_n 1, 1) := by decide +kernel
theorem dX4_tear_2 : decode cX4_tear 2 = .ok (.invokevirtual 51, 3) := by decide +kernel
theorem dX4_tear_5 : decode cX4_tear 5 = .ok (.astore_n 2, 1) := by decide +kernel
theorem dX4_tear_6 : decode cX4_tear 6 = .ok (.aload_n 0, 1) := by decide +kernel
theorem dX4_tear_7 : decode cX4_tear 7 = .ok (.aload_n 2, 1) := by decide +kernel
theorem dX4_tear_8 : decode cX4_tear 8 = .ok (.invokevirtual 71, 3) := by decide +kernel
theorem dX4_tear_11 : decode cX4_tear 11 = .ok (.istore_n 3, 1) := by decide +kernel
theorem dX4_tear_12 : decode cX4_tear 12 = .ok (.aload_n 2, 1) := by decide +kernel
theorem dX4_tear_13 : decode cX4_tear 13 = .ok (.ifnull 7, 3) := by decide +kernel
theorem dX4_tear_16 : decode cX4_tear 16 = .ok (.iload_n 3, 1) := by decide +kernel
theorem dX4_tear_17 : decode cX4_tear 17 = .ok (.ifCond .eq 5, 3) := by decide +kernel
theorem dX4_tear_20 : decode cX4_tear 20 = .ok (.iload_n 3, 1) := by decide +kernel
theorem dX4_tear_21 : decode cX4_tear 21 = .ok (.ireturn, 1) := by decide +kernel
theorem dX4_tear_22 : decode cX4_tear 22 = .ok (.aload_n 2, 1) := by decide +kernel
theorem dX4_tear_23 : decode cX4_tear 23 = .ok (.iconst (-1), 1) := by decide +kernel
theorem dX4_tear_24 : decode cX4_tear 24 = .ok (.putfield 75, 3) := by decide +kernel
theorem dX4_tear_27 : decode cX4_tear 27 = .ok (.iconst 1, 1) := by decide +kernel
theorem dX4_tear_28 : decode cX4_tear 28 = .ok (.ireturn, 1) := by decide +kernel
theorem dX0_hasRun_0 : decode cX0_hasRun 0 = .ok (.iload_n 2, 1) := by decide +kernel
theorem dX0_hasRun_1 : decode cX0_hasRun 1 = .ok (.ifCond .lt 21, 3) := by decide +kernel
theorem dX0_hasRun_4 : decode cX0_hasRun 4 = .ok (.iload_n 1, 1) := by decide +kernel
theorem dX0_hasRun_5 : decode cX0_hasRun 5 = .ok (.ifCond .lt 17, 3) := by decide +kernel
theorem dX0_hasRun_8 : decode cX0_hasRun 8 = .ok (.iload_n 1, 1) := by decide +kernel
theorem dX0_hasRun_9 : decode cX0_hasRun 9 = .ok (.aload_n 0, 1) := by decide +kernel
theorem dX0_hasRun_10 : decode cX0_hasRun 10 = .ok (.getfield 9, 3) := by decide +kernel
theorem dX0_hasRun_13 : decode cX0_hasRun 13 = .ok (.iload_n 2, 1) := by decide +kernel
theorem dX0_hasRun_14 : decode cX0_hasRun 14 = .ok (.isub, 1) := by decide +kernel
theorem dX0_hasRun_15 : decode cX0_hasRun 15 = .ok (.if_icmp .gt 7, 3) := by decide +kernel
theorem dX0_hasRun_18 : decode cX0_hasRun 18 = .ok (.iconst 1, 1) := by decide +kernel
theorem dX0_hasRun_19 : decode cX0_hasRun 19 = .ok (.goto 4, 3) := by decide +kernel
theorem dX0_hasRun_22 : decode cX0_hasRun 22 = .ok (.iconst 0, 1) := by decide +kernel
theorem dX0_hasRun_23 : decode cX0_hasRun 23 = .ok (.ireturn, 1) := by decide +kernel
theorem dX4_copy_0 : decode cX4_copy 0 = .ok (.aload_n 0, 1) := by decide +kernel
theorem dX4_copy_1 : decode cX4_copy 1 = .ok (.iload_n 1, 1) := by decide +kernel
theorem dX4_copy_2 : decode cX4_copy 2 = .ok (.invokevirtual 51, 3) := by decide +kernel
theorem dX4_copy_5 : decode cX4_copy 5 = .ok (.astore 6, 2) := by decide +kernel
theorem dX4_copy_7 : decode cX4_copy 7 = .ok (.aload_n 0, 1) := by decide +kernel
theorem dX4_copy_8 : decode cX4_copy 8 = .ok (.iload_n 3, 1) := by decide +kernel
theorem dX4_copy_9 : decode cX4_copy 9 = .ok (.invokevirtual 51, 3) := by decide +kernel
theorem dX4_copy_12 : decode cX4_copy 12 = .ok (.astore 7, 2) := by decide +kernel
theorem dX4_copy_14 : decode cX4_copy 14 = .ok (.aload 6, 2) := by decide +kernel
theorem dX4_copy_16 : decode cX4_copy 16 = .ok (.ifnull 8, 3) := by decide +kernel
theorem dX4_copy_19 : decode cX4_copy 19 = .ok (.aload 7, 2) := by decide +kernel
theorem dX4_copy_21 : decode cX4_copy 21 = .ok (.ifnonnull 5, 3) := by decide +kernel
theorem dX4_copy_24 : decode cX4_copy 24 = .ok (.iconst (-1), 1) := by decide +kernel
theorem dX4_copy_25 : decode cX4_copy 25 = .ok (.ireturn, 1) := by decide +kernel
theorem dX4_copy_26 : decode cX4_copy 26 = .ok (.iload 5, 2) := by decide +kernel
theorem dX4_copy_28 : decode cX4_copy 28 = .ok (.ifCond .ge 9, 3) := by decide +kernel
theorem dX4_copy_31 : decode cX4_copy 31 = .ok (.aload_n 0, 1) := by decide +kernel
theorem dX4_copy_32 : decode cX4_copy 32 = .ok (.iconst 5, 1) := by decide +kernel
theorem dX4_copy_33 : decode cX4_copy 33 = .ok (.invokevirtual 78, 3) := by decide +kernel
theorem dX4_copy_36 : decode cX4_copy 36 = .ok (.ireturn, 1) := by decide +kernel
theorem dX4_copy_37 : decode cX4_copy 37 = .ok (.aload 6, 2) := by decide +kernel
theorem dX4_copy_39 : decode cX4_copy 39 = .ok (.invokevirtual 81, 3) := by decide +kernel
theorem dX4_copy_42 : decode cX4_copy 42 = .ok (.ifCond .ne 11, 3) := by decide +kernel
theorem dX4_copy_45 : decode cX4_copy 45 = .ok (.aload 7, 2) := by decide +kernel
theorem dX4_copy_47 : decode cX4_copy 47 = .ok (.invokevirtual 81, 3) := by decide +kernel
theorem dX4_copy_50 : decode cX4_copy 50 = .ok (.ifCond .eq 9, 3) := by decide +kernel
theorem dX4_copy_53 : decode cX4_copy 53 = .ok (.aload_n 0, 1) := by decide +kernel
theorem dX4_copy_54 : decode cX4_copy 54 = .ok (.iconst 1, 1) := by decide +kernel
theorem dX4_copy_55 : decode cX4_copy 55 = .ok (.invokevirtual 78, 3) := by decide +kernel
theorem dX4_copy_58 : decode cX4_copy 58 = .ok (.ireturn, 1) := by decide +kernel
theorem dX4_copy_59 : decode cX4_copy 59 = .ok (.aload 6, 2) := by decide +kernel
theorem dX4_copy_61 : decode cX4_copy 61 = .ok (.iload_n 2, 1) := by decide +kernel
theorem dX4_copy_62 : decode cX4_copy 62 = .ok (.iload 5, 2) := by decide +kernel
theorem dX4_copy_64 : decode cX4_copy 64 = .ok (.invokevirtual 85, 3) := by decide +kernel
theorem dX4_copy_67 : decode cX4_copy 67 = .ok (.ifCond .eq 15, 3) := by decide +kernel
theorem dX4_copy_70 : decode cX4_copy 70 = .ok (.aload 7, 2) := by decide +kernel
theorem dX4_copy_72 : decode cX4_copy 72 = .ok (.iload 4, 2) := by decide +kernel
theorem dX4_copy_74 : decode cX4_copy 74 = .ok (.iload 5, 2) := by decide +kernel
theorem dX4_copy_76 : decode cX4_copy 76 = .ok (.invokevirtual 85, 3) := by decide +kernel
theorem dX4_copy_79 : decode cX4_copy 79 = .ok (.ifCond .ne 9, 3) := by decide +kernel
theorem dX4_copy_82 : decode cX4_copy 82 = .ok (.aload_n 0, 1) := by decide +kernel
theorem dX4_copy_83 : decode cX4_copy 83 = .ok (.iconst 2, 1) := by decide +kernel
theorem dX4_copy_84 : decode cX4_copy 84 = .ok (.invokevirtual 78, 3) := by decide +kernel
theorem dX4_copy_87 : decode cX4_copy 87 = .ok (.ireturn, 1) := by decide +kernel
theorem dX4_copy_88 : decode cX4_copy 88 = .ok (.aload 6, 2) := by decide +kernel
theorem dX4_copy_90 : decode cX4_copy 90 = .ok (.getfield 89, 3) := by decide +kernel
theorem dX4_copy_93 : decode cX4_copy 93 = .ok (.iload_n 2, 1) := by decide +kernel
theorem dX4_copy_94 : decode cX4_copy 94 = .ok (.aload 7, 2) := by decide +kernel
theorem dX4_copy_96 : decode cX4_copy 96 = .ok (.getfield 89, 3) := by decide +kernel
theorem dX4_copy_99 : decode cX4_copy 99 = .ok (.iload 4, 2) := by decide +kernel
theorem dX4_copy_101 : decode cX4_copy 101 = .ok (.iload 5, 2) := by decide +kernel
theorem dX4_copy_103 : decode cX4_copy 103 = .ok (.invokestatic 92, 3) := by decide +kernel
theorem dX4_copy_106 : decode cX4_copy 106 = .ok (.iconst 1, 1) := by decide +kernel
theorem dX4_copy_107 : decode cX4_copy 107 = .ok (.ireturn, 1) := by decide +kernel
theorem dX4_mean_0 : decode cX4_mean 0 = .ok (.aload_n 0, 1) := by decide +kernel
theorem dX4_mean_1 : decode cX4_mean 1 = .ok (.iload_n 1, 1) := by decide +kernel
theorem dX4_mean_2 : decode cX4_mean 2 = .ok (.invokevirtual 51, 3) := by decide +kernel
theorem dX4_mean_5 : decode cX4_mean 5 = .ok (.astore_n 2, 1) := by decide +kernel
theorem dX4_mean_6 : decode cX4_mean 6 = .ok (.aload_n 0, 1) := by decide +kernel
theorem dX4_mean_7 : decode cX4_mean 7 = .ok (.aload_n 2, 1) := by decide +kernel
theorem dX4_mean_8 : decode cX4_mean 8 = .ok (.invokevirtual 71, 3) := by decide +kernel
theorem dX4_mean_11 : decode cX4_mean 11 = .ok (.istore_n 3, 1) := by decide +kernel
theorem dX4_mean_12 : decode cX4_mean 12 = .ok (.aload_n 2, 1) := by decide +kernel
theorem dX4_mean_13 : decode cX4_mean 13 = .ok (.ifnull 7, 3) := by decide +kernel
theorem dX4_mean_16 : decode cX4_mean 16 = .ok (.iload_n 3, 1) := by decide +kernel
theorem dX4_mean_17 : decode cX4_mean 17 = .ok (.ifCond .eq 5, 3) := by decide +kernel
theorem dX4_mean_20 : decode cX4_mean 20 = .ok (.iload_n 3, 1) := by decide +kernel
theorem dX4_mean_21 : decode cX4_mean 21 = .ok (.ireturn, 1) := by decide +kernel
theorem dX4_mean_22 : decode cX4_mean 22 = .ok (.aload_n 2, 1) := by decide +kernel
theorem dX4_mean_23 : decode cX4_mean 23 = .ok (.getfield 75, 3) := by decide +kernel
theorem dX4_mean_26 : decode cX4_mean 26 = .ok (.ifCond .ne 9, 3) := by decide +kernel
theorem dX4_mean_29 : decode cX4_mean 29 = .ok (.aload_n 0, 1) := by decide +kernel
theorem dX4_mean_30 : decode cX4_mean 30 = .ok (.iconst 4, 1) := by decide +kernel
theorem dX4_mean_31 : decode cX4_mean 31 = .ok (.invokevirtual 78, 3) := by decide +kernel
theorem dX4_mean_34 : decode cX4_mean 34 = .ok (.ireturn, 1) := by decide +kernel
theorem dX4_mean_35 : decode cX4_mean 35 = .ok (.lconst 0, 1) := by decide +kernel
theorem dX4_mean_36 : decode cX4_mean 36 = .ok (.lstore 4, 2) := by decide +kernel
theorem dX4_mean_38 : decode cX4_mean 38 = .ok (.iconst 0, 1) := by decide +kernel
theorem dX4_mean_39 : decode cX4_mean 39 = .ok (.istore 6, 2) := by decide +kernel
theorem dX4_mean_41 : decode cX4_mean 41 = .ok (.iload 6, 2) := by decide +kernel
theorem dX4_mean_43 : decode cX4_mean 43 = .ok (.aload_n 2, 1) := by decide +kernel
theorem dX4_mean_44 : decode cX4_mean 44 = .ok (.getfield 75, 3) := by decide +kernel
theorem dX4_mean_47 : decode cX4_mean 47 = .ok (.if_icmp .ge 21, 3) := by decide +kernel
theorem dX4_mean_50 : decode cX4_mean 50 = .ok (.lload 4, 2) := by decide +kernel
theorem dX4_mean_52 : decode cX4_mean 52 = .ok (.aload_n 2, 1) := by decide +kernel
theorem dX4_mean_53 : decode cX4_mean 53 = .ok (.iload 6, 2) := by decide +kernel
theorem dX4_mean_55 : decode cX4_mean 55 = .ok (.invokevirtual 63, 3) := by decide +kernel
theorem dX4_mean_58 : decode cX4_mean 58 = .ok (.i2l, 1) := by decide +kernel
theorem dX4_mean_59 : decode cX4_mean 59 = .ok (.ladd, 1) := by decide +kernel
theorem dX4_mean_60 : decode cX4_mean 60 = .ok (.lstore 4, 2) := by decide +kernel
theorem dX4_mean_62 : decode cX4_mean 62 = .ok (.iinc 6 1, 3) := by decide +kernel
theorem dX4_mean_65 : decode cX4_mean 65 = .ok (.goto (-24), 3) := by decide +kernel
theorem dX4_mean_68 : decode cX4_mean 68 = .ok (.aload_n 0, 1) := by decide +kernel
theorem dX4_mean_69 : decode cX4_mean 69 = .ok (.lload 4, 2) := by decide +kernel
theorem dX4_mean_71 : decode cX4_mean 71 = .ok (.aload_n 2, 1) := by decide +kernel
theorem dX4_mean_72 : decode cX4_mean 72 = .ok (.getfield 75, 3) := by decide +kernel
theorem dX4_mean_75 : decode cX4_mean 75 = .ok (.i2l, 1) := by decide +kernel
theorem dX4_mean_76 : decode cX4_mean 76 = .ok (.ldiv, 1) := by decide +kernel
theorem dX4_mean_77 : decode cX4_mean 77 = .ok (.l2i, 1) := by decide +kernel
theorem dX4_mean_78 : decode cX4_mean 78 = .ok (.putfield 39, 3) := by decide +kernel
theorem dX4_mean_81 : decode cX4_mean 81 = .ok (.iconst 1, 1) := by decide +kernel
theorem dX4_mean_82 : decode cX4_mean 82 = .ok (.ireturn, 1) := by decide +kernel
theorem dX4_textAt_0 : decode cX4_textAt 0 = .ok (.iload_n 1, 1) := by decide +kernel
theorem dX4_textAt_1 : decode cX4_textAt 1 = .ok (.ifCond .lt 17, 3) := by decide +kernel
theorem dX4_textAt_4 : decode cX4_textAt 4 = .ok (.iload_n 1, 1) := by decide +kernel
theorem dX4_textAt_5 : decode cX4_textAt 5 = .ok (.iconst 4, 1) := by decide +kernel
theorem dX4_textAt_6 : decode cX4_textAt 6 = .ok (.if_icmp .ge 12, 3) := by decide +kernel
theorem dX4_textAt_9 : decode cX4_textAt 9 = .ok (.aload_n 0, 1) := by decide +kernel
theorem dX4_textAt_10 : decode cX4_textAt 10 = .ok (.getfield 15, 3) := by decide +kernel
theorem dX4_textAt_13 : decode cX4_textAt 13 = .ok (.iload_n 1, 1) := by decide +kernel
theorem dX4_textAt_14 : decode cX4_textAt 14 = .ok (.aaload, 1) := by decide +kernel
theorem dX4_textAt_15 : decode cX4_textAt 15 = .ok (.goto 4, 3) := by decide +kernel
theorem dX4_textAt_18 : decode cX4_textAt 18 = .ok (.aconst_null, 1) := by decide +kernel
theorem dX4_textAt_19 : decode cX4_textAt 19 = .ok (.areturn, 1) := by decide +kernel
theorem dX4_text_0 : decode cX4_text 0 = .ok (.aload_n 0, 1) := by decide +kernel
theorem dX4_text_1 : decode cX4_text 1 = .ok (.aload_n 0, 1) := by decide +kernel
theorem dX4_text_2 : decode cX4_text 2 = .ok (.iload_n 1, 1) := by decide +kernel
theorem dX4_text_3 : decode cX4_text 3 = .ok (.invokevirtual 98, 3) := by decide +kernel
theorem dX4_text_6 : decode cX4_text 6 = .ok (.iload_n 2, 1) := by decide +kernel
theorem dX4_text_7 : decode cX4_text 7 = .ok (.bipush 60, 2) := by decide +kernel
theorem dX4_text_9 : decode cX4_text 9 = .ok (.bipush 32, 2) := by decide +kernel
theorem dX4_text_11 : decode cX4_text 11 = .ok (.invokevirtual 55, 3) := by decide +kernel
theorem dX4_text_14 : decode cX4_text 14 = .ok (.ireturn, 1) := by decide +kernel
theorem dX4_put_0 : decode cX4_put 0 = .ok (.aload_n 0, 1) := by decide +kernel
theorem dX4_put_1 : decode cX4_put 1 = .ok (.iload_n 1, 1) := by decide +kernel
theorem dX4_put_2 : decode cX4_put 2 = .ok (.invokevirtual 98, 3) := by decide +kernel
theorem dX4_put_5 : decode cX4_put 5 = .ok (.astore 4, 2) := by decide +kernel
theorem dX4_put_7 : decode cX4_put 7 = .ok (.aload_n 0, 1) := by decide +kernel
theorem dX4_put_8 : decode cX4_put 8 = .ok (.aload 4, 2) := by decide +kernel
theorem dX4_put_10 : decode cX4_put 10 = .ok (.iload_n 2, 1) := by decide +kernel
theorem dX4_put_11 : decode cX4_put 11 = .ok (.invokevirtual 59, 3) := by decide +kernel
theorem dX4_put_14 : decode cX4_put 14 = .ok (.istore 5, 2) := by decide +kernel
theorem dX4_put_16 : decode cX4_put 16 = .ok (.aload 4, 2) := by decide +kernel
theorem dX4_put_18 : decode cX4_put 18 = .ok (.ifnull 8, 3) := by decide +kernel
theorem dX4_put_21 : decode cX4_put 21 = .ok (.iload 5, 2) := by decide +kernel
theorem dX4_put_23 : decode cX4_put 23 = .ok (.ifCond .eq 6, 3) := by decide +kernel
theorem dX4_put_26 : decode cX4_put 26 = .ok (.iload 5, 2) := by decide +kernel
theorem dX4_put_28 : decode cX4_put 28 = .ok (.ireturn, 1) := by decide +kernel
theorem dX4_put_29 : decode cX4_put 29 = .ok (.aload 4, 2) := by decide +kernel
theorem dX4_put_31 : decode cX4_put 31 = .ok (.iload_n 2, 1) := by decide +kernel
theorem dX4_put_32 : decode cX4_put 32 = .ok (.invokevirtual 63, 3) := by decide +kernel
theorem dX4_put_35 : decode cX4_put 35 = .ok (.istore 6, 2) := by decide +kernel
theorem dX4_put_37 : decode cX4_put 37 = .ok (.aload 4, 2) := by decide +kernel
theorem dX4_put_39 : decode cX4_put 39 = .ok (.iload_n 2, 1) := by decide +kernel
theorem dX4_put_40 : decode cX4_put 40 = .ok (.iload_n 3, 1) := by decide +kernel
theorem dX4_put_41 : decode cX4_put 41 = .ok (.i2b, 1) := by decide +kernel
theorem dX4_put_42 : decode cX4_put 42 = .ok (.invokevirtual 67, 3) := by decide +kernel
theorem dX4_put_45 : decode cX4_put 45 = .ok (.iload 6, 2) := by decide +kernel
theorem dX4_put_47 : decode cX4_put 47 = .ok (.sipush 1000, 3) := by decide +kernel
theorem dX4_put_50 : decode cX4_put 50 = .ok (.iadd, 1) := by decide +kernel
theorem dX4_put_51 : decode cX4_put 51 = .ok (.ireturn, 1) := by decide +kernel
theorem dX4_kindOfLetter_0 : decode cX4_kindOfLetter 0 = .ok (.iconst 0, 1) := by decide +kernel
theorem dX4_kindOfLetter_1 : decode cX4_kindOfLetter 1 = .ok (.istore_n 1, 1) := by decide +kernel
theorem dX4_kindOfLetter_2 : decode cX4_kindOfLetter 2 = .ok (.iload_n 1, 1) := by decide +kernel
theorem dX4_kindOfLetter_3 : decode cX4_kindOfLetter 3 = .ok (.bipush 6, 2) := by decide +kernel
theorem dX4_kindOfLetter_5 : decode cX4_kindOfLetter 5 = .ok (.if_icmp .ge 20, 3) := by decide +kernel
theorem dX4_kindOfLetter_8 : decode cX4_kindOfLetter 8 = .ok (.getstatic 308, 3) := by decide +kernel
theorem dX4_kindOfLetter_11 : decode cX4_kindOfLetter 11 = .ok (.iload_n 1, 1) := by decide +kernel
theorem dX4_kindOfLetter_12 : decode cX4_kindOfLetter 12 = .ok (.iaload, 1) := by decide +kernel
theorem dX4_kindOfLetter_13 : decode cX4_kindOfLetter 13 = .ok (.iload_n 0, 1) := by decide +kernel
theorem dX4_kindOfLetter_14 : decode cX4_kindOfLetter 14 = .ok (.if_icmp .ne 5, 3) := by decide +kernel
theorem dX4_kindOfLetter_17 : decode cX4_kindOfLetter 17 = .ok (.iload_n 1, 1) := by decide +kernel
theorem dX4_kindOfLetter_18 : decode cX4_kindOfLetter 18 = .ok (.ireturn, 1) := by decide +kernel
theorem dX4_kindOfLetter_19 : decode cX4_kindOfLetter 19 = .ok (.iinc 1 1, 3) := by decide +kernel
theorem dX4_kindOfLetter_22 : decode cX4_kindOfLetter 22 = .ok (.goto (-20), 3) := by decide +kernel
theorem dX4_kindOfLetter_25 : decode cX4_kindOfLetter 25 = .ok (.bipush (-9), 2) := by decide +kernel
theorem dX4_kindOfLetter_27 : decode cX4_kindOfLetter 27 = .ok (.ireturn, 1) := by decide +kernel
theorem dX4_isSign_0 : decode cX4_isSign 0 = .ok (.iload_n 0, 1) := by decide +kernel
theorem dX4_isSign_1 : decode cX4_isSign 1 = .ok (.ifCond .ne 18, 3) := by decide +kernel
theorem dX4_isSign_4 : decode cX4_isSign 4 = .ok (.iload_n 1, 1) := by decide +kernel
theorem dX4_isSign_5 : decode cX4_isSign 5 = .ok (.invokestatic 314, 3) := by decide +kernel
theorem dX4_isSign_8 : decode cX4_isSign 8 = .ok (.bipush (-9), 2) := by decide +kernel
theorem dX4_isSign_10 : decode cX4_isSign 10 = .ok (.if_icmp .eq 7, 3) := by decide +kernel
theorem dX4_isSign_13 : decode cX4_isSign 13 = .ok (.iconst 1, 1) := by decide +kernel
theorem dX4_isSign_14 : decode cX4_isSign 14 = .ok (.goto 4, 3) := by decide +kernel
theorem dX4_isSign_17 : decode cX4_isSign 17 = .ok (.iconst 0, 1) := by decide +kernel
theorem dX4_isSign_18 : decode cX4_isSign 18 = .ok (.ireturn, 1) := by decide +kernel
theorem dX4_isSign_19 : decode cX4_isSign 19 = .ok (.iload_n 1, 1) := by decide +kernel
theorem dX4_isSign_20 : decode cX4_isSign 20 = .ok (.bipush 48, 2) := by decide +kernel
theorem dX4_isSign_22 : decode cX4_isSign 22 = .ok (.isub, 1) := by decide +kernel
theorem dX4_isSign_23 : decode cX4_isSign 23 = .ok (.istore_n 2, 1) := by decide +kernel
theorem dX4_isSign_24 : decode cX4_isSign 24 = .ok (.iload_n 0, 1) := by decide +kernel
theorem dX4_isSign_25 : decode cX4_isSign 25 = .ok (.iconst 3, 1) := by decide +kernel
theorem dX4_isSign_26 : decode cX4_isSign 26 = .ok (.if_icmp .ne 21, 3) := by decide +kernel
theorem dX4_isSign_29 : decode cX4_isSign 29 = .ok (.iload_n 2, 1) := by decide +kernel
theorem dX4_isSign_30 : decode cX4_isSign 30 = .ok (.iconst 1, 1) := by decide +kernel
theorem dX4_isSign_31 : decode cX4_isSign 31 = .ok (.if_icmp .lt 12, 3) := by decide +kernel
theorem dX4_isSign_34 : decode cX4_isSign 34 = .ok (.iload_n 2, 1) := by decide +kernel
theorem dX4_isSign_35 : decode cX4_isSign 35 = .ok (.iconst 4, 1) := by decide +kernel
theorem dX4_isSign_36 : decode cX4_isSign 36 = .ok (.if_icmp .gt 7, 3) := by decide +kernel
theorem dX4_isSign_39 : decode cX4_isSign 39 = .ok (.iconst 1, 1) := by decide +kernel
theorem dX4_isSign_40 : decode cX4_isSign 40 = .ok (.goto 22, 3) := by decide +kernel
theorem dX4_isSign_43 : decode cX4_isSign 43 = .ok (.iconst 0, 1) := by decide +kernel
theorem dX4_isSign_44 : decode cX4_isSign 44 = .ok (.goto 18, 3) := by decide +kernel
theorem dX4_isSign_47 : decode cX4_isSign 47 = .ok (.iload_n 2, 1) := by decide +kernel
theorem dX4_isSign_48 : decode cX4_isSign 48 = .ok (.ifCond .lt 13, 3) := by decide +kernel
theorem dX4_isSign_51 : decode cX4_isSign 51 = .ok (.iload_n 2, 1) := by decide +kernel
theorem dX4_isSign_52 : decode cX4_isSign 52 = .ok (.bipush 9, 2) := by decide +kernel
theorem dX4_isSign_54 : decode cX4_isSign 54 = .ok (.if_icmp .gt 7, 3) := by decide +kernel
theorem dX4_isSign_57 : decode cX4_isSign 57 = .ok (.iconst 1, 1) := by decide +kernel
theorem dX4_isSign_58 : decode cX4_isSign 58 = .ok (.goto 4, 3) := by decide +kernel
theorem dX4_isSign_61 : decode cX4_isSign 61 = .ok (.iconst 0, 1) := by decide +kernel
theorem dX4_isSign_62 : decode cX4_isSign 62 = .ok (.ireturn, 1) := by decide +kernel
theorem dX4_firstFault_0 : decode cX4_firstFault 0 = .ok (.iconst 0, 1) := by decide +kernel
theorem dX4_firstFault_1 : decode cX4_firstFault 1 = .ok (.istore_n 1, 1) := by decide +kernel
theorem dX4_firstFault_2 : decode cX4_firstFault 2 = .ok (.iconst 0, 1) := by decide +kernel
theorem dX4_firstFault_3 : decode cX4_firstFault 3 = .ok (.istore_n 2, 1) := by decide +kernel
theorem dX4_firstFault_4 : decode cX4_firstFault 4 = .ok (.iconst 0, 1) := by decide +kernel
theorem dX4_firstFault_5 : decode cX4_firstFault 5 = .ok (.istore_n 3, 1) := by decide +kernel
theorem dX4_firstFault_6 : decode cX4_firstFault 6 = .ok (.iload_n 3, 1) := by decide +kernel
theorem dX4_firstFault_7 : decode cX4_firstFault 7 = .ok (.aload_n 0, 1) := by decide +kernel
theorem dX4_firstFault_8 : decode cX4_firstFault 8 = .ok (.getfield 75, 3) := by decide +kernel
theorem dX4_firstFault_11 : decode cX4_firstFault 11 = .ok (.if_icmp .ge 57, 3) := by decide +kernel
theorem dX4_firstFault_14 : decode cX4_firstFault 14 = .ok (.aload_n 0, 1) := by decide +kernel
theorem dX4_firstFault_15 : decode cX4_firstFault 15 = .ok (.iload_n 3, 1) := by decide +kernel
theorem dX4_firstFault_16 : decode cX4_firstFault 16 = .ok (.invokevirtual 63, 3) := by decide +kernel
theorem dX4_firstFault_19 : decode cX4_firstFault 19 = .ok (.istore 4, 2) := by decide +kernel
theorem dX4_firstFault_21 : decode cX4_firstFault 21 = .ok (.iload_n 2, 1) := by decide +kernel
theorem dX4_firstFault_22 : decode cX4_firstFault 22 = .ok (.ifCond .gt 10, 3) := by decide +kernel
theorem dX4_firstFault_25 : decode cX4_firstFault 25 = .ok (.iload 4, 2) := by decide +kernel
theorem dX4_firstFault_27 : decode cX4_firstFault 27 = .ok (.bipush 32, 2) := by decide +kernel
theorem dX4_firstFault_29 : decode cX4_firstFault 29 = .ok (.if_icmp .eq 33, 3) := by decide +kernel
theorem dX4_firstFault_32 : decode cX4_firstFault 32 = .ok (.iload_n 1, 1) := by decide +kernel
theorem dX4_firstFault_33 : decode cX4_firstFault 33 = .ok (.bipush 8, 2) := by decide +kernel
theorem dX4_firstFault_35 : decode cX4_firstFault 35 = .ok (.if_icmp .ge 12, 3) := by decide +kernel
theorem dX4_firstFault_38 : decode cX4_firstFault 38 = .ok (.iload_n 2, 1) := by decide +kernel
theorem dX4_firstFault_39 : decode cX4_firstFault 39 = .ok (.iload 4, 2) := by decide +kernel
theorem dX4_firstFault_41 : decode cX4_firstFault 41 = .ok (.invokestatic 311, 3) := by decide +kernel
theorem dX4_firstFault_44 : decode cX4_firstFault 44 = .ok (.ifCond .ne 5, 3) := by decide +kernel
theorem dX4_firstFault_47 : decode cX4_firstFault 47 = .ok (.iload_n 3, 1) := by decide +kernel
theorem dX4_firstFault_48 : decode cX4_firstFault 48 = .ok (.ireturn, 1) := by decide +kernel
theorem dX4_firstFault_49 : decode cX4_firstFault 49 = .ok (.iinc 2 1, 3) := by decide +kernel
theorem dX4_firstFault_52 : decode cX4_firstFault 52 = .ok (.iload_n 2, 1) := by decide +kernel
theorem dX4_firstFault_53 : decode cX4_firstFault 53 = .ok (.iconst 5, 1) := by decide +kernel
theorem dX4_firstFault_54 : decode cX4_firstFault 54 = .ok (.if_icmp .ne 8, 3) := by decide +kernel
theorem dX4_firstFault_57 : decode cX4_firstFault 57 = .ok (.iconst 0, 1) := by decide +kernel
theorem dX4_firstFault_58 : decode cX4_firstFault 58 = .ok (.istore_n 2, 1) := by decide +kernel
theorem dX4_firstFault_59 : decode cX4_firstFault 59 = .ok (.iinc 1 1, 3) := by decide +kernel
theorem dX4_firstFault_62 : decode cX4_firstFault 62 = .ok (.iinc 3 1, 3) := by decide +kernel
theorem dX4_firstFault_65 : decode cX4_firstFault 65 = .ok (.goto (-59), 3) := by decide +kernel
theorem dX4_firstFault_68 : decode cX4_firstFault 68 = .ok (.iload_n 2, 1) := by decide +kernel
theorem dX4_firstFault_69 : decode cX4_firstFault 69 = .ok (.ifCond .gt 7, 3) := by decide +kernel
theorem dX4_firstFault_72 : decode cX4_firstFault 72 = .ok (.iload_n 1, 1) := by decide +kernel
theorem dX4_firstFault_73 : decode cX4_firstFault 73 = .ok (.ifCond .ne 10, 3) := by decide +kernel
theorem dX4_firstFault_76 : decode cX4_firstFault 76 = .ok (.aload_n 0, 1) := by decide +kernel
theorem dX4_firstFault_77 : decode cX4_firstFault 77 = .ok (.getfield 75, 3) := by decide +kernel
theorem dX4_firstFault_80 : decode cX4_firstFault 80 = .ok (.goto 5, 3) := by decide +kernel
theorem dX4_firstFault_83 : decode cX4_firstFault 83 = .ok (.bipush (-9), 2) := by decide +kernel
theorem dX4_firstFault_85 : decode cX4_firstFault 85 = .ok (.ireturn, 1) := by decide +kernel
theorem dX4_fault_0 : decode cX4_fault 0 = .ok (.aload_n 0, 1) := by decide +kernel
theorem dX4_fault_1 : decode cX4_fault 1 = .ok (.iload_n 1, 1) := by decide +kernel
theorem dX4_fault_2 : decode cX4_fault 2 = .ok (.invokevirtual 98, 3) := by decide +kernel
theorem dX4_fault_5 : decode cX4_fault 5 = .ok (.astore_n 2, 1) := by decide +kernel
theorem dX4_fault_6 : decode cX4_fault 6 = .ok (.aload_n 0, 1) := by decide +kernel
theorem dX4_fault_7 : decode cX4_fault 7 = .ok (.aload_n 2, 1) := by decide +kernel
theorem dX4_fault_8 : decode cX4_fault 8 = .ok (.invokevirtual 71, 3) := by decide +kernel
theorem dX4_fault_11 : decode cX4_fault 11 = .ok (.istore_n 3, 1) := by decide +kernel
theorem dX4_fault_12 : decode cX4_fault 12 = .ok (.aload_n 2, 1) := by decide +kernel
theorem dX4_fault_13 : decode cX4_fault 13 = .ok (.ifnull 7, 3) := by decide +kernel
theorem dX4_fault_16 : decode cX4_fault 16 = .ok (.iload_n 3, 1) := by decide +kernel
theorem dX4_fault_17 : decode cX4_fault 17 = .ok (.ifCond .eq 5, 3) := by decide +kernel
theorem dX4_fault_20 : decode cX4_fault 20 = .ok (.iload_n 3, 1) := by decide +kernel
theorem dX4_fault_21 : decode cX4_fault 21 = .ok (.ireturn, 1) := by decide +kernel
theorem dX4_fault_22 : decode cX4_fault 22 = .ok (.aload_n 2, 1) := by decide +kernel
theorem dX4_fault_23 : decode cX4_fault 23 = .ok (.invokestatic 101, 3) := by decide +kernel
theorem dX4_fault_26 : decode cX4_fault 26 = .ok (.ireturn, 1) := by decide +kernel
theorem dX2_takeSign_0 : decode cX2_takeSign 0 = .ok (.aload_n 0, 1) := by decide +kernel
theorem dX2_takeSign_1 : decode cX2_takeSign 1 = .ok (.getfield 9, 3) := by decide +kernel
theorem dX2_takeSign_4 : decode cX2_takeSign 4 = .ok (.ifCond .lt 12, 3) := by decide +kernel
theorem dX2_takeSign_7 : decode cX2_takeSign 7 = .ok (.aload_n 0, 1) := by decide +kernel
theorem dX2_takeSign_8 : decode cX2_takeSign 8 = .ok (.getfield 9, 3) := by decide +kernel
theorem dX2_takeSign_11 : decode cX2_takeSign 11 = .ok (.bipush 8, 2) := by decide +kernel
theorem dX2_takeSign_13 : decode cX2_takeSign 13 = .ok (.if_icmp .lt 4, 3) := by decide +kernel
theorem dX2_takeSign_16 : decode cX2_takeSign 16 = .ok (.return_, 1) := by decide +kernel
theorem dX2_takeSign_17 : decode cX2_takeSign 17 = .ok (.iload_n 1, 1) := by decide +kernel
theorem dX2_takeSign_18 : decode cX2_takeSign 18 = .ok (.tableswitch 94 0 3 #[30, 46, 62, 78], 30) := by decide +kernel
theorem dX2_takeSign_48 : decode cX2_takeSign 48 = .ok (.aload_n 0, 1) := by decide +kernel
theorem dX2_takeSign_49 : decode cX2_takeSign 49 = .ok (.getfield 15, 3) := by decide +kernel
theorem dX2_takeSign_52 : decode cX2_takeSign 52 = .ok (.aload_n 0, 1) := by decide +kernel
theorem dX2_takeSign_53 : decode cX2_takeSign 53 = .ok (.getfield 9, 3) := by decide +kernel
theorem dX2_takeSign_56 : decode cX2_takeSign 56 = .ok (.iload_n 2, 1) := by decide +kernel
theorem dX2_takeSign_57 : decode cX2_takeSign 57 = .ok (.invokestatic 75, 3) := by decide +kernel
theorem dX2_takeSign_60 : decode cX2_takeSign 60 = .ok (.iastore, 1) := by decide +kernel
theorem dX2_takeSign_61 : decode cX2_takeSign 61 = .ok (.goto 64, 3) := by decide +kernel
theorem dX2_takeSign_64 : decode cX2_takeSign 64 = .ok (.aload_n 0, 1) := by decide +kernel
theorem dX2_takeSign_65 : decode cX2_takeSign 65 = .ok (.getfield 19, 3) := by decide +kernel
theorem dX2_takeSign_68 : decode cX2_takeSign 68 = .ok (.aload_n 0, 1) := by decide +kernel
theorem dX2_takeSign_69 : decode cX2_takeSign 69 = .ok (.getfield 9, 3) := by decide +kernel
theorem dX2_takeSign_72 : decode cX2_takeSign 72 = .ok (.iload_n 2, 1) := by decide +kernel
theorem dX2_takeSign_73 : decode cX2_takeSign 73 = .ok (.bipush 48, 2) := by decide +kernel
theorem dX2_takeSign_75 : decode cX2_takeSign 75 = .ok (.isub, 1) := by decide +kernel
theorem dX2_takeSign_76 : decode cX2_takeSign 76 = .ok (.iastore, 1) := by decide +kernel
theorem dX2_takeSign_77 : decode cX2_takeSign 77 = .ok (.goto 48, 3) := by decide +kernel
theorem dX2_takeSign_80 : decode cX2_takeSign 80 = .ok (.aload_n 0, 1) := by decide +kernel
theorem dX2_takeSign_81 : decode cX2_takeSign 81 = .ok (.getfield 22, 3) := by decide +kernel
theorem dX2_takeSign_84 : decode cX2_takeSign 84 = .ok (.aload_n 0, 1) := by decide +kernel
theorem dX2_takeSign_85 : decode cX2_takeSign 85 = .ok (.getfield 9, 3) := by decide +kernel
theorem dX2_takeSign_88 : decode cX2_takeSign 88 = .ok (.iload_n 2, 1) := by decide +kernel
theorem dX2_takeSign_89 : decode cX2_takeSign 89 = .ok (.bipush 48, 2) := by decide +kernel
theorem dX2_takeSign_91 : decode cX2_takeSign 91 = .ok (.isub, 1) := by decide +kernel
theorem dX2_takeSign_92 : decode cX2_takeSign 92 = .ok (.iastore, 1) := by decide +kernel
theorem dX2_takeSign_93 : decode cX2_takeSign 93 = .ok (.goto 32, 3) := by decide +kernel
theorem dX2_takeSign_96 : decode cX2_takeSign 96 = .ok (.aload_n 0, 1) := by decide +kernel
theorem dX2_takeSign_97 : decode cX2_takeSign 97 = .ok (.getfield 25, 3) := by decide +kernel
theorem dX2_takeSign_100 : decode cX2_takeSign 100 = .ok (.aload_n 0, 1) := by decide +kernel
theorem dX2_takeSign_101 : decode cX2_takeSign 101 = .ok (.getfield 9, 3) := by decide +kernel
theorem dX2_takeSign_104 : decode cX2_takeSign 104 = .ok (.iload_n 2, 1) := by decide +kernel
theorem dX2_takeSign_105 : decode cX2_takeSign 105 = .ok (.bipush 48, 2) := by decide +kernel
theorem dX2_takeSign_107 : decode cX2_takeSign 107 = .ok (.isub, 1) := by decide +kernel
theorem dX2_takeSign_108 : decode cX2_takeSign 108 = .ok (.iastore, 1) := by decide +kernel
theorem dX2_takeSign_109 : decode cX2_takeSign 109 = .ok (.goto 16, 3) := by decide +kernel
theorem dX2_takeSign_112 : decode cX2_takeSign 112 = .ok (.aload_n 0, 1) := by decide +kernel
theorem dX2_takeSign_113 : decode cX2_takeSign 113 = .ok (.getfield 28, 3) := by decide +kernel
theorem dX2_takeSign_116 : decode cX2_takeSign 116 = .ok (.aload_n 0, 1) := by decide +kernel
theorem dX2_takeSign_117 : decode cX2_takeSign 117 = .ok (.getfield 9, 3) := by decide +kernel
theorem dX2_takeSign_120 : decode cX2_takeSign 120 = .ok (.iload_n 2, 1) := by decide +kernel
theorem dX2_takeSign_121 : decode cX2_takeSign 121 = .ok (.bipush 48, 2) := by decide +kernel
theorem dX2_takeSign_123 : decode cX2_takeSign 123 = .ok (.isub, 1) := by decide +kernel
theorem dX2_takeSign_124 : decode cX2_takeSign 124 = .ok (.iastore, 1) := by decide +kernel
theorem dX2_takeSign_125 : decode cX2_takeSign 125 = .ok (.return_, 1) := by decide +kernel
theorem dX2_has_0 : decode cX2_has 0 = .ok (.iload_n 1, 1) := by decide +kernel
theorem dX2_has_1 : decode cX2_has 1 = .ok (.ifCond .lt 15, 3) := by decide +kernel
theorem dX2_has_4 : decode cX2_has 4 = .ok (.iload_n 1, 1) := by decide +kernel
theorem dX2_has_5 : decode cX2_has 5 = .ok (.aload_n 0, 1) := by decide +kernel
theorem dX2_has_6 : decode cX2_has 6 = .ok (.getfield 9, 3) := by decide +kernel
theorem dX2_has_9 : decode cX2_has 9 = .ok (.if_icmp .ge 7, 3) := by decide +kernel
theorem dX2_has_12 : decode cX2_has 12 = .ok (.iconst 1, 1) := by decide +kernel
theorem dX2_has_13 : decode cX2_has 13 = .ok (.goto 4, 3) := by decide +kernel
theorem dX2_has_16 : decode cX2_has 16 = .ok (.iconst 0, 1) := by decide +kernel
theorem dX2_has_17 : decode cX2_has 17 = .ok (.ireturn, 1) := by decide +kernel
theorem dX2_valueAs_0 : decode cX2_valueAs 0 = .ok (.aload_n 0, 1) := by decide +kernel
theorem dX2_valueAs_1 : decode cX2_valueAs 1 = .ok (.iload_n 1, 1) := by decide +kernel
theorem dX2_valueAs_2 : decode cX2_valueAs 2 = .ok (.invokevirtual 87, 3) := by decide +kernel
theorem dX2_valueAs_5 : decode cX2_valueAs 5 = .ok (.ifCond .ne 5, 3) := by decide +kernel
theorem dX2_valueAs_8 : decode cX2_valueAs 8 = .ok (.iconst 0, 1) := by decide +kernel
theorem dX2_valueAs_9 : decode cX2_valueAs 9 = .ok (.ireturn, 1) := by decide +kernel
theorem dX2_valueAs_10 : decode cX2_valueAs 10 = .ok (.aload_n 0, 1) := by decide +kernel
theorem dX2_valueAs_11 : decode cX2_valueAs 11 = .ok (.getfield 31, 3) := by decide +kernel
theorem dX2_valueAs_14 : decode cX2_valueAs 14 = .ok (.iload_n 1, 1) := by decide +kernel
theorem dX2_valueAs_15 : decode cX2_valueAs 15 = .ok (.iaload, 1) := by decide +kernel
theorem dX2_valueAs_16 : decode cX2_valueAs 16 = .ok (.iconst 5, 1) := by decide +kernel
theorem dX2_valueAs_17 : decode cX2_valueAs 17 = .ok (.ishr, 1) := by decide +kernel
theorem dX2_valueAs_18 : decode cX2_valueAs 18 = .ok (.iconst 1, 1) := by decide +kernel
theorem dX2_valueAs_19 : decode cX2_valueAs 19 = .ok (.iand, 1) := by decide +kernel
theorem dX2_valueAs_20 : decode cX2_valueAs 20 = .ok (.ifCond .eq 9, 3) := by decide +kernel
theorem dX2_valueAs_23 : decode cX2_valueAs 23 = .ok (.iload_n 3, 1) := by decide +kernel
theorem dX2_valueAs_24 : decode cX2_valueAs 24 = .ok (.iconst 3, 1) := by decide +kernel
theorem dX2_valueAs_25 : decode cX2_valueAs 25 = .ok (.iadd, 1) := by decide +kernel
theorem dX2_valueAs_26 : decode cX2_valueAs 26 = .ok (.goto 4, 3) := by decide +kernel
theorem dX2_valueAs_29 : decode cX2_valueAs 29 = .ok (.iload_n 3, 1) := by decide +kernel
theorem dX2_valueAs_30 : decode cX2_valueAs 30 = .ok (.istore 4, 2) := by decide +kernel
theorem dX2_valueAs_32 : decode cX2_valueAs 32 = .ok (.iload_n 2, 1) := by decide +kernel
theorem dX2_valueAs_33 : decode cX2_valueAs 33 = .ok (.tableswitch 69 1 5 #[35, 40, 43, 52, 57], 35) := by decide +kernel
theorem dX2_valueAs_68 : decode cX2_valueAs 68 = .ok (.iload_n 3, 1) := by decide +kernel
theorem dX2_valueAs_69 : decode cX2_valueAs 69 = .ok (.bipush 10, 2) := by decide +kernel
theorem dX2_valueAs_71 : decode cX2_valueAs 71 = .ok (.isub, 1) := by decide +kernel
theorem dX2_valueAs_72 : decode cX2_valueAs 72 = .ok (.ireturn, 1) := by decide +kernel
theorem dX2_valueAs_73 : decode cX2_valueAs 73 = .ok (.iload 4, 2) := by decide +kernel
theorem dX2_valueAs_75 : decode cX2_valueAs 75 = .ok (.ireturn, 1) := by decide +kernel
theorem dX2_valueAs_76 : decode cX2_valueAs 76 = .ok (.iload_n 3, 1) := by decide +kernel
theorem dX2_valueAs_77 : decode cX2_valueAs 77 = .ok (.aload_n 0, 1) := by decide +kernel
theorem dX2_valueAs_78 : decode cX2_valueAs 78 = .ok (.getfield 25, 3) := by decide +kernel
theorem dX2_valueAs_81 : decode cX2_valueAs 81 = .ok (.iload_n 1, 1) := by decide +kernel
theorem dX2_valueAs_82 : decode cX2_valueAs 82 = .ok (.iaload, 1) := by decide +kernel
theorem dX2_valueAs_83 : decode cX2_valueAs 83 = .ok (.imul, 1) := by decide +kernel
theorem dX2_valueAs_84 : decode cX2_valueAs 84 = .ok (.ireturn, 1) := by decide +kernel
theorem dX2_valueAs_85 : decode cX2_valueAs 85 = .ok (.iconst 2, 1) := by decide +kernel
theorem dX2_valueAs_86 : decode cX2_valueAs 86 = .ok (.iload 4, 2) := by decide +kernel
theorem dX2_valueAs_88 : decode cX2_valueAs 88 = .ok (.imul, 1) := by decide +kernel
theorem dX2_valueAs_89 : decode cX2_valueAs 89 = .ok (.ireturn, 1) := by decide +kernel
theorem dX2_valueAs_90 : decode cX2_valueAs 90 = .ok (.iload_n 3, 1) := by decide +kernel
theorem dX2_valueAs_91 : decode cX2_valueAs 91 = .ok (.bipush 10, 2) := by decide +kernel
theorem dX2_valueAs_93 : decode cX2_valueAs 93 = .ok (.isub, 1) := by decide +kernel
theorem dX2_valueAs_94 : decode cX2_valueAs 94 = .ok (.aload_n 0, 1) := by decide +kernel
theorem dX2_valueAs_95 : decode cX2_valueAs 95 = .ok (.getfield 25, 3) := by decide +kernel
theorem dX2_valueAs_98 : decode cX2_valueAs 98 = .ok (.iload_n 1, 1) := by decide +kernel
theorem dX2_valueAs_99 : decode cX2_valueAs 99 = .ok (.iaload, 1) := by decide +kernel
theorem dX2_valueAs_100 : decode cX2_valueAs 100 = .ok (.isub, 1) := by decide +kernel
theorem dX2_valueAs_101 : decode cX2_valueAs 101 = .ok (.ireturn, 1) := by decide +kernel
theorem dX2_valueAs_102 : decode cX2_valueAs 102 = .ok (.iload_n 3, 1) := by decide +kernel
theorem dX2_valueAs_103 : decode cX2_valueAs 103 = .ok (.ireturn, 1) := by decide +kernel
theorem dX2_apartFrom_0 : decode cX2_apartFrom 0 = .ok (.iconst 0, 1) := by decide +kernel
theorem dX2_apartFrom_1 : decode cX2_apartFrom 1 = .ok (.istore_n 2, 1) := by decide +kernel
theorem dX2_apartFrom_2 : decode cX2_apartFrom 2 = .ok (.iconst 0, 1) := by decide +kernel
theorem dX2_apartFrom_3 : decode cX2_apartFrom 3 = .ok (.istore_n 3, 1) := by decide +kernel
theorem dX2_apartFrom_4 : decode cX2_apartFrom 4 = .ok (.iload_n 3, 1) := by decide +kernel
theorem dX2_apartFrom_5 : decode cX2_apartFrom 5 = .ok (.aload_n 0, 1) := by decide +kernel
theorem dX2_apartFrom_6 : decode cX2_apartFrom 6 = .ok (.getfield 9, 3) := by decide +kernel
theorem dX2_apartFrom_9 : decode cX2_apartFrom 9 = .ok (.if_icmp .ge 26, 3) := by decide +kernel
theorem dX2_apartFrom_12 : decode cX2_apartFrom 12 = .ok (.aload_n 0, 1) := by decide +kernel
theorem dX2_apartFrom_13 : decode cX2_apartFrom 13 = .ok (.getfield 31, 3) := by decide +kernel
theorem dX2_apartFrom_16 : decode cX2_apartFrom 16 = .ok (.iload_n 3, 1) := by decide +kernel
theorem dX2_apartFrom_17 : decode cX2_apartFrom 17 = .ok (.iaload, 1) := by decide +kernel
theorem dX2_apartFrom_18 : decode cX2_apartFrom 18 = .ok (.iload_n 1, 1) := by decide +kernel
theorem dX2_apartFrom_19 : decode cX2_apartFrom 19 = .ok (.iand, 1) := by decide +kernel
theorem dX2_apartFrom_20 : decode cX2_apartFrom 20 = .ok (.ifCond .ne 9, 3) := by decide +kernel
theorem dX2_apartFrom_23 : decode cX2_apartFrom 23 = .ok (.iload_n 2, 1) := by decide +kernel
theorem dX2_apartFrom_24 : decode cX2_apartFrom 24 = .ok (.iconst 1, 1) := by decide +kernel
theorem dX2_apartFrom_25 : decode cX2_apartFrom 25 = .ok (.iload_n 3, 1) := by decide +kernel
theorem dX2_apartFrom_26 : decode cX2_apartFrom 26 = .ok (.ishl, 1) := by decide +kernel
theorem dX2_apartFrom_27 : decode cX2_apartFrom 27 = .ok (.ior, 1) := by decide +kernel
theorem dX2_apartFrom_28 : decode cX2_apartFrom 28 = .ok (.istore_n 2, 1) := by decide +kernel
theorem dX2_apartFrom_29 : decode cX2_apartFrom 29 = .ok (.iinc 3 1, 3) := by decide +kernel
theorem dX2_apartFrom_32 : decode cX2_apartFrom 32 = .ok (.goto (-28), 3) := by decide +kernel
theorem dX2_apartFrom_35 : decode cX2_apartFrom 35 = .ok (.iload_n 2, 1) := by decide +kernel
theorem dX2_apartFrom_36 : decode cX2_apartFrom 36 = .ok (.ireturn, 1) := by decide +kernel
theorem dX2_reckonSetsTo_0 : decode cX2_reckonSetsTo 0 = .ok (.iconst 1, 1) := by decide +kernel
theorem dX2_reckonSetsTo_1 : decode cX2_reckonSetsTo 1 = .ok (.iload_n 1, 1) := by decide +kernel
theorem dX2_reckonSetsTo_2 : decode cX2_reckonSetsTo 2 = .ok (.ishl, 1) := by decide +kernel
theorem dX2_reckonSetsTo_3 : decode cX2_reckonSetsTo 3 = .ok (.istore_n 2, 1) := by decide +kernel
theorem dX2_reckonSetsTo_4 : decode cX2_reckonSetsTo 4 = .ok (.aload_n 0, 1) := by decide +kernel
theorem dX2_reckonSetsTo_5 : decode cX2_reckonSetsTo 5 = .ok (.aload_n 0, 1) := by decide +kernel
theorem dX2_reckonSetsTo_6 : decode cX2_reckonSetsTo 6 = .ok (.getfield 31, 3) := by decide +kernel
theorem dX2_reckonSetsTo_9 : decode cX2_reckonSetsTo 9 = .ok (.iload_n 1, 1) := by decide +kernel
theorem dX2_reckonSetsTo_10 : decode cX2_reckonSetsTo 10 = .ok (.iaload, 1) := by decide +kernel
theorem dX2_reckonSetsTo_11 : decode cX2_reckonSetsTo 11 = .ok (.invokevirtual 78, 3) := by decide +kernel
theorem dX2_reckonSetsTo_14 : decode cX2_reckonSetsTo 14 = .ok (.istore_n 3, 1) := by decide +kernel
theorem dX2_reckonSetsTo_15 : decode cX2_reckonSetsTo 15 = .ok (.iconst 0, 1) := by decide +kernel
theorem dX2_reckonSetsTo_16 : decode cX2_reckonSetsTo 16 = .ok (.istore 4, 2) := by decide +kernel
theorem dX2_reckonSetsTo_18 : decode cX2_reckonSetsTo 18 = .ok (.iload 4, 2) := by decide +kernel
theorem dX2_reckonSetsTo_20 : decode cX2_reckonSetsTo 20 = .ok (.iload_n 2, 1) := by decide +kernel
theorem dX2_reckonSetsTo_21 : decode cX2_reckonSetsTo 21 = .ok (.if_icmp .ge 139, 3) := by decide +kernel
theorem dX2_reckonSetsTo_24 : decode cX2_reckonSetsTo 24 = .ok (.iload 4, 2) := by decide +kernel
theorem dX2_reckonSetsTo_26 : decode cX2_reckonSetsTo 26 = .ok (.iload_n 2, 1) := by decide +kernel
theorem dX2_reckonSetsTo_27 : decode cX2_reckonSetsTo 27 = .ok (.ior, 1) := by decide +kernel
theorem dX2_reckonSetsTo_28 : decode cX2_reckonSetsTo 28 = .ok (.sipush 256, 3) := by decide +kernel
theorem dX2_reckonSetsTo_31 : decode cX2_reckonSetsTo 31 = .ok (.if_icmp .ge 129, 3) := by decide +kernel
theorem dX2_reckonSetsTo_34 : decode cX2_reckonSetsTo 34 = .ok (.iload 4, 2) := by decide +kernel
theorem dX2_reckonSetsTo_36 : decode cX2_reckonSetsTo 36 = .ok (.iload_n 2, 1) := by decide +kernel
theorem dX2_reckonSetsTo_37 : decode cX2_reckonSetsTo 37 = .ok (.ior, 1) := by decide +kernel
theorem dX2_reckonSetsTo_38 : decode cX2_reckonSetsTo 38 = .ok (.istore 5, 2) := by decide +kernel
theorem dX2_reckonSetsTo_40 : decode cX2_reckonSetsTo 40 = .ok (.aload_n 0, 1) := by decide +kernel
theorem dX2_reckonSetsTo_41 : decode cX2_reckonSetsTo 41 = .ok (.getfield 37, 3) := by decide +kernel
theorem dX2_reckonSetsTo_44 : decode cX2_reckonSetsTo 44 = .ok (.iload 5, 2) := by decide +kernel
theorem dX2_reckonSetsTo_46 : decode cX2_reckonSetsTo 46 = .ok (.aload_n 0, 1) := by decide +kernel
theorem dX2_reckonSetsTo_47 : decode cX2_reckonSetsTo 47 = .ok (.getfield 37, 3) := by decide +kernel
theorem dX2_reckonSetsTo_50 : decode cX2_reckonSetsTo 50 = .ok (.iload 4, 2) := by decide +kernel
theorem dX2_reckonSetsTo_52 : decode cX2_reckonSetsTo 52 = .ok (.iaload, 1) := by decide +kernel
theorem dX2_reckonSetsTo_53 : decode cX2_reckonSetsTo 53 = .ok (.aload_n 0, 1) := by decide +kernel
theorem dX2_reckonSetsTo_54 : decode cX2_reckonSetsTo 54 = .ok (.getfield 31, 3) := by decide +kernel
theorem dX2_reckonSetsTo_57 : decode cX2_reckonSetsTo 57 = .ok (.iload_n 1, 1) := by decide +kernel
theorem dX2_reckonSetsTo_58 : decode cX2_reckonSetsTo 58 = .ok (.iaload, 1) := by decide +kernel
theorem dX2_reckonSetsTo_59 : decode cX2_reckonSetsTo 59 = .ok (.ior, 1) := by decide +kernel
theorem dX2_reckonSetsTo_60 : decode cX2_reckonSetsTo 60 = .ok (.iastore, 1) := by decide +kernel
theorem dX2_reckonSetsTo_61 : decode cX2_reckonSetsTo 61 = .ok (.aload_n 0, 1) := by decide +kernel
theorem dX2_reckonSetsTo_62 : decode cX2_reckonSetsTo 62 = .ok (.getfield 40, 3) := by decide +kernel
theorem dX2_reckonSetsTo_65 : decode cX2_reckonSetsTo 65 = .ok (.iload 5, 2) := by decide +kernel
theorem dX2_reckonSetsTo_67 : decode cX2_reckonSetsTo 67 = .ok (.aload_n 0, 1) := by decide +kernel
theorem dX2_reckonSetsTo_68 : decode cX2_reckonSetsTo 68 = .ok (.getfield 40, 3) := by decide +kernel
theorem dX2_reckonSetsTo_71 : decode cX2_reckonSetsTo 71 = .ok (.iload 4, 2) := by decide +kernel
theorem dX2_reckonSetsTo_73 : decode cX2_reckonSetsTo 73 = .ok (.iaload, 1) := by decide +kernel
theorem dX2_reckonSetsTo_74 : decode cX2_reckonSetsTo 74 = .ok (.aload_n 0, 1) := by decide +kernel
theorem dX2_reckonSetsTo_75 : decode cX2_reckonSetsTo 75 = .ok (.getfield 34, 3) := by decide +kernel
theorem dX2_reckonSetsTo_78 : decode cX2_reckonSetsTo 78 = .ok (.iload_n 1, 1) := by decide +kernel
theorem dX2_reckonSetsTo_79 : decode cX2_reckonSetsTo 79 = .ok (.iaload, 1) := by decide +kernel
theorem dX2_reckonSetsTo_80 : decode cX2_reckonSetsTo 80 = .ok (.iadd, 1) := by decide +kernel
theorem dX2_reckonSetsTo_81 : decode cX2_reckonSetsTo 81 = .ok (.iastore, 1) := by decide +kernel
theorem dX2_reckonSetsTo_82 : decode cX2_reckonSetsTo 82 = .ok (.aload_n 0, 1) := by decide +kernel
theorem dX2_reckonSetsTo_83 : decode cX2_reckonSetsTo 83 = .ok (.getfield 43, 3) := by decide +kernel
theorem dX2_reckonSetsTo_86 : decode cX2_reckonSetsTo 86 = .ok (.iload 5, 2) := by decide +kernel
theorem dX2_reckonSetsTo_88 : decode cX2_reckonSetsTo 88 = .ok (.aload_n 0, 1) := by decide +kernel
theorem dX2_reckonSetsTo_89 : decode cX2_reckonSetsTo 89 = .ok (.getfield 43, 3) := by decide +kernel
theorem dX2_reckonSetsTo_92 : decode cX2_reckonSetsTo 92 = .ok (.iload 4, 2) := by decide +kernel
theorem dX2_reckonSetsTo_94 : decode cX2_reckonSetsTo 94 = .ok (.baload, 1) := by decide +kernel
theorem dX2_reckonSetsTo_95 : decode cX2_reckonSetsTo 95 = .ok (.ifCond .eq 24, 3) := by decide +kernel
theorem dX2_reckonSetsTo_98 : decode cX2_reckonSetsTo 98 = .ok (.aload_n 0, 1) := by decide +kernel
theorem dX2_reckonSetsTo_99 : decode cX2_reckonSetsTo 99 = .ok (.getfield 37, 3) := by decide +kernel
theorem dX2_reckonSetsTo_102 : decode cX2_reckonSetsTo 102 = .ok (.iload 4, 2) := by decide +kernel
theorem dX2_reckonSetsTo_104 : decode cX2_reckonSetsTo 104 = .ok (.iaload, 1) := by decide +kernel
theorem dX2_reckonSetsTo_105 : decode cX2_reckonSetsTo 105 = .ok (.aload_n 0, 1) := by decide +kernel
theorem dX2_reckonSetsTo_106 : decode cX2_reckonSetsTo 106 = .ok (.getfield 31, 3) := by decide +kernel
theorem dX2_reckonSetsTo_109 : decode cX2_reckonSetsTo 109 = .ok (.iload_n 1, 1) := by decide +kernel
theorem dX2_reckonSetsTo_110 : decode cX2_reckonSetsTo 110 = .ok (.iaload, 1) := by decide +kernel
theorem dX2_reckonSetsTo_111 : decode cX2_reckonSetsTo 111 = .ok (.iand, 1) := by decide +kernel
theorem dX2_reckonSetsTo_112 : decode cX2_reckonSetsTo 112 = .ok (.ifCond .ne 7, 3) := by decide +kernel
theorem dX2_reckonSetsTo_115 : decode cX2_reckonSetsTo 115 = .ok (.iconst 1, 1) := by decide +kernel
theorem dX2_reckonSetsTo_116 : decode cX2_reckonSetsTo 116 = .ok (.goto 4, 3) := by decide +kernel
theorem dX2_reckonSetsTo_119 : decode cX2_reckonSetsTo 119 = .ok (.iconst 0, 1) := by decide +kernel
theorem dX2_reckonSetsTo_120 : decode cX2_reckonSetsTo 120 = .ok (.bastore, 1) := by decide +kernel
theorem dX2_reckonSetsTo_121 : decode cX2_reckonSetsTo 121 = .ok (.aload_n 0, 1) := by decide +kernel
theorem dX2_reckonSetsTo_122 : decode cX2_reckonSetsTo 122 = .ok (.getfield 47, 3) := by decide +kernel
theorem dX2_reckonSetsTo_125 : decode cX2_reckonSetsTo 125 = .ok (.iload 5, 2) := by decide +kernel
theorem dX2_reckonSetsTo_127 : decode cX2_reckonSetsTo 127 = .ok (.aload_n 0, 1) := by decide +kernel
theorem dX2_reckonSetsTo_128 : decode cX2_reckonSetsTo 128 = .ok (.getfield 47, 3) := by decide +kernel
theorem dX2_reckonSetsTo_131 : decode cX2_reckonSetsTo 131 = .ok (.iload 4, 2) := by decide +kernel
theorem dX2_reckonSetsTo_133 : decode cX2_reckonSetsTo 133 = .ok (.iaload, 1) := by decide +kernel
theorem dX2_reckonSetsTo_134 : decode cX2_reckonSetsTo 134 = .ok (.aload_n 0, 1) := by decide +kernel
theorem dX2_reckonSetsTo_135 : decode cX2_reckonSetsTo 135 = .ok (.getfield 34, 3) := by decide +kernel
theorem dX2_reckonSetsTo_138 : decode cX2_reckonSetsTo 138 = .ok (.iload_n 1, 1) := by decide +kernel
theorem dX2_reckonSetsTo_139 : decode cX2_reckonSetsTo 139 = .ok (.iaload, 1) := by decide +kernel
theorem dX2_reckonSetsTo_140 : decode cX2_reckonSetsTo 140 = .ok (.aload_n 0, 1) := by decide +kernel
theorem dX2_reckonSetsTo_141 : decode cX2_reckonSetsTo 141 = .ok (.getfield 47, 3) := by decide +kernel
theorem dX2_reckonSetsTo_144 : decode cX2_reckonSetsTo 144 = .ok (.iload 4, 2) := by decide +kernel
theorem dX2_reckonSetsTo_146 : decode cX2_reckonSetsTo 146 = .ok (.iload_n 3, 1) := by decide +kernel
theorem dX2_reckonSetsTo_147 : decode cX2_reckonSetsTo 147 = .ok (.iand, 1) := by decide +kernel
theorem dX2_reckonSetsTo_148 : decode cX2_reckonSetsTo 148 = .ok (.iaload, 1) := by decide +kernel
theorem dX2_reckonSetsTo_149 : decode cX2_reckonSetsTo 149 = .ok (.iadd, 1) := by decide +kernel
theorem dX2_reckonSetsTo_150 : decode cX2_reckonSetsTo 150 = .ok (.invokestatic 81, 3) := by decide +kernel
theorem dX2_reckonSetsTo_153 : decode cX2_reckonSetsTo 153 = .ok (.iastore, 1) := by decide +kernel
theorem dX2_reckonSetsTo_154 : decode cX2_reckonSetsTo 154 = .ok (.iinc 4 1, 3) := by decide +kernel
theorem dX2_reckonSetsTo_157 : decode cX2_reckonSetsTo 157 = .ok (.goto (-139), 3) := by decide +kernel
theorem dX2_reckonSetsTo_160 : decode cX2_reckonSetsTo 160 = .ok (.return_, 1) := by decide +kernel
theorem dX2_read_0 : decode cX2_read 0 = .ok (.aload_n 0, 1) := by decide +kernel
theorem dX2_read_1 : decode cX2_read 1 = .ok (.iconst 0, 1) := by decide +kernel
theorem dX2_read_2 : decode cX2_read 2 = .ok (.putfield 9, 3) := by decide +kernel
theorem dX2_read_5 : decode cX2_read 5 = .ok (.iconst 0, 1) := by decide +kernel
theorem dX2_read_6 : decode cX2_read 6 = .ok (.istore_n 2, 1) := by decide +kernel
theorem dX2_read_7 : decode cX2_read 7 = .ok (.iconst 0, 1) := by decide +kernel
theorem dX2_read_8 : decode cX2_read 8 = .ok (.istore_n 3, 1) := by decide +kernel
theorem dX2_read_9 : decode cX2_read 9 = .ok (.iload_n 3, 1) := by decide +kernel
theorem dX2_read_10 : decode cX2_read 10 = .ok (.aload_n 1, 1) := by decide +kernel
theorem dX2_read_11 : decode cX2_read 11 = .ok (.getfield 54, 3) := by decide +kernel
theorem dX2_read_14 : decode cX2_read 14 = .ok (.if_icmp .ge 59, 3) := by decide +kernel
theorem dX2_read_17 : decode cX2_read 17 = .ok (.aload_n 0, 1) := by decide +kernel
theorem dX2_read_18 : decode cX2_read 18 = .ok (.getfield 9, 3) := by decide +kernel
theorem dX2_read_21 : decode cX2_read 21 = .ok (.bipush 8, 2) := by decide +kernel
theorem dX2_read_23 : decode cX2_read 23 = .ok (.if_icmp .ge 50, 3) := by decide +kernel
theorem dX2_read_26 : decode cX2_read 26 = .ok (.aload_n 1, 1) := by decide +kernel
theorem dX2_read_27 : decode cX2_read 27 = .ok (.iload_n 3, 1) := by decide +kernel
theorem dX2_read_28 : decode cX2_read 28 = .ok (.invokevirtual 59, 3) := by decide +kernel
theorem dX2_read_31 : decode cX2_read 31 = .ok (.istore 4, 2) := by decide +kernel
theorem dX2_read_33 : decode cX2_read 33 = .ok (.iload 4, 2) := by decide +kernel
theorem dX2_read_35 : decode cX2_read 35 = .ok (.bipush 32, 2) := by decide +kernel
theorem dX2_read_37 : decode cX2_read 37 = .ok (.if_icmp .eq 30, 3) := by decide +kernel
theorem dX2_read_40 : decode cX2_read 40 = .ok (.aload_n 0, 1) := by decide +kernel
theorem dX2_read_41 : decode cX2_read 41 = .ok (.iload_n 2, 1) := by decide +kernel
theorem dX2_read_42 : decode cX2_read 42 = .ok (.iload 4, 2) := by decide +kernel
theorem dX2_read_44 : decode cX2_read 44 = .ok (.invokevirtual 63, 3) := by decide +kernel
theorem dX2_read_47 : decode cX2_read 47 = .ok (.iinc 2 1, 3) := by decide +kernel
theorem dX2_read_50 : decode cX2_read 50 = .ok (.iload_n 2, 1) := by decide +kernel
theorem dX2_read_51 : decode cX2_read 51 = .ok (.iconst 5, 1) := by decide +kernel
theorem dX2_read_52 : decode cX2_read 52 = .ok (.if_icmp .ne 15, 3) := by decide +kernel
theorem dX2_read_55 : decode cX2_read 55 = .ok (.iconst 0, 1) := by decide +kernel
theorem dX2_read_56 : decode cX2_read 56 = .ok (.istore_n 2, 1) := by decide +kernel
theorem dX2_read_57 : decode cX2_read 57 = .ok (.aload_n 0, 1) := by decide +kernel
theorem dX2_read_58 : decode cX2_read 58 = .ok (.dup, 1) := by decide +kernel
theorem dX2_read_59 : decode cX2_read 59 = .ok (.getfield 9, 3) := by decide +kernel
theorem dX2_read_62 : decode cX2_read 62 = .ok (.iconst 1, 1) := by decide +kernel
theorem dX2_read_63 : decode cX2_read 63 = .ok (.iadd, 1) := by decide +kernel
theorem dX2_read_64 : decode cX2_read 64 = .ok (.putfield 9, 3) := by decide +kernel
theorem dX2_read_67 : decode cX2_read 67 = .ok (.iinc 3 1, 3) := by decide +kernel
theorem dX2_read_70 : decode cX2_read 70 = .ok (.goto (-61), 3) := by decide +kernel
theorem dX2_read_73 : decode cX2_read 73 = .ok (.iconst 0, 1) := by decide +kernel
theorem dX2_read_74 : decode cX2_read 74 = .ok (.istore_n 3, 1) := by decide +kernel
theorem dX2_read_75 : decode cX2_read 75 = .ok (.iload_n 3, 1) := by decide +kernel
theorem dX2_read_76 : decode cX2_read 76 = .ok (.aload_n 0, 1) := by decide +kernel
theorem dX2_read_77 : decode cX2_read 77 = .ok (.getfield 9, 3) := by decide +kernel
theorem dX2_read_80 : decode cX2_read 80 = .ok (.if_icmp .ge 55, 3) := by decide +kernel
theorem dX2_read_83 : decode cX2_read 83 = .ok (.aload_n 0, 1) := by decide +kernel
theorem dX2_read_84 : decode cX2_read 84 = .ok (.getfield 31, 3) := by decide +kernel
theorem dX2_read_87 : decode cX2_read 87 = .ok (.iload_n 3, 1) := by decide +kernel
theorem dX2_read_88 : decode cX2_read 88 = .ok (.iconst 1, 1) := by decide +kernel
theorem dX2_read_89 : decode cX2_read 89 = .ok (.aload_n 0, 1) := by decide +kernel
theorem dX2_read_90 : decode cX2_read 90 = .ok (.getfield 25, 3) := by decide +kernel
theorem dX2_read_93 : decode cX2_read 93 = .ok (.iload_n 3, 1) := by decide +kernel
theorem dX2_read_94 : decode cX2_read 94 = .ok (.iaload, 1) := by decide +kernel
theorem dX2_read_95 : decode cX2_read 95 = .ok (.ishl, 1) := by decide +kernel
theorem dX2_read_96 : decode cX2_read 96 = .ok (.iconst 1, 1) := by decide +kernel
theorem dX2_read_97 : decode cX2_read 97 = .ok (.isub, 1) := by decide +kernel
theorem dX2_read_98 : decode cX2_read 98 = .ok (.aload_n 0, 1) := by decide +kernel
theorem dX2_read_99 : decode cX2_read 99 = .ok (.getfield 22, 3) := by decide +kernel
theorem dX2_read_102 : decode cX2_read 102 = .ok (.iload_n 3, 1) := by decide +kernel
theorem dX2_read_103 : decode cX2_read 103 = .ok (.iaload, 1) := by decide +kernel
theorem dX2_read_104 : decode cX2_read 104 = .ok (.ishl, 1) := by decide +kernel
theorem dX2_read_105 : decode cX2_read 105 = .ok (.iastore, 1) := by decide +kernel
theorem dX2_read_106 : decode cX2_read 106 = .ok (.aload_n 0, 1) := by decide +kernel
theorem dX2_read_107 : decode cX2_read 107 = .ok (.getfield 34, 3) := by decide +kernel
theorem dX2_read_110 : decode cX2_read 110 = .ok (.iload_n 3, 1) := by decide +kernel
theorem dX2_read_111 : decode cX2_read 111 = .ok (.aload_n 0, 1) := by decide +kernel
theorem dX2_read_112 : decode cX2_read 112 = .ok (.iload_n 3, 1) := by decide +kernel
theorem dX2_read_113 : decode cX2_read 113 = .ok (.aload_n 0, 1) := by decide +kernel
theorem dX2_read_114 : decode cX2_read 114 = .ok (.getfield 15, 3) := by decide +kernel
theorem dX2_read_117 : decode cX2_read 117 = .ok (.iload_n 3, 1) := by decide +kernel
theorem dX2_read_118 : decode cX2_read 118 = .ok (.iaload, 1) := by decide +kernel
theorem dX2_read_119 : decode cX2_read 119 = .ok (.aload_n 0, 1) := by decide +kernel
theorem dX2_read_120 : decode cX2_read 120 = .ok (.getfield 28, 3) := by decide +kernel
theorem dX2_read_123 : decode cX2_read 123 = .ok (.iload_n 3, 1) := by decide +kernel
theorem dX2_read_124 : decode cX2_read 124 = .ok (.iaload, 1) := by decide +kernel
theorem dX2_read_125 : decode cX2_read 125 = .ok (.invokevirtual 67, 3) := by decide +kernel
theorem dX2_read_128 : decode cX2_read 128 = .ok (.iastore, 1) := by decide +kernel
theorem dX2_read_129 : decode cX2_read 129 = .ok (.iinc 3 1, 3) := by decide +kernel
theorem dX2_read_132 : decode cX2_read 132 = .ok (.goto (-57), 3) := by decide +kernel
theorem dX2_read_135 : decode cX2_read 135 = .ok (.iconst 0, 1) := by decide +kernel
theorem dX2_read_136 : decode cX2_read 136 = .ok (.istore_n 3, 1) := by decide +kernel
theorem dX2_read_137 : decode cX2_read 137 = .ok (.iload_n 3, 1) := by decide +kernel
theorem dX2_read_138 : decode cX2_read 138 = .ok (.aload_n 0, 1) := by decide +kernel
theorem dX2_read_139 : decode cX2_read 139 = .ok (.getfield 9, 3) := by decide +kernel
theorem dX2_read_142 : decode cX2_read 142 = .ok (.if_icmp .ge 14, 3) := by decide +kernel
theorem dX2_read_145 : decode cX2_read 145 = .ok (.aload_n 0, 1) := by decide +kernel
theorem dX2_read_146 : decode cX2_read 146 = .ok (.iload_n 3, 1) := by decide +kernel
theorem dX2_read_147 : decode cX2_read 147 = .ok (.invokevirtual 71, 3) := by decide +kernel
theorem dX2_read_150 : decode cX2_read 150 = .ok (.iinc 3 1, 3) := by decide +kernel
theorem dX2_read_153 : decode cX2_read 153 = .ok (.goto (-16), 3) := by decide +kernel
theorem dX2_read_156 : decode cX2_read 156 = .ok (.return_, 1) := by decide +kernel
theorem dX2_all_0 : decode cX2_all 0 = .ok (.iconst 1, 1) := by decide +kernel
theorem dX2_all_1 : decode cX2_all 1 = .ok (.aload_n 0, 1) := by decide +kernel
theorem dX2_all_2 : decode cX2_all 2 = .ok (.getfield 9, 3) := by decide +kernel
theorem dX2_all_5 : decode cX2_all 5 = .ok (.ishl, 1) := by decide +kernel
theorem dX2_all_6 : decode cX2_all 6 = .ok (.iconst 1, 1) := by decide +kernel
theorem dX2_all_7 : decode cX2_all 7 = .ok (.isub, 1) := by decide +kernel
theorem dX2_all_8 : decode cX2_all 8 = .ok (.ireturn, 1) := by decide +kernel
def f4_rowAt (x1 : Int32) : Option (Option Nat) :=
    if x1 < 0 then ((some none))
    else (if (6 : Int32) ≤ x1 then ((some none))
    else ((rdR [0, 1, 2, 3, 4, 5] x1).bind fun q3 =>
    (some (some q3))))
set_option maxHeartbeats 4000000 in
set_option maxRecDepth 10000 in
theorem w4_rowAt {ad : Nat → Nat} {X : XX} {R : Option Nat} {M : Mem} (h : Cx layC ad X cX4_rowAt RX4 2 1 (some (.object "PinDuties$Cells")) M (some (rv ad R))) {x1 : Int32} (hF : f4_rowAt x1 = some R) : Wp layC ad X M 0 [(0, .ref (ad 28)), (1, .int x1)] [] := by
  unfold f4_rowAt at hF
  refine R_iload_n (pc := 0) h 1 rfl rfl dX4_rowAt_0 ?_
  refine R_if_lt (pc := 1) (tgt := 19) h dX4_rowAt_1 (by decide) (fun c1 => ?_) (fun c1 => ?_)
  · have hF := itp c1 hF
    refine R_null (pc := 19) h dX4_rowAt_19 ?_
    cases hF
    exact R_areturn (pc := 20) h rfl (Or.inl rfl) rfl rfl dX4_rowAt_20
  · have hF := ifn c1 hF
    refine R_iload_n (pc := 4) h 1 rfl rfl dX4_rowAt_4 ?_
    refine R_bipush (pc := 5) (v := 6) h (by decide) dX4_rowAt_5 ?_
    refine R_icmp_ge (pc := 7) (tgt := 19) h dX4_rowAt_7 (by decide) (fun c2 => ?_) (fun c2 => ?_)
    · have hF := itp c2 hF
      refine R_null (pc := 19) h dX4_rowAt_19 ?_
      cases hF
      exact R_areturn (pc := 20) h rfl (Or.inl rfl) rfl rfl dX4_rowAt_20
    · have hF := ifn c2 hF
      refine R_aload_n (pc := 10) h 0 rfl rfl dX4_rowAt_10 ?_
      refine R_getR (pc := 11) (q1 := 29) h flX4_11 lc_28 rfl dX4_rowAt_11 ?_
      refine R_iload_n (pc := 14) h 1 rfl rfl dX4_rowAt_14 ?_
      obtain ⟨q3, hq3, hF⟩ := bd hF
      refine R_aald (pc := 15) h hq3 (by decide) lc_29 dX4_rowAt_15 ?_
      refine R_goto (pc := 16) (tgt := 20) h dX4_rowAt_16 (by decide) ?_
      cases hF
      exact R_areturn (pc := 20) h rfl (Or.inr ⟨_, rfl⟩) rfl rfl dX4_rowAt_20
theorem c4_rowAt {ad : Nat → Nat} {z : ZZ} {R : Option Nat} {M : Mem} {x1 : Int32} (hF : f4_rowAt x1 = some R) : Con layC ad z yX4_rowAt cX4_rowAt 2 (some (.object "PinDuties$Cells")) 1 M [.ref (ad 28), .int x1] (M) (some (rv ad R)) := con_of (own := RX4) (lv := [(0, .ref (ad 28)), (1, .int x1)]) (by decide +kernel) rfl (Nat.le_of_ble_eq_true rfl) rfl (fun X hz h => w4_rowAt h hF)
def f4_makeCells_N (fu : Nat) (x2 : Int32) (x3 : Int32) (x4 : Int32) (M : Mem) : Option (Mem × Int32) :=
    (some (M, (-1 : Int32)))
set_option maxHeartbeats 4000000 in
set_option maxRecDepth 10000 in
theorem w4_makeCells_N {ad : Nat → Nat} {X : XX} {R : Mem × Int32} {fu : Nat} (h : Cx layC ad X cX4_makeCells RX4 5 1 (some .int) (R.1) (some (.int R.2))) {x2 : Int32} {x3 : Int32} {x4 : Int32} {M : Mem} (hF : f4_makeCells_N fu x2 x3 x4 M = some R) : Wp layC ad X M 0 [(0, .ref (ad 28)), (1, .null), (2, .int x2), (3, .int x3), (4, .int x4)] [] := by
  unfold f4_makeCells_N at hF
  refine R_aload_nN (pc := 0) h 1 rfl rfl dX4_makeCells_0 ?_
  refine R_ifnullN (pc := 1) (tgt := 9) h dX4_makeCells_1 (by decide) ?_
  refine R_iconst (pc := 9) (v := (-1)) h (by decide) dX4_makeCells_9 ?_
  cases hF
  exact R_ireturn (pc := 10) h rfl rfl rfl dX4_makeCells_10
theorem c4_makeCells_N {ad : Nat → Nat} {z : ZZ} {R : Mem × Int32} {fu : Nat} {x2 : Int32} {x3 : Int32} {x4 : Int32} {M : Mem} (hF : f4_makeCells_N fu x2 x3 x4 M = some R) : Con layC ad z yX4_makeCells cX4_makeCells 5 (some .int) 1 M [.ref (ad 28), .null, .int x2, .int x3, .int x4] (R.1) (some (.int R.2)) := con_of (own := RX4) (lv := [(0, .ref (ad 28)), (1, .null), (2, .int x2), (3, .int x3), (4, .int x4)]) (by decide +kernel) rfl (Nat.le_of_ble_eq_true rfl) rfl (fun X hz h => w4_makeCells_N h hF)
def f0_begin_15 (fu : Nat) : Nat → Nat → Int32 → Int32 → Mem → Option (Mem)
  | 0 => fun _ _ _ _ => none
  | f + 1 => fun px0 x2 x3 M =>
    (gd (decide (px0 < 10))).bind fun _ =>
    if (M.1 px0 0) ≤ x3 then ((some M))
    else ((wr M (px0 + 10) 60 x3 x2).bind fun M3 =>
    nm (x3 + (1 : Int32)) fun v4 =>
    ((f0_begin_15 fu f) px0 x2 v4 M3))
set_option maxHeartbeats 4000000 in
set_option maxRecDepth 10000 in
theorem w0_begini_15 {ad : Nat → Nat} {X : XX} {R : Mem} {fu : Nat}  (h : Cx layC ad X cX0_begin RX0 4 1 none (R) none)  : ∀ (f : Nat) (px0 : Nat) (x2 : Int32) (x3 : Int32) (M : Mem), f0_begin_15 fu f px0 x2 x3 M = some R → Wp layC ad X M 15 [(0, .ref (ad px0)), (2, .int x2), (3, .int x3)] [] := by
  intro f
  induction f with
  | zero => intro px0 x2 x3 M hF; exact absurd hF (by simp [f0_begin_15])
  | succ f ih =>
    intro px0 x2 x3 M hF
    rw [f0_begin_15] at hF
    refine R_iload_n (pc := 15) h 2 rfl rfl dX0_begin_15 ?_
    refine R_aload_n (pc := 16) h 0 rfl rfl dX0_begin_16 ?_
    obtain ⟨_, hg1, hF⟩ := bd hF
    have hg1 := of_decide_eq_true (gd_s hg1)
    refine R_getI (pc := 17) h flX0_9 (lyCells hg1) rfl dX0_begin_17 ?_
    refine R_icmp_ge (pc := 20) (tgt := 36) h dX0_begin_20 (by decide) (fun c2 => ?_) (fun c2 => ?_)
    · have hF := itp c2 hF
      cases hF
      exact R_return (pc := 36) h rfl rfl rfl dX0_begin_36
    · have hF := ifn c2 hF
      refine R_aload_n (pc := 23) h 0 rfl rfl dX0_begin_23 ?_
      refine R_getR (pc := 24) (q1 := px0 + 10) h flX0_15 (lyCells hg1) rfl dX0_begin_24 ?_
      refine R_iload_n (pc := 27) h 2 rfl rfl dX0_begin_27 ?_
      refine R_iload_n (pc := 28) h 1 rfl rfl dX0_begin_28 ?_
      obtain ⟨M3, hM3, hF⟩ := bd hF
      refine R_iast (pc := 29) h hM3 (lyCellsA hg1) dX0_begin_29 ?_
      obtain ⟨v4, hv4, hF⟩ := nm_e2 hF
      refine R_iinc (pc := 30) (lv' := [(3, .int v4), (0, .ref (ad px0)), (2, .int x2)]) h 2 rfl (by decide) hv4 (by decide) rfl dX0_begin_30 ?_
      refine R_goto (pc := 33) (tgt := 15) h dX0_begin_33 (by decide) ?_
      exact Wp_sub (nX := 0) (lv' := [(0, .ref (ad px0)), (2, .int x2), (3, .int v4)]) [1, 2, 0] rfl (ih _ _ _ _ hF)
theorem w0_begin_15 {ad : Nat → Nat} {X : XX} {R : Mem} {fu : Nat}  (h : Cx layC ad X cX0_begin RX0 4 1 none (R) none)  {f : Nat} {px0 : Nat} {x2 : Int32} {x3 : Int32} {M : Mem} (hF : f0_begin_15 fu f px0 x2 x3 M = some R) : Wp layC ad X M 15 [(0, .ref (ad px0)), (2, .int x2), (3, .int x3)] [] := w0_begini_15 h  f _ _ _ _ hF
def f0_begin (fu : Nat) (p0 : Nat) (x1 : Int32) (x2 : Int32) (M : Mem) : Option (Mem) :=
    (gd (decide (p0 < 10))).bind fun _ =>
    nm (sI M p0 0 (if (60 : Int32) < x1 then (60 : Int32) else x1)) fun M2 =>
    (f0_begin_15 fu fu p0 x2 (0 : Int32) M2)
set_option maxHeartbeats 4000000 in
set_option maxRecDepth 10000 in
theorem w0_begin {ad : Nat → Nat} {X : XX} {R : Mem} {fu : Nat} (h : Cx layC ad X cX0_begin RX0 4 1 none (R) none) {p0 : Nat} {x1 : Int32} {x2 : Int32} {M : Mem} (hF : f0_begin fu p0 x1 x2 M = some R) : Wp layC ad X M 0 [(0, .ref (ad p0)), (1, .int x1), (2, .int x2)] [] := by
  unfold f0_begin at hF
  refine R_aload_n (pc := 0) h 0 rfl rfl dX0_begin_0 ?_
  refine R_iload_n (pc := 1) h 1 rfl rfl dX0_begin_1 ?_
  refine R_aload_n (pc := 2) h 0 rfl rfl dX0_begin_2 ?_
  obtain ⟨_, hg1, hF⟩ := bd hF
  have hg1 := of_decide_eq_true (gd_s hg1)
  refine R_getR (pc := 3) (q1 := p0 + 10) h flX0_15 (lyCells hg1) rfl dX0_begin_3 ?_
  refine R_alen (pc := 6) (v := 60) h (by decide) (by decide) (lyCellsA hg1) dX0_begin_6 ?_
  refine R_mmin (pc := 7) h mlX0_19 (by decide) (Nat.le_of_ble_eq_true rfl) dX0_begin_7 ?_
  obtain ⟨M2, hM2, hF⟩ := nm_e2 hF
  refine R_putI (pc := 10) h hM2 fpX0_9 (lyCells hg1) rfl dX0_begin_10 ?_
  refine R_iconst (pc := 13) (v := 0) h (by decide) dX0_begin_13 ?_
  refine R_istore_n (pc := 14) (lv' := [(3, .int (0 : Int32)), (0, .ref (ad p0)), (1, .int x1), (2, .int x2)]) h rfl rfl (by decide) rfl dX0_begin_14 ?_
  exact Wp_sub (nX := 0) (lv' := [(0, .ref (ad p0)), (2, .int x2), (3, .int (0 : Int32))]) [1, 3, 0] rfl (w0_begin_15 h  (hF := hF))
theorem c0_begin {ad : Nat → Nat} {z : ZZ} {R : Mem} {fu : Nat} {p0 : Nat} {x1 : Int32} {x2 : Int32} {M : Mem} (hF : f0_begin fu p0 x1 x2 M = some R) : Con layC ad z yX0_begin cX0_begin 4 none 1 M [.ref (ad p0), .int x1, .int x2] (R) none := con_of (own := RX0) (lv := [(0, .ref (ad p0)), (1, .int x1), (2, .int x2)]) (by decide +kernel) rfl (Nat.le_of_ble_eq_true rfl) rfl (fun X hz h => w0_begin h hF)
def f4_find (x1 : Int32) (M : Mem) : Option (Mem × Int32) :=
    nm (sI M 28 5 x1) fun M1 =>
    if x1 < (1 : Int32) then ((some (M1, (-3 : Int32))))
    else (if (5 : Int32) < x1 then ((some (M1, (-3 : Int32))))
    else ((rd M1 32 6 x1).bind fun v4 =>
    (wr M1 32 6 x1 (v4 + (1 : Int32))).bind fun M5 =>
    (some (M5, (-3 : Int32)))))
set_option maxHeartbeats 4000000 in
set_option maxRecDepth 10000 in
theorem w4_find {ad : Nat → Nat} {X : XX} {R : Mem × Int32} (h : Cx layC ad X cX4_find RX4 2 1 (some .int) (R.1) (some (.int R.2))) {x1 : Int32} {M : Mem} (hF : f4_find x1 M = some R) : Wp layC ad X M 0 [(0, .ref (ad 28)), (1, .int x1)] [] := by
  unfold f4_find at hF
  refine R_aload_n (pc := 0) h 0 rfl rfl dX4_find_0 ?_
  refine R_iload_n (pc := 1) h 1 rfl rfl dX4_find_1 ?_
  obtain ⟨M1, hM1, hF⟩ := nm_e2 hF
  refine R_putI (pc := 2) h hM1 fpX4_35 lc_28 rfl dX4_find_2 ?_
  refine R_iload_n (pc := 5) h 1 rfl rfl dX4_find_5 ?_
  refine R_iconst (pc := 6) (v := 1) h (by decide) dX4_find_6 ?_
  refine R_icmp_lt (pc := 7) (tgt := 25) h dX4_find_7 (by decide) (fun c2 => ?_) (fun c2 => ?_)
  · have hF := itp c2 hF
    refine R_bipush (pc := 25) (v := (-3)) h (by decide) dX4_find_25 ?_
    cases hF
    exact R_ireturn (pc := 27) h rfl rfl rfl dX4_find_27
  · have hF := ifn c2 hF
    refine R_iload_n (pc := 10) h 1 rfl rfl dX4_find_10 ?_
    refine R_iconst (pc := 11) (v := 5) h (by decide) dX4_find_11 ?_
    refine R_icmp_gt (pc := 12) (tgt := 25) h dX4_find_12 (by decide) (fun c3 => ?_) (fun c3 => ?_)
    · have hF := itp c3 hF
      refine R_bipush (pc := 25) (v := (-3)) h (by decide) dX4_find_25 ?_
      cases hF
      exact R_ireturn (pc := 27) h rfl rfl rfl dX4_find_27
    · have hF := ifn c3 hF
      refine R_aload_n (pc := 15) h 0 rfl rfl dX4_find_15 ?_
      refine R_getR (pc := 16) (q1 := 32) h flX4_31 lc_28 rfl dX4_find_16 ?_
      refine R_iload_n (pc := 19) h 1 rfl rfl dX4_find_19 ?_
      refine R_dup2 (pc := 20) h rfl rfl dX4_find_20 ?_
      obtain ⟨v4, hv4, hF⟩ := bd hF
      refine R_iald (pc := 21) h hv4 lc_32 dX4_find_21 ?_
      refine R_iconst (pc := 22) (v := 1) h (by decide) dX4_find_22 ?_
      refine R_iadd (pc := 23) h dX4_find_23 ?_
      obtain ⟨M5, hM5, hF⟩ := bd hF
      refine R_iast (pc := 24) h hM5 lc_32 dX4_find_24 ?_
      refine R_bipush (pc := 25) (v := (-3)) h (by decide) dX4_find_25 ?_
      cases hF
      exact R_ireturn (pc := 27) h rfl rfl rfl dX4_find_27
theorem c4_find {ad : Nat → Nat} {z : ZZ} {R : Mem × Int32} {x1 : Int32} {M : Mem} (hF : f4_find x1 M = some R) : Con layC ad z yX4_find cX4_find 2 (some .int) 1 M [.ref (ad 28), .int x1] (R.1) (some (.int R.2)) := con_of (own := RX4) (lv := [(0, .ref (ad 28)), (1, .int x1)]) (by decide +kernel) rfl (Nat.le_of_ble_eq_true rfl) rfl (fun X hz h => w4_find h hF)
def f4_makeCells (fu : Nat) (p1 : Nat) (x2 : Int32) (x3 : Int32) (x4 : Int32) (M : Mem) : Option (Mem × Int32) :=
    if x2 ≤ x3 then (if 0 ≤ x2 then ((gd (decide (p1 < 10))).bind fun _ =>
    (f0_begin fu p1 x2 x4 M).bind fun M5 =>
    (some (M5, x2)))
    else ((f4_find (5 : Int32) M).bind fun ⟨M7, r8⟩ =>
    (some (M7, r8))))
    else ((some (M, (-1 : Int32))))
set_option maxHeartbeats 4000000 in
set_option maxRecDepth 10000 in
theorem w4_makeCells {ad : Nat → Nat} {X : XX} {R : Mem × Int32} {fu : Nat} (h : Cx layC ad X cX4_makeCells RX4 5 2 (some .int) (R.1) (some (.int R.2))) {p1 : Nat} {x2 : Int32} {x3 : Int32} {x4 : Int32} {M : Mem} (hF : f4_makeCells fu p1 x2 x3 x4 M = some R) : Wp layC ad X M 0 [(0, .ref (ad 28)), (1, .ref (ad p1)), (2, .int x2), (3, .int x3), (4, .int x4)] [] := by
  unfold f4_makeCells at hF
  refine R_aload_n (pc := 0) h 1 rfl rfl dX4_makeCells_0 ?_
  refine R_ifnull (pc := 1) h dX4_makeCells_1 ?_
  refine R_iload_n (pc := 4) h 2 rfl rfl dX4_makeCells_4 ?_
  refine R_iload_n (pc := 5) h 3 rfl rfl dX4_makeCells_5 ?_
  refine R_icmp_le (pc := 6) (tgt := 11) h dX4_makeCells_6 (by decide) (fun c1 => ?_) (fun c1 => ?_)
  · have hF := itp c1 hF
    refine R_iload_n (pc := 11) h 2 rfl rfl dX4_makeCells_11 ?_
    refine R_if_ge (pc := 12) (tgt := 21) h dX4_makeCells_12 (by decide) (fun c2 => ?_) (fun c2 => ?_)
    · have hF := itp c2 hF
      refine R_aload_n (pc := 21) h 1 rfl rfl dX4_makeCells_21 ?_
      refine R_iload_n (pc := 22) h 2 rfl rfl dX4_makeCells_22 ?_
      refine R_iload (pc := 23) h 4 rfl dX4_makeCells_23 ?_
      obtain ⟨_, hg3, hF⟩ := bd hF
      have hg3 := of_decide_eq_true (gd_s hg3)
      obtain ⟨M5, hc4, hF⟩ := bd hF
      refine R_callV (pc := 25) (st := []) h [.int x2, .int x4] cvX4_287 (c0_begin (ad := ad) (z := X.1) hc4) rfl rfl (lyCells hg3) (by decide) (by decide) (Nat.le_of_ble_eq_true rfl) dX4_makeCells_25 (st1 := []) rfl ?_
      refine R_iload_n (pc := 28) h 2 rfl rfl dX4_makeCells_28 ?_
      cases hF
      exact R_ireturn (pc := 29) h rfl rfl rfl dX4_makeCells_29
    · have hF := ifn c2 hF
      refine R_aload_n (pc := 15) h 0 rfl rfl dX4_makeCells_15 ?_
      refine R_iconst (pc := 16) (v := 5) h (by decide) dX4_makeCells_16 ?_
      obtain ⟨⟨M7, r8⟩, hc6, hF⟩ := bd hF
      refine R_callV (pc := 17) (st := []) h [.int (5 : Int32)] cvX4_78 (c4_find (ad := ad) (z := X.1) hc6) rfl rfl lc_28 (by decide) (by decide) (Nat.le_of_ble_eq_true rfl) dX4_makeCells_17 (st1 := [.int r8]) rfl ?_
      cases hF
      exact R_ireturn (pc := 20) h rfl rfl rfl dX4_makeCells_20
  · have hF := ifn c1 hF
    refine R_iconst (pc := 9) (v := (-1)) h (by decide) dX4_makeCells_9 ?_
    cases hF
    exact R_ireturn (pc := 10) h rfl rfl rfl dX4_makeCells_10
theorem c4_makeCells {ad : Nat → Nat} {z : ZZ} {R : Mem × Int32} {fu : Nat} {p1 : Nat} {x2 : Int32} {x3 : Int32} {x4 : Int32} {M : Mem} (hF : f4_makeCells fu p1 x2 x3 x4 M = some R) : Con layC ad z yX4_makeCells cX4_makeCells 5 (some .int) 2 M [.ref (ad 28), .ref (ad p1), .int x2, .int x3, .int x4] (R.1) (some (.int R.2)) := con_of (own := RX4) (lv := [(0, .ref (ad 28)), (1, .ref (ad p1)), (2, .int x2), (3, .int x3), (4, .int x4)]) (by decide +kernel) rfl (Nat.le_of_ble_eq_true rfl) rfl (fun X hz h => w4_makeCells h hF)
def f4_row (fu : Nat) (x1 : Int32) (x2 : Int32) (M : Mem) : Option (Mem × Int32) :=
    (f4_rowAt x1).bind fun r2 =>
    oc r2 ((f4_makeCells_N fu x2 (40 : Int32) (0 : Int32) M).bind fun ⟨M5, r6⟩ =>
    (some (M5, r6)))
    fun q3 => (f4_makeCells fu q3 x2 (40 : Int32) (0 : Int32) M).bind fun ⟨M8, r9⟩ =>
    (some (M8, r9))
set_option maxHeartbeats 4000000 in
set_option maxRecDepth 10000 in
theorem w4_row {ad : Nat → Nat} {X : XX} {R : Mem × Int32} {fu : Nat} (h : Cx layC ad X cX4_row RX4 3 3 (some .int) (R.1) (some (.int R.2))) {x1 : Int32} {x2 : Int32} {M : Mem} (hF : f4_row fu x1 x2 M = some R) : Wp layC ad X M 0 [(0, .ref (ad 28)), (1, .int x1), (2, .int x2)] [] := by
  unfold f4_row at hF
  refine R_aload_n (pc := 0) h 0 rfl rfl dX4_row_0 ?_
  refine R_aload_n (pc := 1) h 0 rfl rfl dX4_row_1 ?_
  refine R_iload_n (pc := 2) h 1 rfl rfl dX4_row_2 ?_
  obtain ⟨r2, hc1, hF⟩ := bd hF
  rcases r2 with _ | q3
  · have hF := oc_n hF
    refine R_callV (pc := 3) (st := [.ref (ad 28)]) h [.int x1] cvX4_51 (c4_rowAt (ad := ad) (z := X.1) (M := M) hc1) rfl rfl lc_28 (by decide) (by decide) (Nat.le_of_ble_eq_true rfl) dX4_row_3 (st1 := [.null, .ref (ad 28)]) rfl ?_
    refine R_iload_n (pc := 6) h 2 rfl rfl dX4_row_6 ?_
    refine R_bipush (pc := 7) (v := 40) h (by decide) dX4_row_7 ?_
    refine R_iconst (pc := 9) (v := 0) h (by decide) dX4_row_9 ?_
    obtain ⟨⟨M5, r6⟩, hc4, hF⟩ := bd hF
    refine R_callV (pc := 10) (st := []) h [.null, .int x2, .int (40 : Int32), .int (0 : Int32)] cvX4_55 (c4_makeCells_N (ad := ad) (z := X.1) hc4) rfl rfl lc_28 (by decide) (by decide) (Nat.le_of_ble_eq_true rfl) dX4_row_10 (st1 := [.int r6]) rfl ?_
    cases hF
    exact R_ireturn (pc := 13) h rfl rfl rfl dX4_row_13
  · have hF := oc_s hF
    refine R_callV (pc := 3) (st := [.ref (ad 28)]) h [.int x1] cvX4_51 (c4_rowAt (ad := ad) (z := X.1) (M := M) hc1) rfl rfl lc_28 (by decide) (by decide) (Nat.le_of_ble_eq_true rfl) dX4_row_3 (st1 := [.ref (ad q3), .ref (ad 28)]) rfl ?_
    refine R_iload_n (pc := 6) h 2 rfl rfl dX4_row_6 ?_
    refine R_bipush (pc := 7) (v := 40) h (by decide) dX4_row_7 ?_
    refine R_iconst (pc := 9) (v := 0) h (by decide) dX4_row_9 ?_
    obtain ⟨⟨M8, r9⟩, hc7, hF⟩ := bd hF
    refine R_callV (pc := 10) (st := []) h [.ref (ad q3), .int x2, .int (40 : Int32), .int (0 : Int32)] cvX4_55 (c4_makeCells (ad := ad) (z := X.1) hc7) rfl rfl lc_28 (by decide) (by decide) (Nat.le_of_ble_eq_true rfl) dX4_row_10 (st1 := [.int r9]) rfl ?_
    cases hF
    exact R_ireturn (pc := 13) h rfl rfl rfl dX4_row_13
theorem c4_row {ad : Nat → Nat} {z : ZZ} {R : Mem × Int32} {fu : Nat} {x1 : Int32} {x2 : Int32} {M : Mem} (hF : f4_row fu x1 x2 M = some R) : Con layC ad z yX4_row cX4_row 3 (some .int) 3 M [.ref (ad 28), .int x1, .int x2] (R.1) (some (.int R.2)) := con_of (own := RX4) (lv := [(0, .ref (ad 28)), (1, .int x1), (2, .int x2)]) (by decide +kernel) rfl (Nat.le_of_ble_eq_true rfl) rfl (fun X hz h => w4_row h hF)
def f4_refuseMissing_N (M : Mem) : Option (Mem × Int32) :=
    (some (M, (-1 : Int32)))
set_option maxHeartbeats 4000000 in
set_option maxRecDepth 10000 in
theorem w4_refuseMissing_N {ad : Nat → Nat} {X : XX} {R : Mem × Int32} (h : Cx layC ad X cX4_refuseMissing RX4 2 1 (some .int) (R.1) (some (.int R.2))) {M : Mem} (hF : f4_refuseMissing_N M = some R) : Wp layC ad X M 0 [(0, .ref (ad 28)), (1, .null)] [] := by
  unfold f4_refuseMissing_N at hF
  refine R_aload_nN (pc := 0) h 1 rfl rfl dX4_refuseMissing_0 ?_
  refine R_ifnonnullN (pc := 1) h dX4_refuseMissing_1 ?_
  refine R_iconst (pc := 4) (v := (-1)) h (by decide) dX4_refuseMissing_4 ?_
  cases hF
  exact R_ireturn (pc := 5) h rfl rfl rfl dX4_refuseMissing_5
theorem c4_refuseMissing_N {ad : Nat → Nat} {z : ZZ} {R : Mem × Int32} {M : Mem} (hF : f4_refuseMissing_N M = some R) : Con layC ad z yX4_refuseMissing cX4_refuseMissing 2 (some .int) 1 M [.ref (ad 28), .null] (R.1) (some (.int R.2)) := con_of (own := RX4) (lv := [(0, .ref (ad 28)), (1, .null)]) (by decide +kernel) rfl (Nat.le_of_ble_eq_true rfl) rfl (fun X hz h => w4_refuseMissing_N h hF)
def f4_refusePlace_N (x2 : Int32) (M : Mem) : Option (Mem × Int32) :=
    (f4_refuseMissing_N M).bind fun ⟨M2, r3⟩ =>
    (some (M2, r3))
set_option maxHeartbeats 4000000 in
set_option maxRecDepth 10000 in
theorem w4_refusePlace_N {ad : Nat → Nat} {X : XX} {R : Mem × Int32} (h : Cx layC ad X cX4_refusePlace RX4 4 2 (some .int) (R.1) (some (.int R.2))) {x2 : Int32} {M : Mem} (hF : f4_refusePlace_N x2 M = some R) : Wp layC ad X M 0 [(0, .ref (ad 28)), (1, .null), (2, .int x2)] [] := by
  unfold f4_refusePlace_N at hF
  refine R_aload_n (pc := 0) h 0 rfl rfl dX4_refusePlace_0 ?_
  refine R_aload_nN (pc := 1) h 1 rfl rfl dX4_refusePlace_1 ?_
  obtain ⟨⟨M2, r3⟩, hc1, hF⟩ := bd hF
  refine R_callV (pc := 2) (st := []) h [.null] cvX4_71 (c4_refuseMissing_N (ad := ad) (z := X.1) hc1) rfl rfl lc_28 (by decide) (by decide) (Nat.le_of_ble_eq_true rfl) dX4_refusePlace_2 (st1 := [.int r3]) rfl ?_
  refine R_istore_n (pc := 5) (lv' := [(3, .int r3), (0, .ref (ad 28)), (1, .null), (2, .int x2)]) h rfl rfl (by decide) rfl dX4_refusePlace_5 ?_
  refine R_aload_nN (pc := 6) h 2 rfl rfl dX4_refusePlace_6 ?_
  refine R_ifnullN (pc := 7) (tgt := 14) h dX4_refusePlace_7 (by decide) ?_
  refine R_iload_n (pc := 14) h 0 rfl rfl dX4_refusePlace_14 ?_
  cases hF
  exact R_ireturn (pc := 15) h rfl rfl rfl dX4_refusePlace_15
theorem c4_refusePlace_N {ad : Nat → Nat} {z : ZZ} {R : Mem × Int32} {x2 : Int32} {M : Mem} (hF : f4_refusePlace_N x2 M = some R) : Con layC ad z yX4_refusePlace cX4_refusePlace 4 (some .int) 2 M [.ref (ad 28), .null, .int x2] (R.1) (some (.int R.2)) := con_of (own := RX4) (lv := [(0, .ref (ad 28)), (1, .null), (2, .int x2)]) (by decide +kernel) rfl (Nat.le_of_ble_eq_true rfl) rfl (fun X hz h => w4_refusePlace_N h hF)
def f0_isMissing (M : Mem) (p0 : Nat) : Option (Int32) :=
    (gd (decide (p0 < 10))).bind fun _ =>
    if 0 ≤ (M.1 p0 0) then ((some (0 : Int32)))
    else ((some (1 : Int32)))
set_option maxHeartbeats 4000000 in
set_option maxRecDepth 10000 in
theorem w0_isMissing {ad : Nat → Nat} {X : XX} {R : Int32} {M : Mem} (h : Cx layC ad X cX0_isMissing RX0 1 1 (some .boolean) M (some (.int R))) {p0 : Nat} (hF : f0_isMissing M p0 = some R) : Wp layC ad X M 0 [(0, .ref (ad p0))] [] := by
  unfold f0_isMissing at hF
  refine R_aload_n (pc := 0) h 0 rfl rfl dX0_isMissing_0 ?_
  obtain ⟨_, hg1, hF⟩ := bd hF
  have hg1 := of_decide_eq_true (gd_s hg1)
  refine R_getI (pc := 1) h flX0_9 (lyCells hg1) rfl dX0_isMissing_1 ?_
  refine R_if_ge (pc := 4) (tgt := 11) h dX0_isMissing_4 (by decide) (fun c2 => ?_) (fun c2 => ?_)
  · have hF := itp c2 hF
    refine R_iconst (pc := 11) (v := 0) h (by decide) dX0_isMissing_11 ?_
    cases hF
    exact R_zreturn (pc := 12) h rfl zr0 rfl rfl dX0_isMissing_12
  · have hF := ifn c2 hF
    refine R_iconst (pc := 7) (v := 1) h (by decide) dX0_isMissing_7 ?_
    refine R_goto (pc := 8) (tgt := 12) h dX0_isMissing_8 (by decide) ?_
    cases hF
    exact R_zreturn (pc := 12) h rfl zr1 rfl rfl dX0_isMissing_12
theorem c0_isMissing {ad : Nat → Nat} {z : ZZ} {R : Int32} {M : Mem} {p0 : Nat} (hF : f0_isMissing M p0 = some R) : Con layC ad z yX0_isMissing cX0_isMissing 1 (some .boolean) 1 M [.ref (ad p0)] (M) (some (.int R)) := con_of (own := RX0) (lv := [(0, .ref (ad p0))]) (by decide +kernel) rfl (Nat.le_of_ble_eq_true rfl) rfl (fun X hz h => w0_isMissing h hF)
def f4_refuseMissing (p1 : Nat) (M : Mem) : Option (Mem × Int32) :=
    (gd (decide (p1 < 10))).bind fun _ =>
    (f0_isMissing M p1).bind fun r3 =>
    if r3 = 0 then ((some (M, (0 : Int32))))
    else ((f4_find (1 : Int32) M).bind fun ⟨M6, r7⟩ =>
    (some (M6, r7)))
set_option maxHeartbeats 4000000 in
set_option maxRecDepth 10000 in
theorem w4_refuseMissing {ad : Nat → Nat} {X : XX} {R : Mem × Int32} (h : Cx layC ad X cX4_refuseMissing RX4 2 2 (some .int) (R.1) (some (.int R.2))) {p1 : Nat} {M : Mem} (hF : f4_refuseMissing p1 M = some R) : Wp layC ad X M 0 [(0, .ref (ad 28)), (1, .ref (ad p1))] [] := by
  unfold f4_refuseMissing at hF
  refine R_aload_n (pc := 0) h 1 rfl rfl dX4_refuseMissing_0 ?_
  refine R_ifnonnull (pc := 1) (tgt := 6) h dX4_refuseMissing_1 (by decide) ?_
  refine R_aload_n (pc := 6) h 1 rfl rfl dX4_refuseMissing_6 ?_
  obtain ⟨_, hg1, hF⟩ := bd hF
  have hg1 := of_decide_eq_true (gd_s hg1)
  obtain ⟨r3, hc2, hF⟩ := bd hF
  refine R_callV (pc := 7) (st := []) h [] cvX4_81 (c0_isMissing (ad := ad) (z := X.1) hc2) rfl rfl (lyCells hg1) (by decide) (by decide) (Nat.le_of_ble_eq_true rfl) dX4_refuseMissing_7 (st1 := [.int r3]) rfl ?_
  refine R_if_eq (pc := 10) (tgt := 21) h dX4_refuseMissing_10 (by decide) (fun c4 => ?_) (fun c4 => ?_)
  · have hF := itp c4 hF
    refine R_iconst (pc := 21) (v := 0) h (by decide) dX4_refuseMissing_21 ?_
    cases hF
    exact R_ireturn (pc := 22) h rfl rfl rfl dX4_refuseMissing_22
  · have hF := ifn c4 hF
    refine R_aload_n (pc := 13) h 0 rfl rfl dX4_refuseMissing_13 ?_
    refine R_iconst (pc := 14) (v := 1) h (by decide) dX4_refuseMissing_14 ?_
    obtain ⟨⟨M6, r7⟩, hc5, hF⟩ := bd hF
    refine R_callV (pc := 15) (st := []) h [.int (1 : Int32)] cvX4_78 (c4_find (ad := ad) (z := X.1) hc5) rfl rfl lc_28 (by decide) (by decide) (Nat.le_of_ble_eq_true rfl) dX4_refuseMissing_15 (st1 := [.int r7]) rfl ?_
    refine R_goto (pc := 18) (tgt := 22) h dX4_refuseMissing_18 (by decide) ?_
    cases hF
    exact R_ireturn (pc := 22) h rfl rfl rfl dX4_refuseMissing_22
theorem c4_refuseMissing {ad : Nat → Nat} {z : ZZ} {R : Mem × Int32} {p1 : Nat} {M : Mem} (hF : f4_refuseMissing p1 M = some R) : Con layC ad z yX4_refuseMissing cX4_refuseMissing 2 (some .int) 2 M [.ref (ad 28), .ref (ad p1)] (R.1) (some (.int R.2)) := con_of (own := RX4) (lv := [(0, .ref (ad 28)), (1, .ref (ad p1))]) (by decide +kernel) rfl (Nat.le_of_ble_eq_true rfl) rfl (fun X hz h => w4_refuseMissing h hF)
def f0_hasCell (M : Mem) (p0 : Nat) (x1 : Int32) : Option (Int32) :=
    if x1 < 0 then ((some (0 : Int32)))
    else ((gd (decide (p0 < 10))).bind fun _ =>
    if (M.1 p0 0) ≤ x1 then ((some (0 : Int32)))
    else ((some (1 : Int32))))
set_option maxHeartbeats 4000000 in
set_option maxRecDepth 10000 in
theorem w0_hasCell {ad : Nat → Nat} {X : XX} {R : Int32} {M : Mem} (h : Cx layC ad X cX0_hasCell RX0 2 1 (some .boolean) M (some (.int R))) {p0 : Nat} {x1 : Int32} (hF : f0_hasCell M p0 x1 = some R) : Wp layC ad X M 0 [(0, .ref (ad p0)), (1, .int x1)] [] := by
  unfold f0_hasCell at hF
  refine R_iload_n (pc := 0) h 1 rfl rfl dX0_hasCell_0 ?_
  refine R_if_lt (pc := 1) (tgt := 16) h dX0_hasCell_1 (by decide) (fun c1 => ?_) (fun c1 => ?_)
  · have hF := itp c1 hF
    refine R_iconst (pc := 16) (v := 0) h (by decide) dX0_hasCell_16 ?_
    cases hF
    exact R_zreturn (pc := 17) h rfl zr0 rfl rfl dX0_hasCell_17
  · have hF := ifn c1 hF
    refine R_iload_n (pc := 4) h 1 rfl rfl dX0_hasCell_4 ?_
    refine R_aload_n (pc := 5) h 0 rfl rfl dX0_hasCell_5 ?_
    obtain ⟨_, hg2, hF⟩ := bd hF
    have hg2 := of_decide_eq_true (gd_s hg2)
    refine R_getI (pc := 6) h flX0_9 (lyCells hg2) rfl dX0_hasCell_6 ?_
    refine R_icmp_ge (pc := 9) (tgt := 16) h dX0_hasCell_9 (by decide) (fun c3 => ?_) (fun c3 => ?_)
    · have hF := itp c3 hF
      refine R_iconst (pc := 16) (v := 0) h (by decide) dX0_hasCell_16 ?_
      cases hF
      exact R_zreturn (pc := 17) h rfl zr0 rfl rfl dX0_hasCell_17
    · have hF := ifn c3 hF
      refine R_iconst (pc := 12) (v := 1) h (by decide) dX0_hasCell_12 ?_
      refine R_goto (pc := 13) (tgt := 17) h dX0_hasCell_13 (by decide) ?_
      cases hF
      exact R_zreturn (pc := 17) h rfl zr1 rfl rfl dX0_hasCell_17
theorem c0_hasCell {ad : Nat → Nat} {z : ZZ} {R : Int32} {M : Mem} {p0 : Nat} {x1 : Int32} (hF : f0_hasCell M p0 x1 = some R) : Con layC ad z yX0_hasCell cX0_hasCell 2 (some .boolean) 1 M [.ref (ad p0), .int x1] (M) (some (.int R)) := con_of (own := RX0) (lv := [(0, .ref (ad p0)), (1, .int x1)]) (by decide +kernel) rfl (Nat.le_of_ble_eq_true rfl) rfl (fun X hz h => w0_hasCell h hF)
def f4_refusePlace (p1 : Nat) (x2 : Int32) (M : Mem) : Option (Mem × Int32) :=
    (f4_refuseMissing p1 M).bind fun ⟨M2, r3⟩ =>
    if r3 = 0 then ((gd (decide (p1 < 10))).bind fun _ =>
    (f0_hasCell M2 p1 x2).bind fun r7 =>
    if r7 = 0 then ((f4_find (2 : Int32) M2).bind fun ⟨M10, r11⟩ =>
    (some (M10, r11)))
    else ((some (M2, (0 : Int32)))))
    else ((some (M2, r3)))
set_option maxHeartbeats 4000000 in
set_option maxRecDepth 10000 in
theorem w4_refusePlace {ad : Nat → Nat} {X : XX} {R : Mem × Int32} (h : Cx layC ad X cX4_refusePlace RX4 4 3 (some .int) (R.1) (some (.int R.2))) {p1 : Nat} {x2 : Int32} {M : Mem} (hF : f4_refusePlace p1 x2 M = some R) : Wp layC ad X M 0 [(0, .ref (ad 28)), (1, .ref (ad p1)), (2, .int x2)] [] := by
  unfold f4_refusePlace at hF
  refine R_aload_n (pc := 0) h 0 rfl rfl dX4_refusePlace_0 ?_
  refine R_aload_n (pc := 1) h 1 rfl rfl dX4_refusePlace_1 ?_
  obtain ⟨⟨M2, r3⟩, hc1, hF⟩ := bd hF
  refine R_callV (pc := 2) (st := []) h [.ref (ad p1)] cvX4_71 (c4_refuseMissing (ad := ad) (z := X.1) hc1) rfl rfl lc_28 (by decide) (by decide) (Nat.le_of_ble_eq_true rfl) dX4_refusePlace_2 (st1 := [.int r3]) rfl ?_
  refine R_istore_n (pc := 5) (lv' := [(3, .int r3), (0, .ref (ad 28)), (1, .ref (ad p1)), (2, .int x2)]) h rfl rfl (by decide) rfl dX4_refusePlace_5 ?_
  refine R_aload_n (pc := 6) h 2 rfl rfl dX4_refusePlace_6 ?_
  refine R_ifnull (pc := 7) h dX4_refusePlace_7 ?_
  refine R_iload_n (pc := 10) h 0 rfl rfl dX4_refusePlace_10 ?_
  refine R_if_eq (pc := 11) (tgt := 16) h dX4_refusePlace_11 (by decide) (fun c4 => ?_) (fun c4 => ?_)
  · have hF := itp c4 hF
    refine R_aload_n (pc := 16) h 2 rfl rfl dX4_refusePlace_16 ?_
    refine R_iload_n (pc := 17) h 3 rfl rfl dX4_refusePlace_17 ?_
    obtain ⟨_, hg5, hF⟩ := bd hF
    have hg5 := of_decide_eq_true (gd_s hg5)
    obtain ⟨r7, hc6, hF⟩ := bd hF
    refine R_callV (pc := 18) (st := []) h [.int x2] cvX4_290 (c0_hasCell (ad := ad) (z := X.1) hc6) rfl rfl (lyCells hg5) (by decide) (by decide) (Nat.le_of_ble_eq_true rfl) dX4_refusePlace_18 (st1 := [.int r7]) rfl ?_
    refine R_if_eq (pc := 21) (tgt := 28) h dX4_refusePlace_21 (by decide) (fun c8 => ?_) (fun c8 => ?_)
    · have hF := itp c8 hF
      refine R_aload_n (pc := 28) h 1 rfl rfl dX4_refusePlace_28 ?_
      refine R_iconst (pc := 29) (v := 2) h (by decide) dX4_refusePlace_29 ?_
      obtain ⟨⟨M10, r11⟩, hc9, hF⟩ := bd hF
      refine R_callV (pc := 30) (st := []) h [.int (2 : Int32)] cvX4_78 (c4_find (ad := ad) (z := X.1) hc9) rfl rfl lc_28 (by decide) (by decide) (Nat.le_of_ble_eq_true rfl) dX4_refusePlace_30 (st1 := [.int r11]) rfl ?_
      cases hF
      exact R_ireturn (pc := 33) h rfl rfl rfl dX4_refusePlace_33
    · have hF := ifn c8 hF
      refine R_iconst (pc := 24) (v := 0) h (by decide) dX4_refusePlace_24 ?_
      refine R_goto (pc := 25) (tgt := 33) h dX4_refusePlace_25 (by decide) ?_
      cases hF
      exact R_ireturn (pc := 33) h rfl rfl rfl dX4_refusePlace_33
  · have hF := ifn c4 hF
    refine R_iload_n (pc := 14) h 0 rfl rfl dX4_refusePlace_14 ?_
    cases hF
    exact R_ireturn (pc := 15) h rfl rfl rfl dX4_refusePlace_15
theorem c4_refusePlace {ad : Nat → Nat} {z : ZZ} {R : Mem × Int32} {p1 : Nat} {x2 : Int32} {M : Mem} (hF : f4_refusePlace p1 x2 M = some R) : Con layC ad z yX4_refusePlace cX4_refusePlace 4 (some .int) 3 M [.ref (ad 28), .ref (ad p1), .int x2] (R.1) (some (.int R.2)) := con_of (own := RX4) (lv := [(0, .ref (ad 28)), (1, .ref (ad p1)), (2, .int x2)]) (by decide +kernel) rfl (Nat.le_of_ble_eq_true rfl) rfl (fun X hz h => w4_refusePlace h hF)
def f0_cellAt (M : Mem) (p0 : Nat) (x1 : Int32) : Option (Int32) :=
    if x1 < 0 then ((some (0 : Int32)))
    else ((gd (decide (p0 < 10))).bind fun _ =>
    if (60 : Int32) ≤ x1 then ((some (0 : Int32)))
    else ((rd M (p0 + 10) 60 x1).bind fun v4 =>
    (some v4)))
set_option maxHeartbeats 4000000 in
set_option maxRecDepth 10000 in
theorem w0_cellAt {ad : Nat → Nat} {X : XX} {R : Int32} {M : Mem} (h : Cx layC ad X cX0_cellAt RX0 2 1 (some .int) M (some (.int R))) {p0 : Nat} {x1 : Int32} (hF : f0_cellAt M p0 x1 = some R) : Wp layC ad X M 0 [(0, .ref (ad p0)), (1, .int x1)] [] := by
  unfold f0_cellAt at hF
  refine R_iload_n (pc := 0) h 1 rfl rfl dX0_cellAt_0 ?_
  refine R_if_lt (pc := 1) (tgt := 22) h dX0_cellAt_1 (by decide) (fun c1 => ?_) (fun c1 => ?_)
  · have hF := itp c1 hF
    refine R_iconst (pc := 22) (v := 0) h (by decide) dX0_cellAt_22 ?_
    cases hF
    exact R_ireturn (pc := 23) h rfl rfl rfl dX0_cellAt_23
  · have hF := ifn c1 hF
    refine R_iload_n (pc := 4) h 1 rfl rfl dX0_cellAt_4 ?_
    refine R_aload_n (pc := 5) h 0 rfl rfl dX0_cellAt_5 ?_
    obtain ⟨_, hg2, hF⟩ := bd hF
    have hg2 := of_decide_eq_true (gd_s hg2)
    refine R_getR (pc := 6) (q1 := p0 + 10) h flX0_15 (lyCells hg2) rfl dX0_cellAt_6 ?_
    refine R_alen (pc := 9) (v := 60) h (by decide) (by decide) (lyCellsA hg2) dX0_cellAt_9 ?_
    refine R_icmp_ge (pc := 10) (tgt := 22) h dX0_cellAt_10 (by decide) (fun c3 => ?_) (fun c3 => ?_)
    · have hF := itp c3 hF
      refine R_iconst (pc := 22) (v := 0) h (by decide) dX0_cellAt_22 ?_
      cases hF
      exact R_ireturn (pc := 23) h rfl rfl rfl dX0_cellAt_23
    · have hF := ifn c3 hF
      refine R_aload_n (pc := 13) h 0 rfl rfl dX0_cellAt_13 ?_
      refine R_getR (pc := 14) (q1 := p0 + 10) h flX0_15 (lyCells hg2) rfl dX0_cellAt_14 ?_
      refine R_iload_n (pc := 17) h 1 rfl rfl dX0_cellAt_17 ?_
      obtain ⟨v4, hv4, hF⟩ := bd hF
      refine R_iald (pc := 18) h hv4 (lyCellsA hg2) dX0_cellAt_18 ?_
      refine R_goto (pc := 19) (tgt := 23) h dX0_cellAt_19 (by decide) ?_
      cases hF
      exact R_ireturn (pc := 23) h rfl rfl rfl dX0_cellAt_23
theorem c0_cellAt {ad : Nat → Nat} {z : ZZ} {R : Int32} {M : Mem} {p0 : Nat} {x1 : Int32} (hF : f0_cellAt M p0 x1 = some R) : Con layC ad z yX0_cellAt cX0_cellAt 2 (some .int) 1 M [.ref (ad p0), .int x1] (M) (some (.int R)) := con_of (own := RX0) (lv := [(0, .ref (ad p0)), (1, .int x1)]) (by decide +kernel) rfl (Nat.le_of_ble_eq_true rfl) rfl (fun X hz h => w0_cellAt h hF)
def f0_setCell (p0 : Nat) (x1 : Int32) (x2 : Int32) (M : Mem) : Option (Mem) :=
    if x1 < 0 then ((some M))
    else ((gd (decide (p0 < 10))).bind fun _ =>
    if (60 : Int32) ≤ x1 then ((some M))
    else ((wr M (p0 + 10) 60 x1 x2).bind fun M4 =>
    (some M4)))
set_option maxHeartbeats 4000000 in
set_option maxRecDepth 10000 in
theorem w0_setCell {ad : Nat → Nat} {X : XX} {R : Mem} (h : Cx layC ad X cX0_setCell RX0 3 1 none (R) none) {p0 : Nat} {x1 : Int32} {x2 : Int32} {M : Mem} (hF : f0_setCell p0 x1 x2 M = some R) : Wp layC ad X M 0 [(0, .ref (ad p0)), (1, .int x1), (2, .int x2)] [] := by
  unfold f0_setCell at hF
  refine R_iload_n (pc := 0) h 1 rfl rfl dX0_setCell_0 ?_
  refine R_if_lt (pc := 1) (tgt := 20) h dX0_setCell_1 (by decide) (fun c1 => ?_) (fun c1 => ?_)
  · have hF := itp c1 hF
    cases hF
    exact R_return (pc := 20) h rfl rfl rfl dX0_setCell_20
  · have hF := ifn c1 hF
    refine R_iload_n (pc := 4) h 1 rfl rfl dX0_setCell_4 ?_
    refine R_aload_n (pc := 5) h 0 rfl rfl dX0_setCell_5 ?_
    obtain ⟨_, hg2, hF⟩ := bd hF
    have hg2 := of_decide_eq_true (gd_s hg2)
    refine R_getR (pc := 6) (q1 := p0 + 10) h flX0_15 (lyCells hg2) rfl dX0_setCell_6 ?_
    refine R_alen (pc := 9) (v := 60) h (by decide) (by decide) (lyCellsA hg2) dX0_setCell_9 ?_
    refine R_icmp_ge (pc := 10) (tgt := 20) h dX0_setCell_10 (by decide) (fun c3 => ?_) (fun c3 => ?_)
    · have hF := itp c3 hF
      cases hF
      exact R_return (pc := 20) h rfl rfl rfl dX0_setCell_20
    · have hF := ifn c3 hF
      refine R_aload_n (pc := 13) h 0 rfl rfl dX0_setCell_13 ?_
      refine R_getR (pc := 14) (q1 := p0 + 10) h flX0_15 (lyCells hg2) rfl dX0_setCell_14 ?_
      refine R_iload_n (pc := 17) h 1 rfl rfl dX0_setCell_17 ?_
      refine R_iload_n (pc := 18) h 2 rfl rfl dX0_setCell_18 ?_
      obtain ⟨M4, hM4, hF⟩ := bd hF
      refine R_iast (pc := 19) h hM4 (lyCellsA hg2) dX0_setCell_19 ?_
      cases hF
      exact R_return (pc := 20) h rfl rfl rfl dX0_setCell_20
theorem c0_setCell {ad : Nat → Nat} {z : ZZ} {R : Mem} {p0 : Nat} {x1 : Int32} {x2 : Int32} {M : Mem} (hF : f0_setCell p0 x1 x2 M = some R) : Con layC ad z yX0_setCell cX0_setCell 3 none 1 M [.ref (ad p0), .int x1, .int x2] (R) none := con_of (own := RX0) (lv := [(0, .ref (ad p0)), (1, .int x1), (2, .int x2)]) (by decide +kernel) rfl (Nat.le_of_ble_eq_true rfl) rfl (fun X hz h => w0_setCell h hF)
def f4_lay (x1 : Int32) (x2 : Int32) (x3 : Int32) (M : Mem) : Option (Mem × Int32) :=
    (f4_rowAt x1).bind fun r2 =>
    oc r2 ((f4_refusePlace_N x2 M).bind fun ⟨M5, r6⟩ =>
    (some (M5, r6)))
    fun q3 => (f4_refusePlace q3 x2 M).bind fun ⟨M8, r9⟩ =>
    if r9 = 0 then ((gd (decide (q3 < 10))).bind fun _ =>
    (f0_cellAt M8 q3 x2).bind fun r13 =>
    nm (sI M8 28 6 r13) fun M14 =>
    (f0_setCell q3 x2 x3 M14).bind fun M16 =>
    (some (M16, (1 : Int32))))
    else ((some (M8, r9)))
set_option maxHeartbeats 4000000 in
set_option maxRecDepth 10000 in
theorem w4_lay {ad : Nat → Nat} {X : XX} {R : Mem × Int32} (h : Cx layC ad X cX4_lay RX4 6 4 (some .int) (R.1) (some (.int R.2))) {x1 : Int32} {x2 : Int32} {x3 : Int32} {M : Mem} (hF : f4_lay x1 x2 x3 M = some R) : Wp layC ad X M 0 [(0, .ref (ad 28)), (1, .int x1), (2, .int x2), (3, .int x3)] [] := by
  unfold f4_lay at hF
  refine R_aload_n (pc := 0) h 0 rfl rfl dX4_lay_0 ?_
  refine R_iload_n (pc := 1) h 1 rfl rfl dX4_lay_1 ?_
  obtain ⟨r2, hc1, hF⟩ := bd hF
  rcases r2 with _ | q3
  · have hF := oc_n hF
    refine R_callV (pc := 2) (st := []) h [.int x1] cvX4_51 (c4_rowAt (ad := ad) (z := X.1) (M := M) hc1) rfl rfl lc_28 (by decide) (by decide) (Nat.le_of_ble_eq_true rfl) dX4_lay_2 (st1 := [.null]) rfl ?_
    refine R_astoreN (pc := 5) (lv' := [(4, .null), (0, .ref (ad 28)), (1, .int x1), (2, .int x2), (3, .int x3)]) h (by decide) rfl dX4_lay_5 ?_
    refine R_aload_n (pc := 7) h 1 rfl rfl dX4_lay_7 ?_
    refine R_aloadN (pc := 8) h 0 rfl dX4_lay_8 ?_
    refine R_iload_n (pc := 10) h 3 rfl rfl dX4_lay_10 ?_
    obtain ⟨⟨M5, r6⟩, hc4, hF⟩ := bd hF
    refine R_callV (pc := 11) (st := []) h [.null, .int x2] cvX4_59 (c4_refusePlace_N (ad := ad) (z := X.1) hc4) rfl rfl lc_28 (by decide) (by decide) (Nat.le_of_ble_eq_true rfl) dX4_lay_11 (st1 := [.int r6]) rfl ?_
    refine R_istore (pc := 14) (lv' := [(5, .int r6), (4, .null), (0, .ref (ad 28)), (1, .int x1), (2, .int x2), (3, .int x3)]) h rfl (by decide) rfl dX4_lay_14 ?_
    refine R_aloadN (pc := 16) h 1 rfl dX4_lay_16 ?_
    refine R_ifnullN (pc := 18) (tgt := 26) h dX4_lay_18 (by decide) ?_
    refine R_iload (pc := 26) h 0 rfl dX4_lay_26 ?_
    cases hF
    exact R_ireturn (pc := 28) h rfl rfl rfl dX4_lay_28
  · have hF := oc_s hF
    refine R_callV (pc := 2) (st := []) h [.int x1] cvX4_51 (c4_rowAt (ad := ad) (z := X.1) (M := M) hc1) rfl rfl lc_28 (by decide) (by decide) (Nat.le_of_ble_eq_true rfl) dX4_lay_2 (st1 := [.ref (ad q3)]) rfl ?_
    refine R_astore (pc := 5) (lv' := [(4, .ref (ad q3)), (0, .ref (ad 28)), (1, .int x1), (2, .int x2), (3, .int x3)]) h rfl (by decide) rfl dX4_lay_5 ?_
    refine R_aload_n (pc := 7) h 1 rfl rfl dX4_lay_7 ?_
    refine R_aload (pc := 8) h 0 rfl dX4_lay_8 ?_
    refine R_iload_n (pc := 10) h 3 rfl rfl dX4_lay_10 ?_
    obtain ⟨⟨M8, r9⟩, hc7, hF⟩ := bd hF
    refine R_callV (pc := 11) (st := []) h [.ref (ad q3), .int x2] cvX4_59 (c4_refusePlace (ad := ad) (z := X.1) hc7) rfl rfl lc_28 (by decide) (by decide) (Nat.le_of_ble_eq_true rfl) dX4_lay_11 (st1 := [.int r9]) rfl ?_
    refine R_istore (pc := 14) (lv' := [(5, .int r9), (4, .ref (ad q3)), (0, .ref (ad 28)), (1, .int x1), (2, .int x2), (3, .int x3)]) h rfl (by decide) rfl dX4_lay_14 ?_
    refine R_aload (pc := 16) h 1 rfl dX4_lay_16 ?_
    refine R_ifnull (pc := 18) h dX4_lay_18 ?_
    refine R_iload (pc := 21) h 0 rfl dX4_lay_21 ?_
    refine R_if_eq (pc := 23) (tgt := 29) h dX4_lay_23 (by decide) (fun c10 => ?_) (fun c10 => ?_)
    · have hF := itp c10 hF
      refine R_aload_n (pc := 29) h 2 rfl rfl dX4_lay_29 ?_
      refine R_aload (pc := 30) h 1 rfl dX4_lay_30 ?_
      refine R_iload_n (pc := 32) h 4 rfl rfl dX4_lay_32 ?_
      obtain ⟨_, hg11, hF⟩ := bd hF
      have hg11 := of_decide_eq_true (gd_s hg11)
      obtain ⟨r13, hc12, hF⟩ := bd hF
      refine R_callV (pc := 33) (st := [.ref (ad 28)]) h [.int x2] cvX4_63 (c0_cellAt (ad := ad) (z := X.1) hc12) rfl rfl (lyCells hg11) (by decide) (by decide) (Nat.le_of_ble_eq_true rfl) dX4_lay_33 (st1 := [.int r13, .ref (ad 28)]) rfl ?_
      obtain ⟨M14, hM14, hF⟩ := nm_e2 hF
      refine R_putI (pc := 36) h hM14 fpX4_39 lc_28 rfl dX4_lay_36 ?_
      refine R_aload (pc := 39) h 1 rfl dX4_lay_39 ?_
      refine R_iload_n (pc := 41) h 4 rfl rfl dX4_lay_41 ?_
      refine R_iload_n (pc := 42) h 5 rfl rfl dX4_lay_42 ?_
      obtain ⟨M16, hc15, hF⟩ := bd hF
      refine R_callV (pc := 43) (st := []) h [.int x2, .int x3] cvX4_67 (c0_setCell (ad := ad) (z := X.1) hc15) rfl rfl (lyCells hg11) (by decide) (by decide) (Nat.le_of_ble_eq_true rfl) dX4_lay_43 (st1 := []) rfl ?_
      refine R_iconst (pc := 46) (v := 1) h (by decide) dX4_lay_46 ?_
      cases hF
      exact R_ireturn (pc := 47) h rfl rfl rfl dX4_lay_47
    · have hF := ifn c10 hF
      refine R_iload (pc := 26) h 0 rfl dX4_lay_26 ?_
      cases hF
      exact R_ireturn (pc := 28) h rfl rfl rfl dX4_lay_28
theorem c4_lay {ad : Nat → Nat} {z : ZZ} {R : Mem × Int32} {x1 : Int32} {x2 : Int32} {x3 : Int32} {M : Mem} (hF : f4_lay x1 x2 x3 M = some R) : Con layC ad z yX4_lay cX4_lay 6 (some .int) 4 M [.ref (ad 28), .int x1, .int x2, .int x3] (R.1) (some (.int R.2)) := con_of (own := RX4) (lv := [(0, .ref (ad 28)), (1, .int x1), (2, .int x2), (3, .int x3)]) (by decide +kernel) rfl (Nat.le_of_ble_eq_true rfl) rfl (fun X hz h => w4_lay h hF)
def f4_at (x1 : Int32) (x2 : Int32) (M : Mem) : Option (Mem × Int32) :=
    (f4_rowAt x1).bind fun r2 =>
    oc r2 ((f4_refusePlace_N x2 M).bind fun ⟨M5, r6⟩ =>
    (some (M5, r6)))
    fun q3 => (f4_refusePlace q3 x2 M).bind fun ⟨M8, r9⟩ =>
    if r9 = 0 then ((gd (decide (q3 < 10))).bind fun _ =>
    (f0_cellAt M8 q3 x2).bind fun r13 =>
    nm (sI M8 28 6 r13) fun M14 =>
    (some (M14, (1 : Int32))))
    else ((some (M8, r9)))
set_option maxHeartbeats 4000000 in
set_option maxRecDepth 10000 in
theorem w4_at {ad : Nat → Nat} {X : XX} {R : Mem × Int32} (h : Cx layC ad X cX4_at RX4 5 4 (some .int) (R.1) (some (.int R.2))) {x1 : Int32} {x2 : Int32} {M : Mem} (hF : f4_at x1 x2 M = some R) : Wp layC ad X M 0 [(0, .ref (ad 28)), (1, .int x1), (2, .int x2)] [] := by
  unfold f4_at at hF
  refine R_aload_n (pc := 0) h 0 rfl rfl dX4_at_0 ?_
  refine R_iload_n (pc := 1) h 1 rfl rfl dX4_at_1 ?_
  obtain ⟨r2, hc1, hF⟩ := bd hF
  rcases r2 with _ | q3
  · have hF := oc_n hF
    refine R_callV (pc := 2) (st := []) h [.int x1] cvX4_51 (c4_rowAt (ad := ad) (z := X.1) (M := M) hc1) rfl rfl lc_28 (by decide) (by decide) (Nat.le_of_ble_eq_true rfl) dX4_at_2 (st1 := [.null]) rfl ?_
    refine R_astore_nN (pc := 5) (lv' := [(3, .null), (0, .ref (ad 28)), (1, .int x1), (2, .int x2)]) h rfl (by decide) rfl dX4_at_5 ?_
    refine R_aload_n (pc := 6) h 1 rfl rfl dX4_at_6 ?_
    refine R_aload_nN (pc := 7) h 0 rfl rfl dX4_at_7 ?_
    refine R_iload_n (pc := 8) h 3 rfl rfl dX4_at_8 ?_
    obtain ⟨⟨M5, r6⟩, hc4, hF⟩ := bd hF
    refine R_callV (pc := 9) (st := []) h [.null, .int x2] cvX4_59 (c4_refusePlace_N (ad := ad) (z := X.1) hc4) rfl rfl lc_28 (by decide) (by decide) (Nat.le_of_ble_eq_true rfl) dX4_at_9 (st1 := [.int r6]) rfl ?_
    refine R_istore (pc := 12) (lv' := [(4, .int r6), (3, .null), (0, .ref (ad 28)), (1, .int x1), (2, .int x2)]) h rfl (by decide) rfl dX4_at_12 ?_
    refine R_aload_nN (pc := 14) h 1 rfl rfl dX4_at_14 ?_
    refine R_ifnullN (pc := 15) (tgt := 23) h dX4_at_15 (by decide) ?_
    refine R_iload (pc := 23) h 0 rfl dX4_at_23 ?_
    cases hF
    exact R_ireturn (pc := 25) h rfl rfl rfl dX4_at_25
  · have hF := oc_s hF
    refine R_callV (pc := 2) (st := []) h [.int x1] cvX4_51 (c4_rowAt (ad := ad) (z := X.1) (M := M) hc1) rfl rfl lc_28 (by decide) (by decide) (Nat.le_of_ble_eq_true rfl) dX4_at_2 (st1 := [.ref (ad q3)]) rfl ?_
    refine R_astore_n (pc := 5) (lv' := [(3, .ref (ad q3)), (0, .ref (ad 28)), (1, .int x1), (2, .int x2)]) h rfl rfl (by decide) rfl dX4_at_5 ?_
    refine R_aload_n (pc := 6) h 1 rfl rfl dX4_at_6 ?_
    refine R_aload_n (pc := 7) h 0 rfl rfl dX4_at_7 ?_
    refine R_iload_n (pc := 8) h 3 rfl rfl dX4_at_8 ?_
    obtain ⟨⟨M8, r9⟩, hc7, hF⟩ := bd hF
    refine R_callV (pc := 9) (st := []) h [.ref (ad q3), .int x2] cvX4_59 (c4_refusePlace (ad := ad) (z := X.1) hc7) rfl rfl lc_28 (by decide) (by decide) (Nat.le_of_ble_eq_true rfl) dX4_at_9 (st1 := [.int r9]) rfl ?_
    refine R_istore (pc := 12) (lv' := [(4, .int r9), (3, .ref (ad q3)), (0, .ref (ad 28)), (1, .int x1), (2, .int x2)]) h rfl (by decide) rfl dX4_at_12 ?_
    refine R_aload_n (pc := 14) h 1 rfl rfl dX4_at_14 ?_
    refine R_ifnull (pc := 15) h dX4_at_15 ?_
    refine R_iload (pc := 18) h 0 rfl dX4_at_18 ?_
    refine R_if_eq (pc := 20) (tgt := 26) h dX4_at_20 (by decide) (fun c10 => ?_) (fun c10 => ?_)
    · have hF := itp c10 hF
      refine R_aload_n (pc := 26) h 2 rfl rfl dX4_at_26 ?_
      refine R_aload_n (pc := 27) h 1 rfl rfl dX4_at_27 ?_
      refine R_iload_n (pc := 28) h 4 rfl rfl dX4_at_28 ?_
      obtain ⟨_, hg11, hF⟩ := bd hF
      have hg11 := of_decide_eq_true (gd_s hg11)
      obtain ⟨r13, hc12, hF⟩ := bd hF
      refine R_callV (pc := 29) (st := [.ref (ad 28)]) h [.int x2] cvX4_63 (c0_cellAt (ad := ad) (z := X.1) hc12) rfl rfl (lyCells hg11) (by decide) (by decide) (Nat.le_of_ble_eq_true rfl) dX4_at_29 (st1 := [.int r13, .ref (ad 28)]) rfl ?_
      obtain ⟨M14, hM14, hF⟩ := nm_e2 hF
      refine R_putI (pc := 32) h hM14 fpX4_39 lc_28 rfl dX4_at_32 ?_
      refine R_iconst (pc := 35) (v := 1) h (by decide) dX4_at_35 ?_
      cases hF
      exact R_ireturn (pc := 36) h rfl rfl rfl dX4_at_36
    · have hF := ifn c10 hF
      refine R_iload (pc := 23) h 0 rfl dX4_at_23 ?_
      cases hF
      exact R_ireturn (pc := 25) h rfl rfl rfl dX4_at_25
theorem c4_at {ad : Nat → Nat} {z : ZZ} {R : Mem × Int32} {x1 : Int32} {x2 : Int32} {M : Mem} (hF : f4_at x1 x2 M = some R) : Con layC ad z yX4_at cX4_at 5 (some .int) 4 M [.ref (ad 28), .int x1, .int x2] (R.1) (some (.int R.2)) := con_of (own := RX4) (lv := [(0, .ref (ad 28)), (1, .int x1), (2, .int x2)]) (by decide +kernel) rfl (Nat.le_of_ble_eq_true rfl) rfl (fun X hz h => w4_at h hF)
def f4_tear (x1 : Int32) (M : Mem) : Option (Mem × Int32) :=
    (f4_rowAt x1).bind fun r2 =>
    oc r2 ((f4_refuseMissing_N M).bind fun ⟨M5, r6⟩ =>
    (some (M5, r6)))
    fun q3 => (f4_refuseMissing q3 M).bind fun ⟨M8, r9⟩ =>
    if r9 = 0 then ((gd (decide (q3 < 10))).bind fun _ =>
    nm (sI M8 q3 0 (-1 : Int32)) fun M12 =>
    (some (M12, (1 : Int32))))
    else ((some (M8, r9)))
set_option maxHeartbeats 4000000 in
set_option maxRecDepth 10000 in
theorem w4_tear {ad : Nat → Nat} {X : XX} {R : Mem × Int32} (h : Cx layC ad X cX4_tear RX4 4 3 (some .int) (R.1) (some (.int R.2))) {x1 : Int32} {M : Mem} (hF : f4_tear x1 M = some R) : Wp layC ad X M 0 [(0, .ref (ad 28)), (1, .int x1)] [] := by
  unfold f4_tear at hF
  refine R_aload_n (pc := 0) h 0 rfl rfl dX4_tear_0 ?_
  refine R_iload_n (pc := 1) h 1 rfl rfl dX4_tear_1 ?_
  obtain ⟨r2, hc1, hF⟩ := bd hF
  rcases r2 with _ | q3
  · have hF := oc_n hF
    refine R_callV (pc := 2) (st := []) h [.int x1] cvX4_51 (c4_rowAt (ad := ad) (z := X.1) (M := M) hc1) rfl rfl lc_28 (by decide) (by decide) (Nat.le_of_ble_eq_true rfl) dX4_tear_2 (st1 := [.null]) rfl ?_
    refine R_astore_nN (pc := 5) (lv' := [(2, .null), (0, .ref (ad 28)), (1, .int x1)]) h rfl (by decide) rfl dX4_tear_5 ?_
    refine R_aload_n (pc := 6) h 1 rfl rfl dX4_tear_6 ?_
    refine R_aload_nN (pc := 7) h 0 rfl rfl dX4_tear_7 ?_
    obtain ⟨⟨M5, r6⟩, hc4, hF⟩ := bd hF
    refine R_callV (pc := 8) (st := []) h [.null] cvX4_71 (c4_refuseMissing_N (ad := ad) (z := X.1) hc4) rfl rfl lc_28 (by decide) (by decide) (Nat.le_of_ble_eq_true rfl) dX4_tear_8 (st1 := [.int r6]) rfl ?_
    refine R_istore_n (pc := 11) (lv' := [(3, .int r6), (2, .null), (0, .ref (ad 28)), (1, .int x1)]) h rfl rfl (by decide) rfl dX4_tear_11 ?_
    refine R_aload_nN (pc := 12) h 1 rfl rfl dX4_tear_12 ?_
    refine R_ifnullN (pc := 13) (tgt := 20) h dX4_tear_13 (by decide) ?_
    refine R_iload_n (pc := 20) h 0 rfl rfl dX4_tear_20 ?_
    cases hF
    exact R_ireturn (pc := 21) h rfl rfl rfl dX4_tear_21
  · have hF := oc_s hF
    refine R_callV (pc := 2) (st := []) h [.int x1] cvX4_51 (c4_rowAt (ad := ad) (z := X.1) (M := M) hc1) rfl rfl lc_28 (by decide) (by decide) (Nat.le_of_ble_eq_true rfl) dX4_tear_2 (st1 := [.ref (ad q3)]) rfl ?_
    refine R_astore_n (pc := 5) (lv' := [(2, .ref (ad q3)), (0, .ref (ad 28)), (1, .int x1)]) h rfl rfl (by decide) rfl dX4_tear_5 ?_
    refine R_aload_n (pc := 6) h 1 rfl rfl dX4_tear_6 ?_
    refine R_aload_n (pc := 7) h 0 rfl rfl dX4_tear_7 ?_
    obtain ⟨⟨M8, r9⟩, hc7, hF⟩ := bd hF
    refine R_callV (pc := 8) (st := []) h [.ref (ad q3)] cvX4_71 (c4_refuseMissing (ad := ad) (z := X.1) hc7) rfl rfl lc_28 (by decide) (by decide) (Nat.le_of_ble_eq_true rfl) dX4_tear_8 (st1 := [.int r9]) rfl ?_
    refine R_istore_n (pc := 11) (lv' := [(3, .int r9), (2, .ref (ad q3)), (0, .ref (ad 28)), (1, .int x1)]) h rfl rfl (by decide) rfl dX4_tear_11 ?_
    refine R_aload_n (pc := 12) h 1 rfl rfl dX4_tear_12 ?_
    refine R_ifnull (pc := 13) h dX4_tear_13 ?_
    refine R_iload_n (pc := 16) h 0 rfl rfl dX4_tear_16 ?_
    refine R_if_eq (pc := 17) (tgt := 22) h dX4_tear_17 (by decide) (fun c10 => ?_) (fun c10 => ?_)
    · have hF := itp c10 hF
      refine R_aload_n (pc := 22) h 1 rfl rfl dX4_tear_22 ?_
      refine R_iconst (pc := 23) (v := (-1)) h (by decide) dX4_tear_23 ?_
      obtain ⟨_, hg11, hF⟩ := bd hF
      have hg11 := of_decide_eq_true (gd_s hg11)
      obtain ⟨M12, hM12, hF⟩ := nm_e2 hF
      refine R_putI (pc := 24) h hM12 fpX4_75 (lyCells hg11) rfl dX4_tear_24 ?_
      refine R_iconst (pc := 27) (v := 1) h (by decide) dX4_tear_27 ?_
      cases hF
      exact R_ireturn (pc := 28) h rfl rfl rfl dX4_tear_28
    · have hF := ifn c10 hF
      refine R_iload_n (pc := 20) h 0 rfl rfl dX4_tear_20 ?_
      cases hF
      exact R_ireturn (pc := 21) h rfl rfl rfl dX4_tear_21
theorem c4_tear {ad : Nat → Nat} {z : ZZ} {R : Mem × Int32} {x1 : Int32} {M : Mem} (hF : f4_tear x1 M = some R) : Con layC ad z yX4_tear cX4_tear 4 (some .int) 3 M [.ref (ad 28), .int x1] (R.1) (some (.int R.2)) := con_of (own := RX4) (lv := [(0, .ref (ad 28)), (1, .int x1)]) (by decide +kernel) rfl (Nat.le_of_ble_eq_true rfl) rfl (fun X hz h => w4_tear h hF)
def f0_hasRun (M : Mem) (p0 : Nat) (x1 : Int32) (x2 : Int32) : Option (Int32) :=
    if x2 < 0 then ((some (0 : Int32)))
    else (if x1 < 0 then ((some (0 : Int32)))
    else ((gd (decide (p0 < 10))).bind fun _ =>
    if ((M.1 p0 0) - x2) < x1 then ((some (0 : Int32)))
    else ((some (1 : Int32)))))
set_option maxHeartbeats 4000000 in
set_option maxRecDepth 10000 in
theorem w0_hasRun {ad : Nat → Nat} {X : XX} {R : Int32} {M : Mem} (h : Cx layC ad X cX0_hasRun RX0 3 1 (some .boolean) M (some (.int R))) {p0 : Nat} {x1 : Int32} {x2 : Int32} (hF : f0_hasRun M p0 x1 x2 = some R) : Wp layC ad X M 0 [(0, .ref (ad p0)), (1, .int x1), (2, .int x2)] [] := by
  unfold f0_hasRun at hF
  refine R_iload_n (pc := 0) h 2 rfl rfl dX0_hasRun_0 ?_
  refine R_if_lt (pc := 1) (tgt := 22) h dX0_hasRun_1 (by decide) (fun c1 => ?_) (fun c1 => ?_)
  · have hF := itp c1 hF
    refine R_iconst (pc := 22) (v := 0) h (by decide) dX0_hasRun_22 ?_
    cases hF
    exact R_zreturn (pc := 23) h rfl zr0 rfl rfl dX0_hasRun_23
  · have hF := ifn c1 hF
    refine R_iload_n (pc := 4) h 1 rfl rfl dX0_hasRun_4 ?_
    refine R_if_lt (pc := 5) (tgt := 22) h dX0_hasRun_5 (by decide) (fun c2 => ?_) (fun c2 => ?_)
    · have hF := itp c2 hF
      refine R_iconst (pc := 22) (v := 0) h (by decide) dX0_hasRun_22 ?_
      cases hF
      exact R_zreturn (pc := 23) h rfl zr0 rfl rfl dX0_hasRun_23
    · have hF := ifn c2 hF
      refine R_iload_n (pc := 8) h 1 rfl rfl dX0_hasRun_8 ?_
      refine R_aload_n (pc := 9) h 0 rfl rfl dX0_hasRun_9 ?_
      obtain ⟨_, hg3, hF⟩ := bd hF
      have hg3 := of_decide_eq_true (gd_s hg3)
      refine R_getI (pc := 10) h flX0_9 (lyCells hg3) rfl dX0_hasRun_10 ?_
      refine R_iload_n (pc := 13) h 2 rfl rfl dX0_hasRun_13 ?_
      refine R_isub (pc := 14) h dX0_hasRun_14 ?_
      refine R_icmp_gt (pc := 15) (tgt := 22) h dX0_hasRun_15 (by decide) (fun c4 => ?_) (fun c4 => ?_)
      · have hF := itp c4 hF
        refine R_iconst (pc := 22) (v := 0) h (by decide) dX0_hasRun_22 ?_
        cases hF
        exact R_zreturn (pc := 23) h rfl zr0 rfl rfl dX0_hasRun_23
      · have hF := ifn c4 hF
        refine R_iconst (pc := 18) (v := 1) h (by decide) dX0_hasRun_18 ?_
        refine R_goto (pc := 19) (tgt := 23) h dX0_hasRun_19 (by decide) ?_
        cases hF
        exact R_zreturn (pc := 23) h rfl zr1 rfl rfl dX0_hasRun_23
theorem c0_hasRun {ad : Nat → Nat} {z : ZZ} {R : Int32} {M : Mem} {p0 : Nat} {x1 : Int32} {x2 : Int32} (hF : f0_hasRun M p0 x1 x2 = some R) : Con layC ad z yX0_hasRun cX0_hasRun 3 (some .boolean) 1 M [.ref (ad p0), .int x1, .int x2] (M) (some (.int R)) := con_of (own := RX0) (lv := [(0, .ref (ad p0)), (1, .int x1), (2, .int x2)]) (by decide +kernel) rfl (Nat.le_of_ble_eq_true rfl) rfl (fun X hz h => w0_hasRun h hF)
def f4_copy_53 (M : Mem) : Option (Mem × Int32) :=
    (f4_find (1 : Int32) M).bind fun ⟨M2, r3⟩ =>
    (some (M2, r3))
set_option maxHeartbeats 4000000 in
set_option maxRecDepth 10000 in
theorem w4_copy_53 {ad : Nat → Nat} {X : XX} {R : Mem × Int32}  (h : Cx layC ad X cX4_copy RX4 8 2 (some .int) (R.1) (some (.int R.2)))  {M : Mem} (hF : f4_copy_53 M = some R) : Wp layC ad X M 53 [(0, .ref (ad 28))] [] := by
  unfold f4_copy_53 at hF
  refine R_aload_n (pc := 53) h 0 rfl rfl dX4_copy_53 ?_
  refine R_iconst (pc := 54) (v := 1) h (by decide) dX4_copy_54 ?_
  obtain ⟨⟨M2, r3⟩, hc1, hF⟩ := bd hF
  refine R_callV (pc := 55) (st := []) h [.int (1 : Int32)] cvX4_78 (c4_find (ad := ad) (z := X.1) hc1) rfl rfl lc_28 (by decide) (by decide) (Nat.le_of_ble_eq_true rfl) dX4_copy_55 (st1 := [.int r3]) rfl ?_
  cases hF
  exact R_ireturn (pc := 58) h rfl rfl rfl dX4_copy_58
def f4_copy_82 (M : Mem) : Option (Mem × Int32) :=
    (f4_find (2 : Int32) M).bind fun ⟨M2, r3⟩ =>
    (some (M2, r3))
set_option maxHeartbeats 4000000 in
set_option maxRecDepth 10000 in
theorem w4_copy_82 {ad : Nat → Nat} {X : XX} {R : Mem × Int32}  (h : Cx layC ad X cX4_copy RX4 8 2 (some .int) (R.1) (some (.int R.2)))  {M : Mem} (hF : f4_copy_82 M = some R) : Wp layC ad X M 82 [(0, .ref (ad 28))] [] := by
  unfold f4_copy_82 at hF
  refine R_aload_n (pc := 82) h 0 rfl rfl dX4_copy_82 ?_
  refine R_iconst (pc := 83) (v := 2) h (by decide) dX4_copy_83 ?_
  obtain ⟨⟨M2, r3⟩, hc1, hF⟩ := bd hF
  refine R_callV (pc := 84) (st := []) h [.int (2 : Int32)] cvX4_78 (c4_find (ad := ad) (z := X.1) hc1) rfl rfl lc_28 (by decide) (by decide) (Nat.le_of_ble_eq_true rfl) dX4_copy_84 (st1 := [.int r3]) rfl ?_
  cases hF
  exact R_ireturn (pc := 87) h rfl rfl rfl dX4_copy_87
def f4_copy (x1 : Int32) (x2 : Int32) (x3 : Int32) (x4 : Int32) (x5 : Int32) (M : Mem) : Option (Mem × Int32) :=
    (f4_rowAt x1).bind fun r2 =>
    oc r2 ((f4_rowAt x3).bind fun r5 =>
    oc r5 ((some (M, (-1 : Int32))))
    fun q6 => (some (M, (-1 : Int32))))
    fun q3 => (f4_rowAt x3).bind fun r8 =>
    oc r8 ((some (M, (-1 : Int32))))
    fun q9 => if 0 ≤ x5 then ((gd (decide (q3 < 10))).bind fun _ =>
    (f0_isMissing M q3).bind fun r13 =>
    if r13 = 0 then ((gd (decide (q9 < 10))).bind fun _ =>
    (f0_isMissing M q9).bind fun r17 =>
    if r17 = 0 then ((f0_hasRun M q3 x2 x5).bind fun r20 =>
    if r20 = 0 then ((f4_copy_82 M))
    else ((f0_hasRun M q9 x4 x5).bind fun r23 =>
    if r23 = 0 then ((f4_copy_82 M))
    else ((cpy M (q3 + 10) 60 x2 (q9 + 10) 60 x4 x5).bind fun M25 =>
    (some (M25, (1 : Int32))))))
    else ((f4_copy_53 M)))
    else ((f4_copy_53 M)))
    else ((f4_find (5 : Int32) M).bind fun ⟨M27, r28⟩ =>
    (some (M27, r28)))
set_option maxHeartbeats 4000000 in
set_option maxRecDepth 10000 in
theorem w4_copy {ad : Nat → Nat} {X : XX} {R : Mem × Int32} (h : Cx layC ad X cX4_copy RX4 8 2 (some .int) (R.1) (some (.int R.2))) {x1 : Int32} {x2 : Int32} {x3 : Int32} {x4 : Int32} {x5 : Int32} {M : Mem} (hF : f4_copy x1 x2 x3 x4 x5 M = some R) : Wp layC ad X M 0 [(0, .ref (ad 28)), (1, .int x1), (2, .int x2), (3, .int x3), (4, .int x4), (5, .int x5)] [] := by
  unfold f4_copy at hF
  refine R_aload_n (pc := 0) h 0 rfl rfl dX4_copy_0 ?_
  refine R_iload_n (pc := 1) h 1 rfl rfl dX4_copy_1 ?_
  obtain ⟨r2, hc1, hF⟩ := bd hF
  rcases r2 with _ | q3
  · have hF := oc_n hF
    refine R_callV (pc := 2) (st := []) h [.int x1] cvX4_51 (c4_rowAt (ad := ad) (z := X.1) (M := M) hc1) rfl rfl lc_28 (by decide) (by decide) (Nat.le_of_ble_eq_true rfl) dX4_copy_2 (st1 := [.null]) rfl ?_
    refine R_astoreN (pc := 5) (lv' := [(6, .null), (0, .ref (ad 28)), (1, .int x1), (2, .int x2), (3, .int x3), (4, .int x4), (5, .int x5)]) h (by decide) rfl dX4_copy_5 ?_
    refine R_aload_n (pc := 7) h 1 rfl rfl dX4_copy_7 ?_
    refine R_iload_n (pc := 8) h 4 rfl rfl dX4_copy_8 ?_
    obtain ⟨r5, hc4, hF⟩ := bd hF
    rcases r5 with _ | q6
    · have hF := oc_n hF
      refine R_callV (pc := 9) (st := []) h [.int x3] cvX4_51 (c4_rowAt (ad := ad) (z := X.1) (M := M) hc4) rfl rfl lc_28 (by decide) (by decide) (Nat.le_of_ble_eq_true rfl) dX4_copy_9 (st1 := [.null]) rfl ?_
      refine R_astoreN (pc := 12) (lv' := [(7, .null), (6, .null), (0, .ref (ad 28)), (1, .int x1), (2, .int x2), (3, .int x3), (4, .int x4), (5, .int x5)]) h (by decide) rfl dX4_copy_12 ?_
      refine R_aloadN (pc := 14) h 1 rfl dX4_copy_14 ?_
      refine R_ifnullN (pc := 16) (tgt := 24) h dX4_copy_16 (by decide) ?_
      refine R_iconst (pc := 24) (v := (-1)) h (by decide) dX4_copy_24 ?_
      cases hF
      exact R_ireturn (pc := 25) h rfl rfl rfl dX4_copy_25
    · have hF := oc_s hF
      refine R_callV (pc := 9) (st := []) h [.int x3] cvX4_51 (c4_rowAt (ad := ad) (z := X.1) (M := M) hc4) rfl rfl lc_28 (by decide) (by decide) (Nat.le_of_ble_eq_true rfl) dX4_copy_9 (st1 := [.ref (ad q6)]) rfl ?_
      refine R_astore (pc := 12) (lv' := [(7, .ref (ad q6)), (6, .null), (0, .ref (ad 28)), (1, .int x1), (2, .int x2), (3, .int x3), (4, .int x4), (5, .int x5)]) h rfl (by decide) rfl dX4_copy_12 ?_
      refine R_aloadN (pc := 14) h 1 rfl dX4_copy_14 ?_
      refine R_ifnullN (pc := 16) (tgt := 24) h dX4_copy_16 (by decide) ?_
      refine R_iconst (pc := 24) (v := (-1)) h (by decide) dX4_copy_24 ?_
      cases hF
      exact R_ireturn (pc := 25) h rfl rfl rfl dX4_copy_25
  · have hF := oc_s hF
    refine R_callV (pc := 2) (st := []) h [.int x1] cvX4_51 (c4_rowAt (ad := ad) (z := X.1) (M := M) hc1) rfl rfl lc_28 (by decide) (by decide) (Nat.le_of_ble_eq_true rfl) dX4_copy_2 (st1 := [.ref (ad q3)]) rfl ?_
    refine R_astore (pc := 5) (lv' := [(6, .ref (ad q3)), (0, .ref (ad 28)), (1, .int x1), (2, .int x2), (3, .int x3), (4, .int x4), (5, .int x5)]) h rfl (by decide) rfl dX4_copy_5 ?_
    refine R_aload_n (pc := 7) h 1 rfl rfl dX4_copy_7 ?_
    refine R_iload_n (pc := 8) h 4 rfl rfl dX4_copy_8 ?_
    obtain ⟨r8, hc7, hF⟩ := bd hF
    rcases r8 with _ | q9
    · have hF := oc_n hF
      refine R_callV (pc := 9) (st := []) h [.int x3] cvX4_51 (c4_rowAt (ad := ad) (z := X.1) (M := M) hc7) rfl rfl lc_28 (by decide) (by decide) (Nat.le_of_ble_eq_true rfl) dX4_copy_9 (st1 := [.null]) rfl ?_
      refine R_astoreN (pc := 12) (lv' := [(7, .null), (6, .ref (ad q3)), (0, .ref (ad 28)), (1, .int x1), (2, .int x2), (3, .int x3), (4, .int x4), (5, .int x5)]) h (by decide) rfl dX4_copy_12 ?_
      refine R_aload (pc := 14) h 1 rfl dX4_copy_14 ?_
      refine R_ifnull (pc := 16) h dX4_copy_16 ?_
      refine R_aloadN (pc := 19) h 0 rfl dX4_copy_19 ?_
      refine R_ifnonnullN (pc := 21) h dX4_copy_21 ?_
      refine R_iconst (pc := 24) (v := (-1)) h (by decide) dX4_copy_24 ?_
      cases hF
      exact R_ireturn (pc := 25) h rfl rfl rfl dX4_copy_25
    · have hF := oc_s hF
      refine R_callV (pc := 9) (st := []) h [.int x3] cvX4_51 (c4_rowAt (ad := ad) (z := X.1) (M := M) hc7) rfl rfl lc_28 (by decide) (by decide) (Nat.le_of_ble_eq_true rfl) dX4_copy_9 (st1 := [.ref (ad q9)]) rfl ?_
      refine R_astore (pc := 12) (lv' := [(7, .ref (ad q9)), (6, .ref (ad q3)), (0, .ref (ad 28)), (1, .int x1), (2, .int x2), (3, .int x3), (4, .int x4), (5, .int x5)]) h rfl (by decide) rfl dX4_copy_12 ?_
      refine R_aload (pc := 14) h 1 rfl dX4_copy_14 ?_
      refine R_ifnull (pc := 16) h dX4_copy_16 ?_
      refine R_aload (pc := 19) h 0 rfl dX4_copy_19 ?_
      refine R_ifnonnull (pc := 21) (tgt := 26) h dX4_copy_21 (by decide) ?_
      refine R_iload (pc := 26) h 7 rfl dX4_copy_26 ?_
      refine R_if_ge (pc := 28) (tgt := 37) h dX4_copy_28 (by decide) (fun c10 => ?_) (fun c10 => ?_)
      · have hF := itp c10 hF
        refine R_aload (pc := 37) h 1 rfl dX4_copy_37 ?_
        obtain ⟨_, hg11, hF⟩ := bd hF
        have hg11 := of_decide_eq_true (gd_s hg11)
        obtain ⟨r13, hc12, hF⟩ := bd hF
        refine R_callV (pc := 39) (st := []) h [] cvX4_81 (c0_isMissing (ad := ad) (z := X.1) hc12) rfl rfl (lyCells hg11) (by decide) (by decide) (Nat.le_of_ble_eq_true rfl) dX4_copy_39 (st1 := [.int r13]) rfl ?_
        refine R_if_ne (pc := 42) (tgt := 53) h dX4_copy_42 (by decide) (fun c14 => ?_) (fun c14 => ?_)
        · have hF := ifn c14 hF
          exact Wp_sub (nX := 0) (lv' := [(0, .ref (ad 28))]) [2] rfl (w4_copy_53 h  (hF := hF))
        · have hF := itp c14 hF
          refine R_aload (pc := 45) h 0 rfl dX4_copy_45 ?_
          obtain ⟨_, hg15, hF⟩ := bd hF
          have hg15 := of_decide_eq_true (gd_s hg15)
          obtain ⟨r17, hc16, hF⟩ := bd hF
          refine R_callV (pc := 47) (st := []) h [] cvX4_81 (c0_isMissing (ad := ad) (z := X.1) hc16) rfl rfl (lyCells hg15) (by decide) (by decide) (Nat.le_of_ble_eq_true rfl) dX4_copy_47 (st1 := [.int r17]) rfl ?_
          refine R_if_eq (pc := 50) (tgt := 59) h dX4_copy_50 (by decide) (fun c18 => ?_) (fun c18 => ?_)
          · have hF := itp c18 hF
            refine R_aload (pc := 59) h 1 rfl dX4_copy_59 ?_
            refine R_iload_n (pc := 61) h 4 rfl rfl dX4_copy_61 ?_
            refine R_iload (pc := 62) h 7 rfl dX4_copy_62 ?_
            obtain ⟨r20, hc19, hF⟩ := bd hF
            refine R_callV (pc := 64) (st := []) h [.int x2, .int x5] cvX4_85 (c0_hasRun (ad := ad) (z := X.1) hc19) rfl rfl (lyCells hg11) (by decide) (by decide) (Nat.le_of_ble_eq_true rfl) dX4_copy_64 (st1 := [.int r20]) rfl ?_
            refine R_if_eq (pc := 67) (tgt := 82) h dX4_copy_67 (by decide) (fun c21 => ?_) (fun c21 => ?_)
            · have hF := itp c21 hF
              exact Wp_sub (nX := 0) (lv' := [(0, .ref (ad 28))]) [2] rfl (w4_copy_82 h  (hF := hF))
            · have hF := ifn c21 hF
              refine R_aload (pc := 70) h 0 rfl dX4_copy_70 ?_
              refine R_iload (pc := 72) h 6 rfl dX4_copy_72 ?_
              refine R_iload (pc := 74) h 7 rfl dX4_copy_74 ?_
              obtain ⟨r23, hc22, hF⟩ := bd hF
              refine R_callV (pc := 76) (st := []) h [.int x4, .int x5] cvX4_85 (c0_hasRun (ad := ad) (z := X.1) hc22) rfl rfl (lyCells hg15) (by decide) (by decide) (Nat.le_of_ble_eq_true rfl) dX4_copy_76 (st1 := [.int r23]) rfl ?_
              refine R_if_ne (pc := 79) (tgt := 88) h dX4_copy_79 (by decide) (fun c24 => ?_) (fun c24 => ?_)
              · have hF := ifn c24 hF
                refine R_aload (pc := 88) h 1 rfl dX4_copy_88 ?_
                refine R_getR (pc := 90) (q1 := q3 + 10) h flX4_89 (lyCells hg11) rfl dX4_copy_90 ?_
                refine R_iload_n (pc := 93) h 4 rfl rfl dX4_copy_93 ?_
                refine R_aload (pc := 94) h 0 rfl dX4_copy_94 ?_
                refine R_getR (pc := 96) (q1 := q9 + 10) h flX4_89 (lyCells hg15) rfl dX4_copy_96 ?_
                refine R_iload (pc := 99) h 6 rfl dX4_copy_99 ?_
                refine R_iload (pc := 101) h 7 rfl dX4_copy_101 ?_
                obtain ⟨M25, hM25, hF⟩ := bd hF
                refine R_copyi (pc := 103) h acX4_92 hM25 (lyCellsA hg11) (lyCellsA hg15) (by decide) rfl dX4_copy_103 ?_
                refine R_iconst (pc := 106) (v := 1) h (by decide) dX4_copy_106 ?_
                cases hF
                exact R_ireturn (pc := 107) h rfl rfl rfl dX4_copy_107
              · have hF := itp c24 hF
                exact Wp_sub (nX := 0) (lv' := [(0, .ref (ad 28))]) [2] rfl (w4_copy_82 h  (hF := hF))
          · have hF := ifn c18 hF
            exact Wp_sub (nX := 0) (lv' := [(0, .ref (ad 28))]) [2] rfl (w4_copy_53 h  (hF := hF))
      · have hF := ifn c10 hF
        refine R_aload_n (pc := 31) h 2 rfl rfl dX4_copy_31 ?_
        refine R_iconst (pc := 32) (v := 5) h (by decide) dX4_copy_32 ?_
        obtain ⟨⟨M27, r28⟩, hc26, hF⟩ := bd hF
        refine R_callV (pc := 33) (st := []) h [.int (5 : Int32)] cvX4_78 (c4_find (ad := ad) (z := X.1) hc26) rfl rfl lc_28 (by decide) (by decide) (Nat.le_of_ble_eq_true rfl) dX4_copy_33 (st1 := [.int r28]) rfl ?_
        cases hF
        exact R_ireturn (pc := 36) h rfl rfl rfl dX4_copy_36
theorem c4_copy {ad : Nat → Nat} {z : ZZ} {R : Mem × Int32} {x1 : Int32} {x2 : Int32} {x3 : Int32} {x4 : Int32} {x5 : Int32} {M : Mem} (hF : f4_copy x1 x2 x3 x4 x5 M = some R) : Con layC ad z yX4_copy cX4_copy 8 (some .int) 2 M [.ref (ad 28), .int x1, .int x2, .int x3, .int x4, .int x5] (R.1) (some (.int R.2)) := con_of (own := RX4) (lv := [(0, .ref (ad 28)), (1, .int x1), (2, .int x2), (3, .int x3), (4, .int x4), (5, .int x5)]) (by decide +kernel) rfl (Nat.le_of_ble_eq_true rfl) rfl (fun X hz h => w4_copy h hF)
def f4_mean_41 (fu : Nat) : Nat → Nat → Int64 → Int32 → Mem → Option (Mem × Int32)
  | 0 => fun _ _ _ _ => none
  | f + 1 => fun px2 x4 x6 M =>
    (gd (decide (px2 < 10))).bind fun _ =>
    if (M.1 px2 0) ≤ x6 then ((dvL x4 (M.1 px2 0).toInt64).bind fun v3 =>
    nm (sI M 28 6 v3.toInt32) fun M4 =>
    (some (M4, (1 : Int32))))
    else ((f0_cellAt M px2 x6).bind fun r6 =>
    nm (x4 + r6.toInt64) fun v7 =>
    nm (x6 + (1 : Int32)) fun v8 =>
    ((f4_mean_41 fu f) px2 v7 v8 M))
set_option maxHeartbeats 4000000 in
set_option maxRecDepth 10000 in
theorem w4_meani_41 {ad : Nat → Nat} {X : XX} {R : Mem × Int32} {fu : Nat}  (h : Cx layC ad X cX4_mean RX4 7 3 (some .int) (R.1) (some (.int R.2)))  : ∀ (f : Nat) (px2 : Nat) (x4 : Int64) (x6 : Int32) (M : Mem), f4_mean_41 fu f px2 x4 x6 M = some R → Wp layC ad X M 41 [(0, .ref (ad 28)), (2, .ref (ad px2)), (4, .long x4), (6, .int x6)] [] := by
  intro f
  induction f with
  | zero => intro px2 x4 x6 M hF; exact absurd hF (by simp [f4_mean_41])
  | succ f ih =>
    intro px2 x4 x6 M hF
    rw [f4_mean_41] at hF
    refine R_iload (pc := 41) h 3 rfl dX4_mean_41 ?_
    refine R_aload_n (pc := 43) h 1 rfl rfl dX4_mean_43 ?_
    obtain ⟨_, hg1, hF⟩ := bd hF
    have hg1 := of_decide_eq_true (gd_s hg1)
    refine R_getI (pc := 44) h flX4_75 (lyCells hg1) rfl dX4_mean_44 ?_
    refine R_icmp_ge (pc := 47) (tgt := 68) h dX4_mean_47 (by decide) (fun c2 => ?_) (fun c2 => ?_)
    · have hF := itp c2 hF
      refine R_aload_n (pc := 68) h 0 rfl rfl dX4_mean_68 ?_
      refine R_lload (pc := 69) h 2 rfl dX4_mean_69 ?_
      refine R_aload_n (pc := 71) h 1 rfl rfl dX4_mean_71 ?_
      refine R_getI (pc := 72) h flX4_75 (lyCells hg1) rfl dX4_mean_72 ?_
      refine R_i2l (pc := 75) h dX4_mean_75 ?_
      obtain ⟨v3, hv3, hF⟩ := bd hF
      refine R_ldiv (pc := 76) h hv3 dX4_mean_76 ?_
      refine R_l2i (pc := 77) h dX4_mean_77 ?_
      obtain ⟨M4, hM4, hF⟩ := nm_e2 hF
      refine R_putI (pc := 78) h hM4 fpX4_39 lc_28 rfl dX4_mean_78 ?_
      refine R_iconst (pc := 81) (v := 1) h (by decide) dX4_mean_81 ?_
      cases hF
      exact R_ireturn (pc := 82) h rfl rfl rfl dX4_mean_82
    · have hF := ifn c2 hF
      refine R_lload (pc := 50) h 2 rfl dX4_mean_50 ?_
      refine R_aload_n (pc := 52) h 1 rfl rfl dX4_mean_52 ?_
      refine R_iload (pc := 53) h 3 rfl dX4_mean_53 ?_
      obtain ⟨r6, hc5, hF⟩ := bd hF
      refine R_callV (pc := 55) (st := [.long x4]) h [.int x6] cvX4_63 (c0_cellAt (ad := ad) (z := X.1) hc5) rfl rfl (lyCells hg1) (by decide) (by decide) (Nat.le_of_ble_eq_true rfl) dX4_mean_55 (st1 := [.int r6, .long x4]) rfl ?_
      refine R_i2l (pc := 58) h dX4_mean_58 ?_
      refine R_ladd (pc := 59) h dX4_mean_59 ?_
      obtain ⟨v7, hv7, hF⟩ := nm_e2 hF
      refine R_lstore (pc := 60) (lv' := [(4, .long v7), (0, .ref (ad 28)), (2, .ref (ad px2)), (6, .int x6)]) h hv7 (by decide) rfl dX4_mean_60 ?_
      obtain ⟨v8, hv8, hF⟩ := nm_e2 hF
      refine R_iinc (pc := 62) (lv' := [(6, .int v8), (4, .long v7), (0, .ref (ad 28)), (2, .ref (ad px2))]) h 3 rfl (by decide) hv8 (by decide) rfl dX4_mean_62 ?_
      refine R_goto (pc := 65) (tgt := 41) h dX4_mean_65 (by decide) ?_
      exact Wp_sub (nX := 0) (lv' := [(0, .ref (ad 28)), (2, .ref (ad px2)), (4, .long v7), (6, .int v8)]) [2, 3, 1, 0] rfl (ih _ _ _ _ hF)
theorem w4_mean_41 {ad : Nat → Nat} {X : XX} {R : Mem × Int32} {fu : Nat}  (h : Cx layC ad X cX4_mean RX4 7 3 (some .int) (R.1) (some (.int R.2)))  {f : Nat} {px2 : Nat} {x4 : Int64} {x6 : Int32} {M : Mem} (hF : f4_mean_41 fu f px2 x4 x6 M = some R) : Wp layC ad X M 41 [(0, .ref (ad 28)), (2, .ref (ad px2)), (4, .long x4), (6, .int x6)] [] := w4_meani_41 h  f _ _ _ _ hF
def f4_mean (fu : Nat) (x1 : Int32) (M : Mem) : Option (Mem × Int32) :=
    (f4_rowAt x1).bind fun r2 =>
    oc r2 ((f4_refuseMissing_N M).bind fun ⟨M5, r6⟩ =>
    (some (M5, r6)))
    fun q3 => (f4_refuseMissing q3 M).bind fun ⟨M8, r9⟩ =>
    if r9 = 0 then ((gd (decide (q3 < 10))).bind fun _ =>
    if (M8.1 q3 0) = 0 then ((f4_find (4 : Int32) M8).bind fun ⟨M14, r15⟩ =>
    (some (M14, r15)))
    else ((f4_mean_41 fu fu q3 (0 : Int64) (0 : Int32) M8)))
    else ((some (M8, r9)))
set_option maxHeartbeats 4000000 in
set_option maxRecDepth 10000 in
theorem w4_mean {ad : Nat → Nat} {X : XX} {R : Mem × Int32} {fu : Nat} (h : Cx layC ad X cX4_mean RX4 7 3 (some .int) (R.1) (some (.int R.2))) {x1 : Int32} {M : Mem} (hF : f4_mean fu x1 M = some R) : Wp layC ad X M 0 [(0, .ref (ad 28)), (1, .int x1)] [] := by
  unfold f4_mean at hF
  refine R_aload_n (pc := 0) h 0 rfl rfl dX4_mean_0 ?_
  refine R_iload_n (pc := 1) h 1 rfl rfl dX4_mean_1 ?_
  obtain ⟨r2, hc1, hF⟩ := bd hF
  rcases r2 with _ | q3
  · have hF := oc_n hF
    refine R_callV (pc := 2) (st := []) h [.int x1] cvX4_51 (c4_rowAt (ad := ad) (z := X.1) (M := M) hc1) rfl rfl lc_28 (by decide) (by decide) (Nat.le_of_ble_eq_true rfl) dX4_mean_2 (st1 := [.null]) rfl ?_
    refine R_astore_nN (pc := 5) (lv' := [(2, .null), (0, .ref (ad 28)), (1, .int x1)]) h rfl (by decide) rfl dX4_mean_5 ?_
    refine R_aload_n (pc := 6) h 1 rfl rfl dX4_mean_6 ?_
    refine R_aload_nN (pc := 7) h 0 rfl rfl dX4_mean_7 ?_
    obtain ⟨⟨M5, r6⟩, hc4, hF⟩ := bd hF
    refine R_callV (pc := 8) (st := []) h [.null] cvX4_71 (c4_refuseMissing_N (ad := ad) (z := X.1) hc4) rfl rfl lc_28 (by decide) (by decide) (Nat.le_of_ble_eq_true rfl) dX4_mean_8 (st1 := [.int r6]) rfl ?_
    refine R_istore_n (pc := 11) (lv' := [(3, .int r6), (2, .null), (0, .ref (ad 28)), (1, .int x1)]) h rfl rfl (by decide) rfl dX4_mean_11 ?_
    refine R_aload_nN (pc := 12) h 1 rfl rfl dX4_mean_12 ?_
    refine R_ifnullN (pc := 13) (tgt := 20) h dX4_mean_13 (by decide) ?_
    refine R_iload_n (pc := 20) h 0 rfl rfl dX4_mean_20 ?_
    cases hF
    exact R_ireturn (pc := 21) h rfl rfl rfl dX4_mean_21
  · have hF := oc_s hF
    refine R_callV (pc := 2) (st := []) h [.int x1] cvX4_51 (c4_rowAt (ad := ad) (z := X.1) (M := M) hc1) rfl rfl lc_28 (by decide) (by decide) (Nat.le_of_ble_eq_true rfl) dX4_mean_2 (st1 := [.ref (ad q3)]) rfl ?_
    refine R_astore_n (pc := 5) (lv' := [(2, .ref (ad q3)), (0, .ref (ad 28)), (1, .int x1)]) h rfl rfl (by decide) rfl dX4_mean_5 ?_
    refine R_aload_n (pc := 6) h 1 rfl rfl dX4_mean_6 ?_
    refine R_aload_n (pc := 7) h 0 rfl rfl dX4_mean_7 ?_
    obtain ⟨⟨M8, r9⟩, hc7, hF⟩ := bd hF
    refine R_callV (pc := 8) (st := []) h [.ref (ad q3)] cvX4_71 (c4_refuseMissing (ad := ad) (z := X.1) hc7) rfl rfl lc_28 (by decide) (by decide) (Nat.le_of_ble_eq_true rfl) dX4_mean_8 (st1 := [.int r9]) rfl ?_
    refine R_istore_n (pc := 11) (lv' := [(3, .int r9), (2, .ref (ad q3)), (0, .ref (ad 28)), (1, .int x1)]) h rfl rfl (by decide) rfl dX4_mean_11 ?_
    refine R_aload_n (pc := 12) h 1 rfl rfl dX4_mean_12 ?_
    refine R_ifnull (pc := 13) h dX4_mean_13 ?_
    refine R_iload_n (pc := 16) h 0 rfl rfl dX4_mean_16 ?_
    refine R_if_eq (pc := 17) (tgt := 22) h dX4_mean_17 (by decide) (fun c10 => ?_) (fun c10 => ?_)
    · have hF := itp c10 hF
      refine R_aload_n (pc := 22) h 1 rfl rfl dX4_mean_22 ?_
      obtain ⟨_, hg11, hF⟩ := bd hF
      have hg11 := of_decide_eq_true (gd_s hg11)
      refine R_getI (pc := 23) h flX4_75 (lyCells hg11) rfl dX4_mean_23 ?_
      refine R_if_ne (pc := 26) (tgt := 35) h dX4_mean_26 (by decide) (fun c12 => ?_) (fun c12 => ?_)
      · have hF := ifn c12 hF
        refine R_lconst (pc := 35) (v := 0) h (by decide) dX4_mean_35 ?_
        refine R_lstore (pc := 36) (lv' := [(4, .long (0 : Int64)), (3, .int r9), (2, .ref (ad q3)), (0, .ref (ad 28)), (1, .int x1)]) h rfl (by decide) rfl dX4_mean_36 ?_
        refine R_iconst (pc := 38) (v := 0) h (by decide) dX4_mean_38 ?_
        refine R_istore (pc := 39) (lv' := [(6, .int (0 : Int32)), (4, .long (0 : Int64)), (3, .int r9), (2, .ref (ad q3)), (0, .ref (ad 28)), (1, .int x1)]) h rfl (by decide) rfl dX4_mean_39 ?_
        exact Wp_sub (nX := 0) (lv' := [(0, .ref (ad 28)), (2, .ref (ad q3)), (4, .long (0 : Int64)), (6, .int (0 : Int32))]) [4, 3, 1, 0] rfl (w4_mean_41 h  (hF := hF))
      · have hF := itp c12 hF
        refine R_aload_n (pc := 29) h 2 rfl rfl dX4_mean_29 ?_
        refine R_iconst (pc := 30) (v := 4) h (by decide) dX4_mean_30 ?_
        obtain ⟨⟨M14, r15⟩, hc13, hF⟩ := bd hF
        refine R_callV (pc := 31) (st := []) h [.int (4 : Int32)] cvX4_78 (c4_find (ad := ad) (z := X.1) hc13) rfl rfl lc_28 (by decide) (by decide) (Nat.le_of_ble_eq_true rfl) dX4_mean_31 (st1 := [.int r15]) rfl ?_
        cases hF
        exact R_ireturn (pc := 34) h rfl rfl rfl dX4_mean_34
    · have hF := ifn c10 hF
      refine R_iload_n (pc := 20) h 0 rfl rfl dX4_mean_20 ?_
      cases hF
      exact R_ireturn (pc := 21) h rfl rfl rfl dX4_mean_21
theorem c4_mean {ad : Nat → Nat} {z : ZZ} {R : Mem × Int32} {fu : Nat} {x1 : Int32} {M : Mem} (hF : f4_mean fu x1 M = some R) : Con layC ad z yX4_mean cX4_mean 7 (some .int) 3 M [.ref (ad 28), .int x1] (R.1) (some (.int R.2)) := con_of (own := RX4) (lv := [(0, .ref (ad 28)), (1, .int x1)]) (by decide +kernel) rfl (Nat.le_of_ble_eq_true rfl) rfl (fun X hz h => w4_mean h hF)
def f4_textAt (x1 : Int32) : Option (Option Nat) :=
    if x1 < 0 then ((some none))
    else (if (4 : Int32) ≤ x1 then ((some none))
    else ((rdR [6, 7, 8, 9] x1).bind fun q3 =>
    (some (some q3))))
set_option maxHeartbeats 4000000 in
set_option maxRecDepth 10000 in
theorem w4_textAt {ad : Nat → Nat} {X : XX} {R : Option Nat} {M : Mem} (h : Cx layC ad X cX4_textAt RX4 2 1 (some (.object "PinDuties$Cells")) M (some (rv ad R))) {x1 : Int32} (hF : f4_textAt x1 = some R) : Wp layC ad X M 0 [(0, .ref (ad 28)), (1, .int x1)] [] := by
  unfold f4_textAt at hF
  refine R_iload_n (pc := 0) h 1 rfl rfl dX4_textAt_0 ?_
  refine R_if_lt (pc := 1) (tgt := 18) h dX4_textAt_1 (by decide) (fun c1 => ?_) (fun c1 => ?_)
  · have hF := itp c1 hF
    refine R_null (pc := 18) h dX4_textAt_18 ?_
    cases hF
    exact R_areturn (pc := 19) h rfl (Or.inl rfl) rfl rfl dX4_textAt_19
  · have hF := ifn c1 hF
    refine R_iload_n (pc := 4) h 1 rfl rfl dX4_textAt_4 ?_
    refine R_iconst (pc := 5) (v := 4) h (by decide) dX4_textAt_5 ?_
    refine R_icmp_ge (pc := 6) (tgt := 18) h dX4_textAt_6 (by decide) (fun c2 => ?_) (fun c2 => ?_)
    · have hF := itp c2 hF
      refine R_null (pc := 18) h dX4_textAt_18 ?_
      cases hF
      exact R_areturn (pc := 19) h rfl (Or.inl rfl) rfl rfl dX4_textAt_19
    · have hF := ifn c2 hF
      refine R_aload_n (pc := 9) h 0 rfl rfl dX4_textAt_9 ?_
      refine R_getR (pc := 10) (q1 := 30) h flX4_15 lc_28 rfl dX4_textAt_10 ?_
      refine R_iload_n (pc := 13) h 1 rfl rfl dX4_textAt_13 ?_
      obtain ⟨q3, hq3, hF⟩ := bd hF
      refine R_aald (pc := 14) h hq3 (by decide) lc_30 dX4_textAt_14 ?_
      refine R_goto (pc := 15) (tgt := 19) h dX4_textAt_15 (by decide) ?_
      cases hF
      exact R_areturn (pc := 19) h rfl (Or.inr ⟨_, rfl⟩) rfl rfl dX4_textAt_19
theorem c4_textAt {ad : Nat → Nat} {z : ZZ} {R : Option Nat} {M : Mem} {x1 : Int32} (hF : f4_textAt x1 = some R) : Con layC ad z yX4_textAt cX4_textAt 2 (some (.object "PinDuties$Cells")) 1 M [.ref (ad 28), .int x1] (M) (some (rv ad R)) := con_of (own := RX4) (lv := [(0, .ref (ad 28)), (1, .int x1)]) (by decide +kernel) rfl (Nat.le_of_ble_eq_true rfl) rfl (fun X hz h => w4_textAt h hF)
def f4_text (fu : Nat) (x1 : Int32) (x2 : Int32) (M : Mem) : Option (Mem × Int32) :=
    (f4_textAt x1).bind fun r2 =>
    oc r2 ((f4_makeCells_N fu x2 (60 : Int32) (32 : Int32) M).bind fun ⟨M5, r6⟩ =>
    (some (M5, r6)))
    fun q3 => (f4_makeCells fu q3 x2 (60 : Int32) (32 : Int32) M).bind fun ⟨M8, r9⟩ =>
    (some (M8, r9))
set_option maxHeartbeats 4000000 in
set_option maxRecDepth 10000 in
theorem w4_text {ad : Nat → Nat} {X : XX} {R : Mem × Int32} {fu : Nat} (h : Cx layC ad X cX4_text RX4 3 3 (some .int) (R.1) (some (.int R.2))) {x1 : Int32} {x2 : Int32} {M : Mem} (hF : f4_text fu x1 x2 M = some R) : Wp layC ad X M 0 [(0, .ref (ad 28)), (1, .int x1), (2, .int x2)] [] := by
  unfold f4_text at hF
  refine R_aload_n (pc := 0) h 0 rfl rfl dX4_text_0 ?_
  refine R_aload_n (pc := 1) h 0 rfl rfl dX4_text_1 ?_
  refine R_iload_n (pc := 2) h 1 rfl rfl dX4_text_2 ?_
  obtain ⟨r2, hc1, hF⟩ := bd hF
  rcases r2 with _ | q3
  · have hF := oc_n hF
    refine R_callV (pc := 3) (st := [.ref (ad 28)]) h [.int x1] cvX4_98 (c4_textAt (ad := ad) (z := X.1) (M := M) hc1) rfl rfl lc_28 (by decide) (by decide) (Nat.le_of_ble_eq_true rfl) dX4_text_3 (st1 := [.null, .ref (ad 28)]) rfl ?_
    refine R_iload_n (pc := 6) h 2 rfl rfl dX4_text_6 ?_
    refine R_bipush (pc := 7) (v := 60) h (by decide) dX4_text_7 ?_
    refine R_bipush (pc := 9) (v := 32) h (by decide) dX4_text_9 ?_
    obtain ⟨⟨M5, r6⟩, hc4, hF⟩ := bd hF
    refine R_callV (pc := 11) (st := []) h [.null, .int x2, .int (60 : Int32), .int (32 : Int32)] cvX4_55 (c4_makeCells_N (ad := ad) (z := X.1) hc4) rfl rfl lc_28 (by decide) (by decide) (Nat.le_of_ble_eq_true rfl) dX4_text_11 (st1 := [.int r6]) rfl ?_
    cases hF
    exact R_ireturn (pc := 14) h rfl rfl rfl dX4_text_14
  · have hF := oc_s hF
    refine R_callV (pc := 3) (st := [.ref (ad 28)]) h [.int x1] cvX4_98 (c4_textAt (ad := ad) (z := X.1) (M := M) hc1) rfl rfl lc_28 (by decide) (by decide) (Nat.le_of_ble_eq_true rfl) dX4_text_3 (st1 := [.ref (ad q3), .ref (ad 28)]) rfl ?_
    refine R_iload_n (pc := 6) h 2 rfl rfl dX4_text_6 ?_
    refine R_bipush (pc := 7) (v := 60) h (by decide) dX4_text_7 ?_
    refine R_bipush (pc := 9) (v := 32) h (by decide) dX4_text_9 ?_
    obtain ⟨⟨M8, r9⟩, hc7, hF⟩ := bd hF
    refine R_callV (pc := 11) (st := []) h [.ref (ad q3), .int x2, .int (60 : Int32), .int (32 : Int32)] cvX4_55 (c4_makeCells (ad := ad) (z := X.1) hc7) rfl rfl lc_28 (by decide) (by decide) (Nat.le_of_ble_eq_true rfl) dX4_text_11 (st1 := [.int r9]) rfl ?_
    cases hF
    exact R_ireturn (pc := 14) h rfl rfl rfl dX4_text_14
theorem c4_text {ad : Nat → Nat} {z : ZZ} {R : Mem × Int32} {fu : Nat} {x1 : Int32} {x2 : Int32} {M : Mem} (hF : f4_text fu x1 x2 M = some R) : Con layC ad z yX4_text cX4_text 3 (some .int) 3 M [.ref (ad 28), .int x1, .int x2] (R.1) (some (.int R.2)) := con_of (own := RX4) (lv := [(0, .ref (ad 28)), (1, .int x1), (2, .int x2)]) (by decide +kernel) rfl (Nat.le_of_ble_eq_true rfl) rfl (fun X hz h => w4_text h hF)
def f4_put (x1 : Int32) (x2 : Int32) (x3 : Int32) (M : Mem) : Option (Mem × Int32) :=
    (f4_textAt x1).bind fun r2 =>
    oc r2 ((f4_refusePlace_N x2 M).bind fun ⟨M5, r6⟩ =>
    (some (M5, r6)))
    fun q3 => (f4_refusePlace q3 x2 M).bind fun ⟨M8, r9⟩ =>
    if r9 = 0 then ((gd (decide (q3 < 10))).bind fun _ =>
    (f0_cellAt M8 q3 x2).bind fun r13 =>
    (f0_setCell q3 x2 x3.toInt8.toInt32 M8).bind fun M15 =>
    (some (M15, (r13 + (1000 : Int32)))))
    else ((some (M8, r9)))
set_option maxHeartbeats 4000000 in
set_option maxRecDepth 10000 in
theorem w4_put {ad : Nat → Nat} {X : XX} {R : Mem × Int32} (h : Cx layC ad X cX4_put RX4 7 4 (some .int) (R.1) (some (.int R.2))) {x1 : Int32} {x2 : Int32} {x3 : Int32} {M : Mem} (hF : f4_put x1 x2 x3 M = some R) : Wp layC ad X M 0 [(0, .ref (ad 28)), (1, .int x1), (2, .int x2), (3, .int x3)] [] := by
  unfold f4_put at hF
  refine R_aload_n (pc := 0) h 0 rfl rfl dX4_put_0 ?_
  refine R_iload_n (pc := 1) h 1 rfl rfl dX4_put_1 ?_
  obtain ⟨r2, hc1, hF⟩ := bd hF
  rcases r2 with _ | q3
  · have hF := oc_n hF
    refine R_callV (pc := 2) (st := []) h [.int x1] cvX4_98 (c4_textAt (ad := ad) (z := X.1) (M := M) hc1) rfl rfl lc_28 (by decide) (by decide) (Nat.le_of_ble_eq_true rfl) dX4_put_2 (st1 := [.null]) rfl ?_
    refine R_astoreN (pc := 5) (lv' := [(4, .null), (0, .ref (ad 28)), (1, .int x1), (2, .int x2), (3, .int x3)]) h (by decide) rfl dX4_put_5 ?_
    refine R_aload_n (pc := 7) h 1 rfl rfl dX4_put_7 ?_
    refine R_aloadN (pc := 8) h 0 rfl dX4_put_8 ?_
    refine R_iload_n (pc := 10) h 3 rfl rfl dX4_put_10 ?_
    obtain ⟨⟨M5, r6⟩, hc4, hF⟩ := bd hF
    refine R_callV (pc := 11) (st := []) h [.null, .int x2] cvX4_59 (c4_refusePlace_N (ad := ad) (z := X.1) hc4) rfl rfl lc_28 (by decide) (by decide) (Nat.le_of_ble_eq_true rfl) dX4_put_11 (st1 := [.int r6]) rfl ?_
    refine R_istore (pc := 14) (lv' := [(5, .int r6), (4, .null), (0, .ref (ad 28)), (1, .int x1), (2, .int x2), (3, .int x3)]) h rfl (by decide) rfl dX4_put_14 ?_
    refine R_aloadN (pc := 16) h 1 rfl dX4_put_16 ?_
    refine R_ifnullN (pc := 18) (tgt := 26) h dX4_put_18 (by decide) ?_
    refine R_iload (pc := 26) h 0 rfl dX4_put_26 ?_
    cases hF
    exact R_ireturn (pc := 28) h rfl rfl rfl dX4_put_28
  · have hF := oc_s hF
    refine R_callV (pc := 2) (st := []) h [.int x1] cvX4_98 (c4_textAt (ad := ad) (z := X.1) (M := M) hc1) rfl rfl lc_28 (by decide) (by decide) (Nat.le_of_ble_eq_true rfl) dX4_put_2 (st1 := [.ref (ad q3)]) rfl ?_
    refine R_astore (pc := 5) (lv' := [(4, .ref (ad q3)), (0, .ref (ad 28)), (1, .int x1), (2, .int x2), (3, .int x3)]) h rfl (by decide) rfl dX4_put_5 ?_
    refine R_aload_n (pc := 7) h 1 rfl rfl dX4_put_7 ?_
    refine R_aload (pc := 8) h 0 rfl dX4_put_8 ?_
    refine R_iload_n (pc := 10) h 3 rfl rfl dX4_put_10 ?_
    obtain ⟨⟨M8, r9⟩, hc7, hF⟩ := bd hF
    refine R_callV (pc := 11) (st := []) h [.ref (ad q3), .int x2] cvX4_59 (c4_refusePlace (ad := ad) (z := X.1) hc7) rfl rfl lc_28 (by decide) (by decide) (Nat.le_of_ble_eq_true rfl) dX4_put_11 (st1 := [.int r9]) rfl ?_
    refine R_istore (pc := 14) (lv' := [(5, .int r9), (4, .ref (ad q3)), (0, .ref (ad 28)), (1, .int x1), (2, .int x2), (3, .int x3)]) h rfl (by decide) rfl dX4_put_14 ?_
    refine R_aload (pc := 16) h 1 rfl dX4_put_16 ?_
    refine R_ifnull (pc := 18) h dX4_put_18 ?_
    refine R_iload (pc := 21) h 0 rfl dX4_put_21 ?_
    refine R_if_eq (pc := 23) (tgt := 29) h dX4_put_23 (by decide) (fun c10 => ?_) (fun c10 => ?_)
    · have hF := itp c10 hF
      refine R_aload (pc := 29) h 1 rfl dX4_put_29 ?_
      refine R_iload_n (pc := 31) h 4 rfl rfl dX4_put_31 ?_
      obtain ⟨_, hg11, hF⟩ := bd hF
      have hg11 := of_decide_eq_true (gd_s hg11)
      obtain ⟨r13, hc12, hF⟩ := bd hF
      refine R_callV (pc := 32) (st := []) h [.int x2] cvX4_63 (c0_cellAt (ad := ad) (z := X.1) hc12) rfl rfl (lyCells hg11) (by decide) (by decide) (Nat.le_of_ble_eq_true rfl) dX4_put_32 (st1 := [.int r13]) rfl ?_
      refine R_istore (pc := 35) (lv' := [(6, .int r13), (5, .int r9), (4, .ref (ad q3)), (0, .ref (ad 28)), (1, .int x1), (2, .int x2), (3, .int x3)]) h rfl (by decide) rfl dX4_put_35 ?_
      refine R_aload (pc := 37) h 2 rfl dX4_put_37 ?_
      refine R_iload_n (pc := 39) h 5 rfl rfl dX4_put_39 ?_
      refine R_iload_n (pc := 40) h 6 rfl rfl dX4_put_40 ?_
      refine R_i2b (pc := 41) h dX4_put_41 ?_
      obtain ⟨M15, hc14, hF⟩ := bd hF
      refine R_callV (pc := 42) (st := []) h [.int x2, .int x3.toInt8.toInt32] cvX4_67 (c0_setCell (ad := ad) (z := X.1) hc14) rfl rfl (lyCells hg11) (by decide) (by decide) (Nat.le_of_ble_eq_true rfl) dX4_put_42 (st1 := []) rfl ?_
      refine R_iload (pc := 45) h 0 rfl dX4_put_45 ?_
      refine R_sipush (pc := 47) (v := 1000) h (by decide) dX4_put_47 ?_
      refine R_iadd (pc := 50) h dX4_put_50 ?_
      cases hF
      exact R_ireturn (pc := 51) h rfl rfl rfl dX4_put_51
    · have hF := ifn c10 hF
      refine R_iload (pc := 26) h 0 rfl dX4_put_26 ?_
      cases hF
      exact R_ireturn (pc := 28) h rfl rfl rfl dX4_put_28
theorem c4_put {ad : Nat → Nat} {z : ZZ} {R : Mem × Int32} {x1 : Int32} {x2 : Int32} {x3 : Int32} {M : Mem} (hF : f4_put x1 x2 x3 M = some R) : Con layC ad z yX4_put cX4_put 7 (some .int) 4 M [.ref (ad 28), .int x1, .int x2, .int x3] (R.1) (some (.int R.2)) := con_of (own := RX4) (lv := [(0, .ref (ad 28)), (1, .int x1), (2, .int x2), (3, .int x3)]) (by decide +kernel) rfl (Nat.le_of_ble_eq_true rfl) rfl (fun X hz h => w4_put h hF)
def f4_kindOfLetter_2 (M : Mem) (fu : Nat) : Nat → Int32 → Int32 → Option (Int32)
  | 0 => fun _ _ => none
  | f + 1 => fun x0 x1 =>
    if (6 : Int32) ≤ x1 then ((some (-9 : Int32)))
    else ((rdT x1).bind fun v2 =>
    if v2 = x0 then ((some x1))
    else (nm (x1 + (1 : Int32)) fun v4 =>
    ((f4_kindOfLetter_2 M fu f) x0 v4)))
set_option maxHeartbeats 4000000 in
set_option maxRecDepth 10000 in
theorem w4_kindOfLetteri_2 {ad : Nat → Nat} {X : XX} {R : Int32} {M : Mem} {fu : Nat}  (h : Cx layC ad X cX4_kindOfLetter RX4 2 1 (some .int) M (some (.int R)))  : ∀ (f : Nat) (x0 : Int32) (x1 : Int32), f4_kindOfLetter_2 M fu f x0 x1 = some R → Wp layC ad X M 2 [(0, .int x0), (1, .int x1)] [] := by
  intro f
  induction f with
  | zero => intro x0 x1 hF; exact absurd hF (by simp [f4_kindOfLetter_2])
  | succ f ih =>
    intro x0 x1 hF
    rw [f4_kindOfLetter_2] at hF
    refine R_iload_n (pc := 2) h 1 rfl rfl dX4_kindOfLetter_2 ?_
    refine R_bipush (pc := 3) (v := 6) h (by decide) dX4_kindOfLetter_3 ?_
    refine R_icmp_ge (pc := 5) (tgt := 25) h dX4_kindOfLetter_5 (by decide) (fun c1 => ?_) (fun c1 => ?_)
    · have hF := itp c1 hF
      refine R_bipush (pc := 25) (v := (-9)) h (by decide) dX4_kindOfLetter_25 ?_
      cases hF
      exact R_ireturn (pc := 27) h rfl rfl rfl dX4_kindOfLetter_27
    · have hF := ifn c1 hF
      refine R_gets (pc := 8) h gsX4_308 dX4_kindOfLetter_8 ?_
      refine R_iload_n (pc := 11) h 1 rfl rfl dX4_kindOfLetter_11 ?_
      obtain ⟨v2, hv2, hF⟩ := bd hF
      refine R_tld (pc := 12) h hv2 dX4_kindOfLetter_12 ?_
      refine R_iload_n (pc := 13) h 0 rfl rfl dX4_kindOfLetter_13 ?_
      refine R_icmp_ne (pc := 14) (tgt := 19) h dX4_kindOfLetter_14 (by decide) (fun c3 => ?_) (fun c3 => ?_)
      · have hF := ifn c3 hF
        obtain ⟨v4, hv4, hF⟩ := nm_e2 hF
        refine R_iinc (pc := 19) (lv' := [(1, .int v4), (0, .int x0)]) h 1 rfl (by decide) hv4 (by decide) rfl dX4_kindOfLetter_19 ?_
        refine R_goto (pc := 22) (tgt := 2) h dX4_kindOfLetter_22 (by decide) ?_
        exact Wp_sub (nX := 0) (lv' := [(0, .int x0), (1, .int v4)]) [1, 0] rfl (ih _ _ hF)
      · have hF := itp c3 hF
        refine R_iload_n (pc := 17) h 1 rfl rfl dX4_kindOfLetter_17 ?_
        cases hF
        exact R_ireturn (pc := 18) h rfl rfl rfl dX4_kindOfLetter_18
theorem w4_kindOfLetter_2 {ad : Nat → Nat} {X : XX} {R : Int32} {M : Mem} {fu : Nat}  (h : Cx layC ad X cX4_kindOfLetter RX4 2 1 (some .int) M (some (.int R)))  {f : Nat} {x0 : Int32} {x1 : Int32} (hF : f4_kindOfLetter_2 M fu f x0 x1 = some R) : Wp layC ad X M 2 [(0, .int x0), (1, .int x1)] [] := w4_kindOfLetteri_2 h  f _ _ hF
def f4_kindOfLetter (M : Mem) (fu : Nat) (x0 : Int32) : Option (Int32) :=
    (f4_kindOfLetter_2 M fu fu x0 (0 : Int32))
set_option maxHeartbeats 4000000 in
set_option maxRecDepth 10000 in
theorem w4_kindOfLetter {ad : Nat → Nat} {X : XX} {R : Int32} {M : Mem} {fu : Nat} (h : Cx layC ad X cX4_kindOfLetter RX4 2 1 (some .int) M (some (.int R))) {x0 : Int32} (hF : f4_kindOfLetter M fu x0 = some R) : Wp layC ad X M 0 [(0, .int x0)] [] := by
  unfold f4_kindOfLetter at hF
  refine R_iconst (pc := 0) (v := 0) h (by decide) dX4_kindOfLetter_0 ?_
  refine R_istore_n (pc := 1) (lv' := [(1, .int (0 : Int32)), (0, .int x0)]) h rfl rfl (by decide) rfl dX4_kindOfLetter_1 ?_
  exact Wp_sub (nX := 0) (lv' := [(0, .int x0), (1, .int (0 : Int32))]) [1, 0] rfl (w4_kindOfLetter_2 h  (hF := hF))
theorem c4_kindOfLetter {ad : Nat → Nat} {z : ZZ} {R : Int32} {M : Mem} {fu : Nat} {x0 : Int32} (hF : f4_kindOfLetter M fu x0 = some R) : Con layC ad z yX4_kindOfLetter cX4_kindOfLetter 2 (some .int) 1 M [.int x0] (M) (some (.int R)) := con_of (own := RX4) (lv := [(0, .int x0)]) (by decide +kernel) rfl (Nat.le_of_ble_eq_true rfl) rfl (fun X hz h => w4_kindOfLetter h hF)
def f4_isSign (M : Mem) (fu : Nat) (x0 : Int32) (x1 : Int32) : Option (Int32) :=
    if x0 = 0 then ((f4_kindOfLetter M fu x1).bind fun r3 =>
    if r3 = (-9 : Int32) then ((some (0 : Int32)))
    else ((some (1 : Int32))))
    else (nm (x1 - (48 : Int32)) fun v5 =>
    if x0 = (3 : Int32) then (if v5 < (1 : Int32) then ((some (0 : Int32)))
    else (if (4 : Int32) < v5 then ((some (0 : Int32)))
    else ((some (1 : Int32)))))
    else (if v5 < 0 then ((some (0 : Int32)))
    else (if (9 : Int32) < v5 then ((some (0 : Int32)))
    else ((some (1 : Int32))))))
set_option maxHeartbeats 4000000 in
set_option maxRecDepth 10000 in
theorem w4_isSign {ad : Nat → Nat} {X : XX} {R : Int32} {M : Mem} {fu : Nat} (h : Cx layC ad X cX4_isSign RX4 3 2 (some .boolean) M (some (.int R))) {x0 : Int32} {x1 : Int32} (hF : f4_isSign M fu x0 x1 = some R) : Wp layC ad X M 0 [(0, .int x0), (1, .int x1)] [] := by
  unfold f4_isSign at hF
  refine R_iload_n (pc := 0) h 0 rfl rfl dX4_isSign_0 ?_
  refine R_if_ne (pc := 1) (tgt := 19) h dX4_isSign_1 (by decide) (fun c1 => ?_) (fun c1 => ?_)
  · have hF := ifn c1 hF
    refine R_iload_n (pc := 19) h 1 rfl rfl dX4_isSign_19 ?_
    refine R_bipush (pc := 20) (v := 48) h (by decide) dX4_isSign_20 ?_
    refine R_isub (pc := 22) h dX4_isSign_22 ?_
    obtain ⟨v5, hv5, hF⟩ := nm_e2 hF
    refine R_istore_n (pc := 23) (lv' := [(2, .int v5), (0, .int x0), (1, .int x1)]) h hv5 rfl (by decide) rfl dX4_isSign_23 ?_
    refine R_iload_n (pc := 24) h 1 rfl rfl dX4_isSign_24 ?_
    refine R_iconst (pc := 25) (v := 3) h (by decide) dX4_isSign_25 ?_
    refine R_icmp_ne (pc := 26) (tgt := 47) h dX4_isSign_26 (by decide) (fun c6 => ?_) (fun c6 => ?_)
    · have hF := ifn c6 hF
      refine R_iload_n (pc := 47) h 0 rfl rfl dX4_isSign_47 ?_
      refine R_if_lt (pc := 48) (tgt := 61) h dX4_isSign_48 (by decide) (fun c9 => ?_) (fun c9 => ?_)
      · have hF := itp c9 hF
        refine R_iconst (pc := 61) (v := 0) h (by decide) dX4_isSign_61 ?_
        cases hF
        exact R_zreturn (pc := 62) h rfl zr0 rfl rfl dX4_isSign_62
      · have hF := ifn c9 hF
        refine R_iload_n (pc := 51) h 0 rfl rfl dX4_isSign_51 ?_
        refine R_bipush (pc := 52) (v := 9) h (by decide) dX4_isSign_52 ?_
        refine R_icmp_gt (pc := 54) (tgt := 61) h dX4_isSign_54 (by decide) (fun c10 => ?_) (fun c10 => ?_)
        · have hF := itp c10 hF
          refine R_iconst (pc := 61) (v := 0) h (by decide) dX4_isSign_61 ?_
          cases hF
          exact R_zreturn (pc := 62) h rfl zr0 rfl rfl dX4_isSign_62
        · have hF := ifn c10 hF
          refine R_iconst (pc := 57) (v := 1) h (by decide) dX4_isSign_57 ?_
          refine R_goto (pc := 58) (tgt := 62) h dX4_isSign_58 (by decide) ?_
          cases hF
          exact R_zreturn (pc := 62) h rfl zr1 rfl rfl dX4_isSign_62
    · have hF := itp c6 hF
      refine R_iload_n (pc := 29) h 0 rfl rfl dX4_isSign_29 ?_
      refine R_iconst (pc := 30) (v := 1) h (by decide) dX4_isSign_30 ?_
      refine R_icmp_lt (pc := 31) (tgt := 43) h dX4_isSign_31 (by decide) (fun c7 => ?_) (fun c7 => ?_)
      · have hF := itp c7 hF
        refine R_iconst (pc := 43) (v := 0) h (by decide) dX4_isSign_43 ?_
        refine R_goto (pc := 44) (tgt := 62) h dX4_isSign_44 (by decide) ?_
        cases hF
        exact R_zreturn (pc := 62) h rfl zr0 rfl rfl dX4_isSign_62
      · have hF := ifn c7 hF
        refine R_iload_n (pc := 34) h 0 rfl rfl dX4_isSign_34 ?_
        refine R_iconst (pc := 35) (v := 4) h (by decide) dX4_isSign_35 ?_
        refine R_icmp_gt (pc := 36) (tgt := 43) h dX4_isSign_36 (by decide) (fun c8 => ?_) (fun c8 => ?_)
        · have hF := itp c8 hF
          refine R_iconst (pc := 43) (v := 0) h (by decide) dX4_isSign_43 ?_
          refine R_goto (pc := 44) (tgt := 62) h dX4_isSign_44 (by decide) ?_
          cases hF
          exact R_zreturn (pc := 62) h rfl zr0 rfl rfl dX4_isSign_62
        · have hF := ifn c8 hF
          refine R_iconst (pc := 39) (v := 1) h (by decide) dX4_isSign_39 ?_
          refine R_goto (pc := 40) (tgt := 62) h dX4_isSign_40 (by decide) ?_
          cases hF
          exact R_zreturn (pc := 62) h rfl zr1 rfl rfl dX4_isSign_62
  · have hF := itp c1 hF
    refine R_iload_n (pc := 4) h 1 rfl rfl dX4_isSign_4 ?_
    obtain ⟨r3, hc2, hF⟩ := bd hF
    refine R_callS (pc := 5) (st := []) h [.int x1] csX4_314 (c4_kindOfLetter (ad := ad) (z := X.1) hc2) rfl rfl (by decide) (by decide) (Nat.le_of_ble_eq_true rfl) dX4_isSign_5 (st1 := [.int r3]) rfl ?_
    refine R_bipush (pc := 8) (v := (-9)) h (by decide) dX4_isSign_8 ?_
    refine R_icmp_eq (pc := 10) (tgt := 17) h dX4_isSign_10 (by decide) (fun c4 => ?_) (fun c4 => ?_)
    · have hF := itp c4 hF
      refine R_iconst (pc := 17) (v := 0) h (by decide) dX4_isSign_17 ?_
      cases hF
      exact R_zreturn (pc := 18) h rfl zr0 rfl rfl dX4_isSign_18
    · have hF := ifn c4 hF
      refine R_iconst (pc := 13) (v := 1) h (by decide) dX4_isSign_13 ?_
      refine R_goto (pc := 14) (tgt := 18) h dX4_isSign_14 (by decide) ?_
      cases hF
      exact R_zreturn (pc := 18) h rfl zr1 rfl rfl dX4_isSign_18
theorem c4_isSign {ad : Nat → Nat} {z : ZZ} {R : Int32} {M : Mem} {fu : Nat} {x0 : Int32} {x1 : Int32} (hF : f4_isSign M fu x0 x1 = some R) : Con layC ad z yX4_isSign cX4_isSign 3 (some .boolean) 2 M [.int x0, .int x1] (M) (some (.int R)) := con_of (own := RX4) (lv := [(0, .int x0), (1, .int x1)]) (by decide +kernel) rfl (Nat.le_of_ble_eq_true rfl) rfl (fun X hz h => w4_isSign h hF)
def f4_firstFault_32 (M : Mem) (fu : Nat) (k6 : Nat → Int32 → Int32 → Int32 → Option (Int32)) (px0 : Nat) (x1 : Int32) (x2 : Int32) (x3 : Int32) (x4 : Int32) : Option (Int32) :=
    if (8 : Int32) ≤ x1 then ((some x3))
    else ((f4_isSign M fu x2 x4).bind fun r3 =>
    if r3 = 0 then ((some x3))
    else (nm (x2 + (1 : Int32)) fun v5 =>
    if v5 = (5 : Int32) then (nm (x1 + (1 : Int32)) fun v7 =>
    nm (x3 + (1 : Int32)) fun v8 =>
    (k6 px0 v7 (0 : Int32) v8))
    else (nm (x3 + (1 : Int32)) fun v9 =>
    (k6 px0 x1 v5 v9))))
set_option maxHeartbeats 4000000 in
set_option maxRecDepth 10000 in
theorem w4_firstFault_32 {ad : Nat → Nat} {X : XX} {R : Int32} {M : Mem} {fu : Nat} {k6 : Nat → Int32 → Int32 → Int32 → Option (Int32)} (h : Cx layC ad X cX4_firstFault RX4 5 3 (some .int) M (some (.int R))) (hk6 : ∀ (px0 : Nat) (x1 : Int32) (x2 : Int32) (x3 : Int32), k6 px0 x1 x2 x3 = some R → Wp layC ad X M 6 [(0, .ref (ad px0)), (1, .int x1), (2, .int x2), (3, .int x3)] []) {px0 : Nat} {x1 : Int32} {x2 : Int32} {x3 : Int32} {x4 : Int32} (hF : f4_firstFault_32 M fu k6 px0 x1 x2 x3 x4 = some R) : Wp layC ad X M 32 [(0, .ref (ad px0)), (1, .int x1), (2, .int x2), (3, .int x3), (4, .int x4)] [] := by
  unfold f4_firstFault_32 at hF
  refine R_iload_n (pc := 32) h 1 rfl rfl dX4_firstFault_32 ?_
  refine R_bipush (pc := 33) (v := 8) h (by decide) dX4_firstFault_33 ?_
  refine R_icmp_ge (pc := 35) (tgt := 47) h dX4_firstFault_35 (by decide) (fun c1 => ?_) (fun c1 => ?_)
  · have hF := itp c1 hF
    refine R_iload_n (pc := 47) h 3 rfl rfl dX4_firstFault_47 ?_
    cases hF
    exact R_ireturn (pc := 48) h rfl rfl rfl dX4_firstFault_48
  · have hF := ifn c1 hF
    refine R_iload_n (pc := 38) h 2 rfl rfl dX4_firstFault_38 ?_
    refine R_iload (pc := 39) h 4 rfl dX4_firstFault_39 ?_
    obtain ⟨r3, hc2, hF⟩ := bd hF
    refine R_callS (pc := 41) (st := []) h [.int x2, .int x4] csX4_311 (c4_isSign (ad := ad) (z := X.1) hc2) rfl rfl (by decide) (by decide) (Nat.le_of_ble_eq_true rfl) dX4_firstFault_41 (st1 := [.int r3]) rfl ?_
    refine R_if_ne (pc := 44) (tgt := 49) h dX4_firstFault_44 (by decide) (fun c4 => ?_) (fun c4 => ?_)
    · have hF := ifn c4 hF
      obtain ⟨v5, hv5, hF⟩ := nm_e2 hF
      refine R_iinc (pc := 49) (lv' := [(2, .int v5), (0, .ref (ad px0)), (1, .int x1), (3, .int x3), (4, .int x4)]) h 2 rfl (by decide) hv5 (by decide) rfl dX4_firstFault_49 ?_
      refine R_iload_n (pc := 52) h 0 rfl rfl dX4_firstFault_52 ?_
      refine R_iconst (pc := 53) (v := 5) h (by decide) dX4_firstFault_53 ?_
      refine R_icmp_ne (pc := 54) (tgt := 62) h dX4_firstFault_54 (by decide) (fun c6 => ?_) (fun c6 => ?_)
      · have hF := ifn c6 hF
        obtain ⟨v9, hv9, hF⟩ := nm_e2 hF
        refine R_iinc (pc := 62) (lv' := [(3, .int v9), (2, .int v5), (0, .ref (ad px0)), (1, .int x1), (4, .int x4)]) h 3 rfl (by decide) hv9 (by decide) rfl dX4_firstFault_62 ?_
        refine R_goto (pc := 65) (tgt := 6) h dX4_firstFault_65 (by decide) ?_
        exact Wp_sub (nX := 0) (lv' := [(0, .ref (ad px0)), (1, .int x1), (2, .int v5), (3, .int v9)]) [2, 3, 1, 0] rfl (hk6 _ _ _ _ hF)
      · have hF := itp c6 hF
        refine R_iconst (pc := 57) (v := 0) h (by decide) dX4_firstFault_57 ?_
        refine R_istore_n (pc := 58) (lv' := [(2, .int (0 : Int32)), (0, .ref (ad px0)), (1, .int x1), (3, .int x3), (4, .int x4)]) h rfl rfl (by decide) rfl dX4_firstFault_58 ?_
        obtain ⟨v7, hv7, hF⟩ := nm_e2 hF
        refine R_iinc (pc := 59) (lv' := [(1, .int v7), (2, .int (0 : Int32)), (0, .ref (ad px0)), (3, .int x3), (4, .int x4)]) h 2 rfl (by decide) hv7 (by decide) rfl dX4_firstFault_59 ?_
        obtain ⟨v8, hv8, hF⟩ := nm_e2 hF
        refine R_iinc (pc := 62) (lv' := [(3, .int v8), (1, .int v7), (2, .int (0 : Int32)), (0, .ref (ad px0)), (4, .int x4)]) h 3 rfl (by decide) hv8 (by decide) rfl dX4_firstFault_62 ?_
        refine R_goto (pc := 65) (tgt := 6) h dX4_firstFault_65 (by decide) ?_
        exact Wp_sub (nX := 0) (lv' := [(0, .ref (ad px0)), (1, .int v7), (2, .int (0 : Int32)), (3, .int v8)]) [3, 1, 2, 0] rfl (hk6 _ _ _ _ hF)
    · have hF := itp c4 hF
      refine R_iload_n (pc := 47) h 3 rfl rfl dX4_firstFault_47 ?_
      cases hF
      exact R_ireturn (pc := 48) h rfl rfl rfl dX4_firstFault_48
def f4_firstFault_6 (M : Mem) (fu : Nat) : Nat → Nat → Int32 → Int32 → Int32 → Option (Int32)
  | 0 => fun _ _ _ _ => none
  | f + 1 => fun px0 x1 x2 x3 =>
    (gd (decide (px0 < 10))).bind fun _ =>
    if (M.1 px0 0) ≤ x3 then (if 0 < x2 then ((some (M.1 px0 0)))
    else (if x1 = 0 then ((some (M.1 px0 0)))
    else ((some (-9 : Int32)))))
    else ((f0_cellAt M px0 x3).bind fun r6 =>
    if 0 < x2 then ((f4_firstFault_32 M fu (f4_firstFault_6 M fu f) px0 x1 x2 x3 r6))
    else (if r6 = (32 : Int32) then (nm (x3 + (1 : Int32)) fun v9 =>
    ((f4_firstFault_6 M fu f) px0 x1 x2 v9))
    else ((f4_firstFault_32 M fu (f4_firstFault_6 M fu f) px0 x1 x2 x3 r6))))
set_option maxHeartbeats 4000000 in
set_option maxRecDepth 10000 in
theorem w4_firstFaulti_6 {ad : Nat → Nat} {X : XX} {R : Int32} {M : Mem} {fu : Nat}  (h : Cx layC ad X cX4_firstFault RX4 5 3 (some .int) M (some (.int R)))  : ∀ (f : Nat) (px0 : Nat) (x1 : Int32) (x2 : Int32) (x3 : Int32), f4_firstFault_6 M fu f px0 x1 x2 x3 = some R → Wp layC ad X M 6 [(0, .ref (ad px0)), (1, .int x1), (2, .int x2), (3, .int x3)] [] := by
  intro f
  induction f with
  | zero => intro px0 x1 x2 x3 hF; exact absurd hF (by simp [f4_firstFault_6])
  | succ f ih =>
    intro px0 x1 x2 x3 hF
    rw [f4_firstFault_6] at hF
    refine R_iload_n (pc := 6) h 3 rfl rfl dX4_firstFault_6 ?_
    refine R_aload_n (pc := 7) h 0 rfl rfl dX4_firstFault_7 ?_
    obtain ⟨_, hg1, hF⟩ := bd hF
    have hg1 := of_decide_eq_true (gd_s hg1)
    refine R_getI (pc := 8) h flX4_75 (lyCells hg1) rfl dX4_firstFault_8 ?_
    refine R_icmp_ge (pc := 11) (tgt := 68) h dX4_firstFault_11 (by decide) (fun c2 => ?_) (fun c2 => ?_)
    · have hF := itp c2 hF
      refine R_iload_n (pc := 68) h 2 rfl rfl dX4_firstFault_68 ?_
      refine R_if_gt (pc := 69) (tgt := 76) h dX4_firstFault_69 (by decide) (fun c3 => ?_) (fun c3 => ?_)
      · have hF := itp c3 hF
        refine R_aload_n (pc := 76) h 0 rfl rfl dX4_firstFault_76 ?_
        refine R_getI (pc := 77) h flX4_75 (lyCells hg1) rfl dX4_firstFault_77 ?_
        refine R_goto (pc := 80) (tgt := 85) h dX4_firstFault_80 (by decide) ?_
        cases hF
        exact R_ireturn (pc := 85) h rfl rfl rfl dX4_firstFault_85
      · have hF := ifn c3 hF
        refine R_iload_n (pc := 72) h 1 rfl rfl dX4_firstFault_72 ?_
        refine R_if_ne (pc := 73) (tgt := 83) h dX4_firstFault_73 (by decide) (fun c4 => ?_) (fun c4 => ?_)
        · have hF := ifn c4 hF
          refine R_bipush (pc := 83) (v := (-9)) h (by decide) dX4_firstFault_83 ?_
          cases hF
          exact R_ireturn (pc := 85) h rfl rfl rfl dX4_firstFault_85
        · have hF := itp c4 hF
          refine R_aload_n (pc := 76) h 0 rfl rfl dX4_firstFault_76 ?_
          refine R_getI (pc := 77) h flX4_75 (lyCells hg1) rfl dX4_firstFault_77 ?_
          refine R_goto (pc := 80) (tgt := 85) h dX4_firstFault_80 (by decide) ?_
          cases hF
          exact R_ireturn (pc := 85) h rfl rfl rfl dX4_firstFault_85
    · have hF := ifn c2 hF
      refine R_aload_n (pc := 14) h 0 rfl rfl dX4_firstFault_14 ?_
      refine R_iload_n (pc := 15) h 3 rfl rfl dX4_firstFault_15 ?_
      obtain ⟨r6, hc5, hF⟩ := bd hF
      refine R_callV (pc := 16) (st := []) h [.int x3] cvX4_63 (c0_cellAt (ad := ad) (z := X.1) hc5) rfl rfl (lyCells hg1) (by decide) (by decide) (Nat.le_of_ble_eq_true rfl) dX4_firstFault_16 (st1 := [.int r6]) rfl ?_
      refine R_istore (pc := 19) (lv' := [(4, .int r6), (0, .ref (ad px0)), (1, .int x1), (2, .int x2), (3, .int x3)]) h rfl (by decide) rfl dX4_firstFault_19 ?_
      refine R_iload_n (pc := 21) h 3 rfl rfl dX4_firstFault_21 ?_
      refine R_if_gt (pc := 22) (tgt := 32) h dX4_firstFault_22 (by decide) (fun c7 => ?_) (fun c7 => ?_)
      · have hF := itp c7 hF
        exact Wp_sub (nX := 0) (lv' := [(0, .ref (ad px0)), (1, .int x1), (2, .int x2), (3, .int x3), (4, .int r6)]) [1, 2, 3, 4, 0] rfl (w4_firstFault_32 h (hk6 := fun a0 a1 a2 a3 hF => ih a0 a1 a2 a3 hF) (hF := hF))
      · have hF := ifn c7 hF
        refine R_iload (pc := 25) h 0 rfl dX4_firstFault_25 ?_
        refine R_bipush (pc := 27) (v := 32) h (by decide) dX4_firstFault_27 ?_
        refine R_icmp_eq (pc := 29) (tgt := 62) h dX4_firstFault_29 (by decide) (fun c8 => ?_) (fun c8 => ?_)
        · have hF := itp c8 hF
          obtain ⟨v9, hv9, hF⟩ := nm_e2 hF
          refine R_iinc (pc := 62) (lv' := [(3, .int v9), (4, .int r6), (0, .ref (ad px0)), (1, .int x1), (2, .int x2)]) h 4 rfl (by decide) hv9 (by decide) rfl dX4_firstFault_62 ?_
          refine R_goto (pc := 65) (tgt := 6) h dX4_firstFault_65 (by decide) ?_
          exact Wp_sub (nX := 0) (lv' := [(0, .ref (ad px0)), (1, .int x1), (2, .int x2), (3, .int v9)]) [2, 3, 4, 0] rfl (ih _ _ _ _ hF)
        · have hF := ifn c8 hF
          exact Wp_sub (nX := 0) (lv' := [(0, .ref (ad px0)), (1, .int x1), (2, .int x2), (3, .int x3), (4, .int r6)]) [1, 2, 3, 4, 0] rfl (w4_firstFault_32 h (hk6 := fun a0 a1 a2 a3 hF => ih a0 a1 a2 a3 hF) (hF := hF))
theorem w4_firstFault_6 {ad : Nat → Nat} {X : XX} {R : Int32} {M : Mem} {fu : Nat}  (h : Cx layC ad X cX4_firstFault RX4 5 3 (some .int) M (some (.int R)))  {f : Nat} {px0 : Nat} {x1 : Int32} {x2 : Int32} {x3 : Int32} (hF : f4_firstFault_6 M fu f px0 x1 x2 x3 = some R) : Wp layC ad X M 6 [(0, .ref (ad px0)), (1, .int x1), (2, .int x2), (3, .int x3)] [] := w4_firstFaulti_6 h  f _ _ _ _ hF
def f4_firstFault (M : Mem) (fu : Nat) (p0 : Nat) : Option (Int32) :=
    (f4_firstFault_6 M fu fu p0 (0 : Int32) (0 : Int32) (0 : Int32))
set_option maxHeartbeats 4000000 in
set_option maxRecDepth 10000 in
theorem w4_firstFault {ad : Nat → Nat} {X : XX} {R : Int32} {M : Mem} {fu : Nat} (h : Cx layC ad X cX4_firstFault RX4 5 3 (some .int) M (some (.int R))) {p0 : Nat} (hF : f4_firstFault M fu p0 = some R) : Wp layC ad X M 0 [(0, .ref (ad p0))] [] := by
  unfold f4_firstFault at hF
  refine R_iconst (pc := 0) (v := 0) h (by decide) dX4_firstFault_0 ?_
  refine R_istore_n (pc := 1) (lv' := [(1, .int (0 : Int32)), (0, .ref (ad p0))]) h rfl rfl (by decide) rfl dX4_firstFault_1 ?_
  refine R_iconst (pc := 2) (v := 0) h (by decide) dX4_firstFault_2 ?_
  refine R_istore_n (pc := 3) (lv' := [(2, .int (0 : Int32)), (1, .int (0 : Int32)), (0, .ref (ad p0))]) h rfl rfl (by decide) rfl dX4_firstFault_3 ?_
  refine R_iconst (pc := 4) (v := 0) h (by decide) dX4_firstFault_4 ?_
  refine R_istore_n (pc := 5) (lv' := [(3, .int (0 : Int32)), (2, .int (0 : Int32)), (1, .int (0 : Int32)), (0, .ref (ad p0))]) h rfl rfl (by decide) rfl dX4_firstFault_5 ?_
  exact Wp_sub (nX := 0) (lv' := [(0, .ref (ad p0)), (1, .int (0 : Int32)), (2, .int (0 : Int32)), (3, .int (0 : Int32))]) [3, 2, 1, 0] rfl (w4_firstFault_6 h  (hF := hF))
theorem c4_firstFault {ad : Nat → Nat} {z : ZZ} {R : Int32} {M : Mem} {fu : Nat} {p0 : Nat} (hF : f4_firstFault M fu p0 = some R) : Con layC ad z yX4_firstFault cX4_firstFault 5 (some .int) 3 M [.ref (ad p0)] (M) (some (.int R)) := con_of (own := RX4) (lv := [(0, .ref (ad p0))]) (by decide +kernel) rfl (Nat.le_of_ble_eq_true rfl) rfl (fun X hz h => w4_firstFault h hF)
def f4_fault (fu : Nat) (x1 : Int32) (M : Mem) : Option (Mem × Int32) :=
    (f4_textAt x1).bind fun r2 =>
    oc r2 ((f4_refuseMissing_N M).bind fun ⟨M5, r6⟩ =>
    (some (M5, r6)))
    fun q3 => (f4_refuseMissing q3 M).bind fun ⟨M8, r9⟩ =>
    if r9 = 0 then ((f4_firstFault M8 fu q3).bind fun r12 =>
    (some (M8, r12)))
    else ((some (M8, r9)))
set_option maxHeartbeats 4000000 in
set_option maxRecDepth 10000 in
theorem w4_fault {ad : Nat → Nat} {X : XX} {R : Mem × Int32} {fu : Nat} (h : Cx layC ad X cX4_fault RX4 4 4 (some .int) (R.1) (some (.int R.2))) {x1 : Int32} {M : Mem} (hF : f4_fault fu x1 M = some R) : Wp layC ad X M 0 [(0, .ref (ad 28)), (1, .int x1)] [] := by
  unfold f4_fault at hF
  refine R_aload_n (pc := 0) h 0 rfl rfl dX4_fault_0 ?_
  refine R_iload_n (pc := 1) h 1 rfl rfl dX4_fault_1 ?_
  obtain ⟨r2, hc1, hF⟩ := bd hF
  rcases r2 with _ | q3
  · have hF := oc_n hF
    refine R_callV (pc := 2) (st := []) h [.int x1] cvX4_98 (c4_textAt (ad := ad) (z := X.1) (M := M) hc1) rfl rfl lc_28 (by decide) (by decide) (Nat.le_of_ble_eq_true rfl) dX4_fault_2 (st1 := [.null]) rfl ?_
    refine R_astore_nN (pc := 5) (lv' := [(2, .null), (0, .ref (ad 28)), (1, .int x1)]) h rfl (by decide) rfl dX4_fault_5 ?_
    refine R_aload_n (pc := 6) h 1 rfl rfl dX4_fault_6 ?_
    refine R_aload_nN (pc := 7) h 0 rfl rfl dX4_fault_7 ?_
    obtain ⟨⟨M5, r6⟩, hc4, hF⟩ := bd hF
    refine R_callV (pc := 8) (st := []) h [.null] cvX4_71 (c4_refuseMissing_N (ad := ad) (z := X.1) hc4) rfl rfl lc_28 (by decide) (by decide) (Nat.le_of_ble_eq_true rfl) dX4_fault_8 (st1 := [.int r6]) rfl ?_
    refine R_istore_n (pc := 11) (lv' := [(3, .int r6), (2, .null), (0, .ref (ad 28)), (1, .int x1)]) h rfl rfl (by decide) rfl dX4_fault_11 ?_
    refine R_aload_nN (pc := 12) h 1 rfl rfl dX4_fault_12 ?_
    refine R_ifnullN (pc := 13) (tgt := 20) h dX4_fault_13 (by decide) ?_
    refine R_iload_n (pc := 20) h 0 rfl rfl dX4_fault_20 ?_
    cases hF
    exact R_ireturn (pc := 21) h rfl rfl rfl dX4_fault_21
  · have hF := oc_s hF
    refine R_callV (pc := 2) (st := []) h [.int x1] cvX4_98 (c4_textAt (ad := ad) (z := X.1) (M := M) hc1) rfl rfl lc_28 (by decide) (by decide) (Nat.le_of_ble_eq_true rfl) dX4_fault_2 (st1 := [.ref (ad q3)]) rfl ?_
    refine R_astore_n (pc := 5) (lv' := [(2, .ref (ad q3)), (0, .ref (ad 28)), (1, .int x1)]) h rfl rfl (by decide) rfl dX4_fault_5 ?_
    refine R_aload_n (pc := 6) h 1 rfl rfl dX4_fault_6 ?_
    refine R_aload_n (pc := 7) h 0 rfl rfl dX4_fault_7 ?_
    obtain ⟨⟨M8, r9⟩, hc7, hF⟩ := bd hF
    refine R_callV (pc := 8) (st := []) h [.ref (ad q3)] cvX4_71 (c4_refuseMissing (ad := ad) (z := X.1) hc7) rfl rfl lc_28 (by decide) (by decide) (Nat.le_of_ble_eq_true rfl) dX4_fault_8 (st1 := [.int r9]) rfl ?_
    refine R_istore_n (pc := 11) (lv' := [(3, .int r9), (2, .ref (ad q3)), (0, .ref (ad 28)), (1, .int x1)]) h rfl rfl (by decide) rfl dX4_fault_11 ?_
    refine R_aload_n (pc := 12) h 1 rfl rfl dX4_fault_12 ?_
    refine R_ifnull (pc := 13) h dX4_fault_13 ?_
    refine R_iload_n (pc := 16) h 0 rfl rfl dX4_fault_16 ?_
    refine R_if_eq (pc := 17) (tgt := 22) h dX4_fault_17 (by decide) (fun c10 => ?_) (fun c10 => ?_)
    · have hF := itp c10 hF
      refine R_aload_n (pc := 22) h 1 rfl rfl dX4_fault_22 ?_
      obtain ⟨r12, hc11, hF⟩ := bd hF
      refine R_callS (pc := 23) (st := []) h [.ref (ad q3)] csX4_101 (c4_firstFault (ad := ad) (z := X.1) hc11) rfl rfl (by decide) (by decide) (Nat.le_of_ble_eq_true rfl) dX4_fault_23 (st1 := [.int r12]) rfl ?_
      cases hF
      exact R_ireturn (pc := 26) h rfl rfl rfl dX4_fault_26
    · have hF := ifn c10 hF
      refine R_iload_n (pc := 20) h 0 rfl rfl dX4_fault_20 ?_
      cases hF
      exact R_ireturn (pc := 21) h rfl rfl rfl dX4_fault_21
theorem c4_fault {ad : Nat → Nat} {z : ZZ} {R : Mem × Int32} {fu : Nat} {x1 : Int32} {M : Mem} (hF : f4_fault fu x1 M = some R) : Con layC ad z yX4_fault cX4_fault 4 (some .int) 4 M [.ref (ad 28), .int x1] (R.1) (some (.int R.2)) := con_of (own := RX4) (lv := [(0, .ref (ad 28)), (1, .int x1)]) (by decide +kernel) rfl (Nat.le_of_ble_eq_true rfl) rfl (fun X hz h => w4_fault h hF)
def f2_takeSign (fu : Nat) (x1 : Int32) (x2 : Int32) (M : Mem) : Option (Mem) :=
    if (M.1 35 0) < 0 then ((some M))
    else (if (M.1 35 0) < (8 : Int32) then (if x1 = 0 then ((f4_kindOfLetter M fu x2).bind fun r5 =>
    (wr M 36 8 (M.1 35 0) r5).bind fun M6 =>
    (some M6))
    else if x1 = 1 then ((wr M 37 8 (M.1 35 0) (x2 - (48 : Int32))).bind fun M8 =>
    (some M8))
    else if x1 = 2 then ((wr M 38 8 (M.1 35 0) (x2 - (48 : Int32))).bind fun M10 =>
    (some M10))
    else if x1 = 3 then ((wr M 39 8 (M.1 35 0) (x2 - (48 : Int32))).bind fun M12 =>
    (some M12))
    else ((wr M 40 8 (M.1 35 0) (x2 - (48 : Int32))).bind fun M13 =>
    (some M13)))
    else ((some M)))
set_option maxHeartbeats 4000000 in
set_option maxRecDepth 10000 in
theorem w2_takeSign {ad : Nat → Nat} {X : XX} {R : Mem} {fu : Nat} (h : Cx layC ad X cX2_takeSign RX2 3 2 none (R) none) {x1 : Int32} {x2 : Int32} {M : Mem} (hF : f2_takeSign fu x1 x2 M = some R) : Wp layC ad X M 0 [(0, .ref (ad 35)), (1, .int x1), (2, .int x2)] [] := by
  unfold f2_takeSign at hF
  refine R_aload_n (pc := 0) h 0 rfl rfl dX2_takeSign_0 ?_
  refine R_getI (pc := 1) h flX2_9 lc_35 rfl dX2_takeSign_1 ?_
  refine R_if_lt (pc := 4) (tgt := 16) h dX2_takeSign_4 (by decide) (fun c1 => ?_) (fun c1 => ?_)
  · have hF := itp c1 hF
    cases hF
    exact R_return (pc := 16) h rfl rfl rfl dX2_takeSign_16
  · have hF := ifn c1 hF
    refine R_aload_n (pc := 7) h 0 rfl rfl dX2_takeSign_7 ?_
    refine R_getI (pc := 8) h flX2_9 lc_35 rfl dX2_takeSign_8 ?_
    refine R_bipush (pc := 11) (v := 8) h (by decide) dX2_takeSign_11 ?_
    refine R_icmp_lt (pc := 13) (tgt := 17) h dX2_takeSign_13 (by decide) (fun c2 => ?_) (fun c2 => ?_)
    · have hF := itp c2 hF
      refine R_iload_n (pc := 17) h 1 rfl rfl dX2_takeSign_17 ?_
      by_cases c3 : x1 = 0
      · have hF := itp c3 hF
        refine R_tableIn (pc := 18) (off := 30) (tgt := 48) h dX2_takeSign_18 (by rw [c3]; decide +kernel) (by rw [c3]; decide +kernel) (by rw [c3]; decide +kernel) (by decide) ?_
        refine R_aload_n (pc := 48) h 0 rfl rfl dX2_takeSign_48 ?_
        refine R_getR (pc := 49) (q1 := 36) h flX2_15 lc_35 rfl dX2_takeSign_49 ?_
        refine R_aload_n (pc := 52) h 0 rfl rfl dX2_takeSign_52 ?_
        refine R_getI (pc := 53) h flX2_9 lc_35 rfl dX2_takeSign_53 ?_
        refine R_iload_n (pc := 56) h 2 rfl rfl dX2_takeSign_56 ?_
        obtain ⟨r5, hc4, hF⟩ := bd hF
        refine R_callN (pc := 57) (st := [.int (M.1 35 0), .ref (ad 36)]) h [.int x2] cnX2_75 (c4_kindOfLetter (ad := ad) (z := X.1) hc4) rfl rfl (by decide) (by decide) (Nat.le_of_ble_eq_true rfl) dX2_takeSign_57 (st1 := [.int r5, .int (M.1 35 0), .ref (ad 36)]) rfl ?_
        obtain ⟨M6, hM6, hF⟩ := bd hF
        refine R_iast (pc := 60) h hM6 lc_36 dX2_takeSign_60 ?_
        refine R_goto (pc := 61) (tgt := 125) h dX2_takeSign_61 (by decide) ?_
        cases hF
        exact R_return (pc := 125) h rfl rfl rfl dX2_takeSign_125
      have hF := ifn c3 hF
      by_cases c7 : x1 = 1
      · have hF := itp c7 hF
        refine R_tableIn (pc := 18) (off := 46) (tgt := 64) h dX2_takeSign_18 (by rw [c7]; decide +kernel) (by rw [c7]; decide +kernel) (by rw [c7]; decide +kernel) (by decide) ?_
        refine R_aload_n (pc := 64) h 0 rfl rfl dX2_takeSign_64 ?_
        refine R_getR (pc := 65) (q1 := 37) h flX2_19 lc_35 rfl dX2_takeSign_65 ?_
        refine R_aload_n (pc := 68) h 0 rfl rfl dX2_takeSign_68 ?_
        refine R_getI (pc := 69) h flX2_9 lc_35 rfl dX2_takeSign_69 ?_
        refine R_iload_n (pc := 72) h 2 rfl rfl dX2_takeSign_72 ?_
        refine R_bipush (pc := 73) (v := 48) h (by decide) dX2_takeSign_73 ?_
        refine R_isub (pc := 75) h dX2_takeSign_75 ?_
        obtain ⟨M8, hM8, hF⟩ := bd hF
        refine R_iast (pc := 76) h hM8 lc_37 dX2_takeSign_76 ?_
        refine R_goto (pc := 77) (tgt := 125) h dX2_takeSign_77 (by decide) ?_
        cases hF
        exact R_return (pc := 125) h rfl rfl rfl dX2_takeSign_125
      have hF := ifn c7 hF
      by_cases c9 : x1 = 2
      · have hF := itp c9 hF
        refine R_tableIn (pc := 18) (off := 62) (tgt := 80) h dX2_takeSign_18 (by rw [c9]; decide +kernel) (by rw [c9]; decide +kernel) (by rw [c9]; decide +kernel) (by decide) ?_
        refine R_aload_n (pc := 80) h 0 rfl rfl dX2_takeSign_80 ?_
        refine R_getR (pc := 81) (q1 := 38) h flX2_22 lc_35 rfl dX2_takeSign_81 ?_
        refine R_aload_n (pc := 84) h 0 rfl rfl dX2_takeSign_84 ?_
        refine R_getI (pc := 85) h flX2_9 lc_35 rfl dX2_takeSign_85 ?_
        refine R_iload_n (pc := 88) h 2 rfl rfl dX2_takeSign_88 ?_
        refine R_bipush (pc := 89) (v := 48) h (by decide) dX2_takeSign_89 ?_
        refine R_isub (pc := 91) h dX2_takeSign_91 ?_
        obtain ⟨M10, hM10, hF⟩ := bd hF
        refine R_iast (pc := 92) h hM10 lc_38 dX2_takeSign_92 ?_
        refine R_goto (pc := 93) (tgt := 125) h dX2_takeSign_93 (by decide) ?_
        cases hF
        exact R_return (pc := 125) h rfl rfl rfl dX2_takeSign_125
      have hF := ifn c9 hF
      by_cases c11 : x1 = 3
      · have hF := itp c11 hF
        refine R_tableIn (pc := 18) (off := 78) (tgt := 96) h dX2_takeSign_18 (by rw [c11]; decide +kernel) (by rw [c11]; decide +kernel) (by rw [c11]; decide +kernel) (by decide) ?_
        refine R_aload_n (pc := 96) h 0 rfl rfl dX2_takeSign_96 ?_
        refine R_getR (pc := 97) (q1 := 39) h flX2_25 lc_35 rfl dX2_takeSign_97 ?_
        refine R_aload_n (pc := 100) h 0 rfl rfl dX2_takeSign_100 ?_
        refine R_getI (pc := 101) h flX2_9 lc_35 rfl dX2_takeSign_101 ?_
        refine R_iload_n (pc := 104) h 2 rfl rfl dX2_takeSign_104 ?_
        refine R_bipush (pc := 105) (v := 48) h (by decide) dX2_takeSign_105 ?_
        refine R_isub (pc := 107) h dX2_takeSign_107 ?_
        obtain ⟨M12, hM12, hF⟩ := bd hF
        refine R_iast (pc := 108) h hM12 lc_39 dX2_takeSign_108 ?_
        refine R_goto (pc := 109) (tgt := 125) h dX2_takeSign_109 (by decide) ?_
        cases hF
        exact R_return (pc := 125) h rfl rfl rfl dX2_takeSign_125
      have hF := ifn c11 hF
      refine R_tableOut (pc := 18) (tgt := 112) h dX2_takeSign_18 (by have e0 := lv_neT c3 (a := 0) (by decide); have e1 := lv_neT c7 (a := 1) (by decide); have e2 := lv_neT c9 (a := 2) (by decide); have e3 := lv_neT c11 (a := 3) (by decide); omega) (by decide) ?_
      refine R_aload_n (pc := 112) h 0 rfl rfl dX2_takeSign_112 ?_
      refine R_getR (pc := 113) (q1 := 40) h flX2_28 lc_35 rfl dX2_takeSign_113 ?_
      refine R_aload_n (pc := 116) h 0 rfl rfl dX2_takeSign_116 ?_
      refine R_getI (pc := 117) h flX2_9 lc_35 rfl dX2_takeSign_117 ?_
      refine R_iload_n (pc := 120) h 2 rfl rfl dX2_takeSign_120 ?_
      refine R_bipush (pc := 121) (v := 48) h (by decide) dX2_takeSign_121 ?_
      refine R_isub (pc := 123) h dX2_takeSign_123 ?_
      obtain ⟨M13, hM13, hF⟩ := bd hF
      refine R_iast (pc := 124) h hM13 lc_40 dX2_takeSign_124 ?_
      cases hF
      exact R_return (pc := 125) h rfl rfl rfl dX2_takeSign_125
    · have hF := ifn c2 hF
      cases hF
      exact R_return (pc := 16) h rfl rfl rfl dX2_takeSign_16
theorem c2_takeSign {ad : Nat → Nat} {z : ZZ} {R : Mem} {fu : Nat} {x1 : Int32} {x2 : Int32} {M : Mem} (hF : f2_takeSign fu x1 x2 M = some R) : Con layC ad z yX2_takeSign cX2_takeSign 3 none 2 M [.ref (ad 35), .int x1, .int x2] (R) none := con_of (own := RX2) (lv := [(0, .ref (ad 35)), (1, .int x1), (2, .int x2)]) (by decide +kernel) rfl (Nat.le_of_ble_eq_true rfl) rfl (fun X hz h => w2_takeSign h hF)
def f2_has (M : Mem) (x1 : Int32) : Option (Int32) :=
    if x1 < 0 then ((some (0 : Int32)))
    else (if (M.1 35 0) ≤ x1 then ((some (0 : Int32)))
    else ((some (1 : Int32))))
set_option maxHeartbeats 4000000 in
set_option maxRecDepth 10000 in
theorem w2_has {ad : Nat → Nat} {X : XX} {R : Int32} {M : Mem} (h : Cx layC ad X cX2_has RX2 2 1 (some .boolean) M (some (.int R))) {x1 : Int32} (hF : f2_has M x1 = some R) : Wp layC ad X M 0 [(0, .ref (ad 35)), (1, .int x1)] [] := by
  unfold f2_has at hF
  refine R_iload_n (pc := 0) h 1 rfl rfl dX2_has_0 ?_
  refine R_if_lt (pc := 1) (tgt := 16) h dX2_has_1 (by decide) (fun c1 => ?_) (fun c1 => ?_)
  · have hF := itp c1 hF
    refine R_iconst (pc := 16) (v := 0) h (by decide) dX2_has_16 ?_
    cases hF
    exact R_zreturn (pc := 17) h rfl zr0 rfl rfl dX2_has_17
  · have hF := ifn c1 hF
    refine R_iload_n (pc := 4) h 1 rfl rfl dX2_has_4 ?_
    refine R_aload_n (pc := 5) h 0 rfl rfl dX2_has_5 ?_
    refine R_getI (pc := 6) h flX2_9 lc_35 rfl dX2_has_6 ?_
    refine R_icmp_ge (pc := 9) (tgt := 16) h dX2_has_9 (by decide) (fun c2 => ?_) (fun c2 => ?_)
    · have hF := itp c2 hF
      refine R_iconst (pc := 16) (v := 0) h (by decide) dX2_has_16 ?_
      cases hF
      exact R_zreturn (pc := 17) h rfl zr0 rfl rfl dX2_has_17
    · have hF := ifn c2 hF
      refine R_iconst (pc := 12) (v := 1) h (by decide) dX2_has_12 ?_
      refine R_goto (pc := 13) (tgt := 17) h dX2_has_13 (by decide) ?_
      cases hF
      exact R_zreturn (pc := 17) h rfl zr1 rfl rfl dX2_has_17
theorem c2_has {ad : Nat → Nat} {z : ZZ} {R : Int32} {M : Mem} {x1 : Int32} (hF : f2_has M x1 = some R) : Con layC ad z yX2_has cX2_has 2 (some .boolean) 1 M [.ref (ad 35), .int x1] (M) (some (.int R)) := con_of (own := RX2) (lv := [(0, .ref (ad 35)), (1, .int x1)]) (by decide +kernel) rfl (Nat.le_of_ble_eq_true rfl) rfl (fun X hz h => w2_has h hF)
def f2_valueAs_30 (M : Mem) (x1 : Int32) (x2 : Int32) (x3 : Int32) (s0 : Int32) : Option (Int32) :=
    if x2 = 1 then ((some (x3 - (10 : Int32))))
    else if x2 = 2 then ((some s0))
    else if x2 = 3 then ((rd M 39 8 x1).bind fun v4 =>
    (some (x3 * v4)))
    else if x2 = 4 then ((some ((2 : Int32) * s0)))
    else if x2 = 5 then ((rd M 39 8 x1).bind fun v7 =>
    (some ((x3 - (10 : Int32)) - v7)))
    else ((some x3))
set_option maxHeartbeats 4000000 in
set_option maxRecDepth 10000 in
theorem w2_valueAs_30 {ad : Nat → Nat} {X : XX} {R : Int32} {M : Mem}  (h : Cx layC ad X cX2_valueAs RX2 5 2 (some .int) M (some (.int R)))  {x1 : Int32} {x2 : Int32} {x3 : Int32} {s0 : Int32} (hF : f2_valueAs_30 M x1 x2 x3 s0 = some R) : Wp layC ad X M 30 [(0, .ref (ad 35)), (1, .int x1), (2, .int x2), (3, .int x3)] [.int s0] := by
  unfold f2_valueAs_30 at hF
  refine R_istore (pc := 30) (lv' := [(4, .int s0), (0, .ref (ad 35)), (1, .int x1), (2, .int x2), (3, .int x3)]) h rfl (by decide) rfl dX2_valueAs_30 ?_
  refine R_iload_n (pc := 32) h 3 rfl rfl dX2_valueAs_32 ?_
  by_cases c1 : x2 = 1
  · have hF := itp c1 hF
    refine R_tableIn (pc := 33) (off := 35) (tgt := 68) h dX2_valueAs_33 (by rw [c1]; decide +kernel) (by rw [c1]; decide +kernel) (by rw [c1]; decide +kernel) (by decide) ?_
    refine R_iload_n (pc := 68) h 4 rfl rfl dX2_valueAs_68 ?_
    refine R_bipush (pc := 69) (v := 10) h (by decide) dX2_valueAs_69 ?_
    refine R_isub (pc := 71) h dX2_valueAs_71 ?_
    cases hF
    exact R_ireturn (pc := 72) h rfl rfl rfl dX2_valueAs_72
  have hF := ifn c1 hF
  by_cases c2 : x2 = 2
  · have hF := itp c2 hF
    refine R_tableIn (pc := 33) (off := 40) (tgt := 73) h dX2_valueAs_33 (by rw [c2]; decide +kernel) (by rw [c2]; decide +kernel) (by rw [c2]; decide +kernel) (by decide) ?_
    refine R_iload (pc := 73) h 0 rfl dX2_valueAs_73 ?_
    cases hF
    exact R_ireturn (pc := 75) h rfl rfl rfl dX2_valueAs_75
  have hF := ifn c2 hF
  by_cases c3 : x2 = 3
  · have hF := itp c3 hF
    refine R_tableIn (pc := 33) (off := 43) (tgt := 76) h dX2_valueAs_33 (by rw [c3]; decide +kernel) (by rw [c3]; decide +kernel) (by rw [c3]; decide +kernel) (by decide) ?_
    refine R_iload_n (pc := 76) h 4 rfl rfl dX2_valueAs_76 ?_
    refine R_aload_n (pc := 77) h 1 rfl rfl dX2_valueAs_77 ?_
    refine R_getR (pc := 78) (q1 := 39) h flX2_25 lc_35 rfl dX2_valueAs_78 ?_
    refine R_iload_n (pc := 81) h 2 rfl rfl dX2_valueAs_81 ?_
    obtain ⟨v4, hv4, hF⟩ := bd hF
    refine R_iald (pc := 82) h hv4 lc_39 dX2_valueAs_82 ?_
    refine R_imul (pc := 83) h dX2_valueAs_83 ?_
    cases hF
    exact R_ireturn (pc := 84) h rfl rfl rfl dX2_valueAs_84
  have hF := ifn c3 hF
  by_cases c5 : x2 = 4
  · have hF := itp c5 hF
    refine R_tableIn (pc := 33) (off := 52) (tgt := 85) h dX2_valueAs_33 (by rw [c5]; decide +kernel) (by rw [c5]; decide +kernel) (by rw [c5]; decide +kernel) (by decide) ?_
    refine R_iconst (pc := 85) (v := 2) h (by decide) dX2_valueAs_85 ?_
    refine R_iload (pc := 86) h 0 rfl dX2_valueAs_86 ?_
    refine R_imul (pc := 88) h dX2_valueAs_88 ?_
    cases hF
    exact R_ireturn (pc := 89) h rfl rfl rfl dX2_valueAs_89
  have hF := ifn c5 hF
  by_cases c6 : x2 = 5
  · have hF := itp c6 hF
    refine R_tableIn (pc := 33) (off := 57) (tgt := 90) h dX2_valueAs_33 (by rw [c6]; decide +kernel) (by rw [c6]; decide +kernel) (by rw [c6]; decide +kernel) (by decide) ?_
    refine R_iload_n (pc := 90) h 4 rfl rfl dX2_valueAs_90 ?_
    refine R_bipush (pc := 91) (v := 10) h (by decide) dX2_valueAs_91 ?_
    refine R_isub (pc := 93) h dX2_valueAs_93 ?_
    refine R_aload_n (pc := 94) h 1 rfl rfl dX2_valueAs_94 ?_
    refine R_getR (pc := 95) (q1 := 39) h flX2_25 lc_35 rfl dX2_valueAs_95 ?_
    refine R_iload_n (pc := 98) h 2 rfl rfl dX2_valueAs_98 ?_
    obtain ⟨v7, hv7, hF⟩ := bd hF
    refine R_iald (pc := 99) h hv7 lc_39 dX2_valueAs_99 ?_
    refine R_isub (pc := 100) h dX2_valueAs_100 ?_
    cases hF
    exact R_ireturn (pc := 101) h rfl rfl rfl dX2_valueAs_101
  have hF := ifn c6 hF
  refine R_tableOut (pc := 33) (tgt := 102) h dX2_valueAs_33 (by have e0 := lv_neT c1 (a := 1) (by decide); have e1 := lv_neT c2 (a := 2) (by decide); have e2 := lv_neT c3 (a := 3) (by decide); have e3 := lv_neT c5 (a := 4) (by decide); have e4 := lv_neT c6 (a := 5) (by decide); omega) (by decide) ?_
  refine R_iload_n (pc := 102) h 4 rfl rfl dX2_valueAs_102 ?_
  cases hF
  exact R_ireturn (pc := 103) h rfl rfl rfl dX2_valueAs_103
def f2_valueAs (M : Mem) (x1 : Int32) (x2 : Int32) (x3 : Int32) : Option (Int32) :=
    (f2_has M x1).bind fun r2 =>
    if r2 = 0 then ((some (0 : Int32)))
    else ((rd M 41 8 x1).bind fun v4 =>
    if ((v4 >>> ((5 : Int32) &&& 31)) &&& (1 : Int32)) = 0 then ((f2_valueAs_30 M x1 x2 x3 x3))
    else ((f2_valueAs_30 M x1 x2 x3 (x3 + (3 : Int32)))))
set_option maxHeartbeats 4000000 in
set_option maxRecDepth 10000 in
theorem w2_valueAs {ad : Nat → Nat} {X : XX} {R : Int32} {M : Mem} (h : Cx layC ad X cX2_valueAs RX2 5 2 (some .int) M (some (.int R))) {x1 : Int32} {x2 : Int32} {x3 : Int32} (hF : f2_valueAs M x1 x2 x3 = some R) : Wp layC ad X M 0 [(0, .ref (ad 35)), (1, .int x1), (2, .int x2), (3, .int x3)] [] := by
  unfold f2_valueAs at hF
  refine R_aload_n (pc := 0) h 0 rfl rfl dX2_valueAs_0 ?_
  refine R_iload_n (pc := 1) h 1 rfl rfl dX2_valueAs_1 ?_
  obtain ⟨r2, hc1, hF⟩ := bd hF
  refine R_callV (pc := 2) (st := []) h [.int x1] cvX2_87 (c2_has (ad := ad) (z := X.1) hc1) rfl rfl lc_35 (by decide) (by decide) (Nat.le_of_ble_eq_true rfl) dX2_valueAs_2 (st1 := [.int r2]) rfl ?_
  refine R_if_ne (pc := 5) (tgt := 10) h dX2_valueAs_5 (by decide) (fun c3 => ?_) (fun c3 => ?_)
  · have hF := ifn c3 hF
    refine R_aload_n (pc := 10) h 0 rfl rfl dX2_valueAs_10 ?_
    refine R_getR (pc := 11) (q1 := 41) h flX2_31 lc_35 rfl dX2_valueAs_11 ?_
    refine R_iload_n (pc := 14) h 1 rfl rfl dX2_valueAs_14 ?_
    obtain ⟨v4, hv4, hF⟩ := bd hF
    refine R_iald (pc := 15) h hv4 lc_41 dX2_valueAs_15 ?_
    refine R_iconst (pc := 16) (v := 5) h (by decide) dX2_valueAs_16 ?_
    refine R_ishr (pc := 17) h dX2_valueAs_17 ?_
    refine R_iconst (pc := 18) (v := 1) h (by decide) dX2_valueAs_18 ?_
    refine R_iand (pc := 19) h dX2_valueAs_19 ?_
    refine R_if_eq (pc := 20) (tgt := 29) h dX2_valueAs_20 (by decide) (fun c5 => ?_) (fun c5 => ?_)
    · have hF := itp c5 hF
      refine R_iload_n (pc := 29) h 3 rfl rfl dX2_valueAs_29 ?_
      exact Wp_sub (nX := 0) (lv' := [(0, .ref (ad 35)), (1, .int x1), (2, .int x2), (3, .int x3)]) [0, 1, 2, 3] rfl (w2_valueAs_30 h  (hF := hF))
    · have hF := ifn c5 hF
      refine R_iload_n (pc := 23) h 3 rfl rfl dX2_valueAs_23 ?_
      refine R_iconst (pc := 24) (v := 3) h (by decide) dX2_valueAs_24 ?_
      refine R_iadd (pc := 25) h dX2_valueAs_25 ?_
      refine R_goto (pc := 26) (tgt := 30) h dX2_valueAs_26 (by decide) ?_
      exact Wp_sub (nX := 0) (lv' := [(0, .ref (ad 35)), (1, .int x1), (2, .int x2), (3, .int x3)]) [0, 1, 2, 3] rfl (w2_valueAs_30 h  (hF := hF))
  · have hF := itp c3 hF
    refine R_iconst (pc := 8) (v := 0) h (by decide) dX2_valueAs_8 ?_
    cases hF
    exact R_ireturn (pc := 9) h rfl rfl rfl dX2_valueAs_9
theorem c2_valueAs {ad : Nat → Nat} {z : ZZ} {R : Int32} {M : Mem} {x1 : Int32} {x2 : Int32} {x3 : Int32} (hF : f2_valueAs M x1 x2 x3 = some R) : Con layC ad z yX2_valueAs cX2_valueAs 5 (some .int) 2 M [.ref (ad 35), .int x1, .int x2, .int x3] (M) (some (.int R)) := con_of (own := RX2) (lv := [(0, .ref (ad 35)), (1, .int x1), (2, .int x2), (3, .int x3)]) (by decide +kernel) rfl (Nat.le_of_ble_eq_true rfl) rfl (fun X hz h => w2_valueAs h hF)
def f2_apartFrom_4 (M : Mem) (fu : Nat) : Nat → Int32 → Int32 → Int32 → Option (Int32)
  | 0 => fun _ _ _ => none
  | f + 1 => fun x1 x2 x3 =>
    if (M.1 35 0) ≤ x3 then ((some x2))
    else ((rd M 41 8 x3).bind fun v2 =>
    if (v2 &&& x1) = 0 then (nm (x2 ||| ((1 : Int32) <<< (x3 &&& 31))) fun v4 =>
    nm (x3 + (1 : Int32)) fun v5 =>
    ((f2_apartFrom_4 M fu f) x1 v4 v5))
    else (nm (x3 + (1 : Int32)) fun v6 =>
    ((f2_apartFrom_4 M fu f) x1 x2 v6)))
set_option maxHeartbeats 4000000 in
set_option maxRecDepth 10000 in
theorem w2_apartFromi_4 {ad : Nat → Nat} {X : XX} {R : Int32} {M : Mem} {fu : Nat}  (h : Cx layC ad X cX2_apartFrom RX2 4 1 (some .int) M (some (.int R)))  : ∀ (f : Nat) (x1 : Int32) (x2 : Int32) (x3 : Int32), f2_apartFrom_4 M fu f x1 x2 x3 = some R → Wp layC ad X M 4 [(0, .ref (ad 35)), (1, .int x1), (2, .int x2), (3, .int x3)] [] := by
  intro f
  induction f with
  | zero => intro x1 x2 x3 hF; exact absurd hF (by simp [f2_apartFrom_4])
  | succ f ih =>
    intro x1 x2 x3 hF
    rw [f2_apartFrom_4] at hF
    refine R_iload_n (pc := 4) h 3 rfl rfl dX2_apartFrom_4 ?_
    refine R_aload_n (pc := 5) h 0 rfl rfl dX2_apartFrom_5 ?_
    refine R_getI (pc := 6) h flX2_9 lc_35 rfl dX2_apartFrom_6 ?_
    refine R_icmp_ge (pc := 9) (tgt := 35) h dX2_apartFrom_9 (by decide) (fun c1 => ?_) (fun c1 => ?_)
    · have hF := itp c1 hF
      refine R_iload_n (pc := 35) h 2 rfl rfl dX2_apartFrom_35 ?_
      cases hF
      exact R_ireturn (pc := 36) h rfl rfl rfl dX2_apartFrom_36
    · have hF := ifn c1 hF
      refine R_aload_n (pc := 12) h 0 rfl rfl dX2_apartFrom_12 ?_
      refine R_getR (pc := 13) (q1 := 41) h flX2_31 lc_35 rfl dX2_apartFrom_13 ?_
      refine R_iload_n (pc := 16) h 3 rfl rfl dX2_apartFrom_16 ?_
      obtain ⟨v2, hv2, hF⟩ := bd hF
      refine R_iald (pc := 17) h hv2 lc_41 dX2_apartFrom_17 ?_
      refine R_iload_n (pc := 18) h 1 rfl rfl dX2_apartFrom_18 ?_
      refine R_iand (pc := 19) h dX2_apartFrom_19 ?_
      refine R_if_ne (pc := 20) (tgt := 29) h dX2_apartFrom_20 (by decide) (fun c3 => ?_) (fun c3 => ?_)
      · have hF := ifn c3 hF
        obtain ⟨v6, hv6, hF⟩ := nm_e2 hF
        refine R_iinc (pc := 29) (lv' := [(3, .int v6), (0, .ref (ad 35)), (1, .int x1), (2, .int x2)]) h 3 rfl (by decide) hv6 (by decide) rfl dX2_apartFrom_29 ?_
        refine R_goto (pc := 32) (tgt := 4) h dX2_apartFrom_32 (by decide) ?_
        exact Wp_sub (nX := 0) (lv' := [(0, .ref (ad 35)), (1, .int x1), (2, .int x2), (3, .int v6)]) [1, 2, 3, 0] rfl (ih _ _ _ hF)
      · have hF := itp c3 hF
        refine R_iload_n (pc := 23) h 2 rfl rfl dX2_apartFrom_23 ?_
        refine R_iconst (pc := 24) (v := 1) h (by decide) dX2_apartFrom_24 ?_
        refine R_iload_n (pc := 25) h 3 rfl rfl dX2_apartFrom_25 ?_
        refine R_ishl (pc := 26) h dX2_apartFrom_26 ?_
        refine R_ior (pc := 27) h dX2_apartFrom_27 ?_
        obtain ⟨v4, hv4, hF⟩ := nm_e2 hF
        refine R_istore_n (pc := 28) (lv' := [(2, .int v4), (0, .ref (ad 35)), (1, .int x1), (3, .int x3)]) h hv4 rfl (by decide) rfl dX2_apartFrom_28 ?_
        obtain ⟨v5, hv5, hF⟩ := nm_e2 hF
        refine R_iinc (pc := 29) (lv' := [(3, .int v5), (2, .int v4), (0, .ref (ad 35)), (1, .int x1)]) h 3 rfl (by decide) hv5 (by decide) rfl dX2_apartFrom_29 ?_
        refine R_goto (pc := 32) (tgt := 4) h dX2_apartFrom_32 (by decide) ?_
        exact Wp_sub (nX := 0) (lv' := [(0, .ref (ad 35)), (1, .int x1), (2, .int v4), (3, .int v5)]) [2, 3, 1, 0] rfl (ih _ _ _ hF)
theorem w2_apartFrom_4 {ad : Nat → Nat} {X : XX} {R : Int32} {M : Mem} {fu : Nat}  (h : Cx layC ad X cX2_apartFrom RX2 4 1 (some .int) M (some (.int R)))  {f : Nat} {x1 : Int32} {x2 : Int32} {x3 : Int32} (hF : f2_apartFrom_4 M fu f x1 x2 x3 = some R) : Wp layC ad X M 4 [(0, .ref (ad 35)), (1, .int x1), (2, .int x2), (3, .int x3)] [] := w2_apartFromi_4 h  f _ _ _ hF
def f2_apartFrom (M : Mem) (fu : Nat) (x1 : Int32) : Option (Int32) :=
    (f2_apartFrom_4 M fu fu x1 (0 : Int32) (0 : Int32))
set_option maxHeartbeats 4000000 in
set_option maxRecDepth 10000 in
theorem w2_apartFrom {ad : Nat → Nat} {X : XX} {R : Int32} {M : Mem} {fu : Nat} (h : Cx layC ad X cX2_apartFrom RX2 4 1 (some .int) M (some (.int R))) {x1 : Int32} (hF : f2_apartFrom M fu x1 = some R) : Wp layC ad X M 0 [(0, .ref (ad 35)), (1, .int x1)] [] := by
  unfold f2_apartFrom at hF
  refine R_iconst (pc := 0) (v := 0) h (by decide) dX2_apartFrom_0 ?_
  refine R_istore_n (pc := 1) (lv' := [(2, .int (0 : Int32)), (0, .ref (ad 35)), (1, .int x1)]) h rfl rfl (by decide) rfl dX2_apartFrom_1 ?_
  refine R_iconst (pc := 2) (v := 0) h (by decide) dX2_apartFrom_2 ?_
  refine R_istore_n (pc := 3) (lv' := [(3, .int (0 : Int32)), (2, .int (0 : Int32)), (0, .ref (ad 35)), (1, .int x1)]) h rfl rfl (by decide) rfl dX2_apartFrom_3 ?_
  exact Wp_sub (nX := 0) (lv' := [(0, .ref (ad 35)), (1, .int x1), (2, .int (0 : Int32)), (3, .int (0 : Int32))]) [2, 3, 1, 0] rfl (w2_apartFrom_4 h  (hF := hF))
theorem c2_apartFrom {ad : Nat → Nat} {z : ZZ} {R : Int32} {M : Mem} {fu : Nat} {x1 : Int32} (hF : f2_apartFrom M fu x1 = some R) : Con layC ad z yX2_apartFrom cX2_apartFrom 4 (some .int) 1 M [.ref (ad 35), .int x1] (M) (some (.int R)) := con_of (own := RX2) (lv := [(0, .ref (ad 35)), (1, .int x1)]) (by decide +kernel) rfl (Nat.le_of_ble_eq_true rfl) rfl (fun X hz h => w2_apartFrom h hF)
def f2_reckonSetsTo_120 (fu : Nat) (k18 : Int32 → Int32 → Int32 → Int32 → Mem → Option (Mem)) (x1 : Int32) (x2 : Int32) (x3 : Int32) (x4 : Int32) (x5 : Int32) (s0 : Int32) (s1 : Int32) (M : Mem) : Option (Mem) :=
    (wr M 45 256 s1 (zb s0)).bind fun M1 =>
    (rd M1 46 256 x4).bind fun v2 =>
    (rd M1 42 8 x1).bind fun v3 =>
    (rd M1 46 256 (x4 &&& x3)).bind fun v4 =>
    (wr M1 46 256 x5 (if v2 < (v3 + v4) then (v3 + v4) else v2)).bind fun M5 =>
    nm (x4 + (1 : Int32)) fun v6 =>
    (k18 x1 x2 x3 v6 M5)
set_option maxHeartbeats 4000000 in
set_option maxRecDepth 10000 in
theorem w2_reckonSetsTo_120 {ad : Nat → Nat} {X : XX} {R : Mem} {fu : Nat} {k18 : Int32 → Int32 → Int32 → Int32 → Mem → Option (Mem)} (h : Cx layC ad X cX2_reckonSetsTo RX2 6 2 none (R) none) (hk18 : ∀ (x1 : Int32) (x2 : Int32) (x3 : Int32) (x4 : Int32) (M : Mem), k18 x1 x2 x3 x4 M = some R → Wp layC ad X M 18 [(0, .ref (ad 35)), (1, .int x1), (2, .int x2), (3, .int x3), (4, .int x4)] []) {x1 : Int32} {x2 : Int32} {x3 : Int32} {x4 : Int32} {x5 : Int32} {s0 : Int32} {s1 : Int32} {M : Mem} (hF : f2_reckonSetsTo_120 fu k18 x1 x2 x3 x4 x5 s0 s1 M = some R) : Wp layC ad X M 120 [(0, .ref (ad 35)), (1, .int x1), (2, .int x2), (3, .int x3), (4, .int x4), (5, .int x5)] [.int s0, .int s1, .ref (ad 45)] := by
  unfold f2_reckonSetsTo_120 at hF
  obtain ⟨M1, hM1, hF⟩ := bd hF
  refine R_zast (pc := 120) h hM1 lc_45 dX2_reckonSetsTo_120 ?_
  refine R_aload_n (pc := 121) h 0 rfl rfl dX2_reckonSetsTo_121 ?_
  refine R_getR (pc := 122) (q1 := 46) h flX2_47 lc_35 rfl dX2_reckonSetsTo_122 ?_
  refine R_iload (pc := 125) h 5 rfl dX2_reckonSetsTo_125 ?_
  refine R_aload_n (pc := 127) h 0 rfl rfl dX2_reckonSetsTo_127 ?_
  refine R_getR (pc := 128) (q1 := 46) h flX2_47 lc_35 rfl dX2_reckonSetsTo_128 ?_
  refine R_iload (pc := 131) h 4 rfl dX2_reckonSetsTo_131 ?_
  obtain ⟨v2, hv2, hF⟩ := bd hF
  refine R_iald (pc := 133) h hv2 lc_46 dX2_reckonSetsTo_133 ?_
  refine R_aload_n (pc := 134) h 0 rfl rfl dX2_reckonSetsTo_134 ?_
  refine R_getR (pc := 135) (q1 := 42) h flX2_34 lc_35 rfl dX2_reckonSetsTo_135 ?_
  refine R_iload_n (pc := 138) h 1 rfl rfl dX2_reckonSetsTo_138 ?_
  obtain ⟨v3, hv3, hF⟩ := bd hF
  refine R_iald (pc := 139) h hv3 lc_42 dX2_reckonSetsTo_139 ?_
  refine R_aload_n (pc := 140) h 0 rfl rfl dX2_reckonSetsTo_140 ?_
  refine R_getR (pc := 141) (q1 := 46) h flX2_47 lc_35 rfl dX2_reckonSetsTo_141 ?_
  refine R_iload (pc := 144) h 4 rfl dX2_reckonSetsTo_144 ?_
  refine R_iload_n (pc := 146) h 3 rfl rfl dX2_reckonSetsTo_146 ?_
  refine R_iand (pc := 147) h dX2_reckonSetsTo_147 ?_
  obtain ⟨v4, hv4, hF⟩ := bd hF
  refine R_iald (pc := 148) h hv4 lc_46 dX2_reckonSetsTo_148 ?_
  refine R_iadd (pc := 149) h dX2_reckonSetsTo_149 ?_
  refine R_mmax (pc := 150) h mlX2_81 (by decide) (Nat.le_of_ble_eq_true rfl) dX2_reckonSetsTo_150 ?_
  obtain ⟨M5, hM5, hF⟩ := bd hF
  refine R_iast (pc := 153) h hM5 lc_46 dX2_reckonSetsTo_153 ?_
  obtain ⟨v6, hv6, hF⟩ := nm_e2 hF
  refine R_iinc (pc := 154) (lv' := [(4, .int v6), (0, .ref (ad 35)), (1, .int x1), (2, .int x2), (3, .int x3), (5, .int x5)]) h 4 rfl (by decide) hv6 (by decide) rfl dX2_reckonSetsTo_154 ?_
  refine R_goto (pc := 157) (tgt := 18) h dX2_reckonSetsTo_157 (by decide) ?_
  exact Wp_sub (nX := 0) (lv' := [(0, .ref (ad 35)), (1, .int x1), (2, .int x2), (3, .int x3), (4, .int v6)]) [1, 2, 3, 4, 0] rfl (hk18 _ _ _ _ _ hF)
def f2_reckonSetsTo_18 (fu : Nat) : Nat → Int32 → Int32 → Int32 → Int32 → Mem → Option (Mem)
  | 0 => fun _ _ _ _ _ => none
  | f + 1 => fun x1 x2 x3 x4 M =>
    if x2 ≤ x4 then ((some M))
    else (if (256 : Int32) ≤ (x4 ||| x2) then ((some M))
    else (nm (x4 ||| x2) fun v3 =>
    (rd M 43 256 x4).bind fun v4 =>
    (rd M 41 8 x1).bind fun v5 =>
    (wr M 43 256 v3 (v4 ||| v5)).bind fun M6 =>
    (rd M6 44 256 x4).bind fun v7 =>
    (rd M6 42 8 x1).bind fun v8 =>
    (wr M6 44 256 v3 (v7 + v8)).bind fun M9 =>
    (rd M9 45 256 x4).bind fun v10 =>
    if v10 = 0 then ((f2_reckonSetsTo_120 fu (f2_reckonSetsTo_18 fu f) x1 x2 x3 x4 v3 (0 : Int32) v3 M9))
    else ((rd M9 43 256 x4).bind fun v12 =>
    (rd M9 41 8 x1).bind fun v13 =>
    if (v12 &&& v13) = 0 then ((f2_reckonSetsTo_120 fu (f2_reckonSetsTo_18 fu f) x1 x2 x3 x4 v3 (1 : Int32) v3 M9))
    else ((f2_reckonSetsTo_120 fu (f2_reckonSetsTo_18 fu f) x1 x2 x3 x4 v3 (0 : Int32) v3 M9)))))
set_option maxHeartbeats 4000000 in
set_option maxRecDepth 10000 in
theorem w2_reckonSetsToi_18 {ad : Nat → Nat} {X : XX} {R : Mem} {fu : Nat}  (h : Cx layC ad X cX2_reckonSetsTo RX2 6 2 none (R) none)  : ∀ (f : Nat) (x1 : Int32) (x2 : Int32) (x3 : Int32) (x4 : Int32) (M : Mem), f2_reckonSetsTo_18 fu f x1 x2 x3 x4 M = some R → Wp layC ad X M 18 [(0, .ref (ad 35)), (1, .int x1), (2, .int x2), (3, .int x3), (4, .int x4)] [] := by
  intro f
  induction f with
  | zero => intro x1 x2 x3 x4 M hF; exact absurd hF (by simp [f2_reckonSetsTo_18])
  | succ f ih =>
    intro x1 x2 x3 x4 M hF
    rw [f2_reckonSetsTo_18] at hF
    refine R_iload (pc := 18) h 4 rfl dX2_reckonSetsTo_18 ?_
    refine R_iload_n (pc := 20) h 2 rfl rfl dX2_reckonSetsTo_20 ?_
    refine R_icmp_ge (pc := 21) (tgt := 160) h dX2_reckonSetsTo_21 (by decide) (fun c1 => ?_) (fun c1 => ?_)
    · have hF := itp c1 hF
      cases hF
      exact R_return (pc := 160) h rfl rfl rfl dX2_reckonSetsTo_160
    · have hF := ifn c1 hF
      refine R_iload (pc := 24) h 4 rfl dX2_reckonSetsTo_24 ?_
      refine R_iload_n (pc := 26) h 2 rfl rfl dX2_reckonSetsTo_26 ?_
      refine R_ior (pc := 27) h dX2_reckonSetsTo_27 ?_
      refine R_sipush (pc := 28) (v := 256) h (by decide) dX2_reckonSetsTo_28 ?_
      refine R_icmp_ge (pc := 31) (tgt := 160) h dX2_reckonSetsTo_31 (by decide) (fun c2 => ?_) (fun c2 => ?_)
      · have hF := itp c2 hF
        cases hF
        exact R_return (pc := 160) h rfl rfl rfl dX2_reckonSetsTo_160
      · have hF := ifn c2 hF
        refine R_iload (pc := 34) h 4 rfl dX2_reckonSetsTo_34 ?_
        refine R_iload_n (pc := 36) h 2 rfl rfl dX2_reckonSetsTo_36 ?_
        refine R_ior (pc := 37) h dX2_reckonSetsTo_37 ?_
        obtain ⟨v3, hv3, hF⟩ := nm_e2 hF
        refine R_istore (pc := 38) (lv' := [(5, .int v3), (0, .ref (ad 35)), (1, .int x1), (2, .int x2), (3, .int x3), (4, .int x4)]) h hv3 (by decide) rfl dX2_reckonSetsTo_38 ?_
        refine R_aload_n (pc := 40) h 1 rfl rfl dX2_reckonSetsTo_40 ?_
        refine R_getR (pc := 41) (q1 := 43) h flX2_37 lc_35 rfl dX2_reckonSetsTo_41 ?_
        refine R_iload (pc := 44) h 0 rfl dX2_reckonSetsTo_44 ?_
        refine R_aload_n (pc := 46) h 1 rfl rfl dX2_reckonSetsTo_46 ?_
        refine R_getR (pc := 47) (q1 := 43) h flX2_37 lc_35 rfl dX2_reckonSetsTo_47 ?_
        refine R_iload (pc := 50) h 5 rfl dX2_reckonSetsTo_50 ?_
        obtain ⟨v4, hv4, hF⟩ := bd hF
        refine R_iald (pc := 52) h hv4 lc_43 dX2_reckonSetsTo_52 ?_
        refine R_aload_n (pc := 53) h 1 rfl rfl dX2_reckonSetsTo_53 ?_
        refine R_getR (pc := 54) (q1 := 41) h flX2_31 lc_35 rfl dX2_reckonSetsTo_54 ?_
        refine R_iload_n (pc := 57) h 2 rfl rfl dX2_reckonSetsTo_57 ?_
        obtain ⟨v5, hv5, hF⟩ := bd hF
        refine R_iald (pc := 58) h hv5 lc_41 dX2_reckonSetsTo_58 ?_
        refine R_ior (pc := 59) h dX2_reckonSetsTo_59 ?_
        obtain ⟨M6, hM6, hF⟩ := bd hF
        refine R_iast (pc := 60) h hM6 lc_43 dX2_reckonSetsTo_60 ?_
        refine R_aload_n (pc := 61) h 1 rfl rfl dX2_reckonSetsTo_61 ?_
        refine R_getR (pc := 62) (q1 := 44) h flX2_40 lc_35 rfl dX2_reckonSetsTo_62 ?_
        refine R_iload (pc := 65) h 0 rfl dX2_reckonSetsTo_65 ?_
        refine R_aload_n (pc := 67) h 1 rfl rfl dX2_reckonSetsTo_67 ?_
        refine R_getR (pc := 68) (q1 := 44) h flX2_40 lc_35 rfl dX2_reckonSetsTo_68 ?_
        refine R_iload (pc := 71) h 5 rfl dX2_reckonSetsTo_71 ?_
        obtain ⟨v7, hv7, hF⟩ := bd hF
        refine R_iald (pc := 73) h hv7 lc_44 dX2_reckonSetsTo_73 ?_
        refine R_aload_n (pc := 74) h 1 rfl rfl dX2_reckonSetsTo_74 ?_
        refine R_getR (pc := 75) (q1 := 42) h flX2_34 lc_35 rfl dX2_reckonSetsTo_75 ?_
        refine R_iload_n (pc := 78) h 2 rfl rfl dX2_reckonSetsTo_78 ?_
        obtain ⟨v8, hv8, hF⟩ := bd hF
        refine R_iald (pc := 79) h hv8 lc_42 dX2_reckonSetsTo_79 ?_
        refine R_iadd (pc := 80) h dX2_reckonSetsTo_80 ?_
        obtain ⟨M9, hM9, hF⟩ := bd hF
        refine R_iast (pc := 81) h hM9 lc_44 dX2_reckonSetsTo_81 ?_
        refine R_aload_n (pc := 82) h 1 rfl rfl dX2_reckonSetsTo_82 ?_
        refine R_getR (pc := 83) (q1 := 45) h flX2_43 lc_35 rfl dX2_reckonSetsTo_83 ?_
        refine R_iload (pc := 86) h 0 rfl dX2_reckonSetsTo_86 ?_
        refine R_aload_n (pc := 88) h 1 rfl rfl dX2_reckonSetsTo_88 ?_
        refine R_getR (pc := 89) (q1 := 45) h flX2_43 lc_35 rfl dX2_reckonSetsTo_89 ?_
        refine R_iload (pc := 92) h 5 rfl dX2_reckonSetsTo_92 ?_
        obtain ⟨v10, hv10, hF⟩ := bd hF
        refine R_zald (pc := 94) h hv10 lc_45 dX2_reckonSetsTo_94 ?_
        refine R_if_eq (pc := 95) (tgt := 119) h dX2_reckonSetsTo_95 (by decide) (fun c11 => ?_) (fun c11 => ?_)
        · have hF := itp c11 hF
          refine R_iconst (pc := 119) (v := 0) h (by decide) dX2_reckonSetsTo_119 ?_
          exact Wp_sub (nX := 0) (lv' := [(0, .ref (ad 35)), (1, .int x1), (2, .int x2), (3, .int x3), (4, .int x4), (5, .int v3)]) [1, 2, 3, 4, 5, 0] rfl (w2_reckonSetsTo_120 h (hk18 := fun a0 a1 a2 a3 a4 hF => ih a0 a1 a2 a3 a4 hF) (hF := hF))
        · have hF := ifn c11 hF
          refine R_aload_n (pc := 98) h 1 rfl rfl dX2_reckonSetsTo_98 ?_
          refine R_getR (pc := 99) (q1 := 43) h flX2_37 lc_35 rfl dX2_reckonSetsTo_99 ?_
          refine R_iload (pc := 102) h 5 rfl dX2_reckonSetsTo_102 ?_
          obtain ⟨v12, hv12, hF⟩ := bd hF
          refine R_iald (pc := 104) h hv12 lc_43 dX2_reckonSetsTo_104 ?_
          refine R_aload_n (pc := 105) h 1 rfl rfl dX2_reckonSetsTo_105 ?_
          refine R_getR (pc := 106) (q1 := 41) h flX2_31 lc_35 rfl dX2_reckonSetsTo_106 ?_
          refine R_iload_n (pc := 109) h 2 rfl rfl dX2_reckonSetsTo_109 ?_
          obtain ⟨v13, hv13, hF⟩ := bd hF
          refine R_iald (pc := 110) h hv13 lc_41 dX2_reckonSetsTo_110 ?_
          refine R_iand (pc := 111) h dX2_reckonSetsTo_111 ?_
          refine R_if_ne (pc := 112) (tgt := 119) h dX2_reckonSetsTo_112 (by decide) (fun c14 => ?_) (fun c14 => ?_)
          · have hF := ifn c14 hF
            refine R_iconst (pc := 119) (v := 0) h (by decide) dX2_reckonSetsTo_119 ?_
            exact Wp_sub (nX := 0) (lv' := [(0, .ref (ad 35)), (1, .int x1), (2, .int x2), (3, .int x3), (4, .int x4), (5, .int v3)]) [1, 2, 3, 4, 5, 0] rfl (w2_reckonSetsTo_120 h (hk18 := fun a0 a1 a2 a3 a4 hF => ih a0 a1 a2 a3 a4 hF) (hF := hF))
          · have hF := itp c14 hF
            refine R_iconst (pc := 115) (v := 1) h (by decide) dX2_reckonSetsTo_115 ?_
            refine R_goto (pc := 116) (tgt := 120) h dX2_reckonSetsTo_116 (by decide) ?_
            exact Wp_sub (nX := 0) (lv' := [(0, .ref (ad 35)), (1, .int x1), (2, .int x2), (3, .int x3), (4, .int x4), (5, .int v3)]) [1, 2, 3, 4, 5, 0] rfl (w2_reckonSetsTo_120 h (hk18 := fun a0 a1 a2 a3 a4 hF => ih a0 a1 a2 a3 a4 hF) (hF := hF))
theorem w2_reckonSetsTo_18 {ad : Nat → Nat} {X : XX} {R : Mem} {fu : Nat}  (h : Cx layC ad X cX2_reckonSetsTo RX2 6 2 none (R) none)  {f : Nat} {x1 : Int32} {x2 : Int32} {x3 : Int32} {x4 : Int32} {M : Mem} (hF : f2_reckonSetsTo_18 fu f x1 x2 x3 x4 M = some R) : Wp layC ad X M 18 [(0, .ref (ad 35)), (1, .int x1), (2, .int x2), (3, .int x3), (4, .int x4)] [] := w2_reckonSetsToi_18 h  f _ _ _ _ _ hF
def f2_reckonSetsTo (fu : Nat) (x1 : Int32) (M : Mem) : Option (Mem) :=
    nm ((1 : Int32) <<< (x1 &&& 31)) fun v1 =>
    (rd M 41 8 x1).bind fun v2 =>
    (f2_apartFrom M fu v2).bind fun r4 =>
    (f2_reckonSetsTo_18 fu fu x1 v1 r4 (0 : Int32) M)
set_option maxHeartbeats 4000000 in
set_option maxRecDepth 10000 in
theorem w2_reckonSetsTo {ad : Nat → Nat} {X : XX} {R : Mem} {fu : Nat} (h : Cx layC ad X cX2_reckonSetsTo RX2 6 2 none (R) none) {x1 : Int32} {M : Mem} (hF : f2_reckonSetsTo fu x1 M = some R) : Wp layC ad X M 0 [(0, .ref (ad 35)), (1, .int x1)] [] := by
  unfold f2_reckonSetsTo at hF
  refine R_iconst (pc := 0) (v := 1) h (by decide) dX2_reckonSetsTo_0 ?_
  refine R_iload_n (pc := 1) h 1 rfl rfl dX2_reckonSetsTo_1 ?_
  refine R_ishl (pc := 2) h dX2_reckonSetsTo_2 ?_
  obtain ⟨v1, hv1, hF⟩ := nm_e2 hF
  refine R_istore_n (pc := 3) (lv' := [(2, .int v1), (0, .ref (ad 35)), (1, .int x1)]) h hv1 rfl (by decide) rfl dX2_reckonSetsTo_3 ?_
  refine R_aload_n (pc := 4) h 1 rfl rfl dX2_reckonSetsTo_4 ?_
  refine R_aload_n (pc := 5) h 1 rfl rfl dX2_reckonSetsTo_5 ?_
  refine R_getR (pc := 6) (q1 := 41) h flX2_31 lc_35 rfl dX2_reckonSetsTo_6 ?_
  refine R_iload_n (pc := 9) h 2 rfl rfl dX2_reckonSetsTo_9 ?_
  obtain ⟨v2, hv2, hF⟩ := bd hF
  refine R_iald (pc := 10) h hv2 lc_41 dX2_reckonSetsTo_10 ?_
  obtain ⟨r4, hc3, hF⟩ := bd hF
  refine R_callV (pc := 11) (st := []) h [.int v2] cvX2_78 (c2_apartFrom (ad := ad) (z := X.1) hc3) rfl rfl lc_35 (by decide) (by decide) (Nat.le_of_ble_eq_true rfl) dX2_reckonSetsTo_11 (st1 := [.int r4]) rfl ?_
  refine R_istore_n (pc := 14) (lv' := [(3, .int r4), (2, .int v1), (0, .ref (ad 35)), (1, .int x1)]) h rfl rfl (by decide) rfl dX2_reckonSetsTo_14 ?_
  refine R_iconst (pc := 15) (v := 0) h (by decide) dX2_reckonSetsTo_15 ?_
  refine R_istore (pc := 16) (lv' := [(4, .int (0 : Int32)), (3, .int r4), (2, .int v1), (0, .ref (ad 35)), (1, .int x1)]) h rfl (by decide) rfl dX2_reckonSetsTo_16 ?_
  exact Wp_sub (nX := 0) (lv' := [(0, .ref (ad 35)), (1, .int x1), (2, .int v1), (3, .int r4), (4, .int (0 : Int32))]) [3, 4, 2, 1, 0] rfl (w2_reckonSetsTo_18 h  (hF := hF))
theorem c2_reckonSetsTo {ad : Nat → Nat} {z : ZZ} {R : Mem} {fu : Nat} {x1 : Int32} {M : Mem} (hF : f2_reckonSetsTo fu x1 M = some R) : Con layC ad z yX2_reckonSetsTo cX2_reckonSetsTo 6 none 2 M [.ref (ad 35), .int x1] (R) none := con_of (own := RX2) (lv := [(0, .ref (ad 35)), (1, .int x1)]) (by decide +kernel) rfl (Nat.le_of_ble_eq_true rfl) rfl (fun X hz h => w2_reckonSetsTo h hF)
def f2_read_137 (fu : Nat) : Nat → Int32 → Mem → Option (Mem)
  | 0 => fun _ _ => none
  | f + 1 => fun x3 M =>
    if (M.1 35 0) ≤ x3 then ((some M))
    else ((f2_reckonSetsTo fu x3 M).bind fun M3 =>
    nm (x3 + (1 : Int32)) fun v4 =>
    ((f2_read_137 fu f) v4 M3))
set_option maxHeartbeats 4000000 in
set_option maxRecDepth 10000 in
theorem w2_readi_137 {ad : Nat → Nat} {X : XX} {R : Mem} {fu : Nat}  (h : Cx layC ad X cX2_read RX2 5 3 none (R) none)  : ∀ (f : Nat) (x3 : Int32) (M : Mem), f2_read_137 fu f x3 M = some R → Wp layC ad X M 137 [(0, .ref (ad 35)), (3, .int x3)] [] := by
  intro f
  induction f with
  | zero => intro x3 M hF; exact absurd hF (by simp [f2_read_137])
  | succ f ih =>
    intro x3 M hF
    rw [f2_read_137] at hF
    refine R_iload_n (pc := 137) h 1 rfl rfl dX2_read_137 ?_
    refine R_aload_n (pc := 138) h 0 rfl rfl dX2_read_138 ?_
    refine R_getI (pc := 139) h flX2_9 lc_35 rfl dX2_read_139 ?_
    refine R_icmp_ge (pc := 142) (tgt := 156) h dX2_read_142 (by decide) (fun c1 => ?_) (fun c1 => ?_)
    · have hF := itp c1 hF
      cases hF
      exact R_return (pc := 156) h rfl rfl rfl dX2_read_156
    · have hF := ifn c1 hF
      refine R_aload_n (pc := 145) h 0 rfl rfl dX2_read_145 ?_
      refine R_iload_n (pc := 146) h 1 rfl rfl dX2_read_146 ?_
      obtain ⟨M3, hc2, hF⟩ := bd hF
      refine R_callV (pc := 147) (st := []) h [.int x3] cvX2_71 (c2_reckonSetsTo (ad := ad) (z := X.1) hc2) rfl rfl lc_35 (by decide) (by decide) (Nat.le_of_ble_eq_true rfl) dX2_read_147 (st1 := []) rfl ?_
      obtain ⟨v4, hv4, hF⟩ := nm_e2 hF
      refine R_iinc (pc := 150) (lv' := [(3, .int v4), (0, .ref (ad 35))]) h 1 rfl (by decide) hv4 (by decide) rfl dX2_read_150 ?_
      refine R_goto (pc := 153) (tgt := 137) h dX2_read_153 (by decide) ?_
      exact Wp_sub (nX := 0) (lv' := [(0, .ref (ad 35)), (3, .int v4)]) [1, 0] rfl (ih _ _ hF)
theorem w2_read_137 {ad : Nat → Nat} {X : XX} {R : Mem} {fu : Nat}  (h : Cx layC ad X cX2_read RX2 5 3 none (R) none)  {f : Nat} {x3 : Int32} {M : Mem} (hF : f2_read_137 fu f x3 M = some R) : Wp layC ad X M 137 [(0, .ref (ad 35)), (3, .int x3)] [] := w2_readi_137 h  f _ _ hF
def f2_read_75 (fu : Nat) : Nat → Int32 → Mem → Option (Mem)
  | 0 => fun _ _ => none
  | f + 1 => fun x3 M =>
    if (M.1 35 0) ≤ x3 then ((f2_read_137 fu fu (0 : Int32) M))
    else ((rd M 39 8 x3).bind fun v2 =>
    (rd M 38 8 x3).bind fun v3 =>
    (wr M 41 8 x3 ((((1 : Int32) <<< (v2 &&& 31)) - (1 : Int32)) <<< (v3 &&& 31))).bind fun M4 =>
    (rd M4 36 8 x3).bind fun v5 =>
    (rd M4 40 8 x3).bind fun v6 =>
    (f2_valueAs M4 x3 v5 v6).bind fun r8 =>
    (wr M4 42 8 x3 r8).bind fun M9 =>
    nm (x3 + (1 : Int32)) fun v10 =>
    ((f2_read_75 fu f) v10 M9))
set_option maxHeartbeats 4000000 in
set_option maxRecDepth 10000 in
theorem w2_readi_75 {ad : Nat → Nat} {X : XX} {R : Mem} {fu : Nat}  (h : Cx layC ad X cX2_read RX2 5 3 none (R) none)  : ∀ (f : Nat) (x3 : Int32) (M : Mem), f2_read_75 fu f x3 M = some R → Wp layC ad X M 75 [(0, .ref (ad 35)), (3, .int x3)] [] := by
  intro f
  induction f with
  | zero => intro x3 M hF; exact absurd hF (by simp [f2_read_75])
  | succ f ih =>
    intro x3 M hF
    rw [f2_read_75] at hF
    refine R_iload_n (pc := 75) h 1 rfl rfl dX2_read_75 ?_
    refine R_aload_n (pc := 76) h 0 rfl rfl dX2_read_76 ?_
    refine R_getI (pc := 77) h flX2_9 lc_35 rfl dX2_read_77 ?_
    refine R_icmp_ge (pc := 80) (tgt := 135) h dX2_read_80 (by decide) (fun c1 => ?_) (fun c1 => ?_)
    · have hF := itp c1 hF
      refine R_iconst (pc := 135) (v := 0) h (by decide) dX2_read_135 ?_
      refine R_istore_n (pc := 136) (lv' := [(3, .int (0 : Int32)), (0, .ref (ad 35))]) h rfl rfl (by decide) rfl dX2_read_136 ?_
      exact Wp_sub (nX := 0) (lv' := [(0, .ref (ad 35)), (3, .int (0 : Int32))]) [1, 0] rfl (w2_read_137 h  (hF := hF))
    · have hF := ifn c1 hF
      refine R_aload_n (pc := 83) h 0 rfl rfl dX2_read_83 ?_
      refine R_getR (pc := 84) (q1 := 41) h flX2_31 lc_35 rfl dX2_read_84 ?_
      refine R_iload_n (pc := 87) h 1 rfl rfl dX2_read_87 ?_
      refine R_iconst (pc := 88) (v := 1) h (by decide) dX2_read_88 ?_
      refine R_aload_n (pc := 89) h 0 rfl rfl dX2_read_89 ?_
      refine R_getR (pc := 90) (q1 := 39) h flX2_25 lc_35 rfl dX2_read_90 ?_
      refine R_iload_n (pc := 93) h 1 rfl rfl dX2_read_93 ?_
      obtain ⟨v2, hv2, hF⟩ := bd hF
      refine R_iald (pc := 94) h hv2 lc_39 dX2_read_94 ?_
      refine R_ishl (pc := 95) h dX2_read_95 ?_
      refine R_iconst (pc := 96) (v := 1) h (by decide) dX2_read_96 ?_
      refine R_isub (pc := 97) h dX2_read_97 ?_
      refine R_aload_n (pc := 98) h 0 rfl rfl dX2_read_98 ?_
      refine R_getR (pc := 99) (q1 := 38) h flX2_22 lc_35 rfl dX2_read_99 ?_
      refine R_iload_n (pc := 102) h 1 rfl rfl dX2_read_102 ?_
      obtain ⟨v3, hv3, hF⟩ := bd hF
      refine R_iald (pc := 103) h hv3 lc_38 dX2_read_103 ?_
      refine R_ishl (pc := 104) h dX2_read_104 ?_
      obtain ⟨M4, hM4, hF⟩ := bd hF
      refine R_iast (pc := 105) h hM4 lc_41 dX2_read_105 ?_
      refine R_aload_n (pc := 106) h 0 rfl rfl dX2_read_106 ?_
      refine R_getR (pc := 107) (q1 := 42) h flX2_34 lc_35 rfl dX2_read_107 ?_
      refine R_iload_n (pc := 110) h 1 rfl rfl dX2_read_110 ?_
      refine R_aload_n (pc := 111) h 0 rfl rfl dX2_read_111 ?_
      refine R_iload_n (pc := 112) h 1 rfl rfl dX2_read_112 ?_
      refine R_aload_n (pc := 113) h 0 rfl rfl dX2_read_113 ?_
      refine R_getR (pc := 114) (q1 := 36) h flX2_15 lc_35 rfl dX2_read_114 ?_
      refine R_iload_n (pc := 117) h 1 rfl rfl dX2_read_117 ?_
      obtain ⟨v5, hv5, hF⟩ := bd hF
      refine R_iald (pc := 118) h hv5 lc_36 dX2_read_118 ?_
      refine R_aload_n (pc := 119) h 0 rfl rfl dX2_read_119 ?_
      refine R_getR (pc := 120) (q1 := 40) h flX2_28 lc_35 rfl dX2_read_120 ?_
      refine R_iload_n (pc := 123) h 1 rfl rfl dX2_read_123 ?_
      obtain ⟨v6, hv6, hF⟩ := bd hF
      refine R_iald (pc := 124) h hv6 lc_40 dX2_read_124 ?_
      obtain ⟨r8, hc7, hF⟩ := bd hF
      refine R_callV (pc := 125) (st := [.int x3, .ref (ad 42)]) h [.int x3, .int v5, .int v6] cvX2_67 (c2_valueAs (ad := ad) (z := X.1) hc7) rfl rfl lc_35 (by decide) (by decide) (Nat.le_of_ble_eq_true rfl) dX2_read_125 (st1 := [.int r8, .int x3, .ref (ad 42)]) rfl ?_
      obtain ⟨M9, hM9, hF⟩ := bd hF
      refine R_iast (pc := 128) h hM9 lc_42 dX2_read_128 ?_
      obtain ⟨v10, hv10, hF⟩ := nm_e2 hF
      refine R_iinc (pc := 129) (lv' := [(3, .int v10), (0, .ref (ad 35))]) h 1 rfl (by decide) hv10 (by decide) rfl dX2_read_129 ?_
      refine R_goto (pc := 132) (tgt := 75) h dX2_read_132 (by decide) ?_
      exact Wp_sub (nX := 0) (lv' := [(0, .ref (ad 35)), (3, .int v10)]) [1, 0] rfl (ih _ _ hF)
theorem w2_read_75 {ad : Nat → Nat} {X : XX} {R : Mem} {fu : Nat}  (h : Cx layC ad X cX2_read RX2 5 3 none (R) none)  {f : Nat} {x3 : Int32} {M : Mem} (hF : f2_read_75 fu f x3 M = some R) : Wp layC ad X M 75 [(0, .ref (ad 35)), (3, .int x3)] [] := w2_readi_75 h  f _ _ hF
def f2_read_9 (fu : Nat) : Nat → Nat → Int32 → Int32 → Mem → Option (Mem)
  | 0 => fun _ _ _ _ => none
  | f + 1 => fun px1 x2 x3 M =>
    (gd (decide (px1 < 10))).bind fun _ =>
    if (M.1 px1 0) ≤ x3 then ((f2_read_75 fu fu (0 : Int32) M))
    else (if (8 : Int32) ≤ (M.1 35 0) then ((f2_read_75 fu fu (0 : Int32) M))
    else ((f0_cellAt M px1 x3).bind fun r5 =>
    if r5 = (32 : Int32) then (nm (x3 + (1 : Int32)) fun v7 =>
    ((f2_read_9 fu f) px1 x2 v7 M))
    else ((f2_takeSign fu x2 r5 M).bind fun M9 =>
    nm (x2 + (1 : Int32)) fun v10 =>
    if v10 = (5 : Int32) then (nm (sI M9 35 0 ((M9.1 35 0) + (1 : Int32))) fun M12 =>
    nm (x3 + (1 : Int32)) fun v13 =>
    ((f2_read_9 fu f) px1 (0 : Int32) v13 M12))
    else (nm (x3 + (1 : Int32)) fun v14 =>
    ((f2_read_9 fu f) px1 v10 v14 M9)))))
set_option maxHeartbeats 4000000 in
set_option maxRecDepth 10000 in
theorem w2_readi_9 {ad : Nat → Nat} {X : XX} {R : Mem} {fu : Nat}  (h : Cx layC ad X cX2_read RX2 5 3 none (R) none)  : ∀ (f : Nat) (px1 : Nat) (x2 : Int32) (x3 : Int32) (M : Mem), f2_read_9 fu f px1 x2 x3 M = some R → Wp layC ad X M 9 [(0, .ref (ad 35)), (1, .ref (ad px1)), (2, .int x2), (3, .int x3)] [] := by
  intro f
  induction f with
  | zero => intro px1 x2 x3 M hF; exact absurd hF (by simp [f2_read_9])
  | succ f ih =>
    intro px1 x2 x3 M hF
    rw [f2_read_9] at hF
    refine R_iload_n (pc := 9) h 3 rfl rfl dX2_read_9 ?_
    refine R_aload_n (pc := 10) h 1 rfl rfl dX2_read_10 ?_
    obtain ⟨_, hg1, hF⟩ := bd hF
    have hg1 := of_decide_eq_true (gd_s hg1)
    refine R_getI (pc := 11) h flX2_54 (lyCells hg1) rfl dX2_read_11 ?_
    refine R_icmp_ge (pc := 14) (tgt := 73) h dX2_read_14 (by decide) (fun c2 => ?_) (fun c2 => ?_)
    · have hF := itp c2 hF
      refine R_iconst (pc := 73) (v := 0) h (by decide) dX2_read_73 ?_
      refine R_istore_n (pc := 74) (lv' := [(3, .int (0 : Int32)), (0, .ref (ad 35)), (1, .ref (ad px1)), (2, .int x2)]) h rfl rfl (by decide) rfl dX2_read_74 ?_
      exact Wp_sub (nX := 0) (lv' := [(0, .ref (ad 35)), (3, .int (0 : Int32))]) [1, 0] rfl (w2_read_75 h  (hF := hF))
    · have hF := ifn c2 hF
      refine R_aload_n (pc := 17) h 0 rfl rfl dX2_read_17 ?_
      refine R_getI (pc := 18) h flX2_9 lc_35 rfl dX2_read_18 ?_
      refine R_bipush (pc := 21) (v := 8) h (by decide) dX2_read_21 ?_
      refine R_icmp_ge (pc := 23) (tgt := 73) h dX2_read_23 (by decide) (fun c3 => ?_) (fun c3 => ?_)
      · have hF := itp c3 hF
        refine R_iconst (pc := 73) (v := 0) h (by decide) dX2_read_73 ?_
        refine R_istore_n (pc := 74) (lv' := [(3, .int (0 : Int32)), (0, .ref (ad 35)), (1, .ref (ad px1)), (2, .int x2)]) h rfl rfl (by decide) rfl dX2_read_74 ?_
        exact Wp_sub (nX := 0) (lv' := [(0, .ref (ad 35)), (3, .int (0 : Int32))]) [1, 0] rfl (w2_read_75 h  (hF := hF))
      · have hF := ifn c3 hF
        refine R_aload_n (pc := 26) h 1 rfl rfl dX2_read_26 ?_
        refine R_iload_n (pc := 27) h 3 rfl rfl dX2_read_27 ?_
        obtain ⟨r5, hc4, hF⟩ := bd hF
        refine R_callV (pc := 28) (st := []) h [.int x3] cvX2_59 (c0_cellAt (ad := ad) (z := X.1) hc4) rfl rfl (lyCells hg1) (by decide) (by decide) (Nat.le_of_ble_eq_true rfl) dX2_read_28 (st1 := [.int r5]) rfl ?_
        refine R_istore (pc := 31) (lv' := [(4, .int r5), (0, .ref (ad 35)), (1, .ref (ad px1)), (2, .int x2), (3, .int x3)]) h rfl (by decide) rfl dX2_read_31 ?_
        refine R_iload (pc := 33) h 0 rfl dX2_read_33 ?_
        refine R_bipush (pc := 35) (v := 32) h (by decide) dX2_read_35 ?_
        refine R_icmp_eq (pc := 37) (tgt := 67) h dX2_read_37 (by decide) (fun c6 => ?_) (fun c6 => ?_)
        · have hF := itp c6 hF
          obtain ⟨v7, hv7, hF⟩ := nm_e2 hF
          refine R_iinc (pc := 67) (lv' := [(3, .int v7), (4, .int r5), (0, .ref (ad 35)), (1, .ref (ad px1)), (2, .int x2)]) h 4 rfl (by decide) hv7 (by decide) rfl dX2_read_67 ?_
          refine R_goto (pc := 70) (tgt := 9) h dX2_read_70 (by decide) ?_
          exact Wp_sub (nX := 0) (lv' := [(0, .ref (ad 35)), (1, .ref (ad px1)), (2, .int x2), (3, .int v7)]) [2, 3, 4, 0] rfl (ih _ _ _ _ hF)
        · have hF := ifn c6 hF
          refine R_aload_n (pc := 40) h 1 rfl rfl dX2_read_40 ?_
          refine R_iload_n (pc := 41) h 3 rfl rfl dX2_read_41 ?_
          refine R_iload (pc := 42) h 0 rfl dX2_read_42 ?_
          obtain ⟨M9, hc8, hF⟩ := bd hF
          refine R_callV (pc := 44) (st := []) h [.int x2, .int r5] cvX2_63 (c2_takeSign (ad := ad) (z := X.1) hc8) rfl rfl lc_35 (by decide) (by decide) (Nat.le_of_ble_eq_true rfl) dX2_read_44 (st1 := []) rfl ?_
          obtain ⟨v10, hv10, hF⟩ := nm_e2 hF
          refine R_iinc (pc := 47) (lv' := [(2, .int v10), (4, .int r5), (0, .ref (ad 35)), (1, .ref (ad px1)), (3, .int x3)]) h 3 rfl (by decide) hv10 (by decide) rfl dX2_read_47 ?_
          refine R_iload_n (pc := 50) h 0 rfl rfl dX2_read_50 ?_
          refine R_iconst (pc := 51) (v := 5) h (by decide) dX2_read_51 ?_
          refine R_icmp_ne (pc := 52) (tgt := 67) h dX2_read_52 (by decide) (fun c11 => ?_) (fun c11 => ?_)
          · have hF := ifn c11 hF
            obtain ⟨v14, hv14, hF⟩ := nm_e2 hF
            refine R_iinc (pc := 67) (lv' := [(3, .int v14), (2, .int v10), (4, .int r5), (0, .ref (ad 35)), (1, .ref (ad px1))]) h 4 rfl (by decide) hv14 (by decide) rfl dX2_read_67 ?_
            refine R_goto (pc := 70) (tgt := 9) h dX2_read_70 (by decide) ?_
            exact Wp_sub (nX := 0) (lv' := [(0, .ref (ad 35)), (1, .ref (ad px1)), (2, .int v10), (3, .int v14)]) [3, 4, 1, 0] rfl (ih _ _ _ _ hF)
          · have hF := itp c11 hF
            refine R_iconst (pc := 55) (v := 0) h (by decide) dX2_read_55 ?_
            refine R_istore_n (pc := 56) (lv' := [(2, .int (0 : Int32)), (4, .int r5), (0, .ref (ad 35)), (1, .ref (ad px1)), (3, .int x3)]) h rfl rfl (by decide) rfl dX2_read_56 ?_
            refine R_aload_n (pc := 57) h 2 rfl rfl dX2_read_57 ?_
            refine R_dup (pc := 58) h rfl dX2_read_58 ?_
            refine R_getI (pc := 59) h flX2_9 lc_35 rfl dX2_read_59 ?_
            refine R_iconst (pc := 62) (v := 1) h (by decide) dX2_read_62 ?_
            refine R_iadd (pc := 63) h dX2_read_63 ?_
            obtain ⟨M12, hM12, hF⟩ := nm_e2 hF
            refine R_putI (pc := 64) h hM12 fpX2_9 lc_35 rfl dX2_read_64 ?_
            obtain ⟨v13, hv13, hF⟩ := nm_e2 hF
            refine R_iinc (pc := 67) (lv' := [(3, .int v13), (2, .int (0 : Int32)), (4, .int r5), (0, .ref (ad 35)), (1, .ref (ad px1))]) h 4 rfl (by decide) hv13 (by decide) rfl dX2_read_67 ?_
            refine R_goto (pc := 70) (tgt := 9) h dX2_read_70 (by decide) ?_
            exact Wp_sub (nX := 0) (lv' := [(0, .ref (ad 35)), (1, .ref (ad px1)), (2, .int (0 : Int32)), (3, .int v13)]) [3, 4, 1, 0] rfl (ih _ _ _ _ hF)
theorem w2_read_9 {ad : Nat → Nat} {X : XX} {R : Mem} {fu : Nat}  (h : Cx layC ad X cX2_read RX2 5 3 none (R) none)  {f : Nat} {px1 : Nat} {x2 : Int32} {x3 : Int32} {M : Mem} (hF : f2_read_9 fu f px1 x2 x3 M = some R) : Wp layC ad X M 9 [(0, .ref (ad 35)), (1, .ref (ad px1)), (2, .int x2), (3, .int x3)] [] := w2_readi_9 h  f _ _ _ _ hF
def f2_read (fu : Nat) (p1 : Nat) (M : Mem) : Option (Mem) :=
    nm (sI M 35 0 (0 : Int32)) fun M1 =>
    (f2_read_9 fu fu p1 (0 : Int32) (0 : Int32) M1)
set_option maxHeartbeats 4000000 in
set_option maxRecDepth 10000 in
theorem w2_read {ad : Nat → Nat} {X : XX} {R : Mem} {fu : Nat} (h : Cx layC ad X cX2_read RX2 5 3 none (R) none) {p1 : Nat} {M : Mem} (hF : f2_read fu p1 M = some R) : Wp layC ad X M 0 [(0, .ref (ad 35)), (1, .ref (ad p1))] [] := by
  unfold f2_read at hF
  refine R_aload_n (pc := 0) h 0 rfl rfl dX2_read_0 ?_
  refine R_iconst (pc := 1) (v := 0) h (by decide) dX2_read_1 ?_
  obtain ⟨M1, hM1, hF⟩ := nm_e2 hF
  refine R_putI (pc := 2) h hM1 fpX2_9 lc_35 rfl dX2_read_2 ?_
  refine R_iconst (pc := 5) (v := 0) h (by decide) dX2_read_5 ?_
  refine R_istore_n (pc := 6) (lv' := [(2, .int (0 : Int32)), (0, .ref (ad 35)), (1, .ref (ad p1))]) h rfl rfl (by decide) rfl dX2_read_6 ?_
  refine R_iconst (pc := 7) (v := 0) h (by decide) dX2_read_7 ?_
  refine R_istore_n (pc := 8) (lv' := [(3, .int (0 : Int32)), (2, .int (0 : Int32)), (0, .ref (ad 35)), (1, .ref (ad p1))]) h rfl rfl (by decide) rfl dX2_read_8 ?_
  exact Wp_sub (nX := 0) (lv' := [(0, .ref (ad 35)), (1, .ref (ad p1)), (2, .int (0 : Int32)), (3, .int (0 : Int32))]) [2, 3, 1, 0] rfl (w2_read_9 h  (hF := hF))
theorem c2_read {ad : Nat → Nat} {z : ZZ} {R : Mem} {fu : Nat} {p1 : Nat} {M : Mem} (hF : f2_read fu p1 M = some R) : Con layC ad z yX2_read cX2_read 5 none 3 M [.ref (ad 35), .ref (ad p1)] (R) none := con_of (own := RX2) (lv := [(0, .ref (ad 35)), (1, .ref (ad p1))]) (by decide +kernel) rfl (Nat.le_of_ble_eq_true rfl) rfl (fun X hz h => w2_read h hF)
def f2_all (M : Mem) : Option (Int32) :=
    (some (((1 : Int32) <<< ((M.1 35 0) &&& 31)) - (1 : Int32)))
set_option maxHeartbeats 4000000 in
set_option maxRecDepth 10000 in
theorem w2_all {ad : Nat → Nat} {X : XX} {R : Int32} {M : Mem} (h : Cx layC ad X cX2_all RX2 1 1 (some .int) M (some (.int R)))  (hF : f2_all M = some R) : Wp layC ad X M 0 [(0, .ref (ad 35))] [] := by
  unfold f2_all at hF
  refine R_iconst (pc := 0) (v := 1) h (by decide) dX2_all_0 ?_
  refine R_aload_n (pc := 1) h 0 rfl rfl dX2_all_1 ?_
  refine R_getI (pc := 2) h flX2_9 lc_35 rfl dX2_all_2 ?_
  refine R_ishl (pc := 5) h dX2_all_5 ?_
  refine R_iconst (pc := 6) (v := 1) h (by decide) dX2_all_6 ?_
  refine R_isub (pc := 7) h dX2_all_7 ?_
  cases hF
  exact R_ireturn (pc := 8) h rfl rfl rfl dX2_all_8
theorem c2_all {ad : Nat → Nat} {z : ZZ} {R : Int32} {M : Mem}  (hF : f2_all M = some R) : Con layC ad z yX2_all cX2_all 1 (some .int) 1 M [.ref (ad 35)] (M) (some (.int R)) := con_of (own := RX2) (lv := [(0, .ref (ad 35))]) (by decide +kernel) rfl (Nat.le_of_ble_eq_true rfl) rfl (fun X hz h => w2_all h hF)
