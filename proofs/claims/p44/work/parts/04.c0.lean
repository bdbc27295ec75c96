theorem dX4_textAt_0 : decode cX4_textAt 0 = .ok (.iload_n 1, 1) := by decide +kernel
theorem dX4_textAt_1 : decode cX4_textAt 1 = .ok (.ifCond .lt 17, 3) := by decide +kernel
theorem dX4_textAt_4 : decode cX4_textAt 4 = .ok (.iload_n 1, 1) := by decide +kernel
theorem dX4_textAt_5 : decode cX4_textAt 5 = .ok (.iconst 4, 1) := by decide +kernel
theorem dX4_textAt_6 : decode cX4_textAt 6 = .ok (.if_icmp .ge 12, 3) := by decide +kernel
theorem dX4_textAt_9 : decode cX4_textAt 9 = .ok (.aload_n 0, 1) := by decide +kernel
theorem dX4_textAt_10 : decode cX4_textAt 10 = .ok (.getfield 15, 3) := by decide +kernel
theorem dX4_textAt_13 : decode cX4_textAt 13 = .ok (.iload_n 1, 1) := by decide +kernel
theorem dX4_textAt_14 : decode cX4_textAt 14 = .ok (.aaload, 1) := by decide +kernel
theorem dX4_textAt_15 : decode cX4_textAt 15 = .ok (.goto 4, 3) := by decide +kernel
theorem dX4_textAt_18 : decode cX4_textAt 18 = .ok (.aconst_null, 1) := by decide +kernel
theorem dX4_textAt_19 : decode cX4_textAt 19 = .ok (.areturn, 1) := by decide +kernel
theorem dX4_makeCells_0 : decode cX4_makeCells 0 = .ok (.aload_n 1, 1) := by decide +kernel
theorem dX4_makeCells_1 : decode cX4_makeCells 1 = .ok (.ifnull 8, 3) := by decide +kernel
theorem dX4_makeCells_4 : decode cX4_makeCells 4 = .ok (.iload_n 2, 1) := by decide +kernel
theorem dX4_makeCells_5 : decode cX4_makeCells 5 = .ok (.iload_n 3, 1) := by decide +kernel
theorem dX4_makeCells_6 : decode cX4_makeCells 6 = .ok (.if_icmp .le 5, 3) := by decide +kernel
theorem dX4_makeCells_9 : decode cX4_makeCells 9 = .ok (.iconst (-1), 1) := by decide +kernel
theorem dX4_makeCells_10 : decode cX4_makeCells 10 = .ok (.ireturn, 1) := by decide +kernel
theorem dX4_makeCells_11 : decode cX4_makeCells 11 = .ok (.iload_n 2, 1) := by decide +kernel
theorem dX4_makeCells_12 : decode cX4_makeCells 12 = .ok (.ifCond .ge 9, 3) := by decide +kernel
theorem dX4_makeCells_15 : decode cX4_makeCells 15 = .ok (.aload_n 0, 1) := by decide +kernel
theorem dX4_makeCells_16 : decode cX4_makeCells 16 = .ok (.iconst 5, 1) := by decide +kernel
theorem dX4_makeCells_17 : decode cX4_makeCells 17 = .ok (.invokevirtual 78, 3) := by decide +kernel
theorem dX4_makeCells_20 : decode cX4_makeCells 20 = .ok (.ireturn, 1) := by decide +kernel
theorem dX4_makeCells_21 : decode cX4_makeCells 21 = .ok (.aload_n 1, 1) := by decide +kernel
theorem dX4_makeCells_22 : decode cX4_makeCells 22 = .ok (.iload_n 2, 1) := by decide +kernel
theorem dX4_makeCells_23 : decode cX4_makeCells 23 = .ok (.iload 4, 2) := by decide +kernel
theorem dX4_makeCells_25 : decode cX4_makeCells 25 = .ok (.invokevirtual 287, 3) := by decide +kernel
theorem dX4_makeCells_28 : decode cX4_makeCells 28 = .ok (.iload_n 2, 1) := by decide +kernel
theorem dX4_makeCells_29 : decode cX4_makeCells 29 = .ok (.ireturn, 1) := by decide +kernel
theorem dX0_begin_0 : decode cX0_begin 0 = .ok (.aload_n 0, 1) := by decide +kernel
theorem dX0_begin_1 : decode cX0_begin 1 = .ok (.iload_n 1, 1) := by decide +kernel
theorem dX0_begin_2 : decode cX0_begin 2 = .ok (.aload_n 0, 1) := by decide +kernel
theorem dX0_begin_3 : decode cX0_begin 3 = .ok (.getfield 15, 3) := by decide +kernel
theorem dX0_begin_6 : decode cX0_begin 6 = .ok (.arraylength, 1) := by decide +kernel
theorem dX0_begin_7 : decode cX0_begin 7 = .ok (.invokestatic 19, 3) := by decide +kernel
theorem dX0_begin_10 : decode cX0_begin 10 = .ok (.putfield 9, 3) := by decide +kernel
theorem dX0_begin_13 : decode cX0_begin 13 = .ok (.iconst 0, 1) := by decide +kernel
theorem dX0_begin_14 : decode cX0_begin 14 = .ok (.istore_n 3, 1) := by decide +kernel
theorem dX0_begin_15 : decode cX0_begin 15 = .ok (.iload_n 3, 1) := by decide +kernel
theorem dX0_begin_16 : decode cX0_begin 16 = .ok (.aload_n 0, 1) := by decide +kernel
theorem dX0_begin_17 : decode cX0_begin 17 = .ok (.getfield 9, 3) := by decide +kernel
theorem dX0_begin_20 : decode cX0_begin 20 = .ok (.if_icmp .ge 16, 3) := by decide +kernel
theorem dX0_begin_23 : decode cX0_begin 23 = .ok (.aload_n 0, 1) := by decide +kernel
theorem dX0_begin_24 : decode cX0_begin 24 = .ok (.getfield 15, 3) := by decide +kernel
theorem dX0_begin_27 : decode cX0_begin 27 = .ok (.iload_n 3, 1) := by decide +kernel
theorem dX0_begin_28 : decode cX0_begin 28 = .ok (.iload_n 2, 1) := by decide +kernel
theorem dX0_begin_29 : decode cX0_begin 29 = .ok (.iastore, 1) := by decide +kernel
theorem dX0_begin_30 : decode cX0_begin 30 = .ok (.iinc 3 1, 3) := by decide +kernel
theorem dX0_begin_33 : decode cX0_begin 33 = .ok (.goto (-18), 3) := by decide +kernel
theorem dX0_begin_36 : decode cX0_begin 36 = .ok (.return_, 1) := by decide +kernel
theorem dX4_find_0 : decode cX4_find 0 = .ok (.aload_n 0, 1) := by decide +kernel
theorem dX4_find_1 : decode cX4_find 1 = .ok (.iload_n 1, 1) := by decide +kernel
theorem dX4_find_2 : decode cX4_find 2 = .ok (.putfield 35, 3) := by decide +kernel
theorem dX4_find_5 : decode cX4_find 5 = .ok (.iload_n 1, 1) := by decide +kernel
theorem dX4_find_6 : decode cX4_find 6 = .ok (.iconst 1, 1) := by decide +kernel
theorem dX4_find_7 : decode cX4_find 7 = .ok (.if_icmp .lt 18, 3) := by decide +kernel
theorem dX4_find_10 : decode cX4_find 10 = .ok (.iload_n 1, 1) := by decide +kernel
theorem dX4_find_11 : decode cX4_find 11 = .ok (.iconst 5, 1) := by decide +kernel
theorem dX4_find_12 : decode cX4_find 12 = .ok (.if_icmp .gt 13, 3) := by decide +kernel
theorem dX4_find_15 : decode cX4_find 15 = .ok (.aload_n 0, 1) := by decide +kernel
theorem dX4_find_16 : decode cX4_find 16 = .ok (.getfield 31, 3) := by decide +kernel
theorem dX4_find_19 : decode cX4_find 19 = .ok (.iload_n 1, 1) := by decide +kernel
theorem dX4_find_20 : decode cX4_find 20 = .ok (.dup2, 1) := by decide +kernel
theorem dX4_find_21 : decode cX4_find 21 = .ok (.iaload, 1) := by decide +kernel
theorem dX4_find_22 : decode cX4_find 22 = .ok (.iconst 1, 1) := by decide +kernel
theorem dX4_find_23 : decode cX4_find 23 = .ok (.iadd, 1) := by decide +kernel
theorem dX4_find_24 : decode cX4_find 24 = .ok (.iastore, 1) := by decide +kernel
theorem dX4_find_25 : decode cX4_find 25 = .ok (.bipush (-3), 2) := by decide +kernel
theorem dX4_find_27 : decode cX4_find 27 = .ok (.ireturn, 1) := by decide +kernel
theorem dX4_text_0 : decode cX4_text 0 = .ok (.aload_n 0, 1) := by decide +kernel
theorem dX4_text_1 : decode cX4_text 1 = .ok (.aload_n 0, 1) := by decide +kernel
theorem dX4_text_2 : decode cX4_text 2 = .ok (.iload_n 1, 1) := by decide +kernel
theorem dX4_text_3 : decode cX4_text 3 = .ok (.invokevirtual 98, 3) := by decide +kernel
theorem dX4_text_6 : decode cX4_text 6 = .ok (.iload_n 2, 1) := by decide +kernel
theorem dX4_text_7 : decode cX4_text 7 = .ok (.bipush 60, 2) := by decide +kernel
theorem dX4_text_9 : decode cX4_text 9 = .ok (.bipush 32, 2) := by decide +kernel
theorem dX4_text_11 : decode cX4_text 11 = .ok (.invokevirtual 55, 3) := by decide +kernel
theorem dX4_text_14 : decode cX4_text 14 = .ok (.ireturn, 1) := by decide +kernel
theorem dX4_refuseMissing_0 : decode cX4_refuseMissing 0 = .ok (.aload_n 1, 1) := by decide +kernel
theorem dX4_refuseMissing_1 : decode cX4_refuseMissing 1 = .ok (.ifnonnull 5, 3) := by decide +kernel
theorem dX4_refuseMissing_4 : decode cX4_refuseMissing 4 = .ok (.iconst (-1), 1) := by decide +kernel
theorem dX4_refuseMissing_5 : decode cX4_refuseMissing 5 = .ok (.ireturn, 1) := by decide +kernel
theorem dX4_refuseMissing_6 : decode cX4_refuseMissing 6 = .ok (.aload_n 1, 1) := by decide +kernel
theorem dX4_refuseMissing_7 : decode cX4_refuseMissing 7 = .ok (.invokevirtual 81, 3) := by decide +kernel
theorem dX4_refuseMissing_10 : decode cX4_refuseMissing 10 = .ok (.ifCond .eq 11, 3) := by decide +kernel
theorem dX4_refuseMissing_13 : decode cX4_refuseMissing 13 = .ok (.aload_n 0, 1) := by decide +kernel
theorem dX4_refuseMissing_14 : decode cX4_refuseMissing 14 = .ok (.iconst 1, 1) := by decide +kernel
theorem dX4_refuseMissing_15 : decode cX4_refuseMissing 15 = .ok (.invokevirtual 78, 3) := by decide +kernel
theorem dX4_refuseMissing_18 : decode cX4_refuseMissing 18 = .ok (.goto 4, 3) := by decide +kernel
theorem dX4_refuseMissing_21 : decode cX4_refuseMissing 21 = .ok (.iconst 0, 1) := by decide +kernel
theorem dX4_refuseMissing_22 : decode cX4_refuseMissing 22 = .ok (.ireturn, 1) := by decide +kernel
theorem dX0_isMissing_0 : decode cX0_isMissing 0 = .ok (.aload_n 0, 1) := by decide +kernel
theorem dX0_isMissing_1 : decode cX0_isMissing 1 = .ok (.getfield 9, 3) := by decide +kernel
theorem dX0_isMissing_4 : decode cX0_isMissing 4 = .ok (.ifCond .ge 7, 3) := by decide +kernel
theorem dX0_isMissing_7 : decode cX0_isMissing 7 = .ok (.iconst 1, 1) := by decide +kernel
theorem dX0_isMissing_8 : decode cX0_isMissing 8 = .ok (.goto 4, 3) := by decide +kernel
theorem dX0_isMissing_11 : decode cX0_isMissing 11 = .ok (.iconst 0, 1) := by decide +kernel
theorem dX0_isMissing_12 : decode cX0_isMissing 12 = .ok (.ireturn, 1) := by decide +kernel
theorem dX0_cellAt_0 : decode cX0_cellAt 0 = .ok (.iload_n 1, 1) := by decide +kernel
theorem dX0_cellAt_1 : decode cX0_cellAt 1 = .ok (.ifCond .lt 21, 3) := by decide +kernel
theorem dX0_cellAt_4 : decode cX0_cellAt 4 = .ok (.iload_n 1, 1) := by decide +kernel
theorem dX0_cellAt_5 : decode cX0_cellAt 5 = .ok (.aload_n 0, 1) := by decide +kernel
theorem dX0_cellAt_6 : decode cX0_cellAt 6 = .ok (.getfield 15, 3) := by decide +kernel
theorem dX0_cellAt_9 : decode cX0_cellAt 9 = .ok (.arraylength, 1) := by decide +kernel
theorem dX0_cellAt_10 : decode cX0_cellAt 10 = .ok (.if_icmp .ge 12, 3) := by decide +kernel
theorem dX0_cellAt_13 : decode cX0_cellAt 13 = .ok (.aload_n 0, 1) := by decide +kernel
theorem dX0_cellAt_14 : decode cX0_cellAt 14 = .ok (.getfield 15, 3) := by decide +kernel
theorem dX0_cellAt_17 : decode cX0_cellAt 17 = .ok (.iload_n 1, 1) := by decide +kernel
theorem dX0_cellAt_18 : decode cX0_cellAt 18 = .ok (.iaload, 1) := by decide +kernel
theorem dX0_cellAt_19 : decode cX0_cellAt 19 = .ok (.goto 4, 3) := by decide +kernel
theorem dX0_cellAt_22 : decode cX0_cellAt 22 = .ok (.iconst 0, 1) := by decide +kernel
theorem dX0_cellAt_23 : decode cX0_cellAt 23 = .ok (.ireturn, 1) := by decide +kernel
theorem dX4_kindOfLetter_0 : decode cX4_kindOfLetter 0 = .ok (.iconst 0, 1) := by decide +kernel
theorem dX4_kindOfLetter_1 : decode cX4_kindOfLetter 1 = .ok (.istore_n 1, 1) := by decide +kernel
theorem dX4_kindOfLetter_2 : decode cX4_kindOfLetter 2 = .ok (.iload_n 1, 1) := by decide +kernel
theorem dX4_kindOfLetter_3 : decode cX4_kindOfLetter 3 = .ok (.bipush 6, 2) := by decide +kernel
theorem dX4_kindOfLetter_5 : decode cX4_kindOfLetter 5 = .ok (.if_icmp .ge 20, 3) := by decide +kernel
theorem dX4_kindOfLetter_8 : decode cX4_kindOfLetter 8 = .ok (.getstatic 308, 3) := by decide +kernel
theorem dX4_kindOfLetter_11 : decode cX4_kindOfLetter 11 = .ok (.iload_n 1, 1) := by decide +kernel
theorem dX4_kindOfLetter_12 : decode cX4_kindOfLetter 12 = .ok (.iaload, 1) := by decide +kernel
theorem dX4_kindOfLetter_13 : decode cX4_kindOfLetter 13 = .ok (.iload_n 0, 1) := by decide +kernel
theorem dX4_kindOfLetter_14 : decode cX4_kindOfLetter 14 = .ok (.if_icmp .ne 5, 3) := by decide +kernel
theorem dX4_kindOfLetter_17 : decode cX4_kindOfLetter 17 = .ok (.iload_n 1, 1) := by decide +kernel
theorem dX4_kindOfLetter_18 : decode cX4_kindOfLetter 18 = .ok (.ireturn, 1) := by decide +kernel
theorem dX4_kindOfLetter_19 : decode cX4_kindOfLetter 19 = .ok (.iinc 1 1, 3) := by decide +kernel
theorem dX4_kindOfLetter_22 : decode cX4_kindOfLetter 22 = .ok (.goto (-20), 3) := by decide +kernel
theorem dX4_kindOfLetter_25 : decode cX4_kindOfLetter 25 = .ok (.bipush (-9), 2) := by decide +kernel
theorem dX4_kindOfLetter_27 : decode cX4_kindOfLetter 27 = .ok (.ireturn, 1) := by decide +kernel
theorem dX4_isSign_0 : decode cX4_isSign 0 = .ok (.iload_n 0, 1) := by decide +kernel
theorem dX4_isSign_1 : decode cX4_isSign 1 = .ok (.ifCond .ne 18, 3) := by decide +kernel
theorem dX4_isSign_4 : decode cX4_isSign 4 = .ok (.iload_n 1, 1) := by decide +kernel
theorem dX4_isSign_5 : decode cX4_isSign 5 = .ok (.invokestatic 314, 3) := by decide +kernel
theorem dX4_isSign_8 : decode cX4_isSign 8 = .ok (.bipush (-9), 2) := by decide +kernel
theorem dX4_isSign_10 : decode cX4_isSign 10 = .ok (.if_icmp .eq 7, 3) := by decide +kernel
theorem dX4_isSign_13 : decode cX4_isSign 13 = .ok (.iconst 1, 1) := by decide +kernel
theorem dX4_isSign_14 : decode cX4_isSign 14 = .ok (.goto 4, 3) := by decide +kernel
theorem dX4_isSign_17 : decode cX4_isSign 17 = .ok (.iconst 0, 1) := by decide +kernel
theorem dX4_isSign_18 : decode cX4_isSign 18 = .ok (.ireturn, 1) := by decide +kernel
theorem dX4_isSign_19 : decode cX4_isSign 19 = .ok (.iload_n 1, 1) := by decide +kernel
theorem dX4_isSign_20 : decode cX4_isSign 20 = .ok (.bipush 48, 2) := by decide +kernel
theorem dX4_isSign_22 : decode cX4_isSign 22 = .ok (.isub, 1) := by decide +kernel
theorem dX4_isSign_23 : decode cX4_isSign 23 = .ok (.istore_n 2, 1) := by decide +kernel
theorem dX4_isSign_24 : decode cX4_isSign 24 = .ok (.iload_n 0, 1) := by decide +kernel
theorem dX4_isSign_25 : decode cX4_isSign 25 = .ok (.iconst 3, 1) := by decide +kernel
theorem dX4_isSign_26 : decode cX4_isSign 26 = .ok (.if_icmp .ne 21, 3) := by decide +kernel
theorem dX4_isSign_29 : decode cX4_isSign 29 = .ok (.iload_n 2, 1) := by decide +kernel
theorem dX4_isSign_30 : decode cX4_isSign 30 = .ok (.iconst 1, 1) := by decide +kernel
theorem dX4_isSign_31 : decode cX4_isSign 31 = .ok (.if_icmp .lt 12, 3) := by decide +kernel
theorem dX4_isSign_34 : decode cX4_isSign 34 = .ok (.iload_n 2, 1) := by decide +kernel
theorem dX4_isSign_35 : decode cX4_isSign 35 = .ok (.iconst 4, 1) := by decide +kernel
theorem dX4_isSign_36 : decode cX4_isSign 36 = .ok (.if_icmp .gt 7, 3) := by decide +kernel
theorem dX4_isSign_39 : decode cX4_isSign 39 = .ok (.iconst 1, 1) := by decide +kernel
theorem dX4_isSign_40 : decode cX4_isSign 40 = .ok (.goto 22, 3) := by decide +kernel
theorem dX4_isSign_43 : decode cX4_isSign 43 = .ok (.iconst 0, 1) := by decide +kernel
theorem dX4_isSign_44 : decode cX4_isSign 44 = .ok (.goto 18, 3) := by decide +kernel
theorem dX4_isSign_47 : decode cX4_isSign 47 = .ok (.iload_n 2, 1) := by decide +kernel
theorem dX4_isSign_48 : decode cX4_isSign 48 = .ok (.ifCond .lt 13, 3) := by decide +kernel
theorem dX4_isSign_51 : decode cX4_isSign 51 = .ok (.iload_n 2, 1) := by decide +kernel
theorem dX4_isSign_52 : decode cX4_isSign 52 = .ok (.bipush 9, 2) := by decide +kernel
theorem dX4_isSign_54 : decode cX4_isSign 54 = .ok (.if_icmp .gt 7, 3) := by decide +kernel
theorem dX4_isSign_57 : decode cX4_isSign 57 = .ok (.iconst 1, 1) := by decide +kernel
theorem dX4_isSign_58 : decode cX4_isSign 58 = .ok (.goto 4, 3) := by decide +kernel
theorem dX4_isSign_61 : decode cX4_isSign 61 = .ok (.iconst 0, 1) := by decide +kernel
theorem dX4_isSign_62 : decode cX4_isSign 62 = .ok (.ireturn, 1) := by decide +kernel
theorem dX4_firstFault_0 : decode cX4_firstFault 0 = .ok (.iconst 0, 1) := by decide +kernel
theorem dX4_firstFault_1 : decode cX4_firstFault 1 = .ok (.istore_n 1, 1) := by decide +kernel
theorem dX4_firstFault_2 : decode cX4_firstFault 2 = .ok (.iconst 0, 1) := by decide +kernel
theorem dX4_firstFault_3 : decode cX4_firstFault 3 = .ok (.istore_n 2, 1) := by decide +kernel
theorem dX4_firstFault_4 : decode cX4_firstFault 4 = .ok (.iconst 0, 1) := by decide +kernel
theorem dX4_firstFault_5 : decode cX4_firstFault 5 = .ok (.istore_n 3, 1) := by decide +kernel
theorem dX4_firstFault_6 : decode cX4_firstFault 6 = .ok (.iload_n 3, 1) := by decide +kernel
theorem dX4_firstFault_7 : decode cX4_firstFault 7 = .ok (.aload_n 0, 1) := by decide +kernel
theorem dX4_firstFault_8 : decode cX4_firstFault 8 = .ok (.getfield 75, 3) := by decide +kernel
theorem dX4_firstFault_11 : decode cX4_firstFault 11 = .ok (.if_icmp .ge 57, 3) := by decide +kernel
theorem dX4_firstFault_14 : decode cX4_firstFault 14 = .ok (.aload_n 0, 1) := by decide +kernel
theorem dX4_firstFault_15 : decode cX4_firstFault 15 = .ok (.iload_n 3, 1) := by decide +kernel
theorem dX4_firstFault_16 : decode cX4_firstFault 16 = .ok (.invokevirtual 63, 3) := by decide +kernel
theorem dX4_firstFault_19 : decode cX4_firstFault 19 = .ok (.istore 4, 2) := by decide +kernel
theorem dX4_firstFault_21 : decode cX4_firstFault 21 = .ok (.iload_n 2, 1) := by decide +kernel
theorem dX4_firstFault_22 : decode cX4_firstFault 22 = .ok (.ifCond .gt 10, 3) := by decide +kernel
theorem dX4_firstFault_25 : decode cX4_firstFault 25 = .ok (.iload 4, 2) := by decide +kernel
theorem dX4_firstFault_27 : decode cX4_firstFault 27 = .ok (.bipush 32, 2) := by decide +kernel
theorem dX4_firstFault_29 : decode cX4_firstFault 29 = .ok (.if_icmp .eq 33, 3) := by decide +kernel
theorem dX4_firstFault_32 : decode cX4_firstFault 32 = .ok (.iload_n 1, 1) := by decide +kernel
theorem dX4_firstFault_33 : decode cX4_firstFault 33 = .ok (.bipush 8, 2) := by decide +kernel
theorem dX4_firstFault_35 : decode cX4_firstFault 35 = .ok (.if_icmp .ge 12, 3) := by decide +kernel
theorem dX4_firstFault_38 : decode cX4_firstFault 38 = .ok (.iload_n 2, 1) := by decide +kernel
theorem dX4_firstFault_39 : decode cX4_firstFault 39 = .ok (.iload 4, 2) := by decide +kernel
theorem dX4_firstFault_41 : decode cX4_firstFault 41 = .ok (.invokestatic 311, 3) := by decide +kernel
theorem dX4_firstFault_44 : decode cX4_firstFault 44 = .ok (.ifCond .ne 5, 3) := by decide +kernel
theorem dX4_firstFault_47 : decode cX4_firstFault 47 = .ok (.iload_n 3, 1) := by decide +kernel
theorem dX4_firstFault_48 : decode cX4_firstFault 48 = .ok (.ireturn, 1) := by decide +kernel
theorem dX4_firstFault_49 : decode cX4_firstFault 49 = .ok (.iinc 2 1, 3) := by decide +kernel
theorem dX4_firstFault_52 : decode cX4_firstFault 52 = .ok (.iload_n 2, 1) := by decide +kernel
theorem dX4_firstFault_53 : decode cX4_firstFault 53 = .ok (.iconst 5, 1) := by decide +kernel
theorem dX4_firstFault_54 : decode cX4_firstFault 54 = .ok (.if_icmp .ne 8, 3) := by decide +kernel
theorem dX4_firstFault_57 : decode cX4_firstFault 57 = .ok (.iconst 0, 1) := by decide +kernel
theorem dX4_firstFault_58 : decode cX4_firstFault 58 = .ok (.istore_n 2, 1) := by decide +kernel
theorem dX4_firstFault_59 : decode cX4_firstFault 59 = .ok (.iinc 1 1, 3) := by decide +kernel
theorem dX4_firstFault_62 : decode cX4_firstFault 62 = .ok (.iinc 3 1, 3) := by decide +kernel
theorem dX4_firstFault_65 : decode cX4_firstFault 65 = .ok (.goto (-59), 3) := by decide +kernel
theorem dX4_firstFault_68 : decode cX4_firstFault 68 = .ok (.iload_n 2, 1) := by decide +kernel
theorem dX4_firstFault_69 : decode cX4_firstFault 69 = .ok (.ifCond .gt 7, 3) := by decide +kernel
theorem dX4_firstFault_72 : decode cX4_firstFault 72 = .ok (.iload_n 1, 1) := by decide +kernel
theorem dX4_firstFault_73 : decode cX4_firstFault 73 = .ok (.ifCond .ne 10, 3) := by decide +kernel
theorem dX4_firstFault_76 : decode cX4_firstFault 76 = .ok (.aload_n 0, 1) := by decide +kernel
theorem dX4_firstFault_77 : decode cX4_firstFault 77 = .ok (.getfield 75, 3) := by decide +kernel
theorem dX4_firstFault_80 : decode cX4_firstFault 80 = .ok (.goto 5, 3) := by decide +kernel
theorem dX4_firstFault_83 : decode cX4_firstFault 83 = .ok (.bipush (-9), 2) := by decide +kernel
theorem dX4_firstFault_85 : decode cX4_firstFault 85 = .ok (.ireturn, 1) := by decide +kernel
theorem dX4_fault_0 : decode cX4_fault 0 = .ok (.aload_n 0, 1) := by decide +kernel
theorem dX4_fault_1 : decode cX4_fault 1 = .ok (.iload_n 1, 1) := by decide +kernel
theorem dX4_fault_2 : decode cX4_fault 2 = .ok (.invokevirtual 98, 3) := by decide +kernel
theorem dX4_fault_5 : decode cX4_fault 5 = .ok (.astore_n 2, 1) := by decide +kernel
theorem dX4_fault_6 : decode cX4_fault 6 = .ok (.aload_n 0, 1) := by decide +kernel
theorem dX4_fault_7 : decode cX4_fault 7 = .ok (.aload_n 2, 1) := by decide +kernel
theorem dX4_fault_8 : decode cX4_fault 8 = .ok (.invokevirtual 71, 3) := by decide +kernel
theorem dX4_fault_11 : decode cX4_fault 11 = .ok (.istore_n 3, 1) := by decide +kernel
theorem dX4_fault_12 : decode cX4_fault 12 = .ok (.aload_n 2, 1) := by decide +kernel
theorem dX4_fault_13 : decode cX4_fault 13 = .ok (.ifnull 7, 3) := by decide +kernel
theorem dX4_fault_16 : decode cX4_fault 16 = .ok (.iload_n 3, 1) := by decide +kernel
theorem dX4_fault_17 : decode cX4_fault 17 = .ok (.ifCond .eq 5, 3) := by decide +kernel
theorem dX4_fault_20 : decode cX4_fault 20 = .ok (.iload_n 3, 1) := by decide +kernel
theorem dX4_fault_21 : decode cX4_fault 21 = .ok (.ireturn, 1) := by decide +kernel
theorem dX4_fault_22 : decode cX4_fault 22 = .ok (.aload_n 2, 1) := by decide +kernel
theorem dX4_fault_23 : decode cX4_fault 23 = .ok (.invokestatic 101, 3) := by decide +kernel
theorem dX4_fault_26 : decode cX4_fault 26 = .ok (.ireturn, 1) := by decide +kernel
theorem dX2_takeSign_0 : decode cX2_takeSign 0 = .ok (.aload_n 0, 1) := by decide +kernel
theorem dX2_takeSign_1 : decode cX2_takeSign 1 = .ok (.getfield 9, 3) := by decide +kernel
theorem dX2_takeSign_4 : decode cX2_takeSign 4 = .ok (.ifCond .lt 12, 3) := by decide +kernel
theorem dX2_takeSign_7 : decode cX2_takeSign 7 = .ok (.aload_n 0, 1) := by decide +kernel
theorem dX2_takeSign_8 : decode cX2_takeSign 8 = .ok (.getfield 9, 3) := by decide +kernel
theorem dX2_takeSign_11 : decode cX2_takeSign 11 = .ok (.bipush 8, 2) := by decide +kernel
theorem dX2_takeSign_13 : decode cX2_takeSign 13 = .ok (.if_icmp .lt 4, 3) := by decide +kernel
theorem dX2_takeSign_16 : decode cX2_takeSign 16 = .ok (.return_, 1) := by decide +kernel
theorem dX2_takeSign_17 : decode cX2_takeSign 17 = .ok (.iload_n 1, 1) := by decide +kernel
theorem dX2_takeSign_18 : decode cX2_takeSign 18 = .ok (.tableswitch 94 0 3 #[30, 46, 62, 78], 30) := by decide +kernel
theorem dX2_takeSign_48 : decode cX2_takeSign 48 = .ok (.aload_n 0, 1) := by decide +kernel
theorem dX2_takeSign_49 : decode cX2_takeSign 49 = .ok (.getfield 15, 3) := by decide +kernel
theorem dX2_takeSign_52 : decode cX2_takeSign 52 = .ok (.aload_n 0, 1) := by decide +kernel
theorem dX2_takeSign_53 : decode cX2_takeSign 53 = .ok (.getfield 9, 3) := by decide +kernel
theorem dX2_takeSign_56 : decode cX2_takeSign 56 = .ok (.iload_n 2, 1) := by decide +kernel
theorem dX2_takeSign_57 : decode cX2_takeSign 57 = .ok (.invokestatic 75, 3) := by decide +kernel
theorem dX2_takeSign_60 : decode cX2_takeSign 60 = .ok (.iastore, 1) := by decide +kernel
theorem dX2_takeSign_61 : decode cX2_takeSign 61 = .ok (.goto 64, 3) := by decide +kernel
theorem dX2_takeSign_64 : decode cX2_takeSign 64 = .ok (.aload_n 0, 1) := by decide +kernel
theorem dX2_takeSign_65 : decode cX2_takeSign 65 = .ok (.getfield 19, 3) := by decide +kernel
theorem dX2_takeSign_68 : decode cX2_takeSign 68 = .ok (.aload_n 0, 1) := by decide +kernel
theorem dX2_takeSign_69 : decode cX2_takeSign 69 = .ok (.getfield 9, 3) := by decide +kernel
theorem dX2_takeSign_72 : decode cX2_takeSign 72 = .ok (.iload_n 2, 1) := by decide +kernel
theorem dX2_takeSign_73 : decode cX2_takeSign 73 = .ok (.bipush 48, 2) := by decide +kernel
theorem dX2_takeSign_75 : decode cX2_takeSign 75 = .ok (.isub, 1) := by decide +kernel
theorem dX2_takeSign_76 : decode cX2_takeSign 76 = .ok (.iastore, 1) := by decide +kernel
theorem dX2_takeSign_77 : decode cX2_takeSign 77 = .ok (.goto 48, 3) := by decide +kernel
theorem dX2_takeSign_80 : decode cX2_takeSign 80 = .ok (.aload_n 0, 1) := by decide +kernel
theorem dX2_takeSign_81 : decode cX2_takeSign 81 = .ok (.getfield 22, 3) := by decide +kernel
theorem dX2_takeSign_84 : decode cX2_takeSign 84 = .ok (.aload_n 0, 1) := by decide +kernel
theorem dX2_takeSign_85 : decode cX2_takeSign 85 = .ok (.getfield 9, 3) := by decide +kernel
theorem dX2_takeSign_88 : decode cX2_takeSign 88 = .ok (.iload_n 2, 1) := by decide +kernel
theorem dX2_takeSign_89 : decode cX2_takeSign 89 = .ok (.bipush 48, 2) := by decide +kernel
theorem dX2_takeSign_91 : decode cX2_takeSign 91 = .ok (.isub, 1) := by decide +kernel
theorem dX2_takeSign_92 : decode cX2_takeSign 92 = .ok (.iastore, 1) := by decide +kernel
theorem dX2_takeSign_93 : decode cX2_takeSign 93 = .ok (.goto 32, 3) := by decide +kernel
theorem dX2_takeSign_96 : decode cX2_takeSign 96 = .ok (.aload_n 0, 1) := by decide +kernel
theorem dX2_takeSign_97 : decode cX2_takeSign 97 = .ok (.getfield 25, 3) := by decide +kernel
theorem dX2_takeSign_100 : decode cX2_takeSign 100 = .ok (.aload_n 0, 1) := by decide +kernel
theorem dX2_takeSign_101 : decode cX2_takeSign 101 = .ok (.getfield 9, 3) := by decide +kernel
theorem dX2_takeSign_104 : decode cX2_takeSign 104 = .ok (.iload_n 2, 1) := by decide +kernel
theorem dX2_takeSign_105 : decode cX2_takeSign 105 = .ok (.bipush 48, 2) := by decide +kernel
theorem dX2_takeSign_107 : decode cX2_takeSign 107 = .ok (.isub, 1) := by decide +kernel
theorem dX2_takeSign_108 : decode cX2_takeSign 108 = .ok (.iastore, 1) := by decide +kernel
theorem dX2_takeSign_109 : decode cX2_takeSign 109 = .ok (.goto 16, 3) := by decide +kernel
theorem dX2_takeSign_112 : decode cX2_takeSign 112 = .ok (.aload_n 0, 1) := by decide +kernel
theorem dX2_takeSign_113 : decode cX2_takeSign 113 = .ok (.getfield 28, 3) := by decide +kernel
theorem dX2_takeSign_116 : decode cX2_takeSign 116 = .ok (.aload_n 0, 1) := by decide +kernel
theorem dX2_takeSign_117 : decode cX2_takeSign 117 = .ok (.getfield 9, 3) := by decide +kernel
theorem dX2_takeSign_120 : decode cX2_takeSign 120 = .ok (.iload_n 2, 1) := by decide +kernel
theorem dX2_takeSign_121 : decode cX2_takeSign 121 = .ok (.bipush 48, 2) := by decide +kernel
theorem dX2_takeSign_123 : decode cX2_takeSign 123 = .ok (.isub, 1) := by decide +kernel
theorem dX2_takeSign_124 : decode cX2_takeSign 124 = .ok (.iastore, 1) := by decide +kernel
theorem dX2_takeSign_125 : decode cX2_takeSign 125 = .ok (.return_, 1) := by decide +kernel
theorem dX2_has_0 : decode cX2_has 0 = .ok (.iload_n 1, 1) := by decide +kernel
theorem dX2_has_1 : decode cX2_has 1 = .ok (.ifCond .lt 15, 3) := by decide +kernel
theorem dX2_has_4 : decode cX2_has 4 = .ok (.iload_n 1, 1) := by decide +kernel
theorem dX2_has_5 : decode cX2_has 5 = .ok (.aload_n 0, 1) := by decide +kernel
theorem dX2_has_6 : decode cX2_has 6 = .ok (.getfield 9, 3) := by decide +kernel
theorem dX2_has_9 : decode cX2_has 9 = .ok (.if_icmp .ge 7, 3) := by decide +kernel
theorem dX2_has_12 : decode cX2_has 12 = .ok (.iconst 1, 1) := by decide +kernel
theorem dX2_has_13 : decode cX2_has 13 = .ok (.goto 4, 3) := by decide +kernel
theorem dX2_has_16 : decode cX2_has 16 = .ok (.iconst 0, 1) := by decide +kernel
theorem dX2_has_17 : decode cX2_has 17 = .ok (.ireturn, 1) := by decide +kernel
theorem dX2_valueAs_0 : decode cX2_valueAs 0 = .ok (.aload_n 0, 1) := by decide +kernel
theorem dX2_valueAs_1 : decode cX2_valueAs 1 = .ok (.iload_n 1, 1) := by decide +kernel
theorem dX2_valueAs_2 : decode cX2_valueAs 2 = .ok (.invokevirtual 87, 3) := by decide +kernel
theorem dX2_valueAs_5 : decode cX2_valueAs 5 = .ok (.ifCond .ne 5, 3) := by decide +kernel
theorem dX2_valueAs_8 : decode cX2_valueAs 8 = .ok (.iconst 0, 1) := by decide +kernel
theorem dX2_valueAs_9 : decode cX2_valueAs 9 = .ok (.ireturn, 1) := by decide +kernel
theorem dX2_valueAs_10 : decode cX2_valueAs 10 = .ok (.aload_n 0, 1) := by decide +kernel
theorem dX2_valueAs_11 : decode cX2_valueAs 11 = .ok (.getfield 31, 3) := by decide +kernel
theorem dX2_valueAs_14 : decode cX2_valueAs 14 = .ok (.iload_n 1, 1) := by decide +kernel
theorem dX2_valueAs_15 : decode cX2_valueAs 15 = .ok (.iaload, 1) := by decide +kernel
theorem dX2_valueAs_16 : decode cX2_valueAs 16 = .ok (.iconst 5, 1) := by decide +kernel
theorem dX2_valueAs_17 : decode cX2_valueAs 17 = .ok (.ishr, 1) := by decide +kernel
theorem dX2_valueAs_18 : decode cX2_valueAs 18 = .ok (.iconst 1, 1) := by decide +kernel
theorem dX2_valueAs_19 : decode cX2_valueAs 19 = .ok (.iand, 1) := by decide +kernel
theorem dX2_valueAs_20 : decode cX2_valueAs 20 = .ok (.ifCond .eq 9, 3) := by decide +kernel
theorem dX2_valueAs_23 : decode cX2_valueAs 23 = .ok (.iload_n 3, 1) := by decide +kernel
theorem dX2_valueAs_24 : decode cX2_valueAs 24 = .ok (.iconst 3, 1) := by decide +kernel
theorem dX2_valueAs_25 : decode cX2_valueAs 25 = .ok (.iadd, 1) := by decide +kernel
theorem dX2_valueAs_26 : decode cX2_valueAs 26 = .ok (.goto 4, 3) := by decide +kernel
theorem dX2_valueAs_29 : decode cX2_valueAs 29 = .ok (.iload_n 3, 1) := by decide +kernel
theorem dX2_valueAs_30 : decode cX2_valueAs 30 = .ok (.istore 4, 2) := by decide +kernel
theorem dX2_valueAs_32 : decode cX2_valueAs 32 = .ok (.iload_n 2, 1) := by decide +kernel
theorem dX2_valueAs_33 : decode cX2_valueAs 33 = .ok (.tableswitch 69 1 5 #[35, 40, 43, 52, 57], 35) := by decide +kernel
theorem dX2_valueAs_68 : decode cX2_valueAs 68 = .ok (.iload_n 3, 1) := by decide +kernel
theorem dX2_valueAs_69 : decode cX2_valueAs 69 = .ok (.bipush 10, 2) := by decide +kernel
theorem dX2_valueAs_71 : decode cX2_valueAs 71 = .ok (.isub, 1) := by decide +kernel
theorem dX2_valueAs_72 : decode cX2_valueAs 72 = .ok (.ireturn, 1) := by decide +kernel
theorem dX2_valueAs_73 : decode cX2_valueAs 73 = .ok (.iload 4, 2) := by decide +kernel
theorem dX2_valueAs_75 : decode cX2_valueAs 75 = .ok (.ireturn, 1) := by decide +kernel
theorem dX2_valueAs_76 : decode cX2_valueAs 76 = .ok (.iload_n 3, 1) := by decide +kernel
theorem dX2_valueAs_77 : decode cX2_valueAs 77 = .ok (.aload_n 0, 1) := by decide +kernel
theorem dX2_valueAs_78 : decode cX2_valueAs 78 = .ok (.getfield 25, 3) := by decide +kernel
theorem dX2_valueAs_81 : decode cX2_valueAs 81 = .ok (.iload_n 1, 1) := by decide +kernel
theorem dX2_valueAs_82 : decode cX2_valueAs 82 = .ok (.iaload, 1) := by decide +kernel
theorem dX2_valueAs_83 : decode cX2_valueAs 83 = .ok (.imul, 1) := by decide +kernel
theorem dX2_valueAs_84 : decode cX2_valueAs 84 = .ok (.ireturn, 1) := by decide +kernel
theorem dX2_valueAs_85 : decode cX2_valueAs 85 = .ok (.iconst 2, 1) := by decide +kernel
theorem dX2_valueAs_86 : decode cX2_valueAs 86 = .ok (.iload 4, 2) := by decide +kernel
theorem dX2_valueAs_88 : decode cX2_valueAs 88 = .ok (.imul, 1) := by decide +kernel
theorem dX2_valueAs_89 : decode cX2_valueAs 89 = .ok (.ireturn, 1) := by decide +kernel
theorem dX2_valueAs_90 : decode cX2_valueAs 90 = .ok (.iload_n 3, 1) := by decide +kernel
theorem dX2_valueAs_91 : decode cX2_valueAs 91 = .ok (.bipush 10, 2) := by decide +kernel
theorem dX2_valueAs_93 : decode cX2_valueAs 93 = .ok (.isub, 1) := by decide +kernel
theorem dX2_valueAs_94 : decode cX2_valueAs 94 = .ok (.aload_n 0, 1) := by decide +kernel
theorem dX2_valueAs_95 : decode cX2_valueAs 95 = .ok (.getfield 25, 3) := by decide +kernel
theorem dX2_valueAs_98 : decode cX2_valueAs 98 = .ok (.iload_n 1, 1) := by decide +kernel
theorem dX2_valueAs_99 : decode cX2_valueAs 99 = .ok (.iaload, 1) := by decide +kernel
theorem dX2_valueAs_100 : decode cX2_valueAs 100 = .ok (.isub, 1) := by decide +kernel
theorem dX2_valueAs_101 : decode cX2_valueAs 101 = .ok (.ireturn, 1) := by decide +kernel
theorem dX2_valueAs_102 : decode cX2_valueAs 102 = .ok (.iload_n 3, 1) := by decide +kernel
theorem dX2_valueAs_103 : decode cX2_valueAs 103 = .ok (.ireturn, 1) := by decide +kernel
theorem dX2_apartFrom_0 : decode cX2_apartFrom 0 = .ok (.iconst 0, 1) := by decide +kernel
theorem dX2_apartFrom_1 : decode cX2_apartFrom 1 = .ok (.istore_n 2, 1) := by decide +kernel
theorem dX2_apartFrom_2 : decode cX2_apartFrom 2 = .ok (.iconst 0, 1) := by decide +kernel
theorem dX2_apartFrom_3 : decode cX2_apartFrom 3 = .ok (.istore_n 3, 1) := by decide +kernel
theorem dX2_apartFrom_4 : decode cX2_apartFrom 4 = .ok (.iload_n 3, 1) := by decide +kernel
theorem dX2_apartFrom_5 : decode cX2_apartFrom 5 = .ok (.aload_n 0, 1) := by decide +kernel
theorem dX2_apartFrom_6 : decode cX2_apartFrom 6 = .ok (.getfield 9, 3) := by decide +kernel
theorem dX2_apartFrom_9 : decode cX2_apartFrom 9 = .ok (.if_icmp .ge 26, 3) := by decide +kernel
theorem dX2_apartFrom_12 : decode cX2_apartFrom 12 = .ok (.aload_n 0, 1) := by decide +kernel
theorem dX2_apartFrom_13 : decode cX2_apartFrom 13 = .ok (.getfield 31, 3) := by decide +kernel
theorem dX2_apartFrom_16 : decode cX2_apartFrom 16 = .ok (.iload_n 3, 1) := by decide +kernel
theorem dX2_apartFrom_17 : decode cX2_apartFrom 17 = .ok (.iaload, 1) := by decide +kernel
theorem dX2_apartFrom_18 : decode cX2_apartFrom 18 = .ok (.iload_n 1, 1) := by decide +kernel
theorem dX2_apartFrom_19 : decode cX2_apartFrom 19 = .ok (.iand, 1) := by decide +kernel
theorem dX2_apartFrom_20 : decode cX2_apartFrom 20 = .ok (.ifCond .ne 9, 3) := by decide +kernel
theorem dX2_apartFrom_23 : decode cX2_apartFrom 23 = .ok (.iload_n 2, 1) := by decide +kernel
theorem dX2_apartFrom_24 : decode cX2_apartFrom 24 = .ok (.iconst 1, 1) := by decide +kernel
theorem dX2_apartFrom_25 : decode cX2_apartFrom 25 = .ok (.iload_n 3, 1) := by decide +kernel
theorem dX2_apartFrom_26 : decode cX2_apartFrom 26 = .ok (.ishl, 1) := by decide +kernel
theorem dX2_apartFrom_27 : decode cX2_apartFrom 27 = .ok (.ior, 1) := by decide +kernel
theorem dX2_apartFrom_28 : decode cX2_apartFrom 28 = .ok (.istore_n 2, 1) := by decide +kernel
theorem dX2_apartFrom_29 : decode cX2_apartFrom 29 = .ok (.iinc 3 1, 3) := by decide +kernel
theorem dX2_apartFrom_32 : decode cX2_apartFrom 32 = .ok (.goto (-28), 3) := by decide +kernel
theorem dX2_apartFrom_35 : decode cX2_apartFrom 35 = .ok (.iload_n 2, 1) := by decide +kernel
theorem dX2_apartFrom_36 : decode cX2_apartFrom 36 = .ok (.ireturn, 1) := by decide +kernel
theorem dX2_reckonSetsTo_0 : decode cX2_reckonSetsTo 0 = .ok (.iconst 1, 1) := by decide +kernel
theorem dX2_reckonSetsTo_1 : decode cX2_reckonSetsTo 1 = .ok (.iload_n 1, 1) := by decide +kernel
theorem dX2_reckonSetsTo_2 : decode cX2_reckonSetsTo 2 = .ok (.ishl, 1) := by decide +kernel
theorem dX2_reckonSetsTo_3 : decode cX2_reckonSetsTo 3 = .ok (.istore_n 2, 1) := by decide +kernel
theorem dX2_reckonSetsTo_4 : decode cX2_reckonSetsTo 4 = .ok (.aload_n 0, 1) := by decide +kernel
theorem dX2_reckonSetsTo_5 : decode cX2_reckonSetsTo 5 = .ok (.aload_n 0, 1) := by decide +kernel
theorem dX2_reckonSetsTo_6 : decode cX2_reckonSetsTo 6 = .ok (.getfield 31, 3) := by decide +kernel
theorem dX2_reckonSetsTo_9 : decode cX2_reckonSetsTo 9 = .ok (.iload_n 1, 1) := by decide +kernel
theorem dX2_reckonSetsTo_10 : decode cX2_reckonSetsTo 10 = .ok (.iaload, 1) := by decide +kernel
theorem dX2_reckonSetsTo_11 : decode cX2_reckonSetsTo 11 = .ok (.invokevirtual 78, 3) := by decide +kernel
theorem dX2_reckonSetsTo_14 : decode cX2_reckonSetsTo 14 = .ok (.istore_n 3, 1) := by decide +kernel
theorem dX2_reckonSetsTo_15 : decode cX2_reckonSetsTo 15 = .ok (.iconst 0, 1) := by decide +kernel
theorem dX2_reckonSetsTo_16 : decode cX2_reckonSetsTo 16 = .ok (.istore 4, 2) := by decide +kernel
theorem dX2_reckonSetsTo_18 : decode cX2_reckonSetsTo 18 = .ok (.iload 4, 2) := by decide +kernel
theorem dX2_reckonSetsTo_20 : decode cX2_reckonSetsTo 20 = .ok (.iload_n 2, 1) := by decide +kernel
theorem dX2_reckonSetsTo_21 : decode cX2_reckonSetsTo 21 = .ok (.if_icmp .ge 139, 3) := by decide +kernel
theorem dX2_reckonSetsTo_24 : decode cX2_reckonSetsTo 24 = .ok (.iload 4, 2) := by decide +kernel
theorem dX2_reckonSetsTo_26 : decode cX2_reckonSetsTo 26 = .ok (.iload_n 2, 1) := by decide +kernel
theorem dX2_reckonSetsTo_27 : decode cX2_reckonSetsTo 27 = .ok (.ior, 1) := by decide +kernel
theorem dX2_reckonSetsTo_28 : decode cX2_reckonSetsTo 28 = .ok (.sipush 256, 3) := by decide +kernel
theorem dX2_reckonSetsTo_31 : decode cX2_reckonSetsTo 31 = .ok (.if_icmp .ge 129, 3) := by decide +kernel
theorem dX2_reckonSetsTo_34 : decode cX2_reckonSetsTo 34 = .ok (.iload 4, 2) := by decide +kernel
theorem dX2_reckonSetsTo_36 : decode cX2_reckonSetsTo 36 = .ok (.iload_n 2, 1) := by decide +kernel
theorem dX2_reckonSetsTo_37 : decode cX2_reckonSetsTo 37 = .ok (.ior, 1) := by decide +kernel
theorem dX2_reckonSetsTo_38 : decode cX2_reckonSetsTo 38 = .ok (.istore 5, 2) := by decide +kernel
theorem dX2_reckonSetsTo_40 : decode cX2_reckonSetsTo 40 = .ok (.aload_n 0, 1) := by decide +kernel
theorem dX2_reckonSetsTo_41 : decode cX2_reckonSetsTo 41 = .ok (.getfield 37, 3) := by decide +kernel
theorem dX2_reckonSetsTo_44 : decode cX2_reckonSetsTo 44 = .ok (.iload 5, 2) := by decide +kernel
theorem dX2_reckonSetsTo_46 : decode cX2_reckonSetsTo 46 = .ok (.aload_n 0, 1) := by decide +kernel
theorem dX2_reckonSetsTo_47 : decode cX2_reckonSetsTo 47 = .ok (.getfield 37, 3) := by decide +kernel
theorem dX2_reckonSetsTo_50 : decode cX2_reckonSetsTo 50 = .ok (.iload 4, 2) := by decide +kernel
theorem dX2_reckonSetsTo_52 : decode cX2_reckonSetsTo 52 = .ok (.iaload, 1) := by decide +kernel
theorem dX2_reckonSetsTo_53 : decode cX2_reckonSetsTo 53 = .ok (.aload_n 0, 1) := by decide +kernel
theorem dX2_reckonSetsTo_54 : decode cX2_reckonSetsTo 54 = .ok (.getfield 31, 3) := by decide +kernel
theorem dX2_reckonSetsTo_57 : decode cX2_reckonSetsTo 57 = .ok (.iload_n 1, 1) := by decide +kernel
theorem dX2_reckonSetsTo_58 : decode cX2_reckonSetsTo 58 = .ok (.iaload, 1) := by decide +kernel
theorem dX2_reckonSetsTo_59 : decode cX2_reckonSetsTo 59 = .ok (.ior, 1) := by decide +kernel
theorem dX2_reckonSetsTo_60 : decode cX2_reckonSetsTo 60 = .ok (.iastore, 1) := by decide +kernel
theorem dX2_reckonSetsTo_61 : decode cX2_reckonSetsTo 61 = .ok (.aload_n 0, 1) := by decide +kernel
theorem dX2_reckonSetsTo_62 : decode cX2_reckonSetsTo 62 = .ok (.getfield 40, 3) := by decide +kernel
theorem dX2_reckonSetsTo_65 : decode cX2_reckonSetsTo 65 = .ok (.iload 5, 2) := by decide +kernel
theorem dX2_reckonSetsTo_67 : decode cX2_reckonSetsTo 67 = .ok (.aload_n 0, 1) := by decide +kernel
theorem dX2_reckonSetsTo_68 : decode cX2_reckonSetsTo 68 = .ok (.getfield 40, 3) := by decide +kernel
theorem dX2_reckonSetsTo_71 : decode cX2_reckonSetsTo 71 = .ok (.iload 4, 2) := by decide +kernel
theorem dX2_reckonSetsTo_73 : decode cX2_reckonSetsTo 73 = .ok (.iaload, 1) := by decide +kernel
theorem dX2_reckonSetsTo_74 : decode cX2_reckonSetsTo 74 = .ok (.aload_n 0, 1) := by decide +kernel
theorem dX2_reckonSetsTo_75 : decode cX2_reckonSetsTo 75 = .ok (.getfield 34, 3) := by decide +kernel
theorem dX2_reckonSetsTo_78 : decode cX2_reckonSetsTo 78 = .ok (.iload_n 1, 1) := by decide +kernel
theorem dX2_reckonSetsTo_79 : decode cX2_reckonSetsTo 79 = .ok (.iaload, 1) := by decide +kernel
theorem dX2_reckonSetsTo_80 : decode cX2_reckonSetsTo 80 = .ok (.iadd, 1) := by decide +kernel
theorem dX2_reckonSetsTo_81 : decode cX2_reckonSetsTo 81 = .ok (.iastore, 1) := by decide +kernel
theorem dX2_reckonSetsTo_82 : decode cX2_reckonSetsTo 82 = .ok (.aload_n 0, 1) := by decide +kernel
theorem dX2_reckonSetsTo_83 : decode cX2_reckonSetsTo 83 = .ok (.getfield 43, 3) := by decide +kernel
theorem dX2_reckonSetsTo_86 : decode cX2_reckonSetsTo 86 = .ok (.iload 5, 2) := by decide +kernel
theorem dX2_reckonSetsTo_88 : decode cX2_reckonSetsTo 88 = .ok (.aload_n 0, 1) := by decide +kernel
theorem dX2_reckonSetsTo_89 : decode cX2_reckonSetsTo 89 = .ok (.getfield 43, 3) := by decide +kernel
theorem dX2_reckonSetsTo_92 : decode cX2_reckonSetsTo 92 = .ok (.iload 4, 2) := by decide +kernel
theorem dX2_reckonSetsTo_94 : decode cX2_reckonSetsTo 94 = .ok (.baload, 1) := by decide +kernel
theorem dX2_reckonSetsTo_95 : decode cX2_reckonSetsTo 95 = .ok (.ifCond .eq 24, 3) := by decide +kernel
theorem dX2_reckonSetsTo_98 : decode cX2_reckonSetsTo 98 = .ok (.aload_n 0, 1) := by decide +kernel
theorem dX2_reckonSetsTo_99 : decode cX2_reckonSetsTo 99 = .ok (.getfield 37, 3) := by decide +kernel
theorem dX2_reckonSetsTo_102 : decode cX2_reckonSetsTo 102 = .ok (.iload 4, 2) := by decide +kernel
theorem dX2_reckonSetsTo_104 : decode cX2_reckonSetsTo 104 = .ok (.iaload, 1) := by decide +kernel
theorem dX2_reckonSetsTo_105 : decode cX2_reckonSetsTo 105 = .ok (.aload_n 0, 1) := by decide +kernel
theorem dX2_reckonSetsTo_106 : decode cX2_reckonSetsTo 106 = .ok (.getfield 31, 3) := by decide +kernel
theorem dX2_reckonSetsTo_109 : decode cX2_reckonSetsTo 109 = .ok (.iload_n 1, 1) := by decide +kernel
theorem dX2_reckonSetsTo_110 : decode cX2_reckonSetsTo 110 = .ok (.iaload, 1) := by decide +kernel
theorem dX2_reckonSetsTo_111 : decode cX2_reckonSetsTo 111 = .ok (.iand, 1) := by decide +kernel
theorem dX2_reckonSetsTo_112 : decode cX2_reckonSetsTo 112 = .ok (.ifCond .ne 7, 3) := by decide +kernel
theorem dX2_reckonSetsTo_115 : decode cX2_reckonSetsTo 115 = .ok (.iconst 1, 1) := by decide +kernel
theorem dX2_reckonSetsTo_116 : decode cX2_reckonSetsTo 116 = .ok (.goto 4, 3) := by decide +kernel
theorem dX2_reckonSetsTo_119 : decode cX2_reckonSetsTo 119 = .ok (.iconst 0, 1) := by decide +kernel
theorem dX2_reckonSetsTo_120 : decode cX2_reckonSetsTo 120 = .ok (.bastore, 1) := by decide +kernel
theorem dX2_reckonSetsTo_121 : decode cX2_reckonSetsTo 121 = .ok (.aload_n 0, 1) := by decide +kernel
theorem dX2_reckonSetsTo_122 : decode cX2_reckonSetsTo 122 = .ok (.getfield 47, 3) := by decide +kernel
theorem dX2_reckonSetsTo_125 : decode cX2_reckonSetsTo 125 = .ok (.iload 5, 2) := by decide +kernel
theorem dX2_reckonSetsTo_127 : decode cX2_reckonSetsTo 127 = .ok (.aload_n 0, 1) := by decide +kernel
theorem dX2_reckonSetsTo_128 : decode cX2_reckonSetsTo 128 = .ok (.getfield 47, 3) := by decide +kernel
theorem dX2_reckonSetsTo_131 : decode cX2_reckonSetsTo 131 = .ok (.iload 4, 2) := by decide +kernel
theorem dX2_reckonSetsTo_133 : decode cX2_reckonSetsTo 133 = .ok (.iaload, 1) := by decide +kernel
theorem dX2_reckonSetsTo_134 : decode cX2_reckonSetsTo 134 = .ok (.aload_n 0, 1) := by decide +kernel
theorem dX2_reckonSetsTo_135 : decode cX2_reckonSetsTo 135 = .ok (.getfield 34, 3) := by decide +kernel
theorem dX2_reckonSetsTo_138 : decode cX2_reckonSetsTo 138 = .ok (.iload_n 1, 1) := by decide +kernel
theorem dX2_reckonSetsTo_139 : decode cX2_reckonSetsTo 139 = .ok (.iaload, 1) := by decide +kernel
theorem dX2_reckonSetsTo_140 : decode cX2_reckonSetsTo 140 = .ok (.aload_n 0, 1) := by decide +kernel
theorem dX2_reckonSetsTo_141 : decode cX2_reckonSetsTo 141 = .ok (.getfield 47, 3) := by decide +kernel
theorem dX2_reckonSetsTo_144 : decode cX2_reckonSetsTo 144 = .ok (.iload 4, 2) := by decide +kernel
theorem dX2_reckonSetsTo_146 : decode cX2_reckonSetsTo 146 = .ok (.iload_n 3, 1) := by decide +kernel
theorem dX2_reckonSetsTo_147 : decode cX2_reckonSetsTo 147 = .ok (.iand, 1) := by decide +kernel
theorem dX2_reckonSetsTo_148 : decode cX2_reckonSetsTo 148 = .ok (.iaload, 1) := by decide +kernel
theorem dX2_reckonSetsTo_149 : decode cX2_reckonSetsTo 149 = .ok (.iadd, 1) := by decide +kernel
theorem dX2_reckonSetsTo_150 : decode cX2_reckonSetsTo 150 = .ok (.invokestatic 81, 3) := by decide +kernel
theorem dX2_reckonSetsTo_153 : decode cX2_reckonSetsTo 153 = .ok (.iastore, 1) := by decide +kernel
theorem dX2_reckonSetsTo_154 : decode cX2_reckonSetsTo 154 = .ok (.iinc 4 1, 3) := by decide +kernel
theorem dX2_reckonSetsTo_157 : decode cX2_reckonSetsTo 157 = .ok (.goto (-139), 3) := by decide +kernel
theorem dX2_reckonSetsTo_160 : decode cX2_reckonSetsTo 160 = .ok (.return_, 1) := by decide +kernel
theorem dX2_read_0 : decode cX2_read 0 = .ok (.aload_n 0, 1) := by decide +kernel
theorem dX2_read_1 : decode cX2_read 1 = .ok (.iconst 0, 1) := by decide +kernel
theorem dX2_read_2 : decode cX2_read 2 = .ok (.putfield 9, 3) := by decide +kernel
theorem dX2_read_5 : decode cX2_read 5 = .ok (.iconst 0, 1) := by decide +kernel
theorem dX2_read_6 : decode cX2_read 6 = .ok (.istore_n 2, 1) := by decide +kernel
theorem dX2_read_7 : decode cX2_read 7 = .ok (.iconst 0, 1) := by decide +kernel
theorem dX2_read_8 : decode cX2_read 8 = .ok (.istore_n 3, 1) := by decide +kernel
theorem dX2_read_9 : decode cX2_read 9 = .ok (.iload_n 3, 1) := by decide +kernel
theorem dX2_read_10 : decode cX2_read 10 = .ok (.aload_n 1, 1) := by decide +kernel
theorem dX2_read_11 : decode cX2_read 11 = .ok (.getfield 54, 3) := by decide +kernel
theorem dX2_read_14 : decode cX2_read 14 = .ok (.if_icmp .ge 59, 3) := by decide +kernel
theorem dX2_read_17 : decode cX2_read 17 = .ok (.aload_n 0, 1) := by decide +kernel
theorem dX2_read_18 : decode cX2_read 18 = .ok (.getfield 9, 3) := by decide +kernel
theorem dX2_read_21 : decode cX2_read 21 = .ok (.bipush 8, 2) := by decide +kernel
theorem dX2_read_23 : decode cX2_read 23 = .ok (.if_icmp .ge 50, 3) := by decide +kernel
theorem dX2_read_26 : decode cX2_read 26 = .ok (.aload_n 1, 1) := by decide +kernel
theorem dX2_read_27 : decode cX2_read 27 = .ok (.iload_n 3, 1) := by decide +kernel
theorem dX2_read_28 : decode cX2_read 28 = .ok (.invokevirtual 59, 3) := by decide +kernel
theorem dX2_read_31 : decode cX2_read 31 = .ok (.istore 4, 2) := by decide +kernel
theorem dX2_read_33 : decode cX2_read 33 = .ok (.iload 4, 2) := by decide +kernel
theorem dX2_read_35 : decode cX2_read 35 = .ok (.bipush 32, 2) := by decide +kernel
theorem dX2_read_37 : decode cX2_read 37 = .ok (.if_icmp .eq 30, 3) := by decide +kernel
theorem dX2_read_40 : decode cX2_read 40 = .ok (.aload_n 0, 1) := by decide +kernel
theorem dX2_read_41 : decode cX2_read 41 = .ok (.iload_n 2, 1) := by decide +kernel
theorem dX2_read_42 : decode cX2_read 42 = .ok (.iload 4, 2) := by decide +kernel
theorem dX2_read_44 : decode cX2_read 44 = .ok (.invokevirtual 63, 3) := by decide +kernel
theorem dX2_read_47 : decode cX2_read 47 = .ok (.iinc 2 1, 3) := by decide +kernel
theorem dX2_read_50 : decode cX2_read 50 = .ok (.iload_n 2, 1) := by decide +kernel
theorem dX2_read_51 : decode cX2_read 51 = .ok (.iconst 5, 1) := by decide +kernel
theorem dX2_read_52 : decode cX2_read 52 = .ok (.if_icmp .ne 15, 3) := by decide +kernel
theorem dX2_read_55 : decode cX2_read 55 = .ok (.iconst 0, 1) := by decide +kernel
theorem dX2_read_56 : decode cX2_read 56 = .ok (.istore_n 2, 1) := by decide +kernel
theorem dX2_read_57 : decode cX2_read 57 = .ok (.aload_n 0, 1) := by decide +kernel
theorem dX2_read_58 : decode cX2_read 58 = .ok (.dup, 1) := by decide +kernel
theorem dX2_read_59 : decode cX2_read 59 = .ok (.getfield 9, 3) := by decide +kernel
theorem dX2_read_62 : decode cX2_read 62 = .ok (.iconst 1, 1) := by decide +kernel
theorem dX2_read_63 : decode cX2_read 63 = .ok (.iadd, 1) := by decide +kernel
theorem dX2_read_64 : decode cX2_read 64 = .ok (.putfield 9, 3) := by decide +kernel
theorem dX2_read_67 : decode cX2_read 67 = .ok (.iinc 3 1, 3) := by decide +kernel
theorem dX2_read_70 : decode cX2_read 70 = .ok (.goto (-61), 3) := by decide +kernel
theorem dX2_read_73 : decode cX2_read 73 = .ok (.iconst 0, 1) := by decide +kernel
theorem dX2_read_74 : decode cX2_read 74 = .ok (.istore_n 3, 1) := by decide +kernel
theorem dX2_read_75 : decode cX2_read 75 = .ok (.iload_n 3, 1) := by decide +kernel
theorem dX2_read_76 : decode cX2_read 76 = .ok (.aload_n 0, 1) := by decide +kernel
theorem dX2_read_77 : decode cX2_read 77 = .ok (.getfield 9, 3) := by decide +kernel
theorem dX2_read_80 : decode cX2_read 80 = .ok (.if_icmp .ge 55, 3) := by decide +kernel
theorem dX2_read_83 : decode cX2_read 83 = .ok (.aload_n 0, 1) := by decide +kernel
theorem dX2_read_84 : decode cX2_read 84 = .ok (.getfield 31, 3) := by decide +kernel
theorem dX2_read_87 : decode cX2_read 87 = .ok (.iload_n 3, 1) := by decide +kernel
theorem dX2_read_88 : decode cX2_read 88 = .ok (.iconst 1, 1) := by decide +kernel
theorem dX2_read_89 : decode cX2_read 89 = .ok (.aload_n 0, 1) := by decide +kernel
theorem dX2_read_90 : decode cX2_read 90 = .ok (.getfield 25, 3) := by decide +kernel
theorem dX2_read_93 : decode cX2_read 93 = .ok (.iload_n 3, 1) := by decide +kernel
theorem dX2_read_94 : decode cX2_read 94 = .ok (.iaload, 1) := by decide +kernel
theorem dX2_read_95 : decode cX2_read 95 = .ok (.ishl, 1) := by decide +kernel
theorem dX2_read_96 : decode cX2_read 96 = .ok (.iconst 1, 1) := by decide +kernel
theorem dX2_read_97 : decode cX2_read 97 = .ok (.isub, 1) := by decide +kernel
theorem dX2_read_98 : decode cX2_read 98 = .ok (.aload_n 0, 1) := by decide +kernel
theorem dX2_read_99 : decode cX2_read 99 = .ok (.getfield 22, 3) := by decide +kernel
theorem dX2_read_102 : decode cX2_read 102 = .ok (.iload_n 3, 1) := by decide +kernel
theorem dX2_read_103 : decode cX2_read 103 = .ok (.iaload, 1) := by decide +kernel
theorem dX2_read_104 : decode cX2_read 104 = .ok (.ishl, 1) := by decide +kernel
theorem dX2_read_105 : decode cX2_read 105 = .ok (.iastore, 1) := by decide +kernel
theorem dX2_read_106 : decode cX2_read 106 = .ok (.aload_n 0, 1) := by decide +kernel
theorem dX2_read_107 : decode cX2_read 107 = .ok (.getfield 34, 3) := by decide +kernel
theorem dX2_read_110 : decode cX2_read 110 = .ok (.iload_n 3, 1) := by decide +kernel
theorem dX2_read_111 : decode cX2_read 111 = .ok (.aload_n 0, 1) := by decide +kernel
theorem dX2_read_112 : decode cX2_read 112 = .ok (.iload_n 3, 1) := by decide +kernel
theorem dX2_read_113 : decode cX2_read 113 = .ok (.aload_n 0, 1) := by decide +kernel
theorem dX2_read_114 : decode cX2_read 114 = .ok (.getfield 15, 3) := by decide +kernel
theorem dX2_read_117 : decode cX2_read 117 = .ok (.iload_n 3, 1) := by decide +kernel
theorem dX2_read_118 : decode cX2_read 118 = .ok (.iaload, 1) := by decide +kernel
theorem dX2_read_119 : decode cX2_read 119 = .ok (.aload_n 0, 1) := by decide +kernel
theorem dX2_read_120 : decode cX2_read 120 = .ok (.getfield 28, 3) := by decide +kernel
theorem dX2_read_123 : decode cX2_read 123 = .ok (.iload_n 3, 1) := by decide +kernel
theorem dX2_read_124 : decode cX2_read 124 = .ok (.iaload, 1) := by decide +kernel
theorem dX2_read_125 : decode cX2_read 125 = .ok (.invokevirtual 67, 3) := by decide +kernel
theorem dX2_read_128 : decode cX2_read 128 = .ok (.iastore, 1) := by decide +kernel
theorem dX2_read_129 : decode cX2_read 129 = .ok (.iinc 3 1, 3) := by decide +kernel
theorem dX2_read_132 : decode cX2_read 132 = .ok (.goto (-57), 3) := by decide +kernel
theorem dX2_read_135 : decode cX2_read 135 = .ok (.iconst 0, 1) := by decide +kernel
theorem dX2_read_136 : decode cX2_read 136 = .ok (.istore_n 3, 1) := by decide +kernel
theorem dX2_read_137 : decode cX2_read 137 = .ok (.iload_n 3, 1) := by decide +kernel
theorem dX2_read_138 : decode cX2_read 138 = .ok (.aload_n 0, 1) := by decide +kernel
theorem dX2_read_139 : decode cX2_read 139 = .ok (.getfield 9, 3) := by decide +kernel
theorem dX2_read_142 : decode cX2_read 142 = .ok (.if_icmp .ge 14, 3) := by decide +kernel
theorem dX2_read_145 : decode cX2_read 145 = .ok (.aload_n 0, 1) := by decide +kernel
theorem dX2_read_146 : decode cX2_read 146 = .ok (.iload_n 3, 1) := by decide +kernel
theorem dX2_read_147 : decode cX2_read 147 = .ok (.invokevirtual 71, 3) := by decide +kernel
theorem dX2_read_150 : decode cX2_read 150 = .ok (.iinc 3 1, 3) := by decide +kernel
theorem dX2_read_153 : decode cX2_read 153 = .ok (.goto (-16), 3) := by decide +kernel
theorem dX2_read_156 : decode cX2_read 156 = .ok (.return_, 1) := by decide +kernel
theorem dX2_all_0 : decode cX2_all 0 = .ok (.iconst 1, 1) := by decide +kernel
theorem dX2_all_1 : decode cX2_all 1 = .ok (.aload_n 0, 1) := by decide +kernel
theorem dX2_all_2 : decode cX2_all 2 = .ok (.getfield 9, 3) := by decide +kernel
theorem dX2_all_5 : decode cX2_all 5 = .ok (.ishl, 1) := by decide +kernel
theorem dX2_all_6 : decode cX2_all 6 = .ok (.iconst 1, 1) := by decide +kernel
theorem dX2_all_7 : decode cX2_all 7 = .ok (.isub, 1) := by decide +kernel
theorem dX2_all_8 : decode cX2_all 8 = .ok (.ireturn, 1) := by decide +kernel
theorem dX3_lying_0 : decode cX3_lying 0 = .ok (.aload_n 0, 1) := by decide +kernel
theorem dX3_lying_1 : decode cX3_lying 1 = .ok (.getfield 12, 3) := by decide +kernel
theorem dX3_lying_4 : decode cX3_lying 4 = .ok (.invokevirtual 42, 3) := by decide +kernel
theorem dX3_lying_7 : decode cX3_lying 7 = .ok (.aload_n 0, 1) := by decide +kernel
theorem dX3_lying_8 : decode cX3_lying 8 = .ok (.getfield 29, 3) := by decide +kernel
theorem dX3_lying_11 : decode cX3_lying 11 = .ok (.iconst (-1), 1) := by decide +kernel
theorem dX3_lying_12 : decode cX3_lying 12 = .ok (.ixor, 1) := by decide +kernel
theorem dX3_lying_13 : decode cX3_lying 13 = .ok (.iand, 1) := by decide +kernel
theorem dX3_lying_14 : decode cX3_lying 14 = .ok (.aload_n 0, 1) := by decide +kernel
theorem dX3_lying_15 : decode cX3_lying 15 = .ok (.getfield 32, 3) := by decide +kernel
theorem dX3_lying_18 : decode cX3_lying 18 = .ok (.iconst (-1), 1) := by decide +kernel
theorem dX3_lying_19 : decode cX3_lying 19 = .ok (.ixor, 1) := by decide +kernel
theorem dX3_lying_20 : decode cX3_lying 20 = .ok (.iand, 1) := by decide +kernel
theorem dX3_lying_21 : decode cX3_lying 21 = .ok (.ireturn, 1) := by decide +kernel
theorem dX3_lyingHere_0 : decode cX3_lyingHere 0 = .ok (.iconst 0, 1) := by decide +kernel
theorem dX3_lyingHere_1 : decode cX3_lyingHere 1 = .ok (.istore_n 1, 1) := by decide +kernel
theorem dX3_lyingHere_2 : decode cX3_lyingHere 2 = .ok (.iconst 0, 1) := by decide +kernel
theorem dX3_lyingHere_3 : decode cX3_lyingHere 3 = .ok (.istore_n 2, 1) := by decide +kernel
theorem dX3_lyingHere_4 : decode cX3_lyingHere 4 = .ok (.iload_n 2, 1) := by decide +kernel
theorem dX3_lyingHere_5 : decode cX3_lyingHere 5 = .ok (.aload_n 0, 1) := by decide +kernel
theorem dX3_lyingHere_6 : decode cX3_lyingHere 6 = .ok (.getfield 12, 3) := by decide +kernel
theorem dX3_lyingHere_9 : decode cX3_lyingHere 9 = .ok (.getfield 46, 3) := by decide +kernel
theorem dX3_lyingHere_12 : decode cX3_lyingHere 12 = .ok (.if_icmp .ge 28, 3) := by decide +kernel
theorem dX3_lyingHere_15 : decode cX3_lyingHere 15 = .ok (.aload_n 0, 1) := by decide +kernel
theorem dX3_lyingHere_16 : decode cX3_lyingHere 16 = .ok (.getfield 35, 3) := by decide +kernel
theorem dX3_lyingHere_19 : decode cX3_lyingHere 19 = .ok (.iload_n 2, 1) := by decide +kernel
theorem dX3_lyingHere_20 : decode cX3_lyingHere 20 = .ok (.iaload, 1) := by decide +kernel
theorem dX3_lyingHere_21 : decode cX3_lyingHere 21 = .ok (.aload_n 0, 1) := by decide +kernel
theorem dX3_lyingHere_22 : decode cX3_lyingHere 22 = .ok (.getfield 25, 3) := by decide +kernel
theorem dX3_lyingHere_25 : decode cX3_lyingHere 25 = .ok (.if_icmp .ne 9, 3) := by decide +kernel
theorem dX3_lyingHere_28 : decode cX3_lyingHere 28 = .ok (.iload_n 1, 1) := by decide +kernel
theorem dX3_lyingHere_29 : decode cX3_lyingHere 29 = .ok (.iconst 1, 1) := by decide +kernel
theorem dX3_lyingHere_30 : decode cX3_lyingHere 30 = .ok (.iload_n 2, 1) := by decide +kernel
theorem dX3_lyingHere_31 : decode cX3_lyingHere 31 = .ok (.ishl, 1) := by decide +kernel
theorem dX3_lyingHere_32 : decode cX3_lyingHere 32 = .ok (.ior, 1) := by decide +kernel
theorem dX3_lyingHere_33 : decode cX3_lyingHere 33 = .ok (.istore_n 1, 1) := by decide +kernel
theorem dX3_lyingHere_34 : decode cX3_lyingHere 34 = .ok (.iinc 2 1, 3) := by decide +kernel
theorem dX3_lyingHere_37 : decode cX3_lyingHere 37 = .ok (.goto (-33), 3) := by decide +kernel
theorem dX3_lyingHere_40 : decode cX3_lyingHere 40 = .ok (.iload_n 1, 1) := by decide +kernel
theorem dX3_lyingHere_41 : decode cX3_lyingHere 41 = .ok (.aload_n 0, 1) := by decide +kernel
theorem dX3_lyingHere_42 : decode cX3_lyingHere 42 = .ok (.invokevirtual 49, 3) := by decide +kernel
theorem dX3_lyingHere_45 : decode cX3_lyingHere 45 = .ok (.iand, 1) := by decide +kernel
theorem dX3_lyingHere_46 : decode cX3_lyingHere 46 = .ok (.ireturn, 1) := by decide +kernel
theorem dX3_change_0 : decode cX3_change 0 = .ok (.iload_n 1, 1) := by decide +kernel
theorem dX3_change_1 : decode cX3_change 1 = .ok (.ifCond .ne 16, 3) := by decide +kernel
theorem dX3_change_4 : decode cX3_change 4 = .ok (.aload_n 0, 1) := by decide +kernel
theorem dX3_change_5 : decode cX3_change 5 = .ok (.dup, 1) := by decide +kernel
theorem dX3_change_6 : decode cX3_change 6 = .ok (.getfield 25, 3) := by decide +kernel
theorem dX3_change_9 : decode cX3_change 9 = .ok (.iconst 1, 1) := by decide +kernel
theorem dX3_change_10 : decode cX3_change 10 = .ok (.iadd, 1) := by decide +kernel
theorem dX3_change_11 : decode cX3_change 11 = .ok (.putfield 25, 3) := by decide +kernel
theorem dX3_change_14 : decode cX3_change 14 = .ok (.goto 118, 3) := by decide +kernel
theorem dX3_change_17 : decode cX3_change 17 = .ok (.iload_n 1, 1) := by decide +kernel
theorem dX3_change_18 : decode cX3_change 18 = .ok (.iconst 1, 1) := by decide +kernel
theorem dX3_change_19 : decode cX3_change 19 = .ok (.if_icmp .ne 16, 3) := by decide +kernel
theorem dX3_change_22 : decode cX3_change 22 = .ok (.aload_n 0, 1) := by decide +kernel
theorem dX3_change_23 : decode cX3_change 23 = .ok (.dup, 1) := by decide +kernel
theorem dX3_change_24 : decode cX3_change 24 = .ok (.getfield 25, 3) := by decide +kernel
theorem dX3_change_27 : decode cX3_change 27 = .ok (.iconst 1, 1) := by decide +kernel
theorem dX3_change_28 : decode cX3_change 28 = .ok (.isub, 1) := by decide +kernel
theorem dX3_change_29 : decode cX3_change 29 = .ok (.putfield 25, 3) := by decide +kernel
theorem dX3_change_32 : decode cX3_change 32 = .ok (.goto 100, 3) := by decide +kernel
theorem dX3_change_35 : decode cX3_change 35 = .ok (.iload_n 1, 1) := by decide +kernel
theorem dX3_change_36 : decode cX3_change 36 = .ok (.iconst 2, 1) := by decide +kernel
theorem dX3_change_37 : decode cX3_change 37 = .ok (.if_icmp .ne 19, 3) := by decide +kernel
theorem dX3_change_40 : decode cX3_change 40 = .ok (.aload_n 0, 1) := by decide +kernel
theorem dX3_change_41 : decode cX3_change 41 = .ok (.dup, 1) := by decide +kernel
theorem dX3_change_42 : decode cX3_change 42 = .ok (.getfield 32, 3) := by decide +kernel
theorem dX3_change_45 : decode cX3_change 45 = .ok (.aload_n 0, 1) := by decide +kernel
theorem dX3_change_46 : decode cX3_change 46 = .ok (.invokevirtual 61, 3) := by decide +kernel
theorem dX3_change_49 : decode cX3_change 49 = .ok (.ior, 1) := by decide +kernel
theorem dX3_change_50 : decode cX3_change 50 = .ok (.putfield 32, 3) := by decide +kernel
theorem dX3_change_53 : decode cX3_change 53 = .ok (.goto 79, 3) := by decide +kernel
theorem dX3_change_56 : decode cX3_change 56 = .ok (.aload_n 0, 1) := by decide +kernel
theorem dX3_change_57 : decode cX3_change 57 = .ok (.getfield 12, 3) := by decide +kernel
theorem dX3_change_60 : decode cX3_change 60 = .ok (.iload_n 1, 1) := by decide +kernel
theorem dX3_change_61 : decode cX3_change 61 = .ok (.bipush 8, 2) := by decide +kernel
theorem dX3_change_63 : decode cX3_change 63 = .ok (.isub, 1) := by decide +kernel
theorem dX3_change_64 : decode cX3_change 64 = .ok (.invokevirtual 64, 3) := by decide +kernel
theorem dX3_change_67 : decode cX3_change 67 = .ok (.ifCond .eq 21, 3) := by decide +kernel
theorem dX3_change_70 : decode cX3_change 70 = .ok (.aload_n 0, 1) := by decide +kernel
theorem dX3_change_71 : decode cX3_change 71 = .ok (.dup, 1) := by decide +kernel
theorem dX3_change_72 : decode cX3_change 72 = .ok (.getfield 29, 3) := by decide +kernel
theorem dX3_change_75 : decode cX3_change 75 = .ok (.iconst 1, 1) := by decide +kernel
theorem dX3_change_76 : decode cX3_change 76 = .ok (.iload_n 1, 1) := by decide +kernel
theorem dX3_change_77 : decode cX3_change 77 = .ok (.bipush 8, 2) := by decide +kernel
theorem dX3_change_79 : decode cX3_change 79 = .ok (.isub, 1) := by decide +kernel
theorem dX3_change_80 : decode cX3_change 80 = .ok (.ishl, 1) := by decide +kernel
theorem dX3_change_81 : decode cX3_change 81 = .ok (.ior, 1) := by decide +kernel
theorem dX3_change_82 : decode cX3_change 82 = .ok (.putfield 29, 3) := by decide +kernel
theorem dX3_change_85 : decode cX3_change 85 = .ok (.goto 47, 3) := by decide +kernel
theorem dX3_change_88 : decode cX3_change 88 = .ok (.aload_n 0, 1) := by decide +kernel
theorem dX3_change_89 : decode cX3_change 89 = .ok (.getfield 12, 3) := by decide +kernel
theorem dX3_change_92 : decode cX3_change 92 = .ok (.iload_n 1, 1) := by decide +kernel
theorem dX3_change_93 : decode cX3_change 93 = .ok (.bipush 16, 2) := by decide +kernel
theorem dX3_change_95 : decode cX3_change 95 = .ok (.isub, 1) := by decide +kernel
theorem dX3_change_96 : decode cX3_change 96 = .ok (.invokevirtual 64, 3) := by decide +kernel
theorem dX3_change_99 : decode cX3_change 99 = .ok (.ifCond .eq 33, 3) := by decide +kernel
theorem dX3_change_102 : decode cX3_change 102 = .ok (.aload_n 0, 1) := by decide +kernel
theorem dX3_change_103 : decode cX3_change 103 = .ok (.dup, 1) := by decide +kernel
theorem dX3_change_104 : decode cX3_change 104 = .ok (.getfield 29, 3) := by decide +kernel
theorem dX3_change_107 : decode cX3_change 107 = .ok (.iconst 1, 1) := by decide +kernel
theorem dX3_change_108 : decode cX3_change 108 = .ok (.iload_n 1, 1) := by decide +kernel
theorem dX3_change_109 : decode cX3_change 109 = .ok (.bipush 16, 2) := by decide +kernel
theorem dX3_change_111 : decode cX3_change 111 = .ok (.isub, 1) := by decide +kernel
theorem dX3_change_112 : decode cX3_change 112 = .ok (.ishl, 1) := by decide +kernel
theorem dX3_change_113 : decode cX3_change 113 = .ok (.iconst (-1), 1) := by decide +kernel
theorem dX3_change_114 : decode cX3_change 114 = .ok (.ixor, 1) := by decide +kernel
theorem dX3_change_115 : decode cX3_change 115 = .ok (.iand, 1) := by decide +kernel
theorem dX3_change_116 : decode cX3_change 116 = .ok (.putfield 29, 3) := by decide +kernel
theorem dX3_change_119 : decode cX3_change 119 = .ok (.aload_n 0, 1) := by decide +kernel
theorem dX3_change_120 : decode cX3_change 120 = .ok (.getfield 35, 3) := by decide +kernel
theorem dX3_change_123 : decode cX3_change 123 = .ok (.iload_n 1, 1) := by decide +kernel
theorem dX3_change_124 : decode cX3_change 124 = .ok (.bipush 16, 2) := by decide +kernel
theorem dX3_change_126 : decode cX3_change 126 = .ok (.isub, 1) := by decide +kernel
theorem dX3_change_127 : decode cX3_change 127 = .ok (.aload_n 0, 1) := by decide +kernel
theorem dX3_change_128 : decode cX3_change 128 = .ok (.getfield 25, 3) := by decide +kernel
theorem dX3_change_131 : decode cX3_change 131 = .ok (.iastore, 1) := by decide +kernel
theorem dX3_change_132 : decode cX3_change 132 = .ok (.return_, 1) := by decide +kernel
theorem dX3_goBackTo_0 : decode cX3_goBackTo 0 = .ok (.aload_n 0, 1) := by decide +kernel
theorem dX3_goBackTo_1 : decode cX3_goBackTo 1 = .ok (.iconst 0, 1) := by decide +kernel
theorem dX3_goBackTo_2 : decode cX3_goBackTo 2 = .ok (.putfield 25, 3) := by decide +kernel
theorem dX3_goBackTo_5 : decode cX3_goBackTo 5 = .ok (.aload_n 0, 1) := by decide +kernel
theorem dX3_goBackTo_6 : decode cX3_goBackTo 6 = .ok (.iconst 0, 1) := by decide +kernel
theorem dX3_goBackTo_7 : decode cX3_goBackTo 7 = .ok (.putfield 29, 3) := by decide +kernel
theorem dX3_goBackTo_10 : decode cX3_goBackTo 10 = .ok (.aload_n 0, 1) := by decide +kernel
theorem dX3_goBackTo_11 : decode cX3_goBackTo 11 = .ok (.iconst 0, 1) := by decide +kernel
theorem dX3_goBackTo_12 : decode cX3_goBackTo 12 = .ok (.putfield 32, 3) := by decide +kernel
theorem dX3_goBackTo_15 : decode cX3_goBackTo 15 = .ok (.iconst 0, 1) := by decide +kernel
theorem dX3_goBackTo_16 : decode cX3_goBackTo 16 = .ok (.istore_n 2, 1) := by decide +kernel
theorem dX3_goBackTo_17 : decode cX3_goBackTo 17 = .ok (.iload_n 2, 1) := by decide +kernel
theorem dX3_goBackTo_18 : decode cX3_goBackTo 18 = .ok (.aload_n 0, 1) := by decide +kernel
theorem dX3_goBackTo_19 : decode cX3_goBackTo 19 = .ok (.getfield 12, 3) := by decide +kernel
theorem dX3_goBackTo_22 : decode cX3_goBackTo 22 = .ok (.getfield 46, 3) := by decide +kernel
theorem dX3_goBackTo_25 : decode cX3_goBackTo 25 = .ok (.if_icmp .ge 24, 3) := by decide +kernel
theorem dX3_goBackTo_28 : decode cX3_goBackTo 28 = .ok (.aload_n 0, 1) := by decide +kernel
theorem dX3_goBackTo_29 : decode cX3_goBackTo 29 = .ok (.getfield 35, 3) := by decide +kernel
theorem dX3_goBackTo_32 : decode cX3_goBackTo 32 = .ok (.iload_n 2, 1) := by decide +kernel
theorem dX3_goBackTo_33 : decode cX3_goBackTo 33 = .ok (.aload_n 0, 1) := by decide +kernel
theorem dX3_goBackTo_34 : decode cX3_goBackTo 34 = .ok (.getfield 12, 3) := by decide +kernel
theorem dX3_goBackTo_37 : decode cX3_goBackTo 37 = .ok (.getfield 59, 3) := by decide +kernel
theorem dX3_goBackTo_40 : decode cX3_goBackTo 40 = .ok (.iload_n 2, 1) := by decide +kernel
theorem dX3_goBackTo_41 : decode cX3_goBackTo 41 = .ok (.iaload, 1) := by decide +kernel
theorem dX3_goBackTo_42 : decode cX3_goBackTo 42 = .ok (.iastore, 1) := by decide +kernel
theorem dX3_goBackTo_43 : decode cX3_goBackTo 43 = .ok (.iinc 2 1, 3) := by decide +kernel
theorem dX3_goBackTo_46 : decode cX3_goBackTo 46 = .ok (.goto (-29), 3) := by decide +kernel
theorem dX3_goBackTo_49 : decode cX3_goBackTo 49 = .ok (.iconst 0, 1) := by decide +kernel
theorem dX3_goBackTo_50 : decode cX3_goBackTo 50 = .ok (.istore_n 2, 1) := by decide +kernel
theorem dX3_goBackTo_51 : decode cX3_goBackTo 51 = .ok (.iload_n 2, 1) := by decide +kernel
theorem dX3_goBackTo_52 : decode cX3_goBackTo 52 = .ok (.iload_n 1, 1) := by decide +kernel
theorem dX3_goBackTo_53 : decode cX3_goBackTo 53 = .ok (.if_icmp .ge 28, 3) := by decide +kernel
theorem dX3_goBackTo_56 : decode cX3_goBackTo 56 = .ok (.iload_n 2, 1) := by decide +kernel
theorem dX3_goBackTo_57 : decode cX3_goBackTo 57 = .ok (.bipush 40, 2) := by decide +kernel
theorem dX3_goBackTo_59 : decode cX3_goBackTo 59 = .ok (.if_icmp .ge 22, 3) := by decide +kernel
theorem dX3_goBackTo_62 : decode cX3_goBackTo 62 = .ok (.aload_n 0, 1) := by decide +kernel
theorem dX3_goBackTo_63 : decode cX3_goBackTo 63 = .ok (.aload_n 0, 1) := by decide +kernel
theorem dX3_goBackTo_64 : decode cX3_goBackTo 64 = .ok (.getfield 21, 3) := by decide +kernel
theorem dX3_goBackTo_67 : decode cX3_goBackTo 67 = .ok (.getfield 52, 3) := by decide +kernel
theorem dX3_goBackTo_70 : decode cX3_goBackTo 70 = .ok (.iload_n 2, 1) := by decide +kernel
theorem dX3_goBackTo_71 : decode cX3_goBackTo 71 = .ok (.iaload, 1) := by decide +kernel
theorem dX3_goBackTo_72 : decode cX3_goBackTo 72 = .ok (.invokevirtual 55, 3) := by decide +kernel
theorem dX3_goBackTo_75 : decode cX3_goBackTo 75 = .ok (.iinc 2 1, 3) := by decide +kernel
theorem dX3_goBackTo_78 : decode cX3_goBackTo 78 = .ok (.goto (-27), 3) := by decide +kernel
theorem dX3_goBackTo_81 : decode cX3_goBackTo 81 = .ok (.aload_n 0, 1) := by decide +kernel
theorem dX3_goBackTo_82 : decode cX3_goBackTo 82 = .ok (.getfield 21, 3) := by decide +kernel
theorem dX3_goBackTo_85 : decode cX3_goBackTo 85 = .ok (.iload_n 1, 1) := by decide +kernel
theorem dX3_goBackTo_86 : decode cX3_goBackTo 86 = .ok (.putfield 39, 3) := by decide +kernel
theorem dX3_goBackTo_89 : decode cX3_goBackTo 89 = .ok (.return_, 1) := by decide +kernel
theorem dX4_street_0 : decode cX4_street 0 = .ok (.aload_n 0, 1) := by decide +kernel
theorem dX4_street_1 : decode cX4_street 1 = .ok (.iload_n 1, 1) := by decide +kernel
theorem dX4_street_2 : decode cX4_street 2 = .ok (.invokevirtual 98, 3) := by decide +kernel
theorem dX4_street_5 : decode cX4_street 5 = .ok (.astore_n 2, 1) := by decide +kernel
theorem dX4_street_6 : decode cX4_street 6 = .ok (.aload_n 0, 1) := by decide +kernel
theorem dX4_street_7 : decode cX4_street 7 = .ok (.aload_n 2, 1) := by decide +kernel
theorem dX4_street_8 : decode cX4_street 8 = .ok (.invokevirtual 71, 3) := by decide +kernel
theorem dX4_street_11 : decode cX4_street 11 = .ok (.istore_n 3, 1) := by decide +kernel
theorem dX4_street_12 : decode cX4_street 12 = .ok (.aload_n 2, 1) := by decide +kernel
theorem dX4_street_13 : decode cX4_street 13 = .ok (.ifnull 7, 3) := by decide +kernel
theorem dX4_street_16 : decode cX4_street 16 = .ok (.iload_n 3, 1) := by decide +kernel
theorem dX4_street_17 : decode cX4_street 17 = .ok (.ifCond .eq 5, 3) := by decide +kernel
theorem dX4_street_20 : decode cX4_street 20 = .ok (.iload_n 3, 1) := by decide +kernel
theorem dX4_street_21 : decode cX4_street 21 = .ok (.ireturn, 1) := by decide +kernel
theorem dX4_street_22 : decode cX4_street 22 = .ok (.aload_n 2, 1) := by decide +kernel
theorem dX4_street_23 : decode cX4_street 23 = .ok (.invokestatic 101, 3) := by decide +kernel
theorem dX4_street_26 : decode cX4_street 26 = .ok (.bipush (-9), 2) := by decide +kernel
theorem dX4_street_28 : decode cX4_street 28 = .ok (.if_icmp .eq 6, 3) := by decide +kernel
theorem dX4_street_31 : decode cX4_street 31 = .ok (.bipush (-4), 2) := by decide +kernel
theorem dX4_street_33 : decode cX4_street 33 = .ok (.ireturn, 1) := by decide +kernel
theorem dX4_street_34 : decode cX4_street 34 = .ok (.aload_n 0, 1) := by decide +kernel
theorem dX4_street_35 : decode cX4_street 35 = .ok (.getfield 27, 3) := by decide +kernel
theorem dX4_street_38 : decode cX4_street 38 = .ok (.getfield 104, 3) := by decide +kernel
theorem dX4_street_41 : decode cX4_street 41 = .ok (.aload_n 2, 1) := by decide +kernel
theorem dX4_street_42 : decode cX4_street 42 = .ok (.invokevirtual 108, 3) := by decide +kernel
theorem dX4_street_45 : decode cX4_street 45 = .ok (.aload_n 0, 1) := by decide +kernel
theorem dX4_street_46 : decode cX4_street 46 = .ok (.getfield 27, 3) := by decide +kernel
theorem dX4_street_49 : decode cX4_street 49 = .ok (.iconst 0, 1) := by decide +kernel
theorem dX4_street_50 : decode cX4_street 50 = .ok (.invokevirtual 114, 3) := by decide +kernel
theorem dX4_street_53 : decode cX4_street 53 = .ok (.iconst 0, 1) := by decide +kernel
theorem dX4_street_54 : decode cX4_street 54 = .ok (.istore 4, 2) := by decide +kernel
theorem dX4_street_56 : decode cX4_street 56 = .ok (.iload 4, 2) := by decide +kernel
theorem dX4_street_58 : decode cX4_street 58 = .ok (.iconst 3, 1) := by decide +kernel
theorem dX4_street_59 : decode cX4_street 59 = .ok (.if_icmp .ge 20, 3) := by decide +kernel
theorem dX4_street_62 : decode cX4_street 62 = .ok (.aload_n 0, 1) := by decide +kernel
theorem dX4_street_63 : decode cX4_street 63 = .ok (.getfield 20, 3) := by decide +kernel
theorem dX4_street_66 : decode cX4_street 66 = .ok (.iload 4, 2) := by decide +kernel
theorem dX4_street_68 : decode cX4_street 68 = .ok (.aaload, 1) := by decide +kernel
theorem dX4_street_69 : decode cX4_street 69 = .ok (.iconst (-1), 1) := by decide +kernel
theorem dX4_street_70 : decode cX4_street 70 = .ok (.putfield 118, 3) := by decide +kernel
theorem dX4_street_73 : decode cX4_street 73 = .ok (.iinc 4 1, 3) := by decide +kernel
theorem dX4_street_76 : decode cX4_street 76 = .ok (.goto (-20), 3) := by decide +kernel
theorem dX4_street_79 : decode cX4_street 79 = .ok (.aload_n 0, 1) := by decide +kernel
theorem dX4_street_80 : decode cX4_street 80 = .ok (.getfield 27, 3) := by decide +kernel
theorem dX4_street_83 : decode cX4_street 83 = .ok (.getfield 104, 3) := by decide +kernel
theorem dX4_street_86 : decode cX4_street 86 = .ok (.getfield 121, 3) := by decide +kernel
theorem dX4_street_89 : decode cX4_street 89 = .ok (.ireturn, 1) := by decide +kernel
theorem dX4_countThere_0 : decode cX4_countThere 0 = .ok (.iconst 0, 1) := by decide +kernel
theorem dX4_countThere_1 : decode cX4_countThere 1 = .ok (.istore_n 1, 1) := by decide +kernel
theorem dX4_countThere_2 : decode cX4_countThere 2 = .ok (.iconst 0, 1) := by decide +kernel
theorem dX4_countThere_3 : decode cX4_countThere 3 = .ok (.istore_n 2, 1) := by decide +kernel
theorem dX4_countThere_4 : decode cX4_countThere 4 = .ok (.iload_n 2, 1) := by decide +kernel
theorem dX4_countThere_5 : decode cX4_countThere 5 = .ok (.aload_n 0, 1) := by decide +kernel
theorem dX4_countThere_6 : decode cX4_countThere 6 = .ok (.arraylength, 1) := by decide +kernel
theorem dX4_countThere_7 : decode cX4_countThere 7 = .ok (.if_icmp .ge 21, 3) := by decide +kernel
theorem dX4_countThere_10 : decode cX4_countThere 10 = .ok (.aload_n 0, 1) := by decide +kernel
theorem dX4_countThere_11 : decode cX4_countThere 11 = .ok (.iload_n 2, 1) := by decide +kernel
theorem dX4_countThere_12 : decode cX4_countThere 12 = .ok (.aaload, 1) := by decide +kernel
theorem dX4_countThere_13 : decode cX4_countThere 13 = .ok (.invokevirtual 81, 3) := by decide +kernel
theorem dX4_countThere_16 : decode cX4_countThere 16 = .ok (.ifCond .ne 6, 3) := by decide +kernel
theorem dX4_countThere_19 : decode cX4_countThere 19 = .ok (.iinc 1 1, 3) := by decide +kernel
theorem dX4_countThere_22 : decode cX4_countThere 22 = .ok (.iinc 2 1, 3) := by decide +kernel
theorem dX4_countThere_25 : decode cX4_countThere 25 = .ok (.goto (-21), 3) := by decide +kernel
theorem dX4_countThere_28 : decode cX4_countThere 28 = .ok (.iload_n 1, 1) := by decide +kernel
theorem dX4_countThere_29 : decode cX4_countThere 29 = .ok (.ireturn, 1) := by decide +kernel
theorem dX4_countKept_0 : decode cX4_countKept 0 = .ok (.iconst 0, 1) := by decide +kernel
theorem dX4_countKept_1 : decode cX4_countKept 1 = .ok (.istore_n 1, 1) := by decide +kernel
theorem dX4_countKept_2 : decode cX4_countKept 2 = .ok (.iconst 0, 1) := by decide +kernel
theorem dX4_countKept_3 : decode cX4_countKept 3 = .ok (.istore_n 2, 1) := by decide +kernel
theorem dX4_countKept_4 : decode cX4_countKept 4 = .ok (.iload_n 2, 1) := by decide +kernel
theorem dX4_countKept_5 : decode cX4_countKept 5 = .ok (.iconst 3, 1) := by decide +kernel
theorem dX4_countKept_6 : decode cX4_countKept 6 = .ok (.if_icmp .ge 24, 3) := by decide +kernel
theorem dX4_countKept_9 : decode cX4_countKept 9 = .ok (.aload_n 0, 1) := by decide +kernel
theorem dX4_countKept_10 : decode cX4_countKept 10 = .ok (.getfield 20, 3) := by decide +kernel
theorem dX4_countKept_13 : decode cX4_countKept 13 = .ok (.iload_n 2, 1) := by decide +kernel
theorem dX4_countKept_14 : decode cX4_countKept 14 = .ok (.aaload, 1) := by decide +kernel
theorem dX4_countKept_15 : decode cX4_countKept 15 = .ok (.getfield 118, 3) := by decide +kernel
theorem dX4_countKept_18 : decode cX4_countKept 18 = .ok (.ifCond .lt 6, 3) := by decide +kernel
theorem dX4_countKept_21 : decode cX4_countKept 21 = .ok (.iinc 1 1, 3) := by decide +kernel
theorem dX4_countKept_24 : decode cX4_countKept 24 = .ok (.iinc 2 1, 3) := by decide +kernel
theorem dX4_countKept_27 : decode cX4_countKept 27 = .ok (.goto (-23), 3) := by decide +kernel
theorem dX4_countKept_30 : decode cX4_countKept 30 = .ok (.iload_n 1, 1) := by decide +kernel
theorem dX4_countKept_31 : decode cX4_countKept 31 = .ok (.ireturn, 1) := by decide +kernel
theorem dX4_isOf_0 : decode cX4_isOf 0 = .ok (.iload_n 0, 1) := by decide +kernel
theorem dX4_isOf_1 : decode cX4_isOf 1 = .ok (.iload_n 1, 1) := by decide +kernel
theorem dX4_isOf_2 : decode cX4_isOf 2 = .ok (.if_icmp .eq 27, 3) := by decide +kernel
theorem dX4_isOf_5 : decode cX4_isOf 5 = .ok (.iload_n 1, 1) := by decide +kernel
theorem dX4_isOf_6 : decode cX4_isOf 6 = .ok (.ifCond .eq 23, 3) := by decide +kernel
theorem dX4_isOf_9 : decode cX4_isOf 9 = .ok (.iload_n 0, 1) := by decide +kernel
theorem dX4_isOf_10 : decode cX4_isOf 10 = .ok (.iconst 4, 1) := by decide +kernel
theorem dX4_isOf_11 : decode cX4_isOf 11 = .ok (.if_icmp .ne 8, 3) := by decide +kernel
theorem dX4_isOf_14 : decode cX4_isOf 14 = .ok (.iload_n 1, 1) := by decide +kernel
theorem dX4_isOf_15 : decode cX4_isOf 15 = .ok (.iconst 2, 1) := by decide +kernel
theorem dX4_isOf_16 : decode cX4_isOf 16 = .ok (.if_icmp .eq 13, 3) := by decide +kernel
theorem dX4_isOf_19 : decode cX4_isOf 19 = .ok (.iload_n 0, 1) := by decide +kernel
theorem dX4_isOf_20 : decode cX4_isOf 20 = .ok (.iconst 5, 1) := by decide +kernel
theorem dX4_isOf_21 : decode cX4_isOf 21 = .ok (.if_icmp .ne 12, 3) := by decide +kernel
theorem dX4_isOf_24 : decode cX4_isOf 24 = .ok (.iload_n 1, 1) := by decide +kernel
theorem dX4_isOf_25 : decode cX4_isOf 25 = .ok (.iconst 1, 1) := by decide +kernel
theorem dX4_isOf_26 : decode cX4_isOf 26 = .ok (.if_icmp .ne 7, 3) := by decide +kernel
theorem dX4_isOf_29 : decode cX4_isOf 29 = .ok (.iconst 1, 1) := by decide +kernel
theorem dX4_isOf_30 : decode cX4_isOf 30 = .ok (.goto 4, 3) := by decide +kernel
theorem dX4_isOf_33 : decode cX4_isOf 33 = .ok (.iconst 0, 1) := by decide +kernel
theorem dX4_isOf_34 : decode cX4_isOf 34 = .ok (.ireturn, 1) := by decide +kernel
def f4_textAt (x1 : Int32) : Option (Option Nat) :=
    if x1 < 0 then ((some none))
    else (if (4 : Int32) ≤ x1 then ((some none))
    else ((rdR [6, 7, 8, 9] x1).bind fun q3 =>
    (some (some q3))))
set_option maxHeartbeats 4000000 in
set_option maxRecDepth 10000 in
theorem w4_textAt {ad : Nat → Nat} {X : XX} {R : Option Nat} {M : Mem} (h : Cx layC ad X cX4_textAt RX4 2 1 (some (.object "PinDuties$Cells")) M (some (rv ad R))) {x1 : Int32} (hF : f4_textAt x1 = some R) : Wp layC ad X M 0 [(0, .ref (ad 28)), (1, .int x1)] [] := by
  unfold f4_textAt at hF
  refine R_iload_n (pc := 0) h 1 rfl rfl dX4_textAt_0 ?_
  refine R_if_lt (pc := 1) (tgt := 18) h dX4_textAt_1 (by decide) (fun c1 => ?_) (fun c1 => ?_)
  · have hF := itp c1 hF
    refine R_null (pc := 18) h dX4_textAt_18 ?_
    cases hF
    exact R_areturn (pc := 19) h rfl (Or.inl rfl) rfl rfl dX4_textAt_19
  · have hF := ifn c1 hF
    refine R_iload_n (pc := 4) h 1 rfl rfl dX4_textAt_4 ?_
    refine R_iconst (pc := 5) (v := 4) h (by decide) dX4_textAt_5 ?_
    refine R_icmp_ge (pc := 6) (tgt := 18) h dX4_textAt_6 (by decide) (fun c2 => ?_) (fun c2 => ?_)
    · have hF := itp c2 hF
      refine R_null (pc := 18) h dX4_textAt_18 ?_
      cases hF
      exact R_areturn (pc := 19) h rfl (Or.inl rfl) rfl rfl dX4_textAt_19
    · have hF := ifn c2 hF
      refine R_aload_n (pc := 9) h 0 rfl rfl dX4_textAt_9 ?_
      refine R_getR (pc := 10) (q1 := 30) h flX4_15 lc_28 rfl dX4_textAt_10 ?_
      refine R_iload_n (pc := 13) h 1 rfl rfl dX4_textAt_13 ?_
      obtain ⟨q3, hq3, hF⟩ := bd hF
      refine R_aald (pc := 14) h hq3 (by decide) lc_30 dX4_textAt_14 ?_
      refine R_goto (pc := 15) (tgt := 19) h dX4_textAt_15 (by decide) ?_
      cases hF
      exact R_areturn (pc := 19) h rfl (Or.inr ⟨_, rfl⟩) rfl rfl dX4_textAt_19
theorem c4_textAt {ad : Nat → Nat} {z : ZZ} {R : Option Nat} {M : Mem} {x1 : Int32} (hF : f4_textAt x1 = some R) : Con layC ad z yX4_textAt cX4_textAt 2 (some (.object "PinDuties$Cells")) 1 M [.ref (ad 28), .int x1] (M) (some (rv ad R)) := con_of (own := RX4) (lv := [(0, .ref (ad 28)), (1, .int x1)]) (by decide +kernel) rfl (Nat.le_of_ble_eq_true rfl) rfl (fun X hz h => w4_textAt h hF)
def f4_makeCells_N (fu : Nat) (x2 : Int32) (x3 : Int32) (x4 : Int32) (M : Mem) : Option (Mem × Int32) :=
    (some (M, (-1 : Int32)))
set_option maxHeartbeats 4000000 in
set_option maxRecDepth 10000 in
theorem w4_makeCells_N {ad : Nat → Nat} {X : XX} {R : Mem × Int32} {fu : Nat} (h : Cx layC ad X cX4_makeCells RX4 5 1 (some .int) (R.1) (some (.int R.2))) {x2 : Int32} {x3 : Int32} {x4 : Int32} {M : Mem} (hF : f4_makeCells_N fu x2 x3 x4 M = some R) : Wp layC ad X M 0 [(0, .ref (ad 28)), (1, .null), (2, .int x2), (3, .int x3), (4, .int x4)] [] := by
  unfold f4_makeCells_N at hF
  refine R_aload_nN (pc := 0) h 1 rfl rfl dX4_makeCells_0 ?_
  refine R_ifnullN (pc := 1) (tgt := 9) h dX4_makeCells_1 (by decide) ?_
  refine R_iconst (pc := 9) (v := (-1)) h (by decide) dX4_makeCells_9 ?_
  cases hF
  exact R_ireturn (pc := 10) h rfl rfl rfl dX4_makeCells_10
theorem c4_makeCells_N {ad : Nat → Nat} {z : ZZ} {R : Mem × Int32} {fu : Nat} {x2 : Int32} {x3 : Int32} {x4 : Int32} {M : Mem} (hF : f4_makeCells_N fu x2 x3 x4 M = some R) : Con layC ad z yX4_makeCells cX4_makeCells 5 (some .int) 1 M [.ref (ad 28), .null, .int x2, .int x3, .int x4] (R.1) (some (.int R.2)) := con_of (own := RX4) (lv := [(0, .ref (ad 28)), (1, .null), (2, .int x2), (3, .int x3), (4, .int x4)]) (by decide +kernel) rfl (Nat.le_of_ble_eq_true rfl) rfl (fun X hz h => w4_makeCells_N h hF)
def f0_begin_15 (fu : Nat) : Nat → Nat → Int32 → Int32 → Mem → Option (Mem)
  | 0 => fun _ _ _ _ => none
  | f + 1 => fun px0 x2 x3 M =>
    (gd (decide (px0 < 10))).bind fun _ =>
    if (M.1 px0 0) ≤ x3 then ((some M))
    else ((wr M (px0 + 10) 60 x3 x2).bind fun M3 =>
    nm (x3 + (1 : Int32)) fun v4 =>
    ((f0_begin_15 fu f) px0 x2 v4 M3))
set_option maxHeartbeats 4000000 in
set_option maxRecDepth 10000 in
theorem w0_begini_15 {ad : Nat → Nat} {X : XX} {R : Mem} {fu : Nat}  (h : Cx layC ad X cX0_begin RX0 4 1 none (R) none)  : ∀ (f : Nat) (px0 : Nat) (x2 : Int32) (x3 : Int32) (M : Mem), f0_begin_15 fu f px0 x2 x3 M = some R → Wp layC ad X M 15 [(0, .ref (ad px0)), (2, .int x2), (3, .int x3)] [] := by
  intro f
  induction f with
  | zero => intro px0 x2 x3 M hF; exact absurd hF (by simp [f0_begin_15])
  | succ f ih =>
    intro px0 x2 x3 M hF
    rw [f0_begin_15] at hF
    refine R_iload_n (pc := 15) h 2 rfl rfl dX0_begin_15 ?_
    refine R_aload_n (pc := 16) h 0 rfl rfl dX0_begin_16 ?_
    obtain ⟨_, hg1, hF⟩ := bd hF
    have hg1 := of_decide_eq_true (gd_s hg1)
    refine R_getI (pc := 17) h flX0_9 (lyCells hg1) rfl dX0_begin_17 ?_
    refine R_icmp_ge (pc := 20) (tgt := 36) h dX0_begin_20 (by decide) (fun c2 => ?_) (fun c2 => ?_)
    · have hF := itp c2 hF
      cases hF
      exact R_return (pc := 36) h rfl rfl rfl dX0_begin_36
    · have hF := ifn c2 hF
      refine R_aload_n (pc := 23) h 0 rfl rfl dX0_begin_23 ?_
      refine R_getR (pc := 24) (q1 := px0 + 10) h flX0_15 (lyCells hg1) rfl dX0_begin_24 ?_
      refine R_iload_n (pc := 27) h 2 rfl rfl dX0_begin_27 ?_
      refine R_iload_n (pc := 28) h 1 rfl rfl dX0_begin_28 ?_
      obtain ⟨M3, hM3, hF⟩ := bd hF
      refine R_iast (pc := 29) h hM3 (lyCellsA hg1) dX0_begin_29 ?_
      obtain ⟨v4, hv4, hF⟩ := nm_e2 hF
      refine R_iinc (pc := 30) (lv' := [(3, .int v4), (0, .ref (ad px0)), (2, .int x2)]) h 2 rfl (by decide) hv4 (by decide) rfl dX0_begin_30 ?_
      refine R_goto (pc := 33) (tgt := 15) h dX0_begin_33 (by decide) ?_
      exact Wp_sub (nX := 0) (lv' := [(0, .ref (ad px0)), (2, .int x2), (3, .int v4)]) [1, 2, 0] rfl (ih _ _ _ _ hF)
theorem w0_begin_15 {ad : Nat → Nat} {X : XX} {R : Mem} {fu : Nat}  (h : Cx layC ad X cX0_begin RX0 4 1 none (R) none)  {f : Nat} {px0 : Nat} {x2 : Int32} {x3 : Int32} {M : Mem} (hF : f0_begin_15 fu f px0 x2 x3 M = some R) : Wp layC ad X M 15 [(0, .ref (ad px0)), (2, .int x2), (3, .int x3)] [] := w0_begini_15 h  f _ _ _ _ hF
def f0_begin (fu : Nat) (p0 : Nat) (x1 : Int32) (x2 : Int32) (M : Mem) : Option (Mem) :=
    (gd (decide (p0 < 10))).bind fun _ =>
    nm (sI M p0 0 (if (60 : Int32) < x1 then (60 : Int32) else x1)) fun M2 =>
    (f0_begin_15 fu fu p0 x2 (0 : Int32) M2)
set_option maxHeartbeats 4000000 in
set_option maxRecDepth 10000 in
theorem w0_begin {ad : Nat → Nat} {X : XX} {R : Mem} {fu : Nat} (h : Cx layC ad X cX0_begin RX0 4 1 none (R) none) {p0 : Nat} {x1 : Int32} {x2 : Int32} {M : Mem} (hF : f0_begin fu p0 x1 x2 M = some R) : Wp layC ad X M 0 [(0, .ref (ad p0)), (1, .int x1), (2, .int x2)] [] := by
  unfold f0_begin at hF
  refine R_aload_n (pc := 0) h 0 rfl rfl dX0_begin_0 ?_
  refine R_iload_n (pc := 1) h 1 rfl rfl dX0_begin_1 ?_
  refine R_aload_n (pc := 2) h 0 rfl rfl dX0_begin_2 ?_
  obtain ⟨_, hg1, hF⟩ := bd hF
  have hg1 := of_decide_eq_true (gd_s hg1)
  refine R_getR (pc := 3) (q1 := p0 + 10) h flX0_15 (lyCells hg1) rfl dX0_begin_3 ?_
  refine R_alen (pc := 6) (v := 60) h (by decide) (by decide) (lyCellsA hg1) dX0_begin_6 ?_
  refine R_mmin (pc := 7) h mlX0_19 (by decide) (Nat.le_of_ble_eq_true rfl) dX0_begin_7 ?_
  obtain ⟨M2, hM2, hF⟩ := nm_e2 hF
  refine R_putI (pc := 10) h hM2 fpX0_9 (lyCells hg1) rfl dX0_begin_10 ?_
  refine R_iconst (pc := 13) (v := 0) h (by decide) dX0_begin_13 ?_
  refine R_istore_n (pc := 14) (lv' := [(3, .int (0 : Int32)), (0, .ref (ad p0)), (1, .int x1), (2, .int x2)]) h rfl rfl (by decide) rfl dX0_begin_14 ?_
  exact Wp_sub (nX := 0) (lv' := [(0, .ref (ad p0)), (2, .int x2), (3, .int (0 : Int32))]) [1, 3, 0] rfl (w0_begin_15 h  (hF := hF))
theorem c0_begin {ad : Nat → Nat} {z : ZZ} {R : Mem} {fu : Nat} {p0 : Nat} {x1 : Int32} {x2 : Int32} {M : Mem} (hF : f0_begin fu p0 x1 x2 M = some R) : Con layC ad z yX0_begin cX0_begin 4 none 1 M [.ref (ad p0), .int x1, .int x2] (R) none := con_of (own := RX0) (lv := [(0, .ref (ad p0)), (1, .int x1), (2, .int x2)]) (by decide +kernel) rfl (Nat.le_of_ble_eq_true rfl) rfl (fun X hz h => w0_begin h hF)
def f4_find (x1 : Int32) (M : Mem) : Option (Mem × Int32) :=
    nm (sI M 28 5 x1) fun M1 =>
    if x1 < (1 : Int32) then ((some (M1, (-3 : Int32))))
    else (if (5 : Int32) < x1 then ((some (M1, (-3 : Int32))))
    else ((rd M1 32 6 x1).bind fun v4 =>
    (wr M1 32 6 x1 (v4 + (1 : Int32))).bind fun M5 =>
    (some (M5, (-3 : Int32)))))
set_option maxHeartbeats 4000000 in
set_option maxRecDepth 10000 in
theorem w4_find {ad : Nat → Nat} {X : XX} {R : Mem × Int32} (h : Cx layC ad X cX4_find RX4 2 1 (some .int) (R.1) (some (.int R.2))) {x1 : Int32} {M : Mem} (hF : f4_find x1 M = some R) : Wp layC ad X M 0 [(0, .ref (ad 28)), (1, .int x1)] [] := by
  unfold f4_find at hF
  refine R_aload_n (pc := 0) h 0 rfl rfl dX4_find_0 ?_
  refine R_iload_n (pc := 1) h 1 rfl rfl dX4_find_1 ?_
  obtain ⟨M1, hM1, hF⟩ := nm_e2 hF
  refine R_putI (pc := 2) h hM1 fpX4_35 lc_28 rfl dX4_find_2 ?_
  refine R_iload_n (pc := 5) h 1 rfl rfl dX4_find_5 ?_
  refine R_iconst (pc := 6) (v := 1) h (by decide) dX4_find_6 ?_
  refine R_icmp_lt (pc := 7) (tgt := 25) h dX4_find_7 (by decide) (fun c2 => ?_) (fun c2 => ?_)
  · have hF := itp c2 hF
    refine R_bipush (pc := 25) (v := (-3)) h (by decide) dX4_find_25 ?_
    cases hF
    exact R_ireturn (pc := 27) h rfl rfl rfl dX4_find_27
  · have hF := ifn c2 hF
    refine R_iload_n (pc := 10) h 1 rfl rfl dX4_find_10 ?_
    refine R_iconst (pc := 11) (v := 5) h (by decide) dX4_find_11 ?_
    refine R_icmp_gt (pc := 12) (tgt := 25) h dX4_find_12 (by decide) (fun c3 => ?_) (fun c3 => ?_)
    · have hF := itp c3 hF
      refine R_bipush (pc := 25) (v := (-3)) h (by decide) dX4_find_25 ?_
      cases hF
      exact R_ireturn (pc := 27) h rfl rfl rfl dX4_find_27
    · have hF := ifn c3 hF
      refine R_aload_n (pc := 15) h 0 rfl rfl dX4_find_15 ?_
      refine R_getR (pc := 16) (q1 := 32) h flX4_31 lc_28 rfl dX4_find_16 ?_
      refine R_iload_n (pc := 19) h 1 rfl rfl dX4_find_19 ?_
      refine R_dup2 (pc := 20) h rfl rfl dX4_find_20 ?_
      obtain ⟨v4, hv4, hF⟩ := bd hF
      refine R_iald (pc := 21) h hv4 lc_32 dX4_find_21 ?_
      refine R_iconst (pc := 22) (v := 1) h (by decide) dX4_find_22 ?_
      refine R_iadd (pc := 23) h dX4_find_23 ?_
      obtain ⟨M5, hM5, hF⟩ := bd hF
      refine R_iast (pc := 24) h hM5 lc_32 dX4_find_24 ?_
      refine R_bipush (pc := 25) (v := (-3)) h (by decide) dX4_find_25 ?_
      cases hF
      exact R_ireturn (pc := 27) h rfl rfl rfl dX4_find_27
theorem c4_find {ad : Nat → Nat} {z : ZZ} {R : Mem × Int32} {x1 : Int32} {M : Mem} (hF : f4_find x1 M = some R) : Con layC ad z yX4_find cX4_find 2 (some .int) 1 M [.ref (ad 28), .int x1] (R.1) (some (.int R.2)) := con_of (own := RX4) (lv := [(0, .ref (ad 28)), (1, .int x1)]) (by decide +kernel) rfl (Nat.le_of_ble_eq_true rfl) rfl (fun X hz h => w4_find h hF)
def f4_makeCells (fu : Nat) (p1 : Nat) (x2 : Int32) (x3 : Int32) (x4 : Int32) (M : Mem) : Option (Mem × Int32) :=
    if x2 ≤ x3 then (if 0 ≤ x2 then ((gd (decide (p1 < 10))).bind fun _ =>
    (f0_begin fu p1 x2 x4 M).bind fun M5 =>
    (some (M5, x2)))
    else ((f4_find (5 : Int32) M).bind fun ⟨M7, r8⟩ =>
    (some (M7, r8))))
    else ((some (M, (-1 : Int32))))
set_option maxHeartbeats 4000000 in
set_option maxRecDepth 10000 in
theorem w4_makeCells {ad : Nat → Nat} {X : XX} {R : Mem × Int32} {fu : Nat} (h : Cx layC ad X cX4_makeCells RX4 5 2 (some .int) (R.1) (some (.int R.2))) {p1 : Nat} {x2 : Int32} {x3 : Int32} {x4 : Int32} {M : Mem} (hF : f4_makeCells fu p1 x2 x3 x4 M = some R) : Wp layC ad X M 0 [(0, .ref (ad 28)), (1, .ref (ad p1)), (2, .int x2), (3, .int x3), (4, .int x4)] [] := by
  unfold f4_makeCells at hF
  refine R_aload_n (pc := 0) h 1 rfl rfl dX4_makeCells_0 ?_
  refine R_ifnull (pc := 1) h dX4_makeCells_1 ?_
  refine R_iload_n (pc := 4) h 2 rfl rfl dX4_makeCells_4 ?_
  refine R_iload_n (pc := 5) h 3 rfl rfl dX4_makeCells_5 ?_
  refine R_icmp_le (pc := 6) (tgt := 11) h dX4_makeCells_6 (by decide) (fun c1 => ?_) (fun c1 => ?_)
  · have hF := itp c1 hF
    refine R_iload_n (pc := 11) h 2 rfl rfl dX4_makeCells_11 ?_
    refine R_if_ge (pc := 12) (tgt := 21) h dX4_makeCells_12 (by decide) (fun c2 => ?_) (fun c2 => ?_)
    · have hF := itp c2 hF
      refine R_aload_n (pc := 21) h 1 rfl rfl dX4_makeCells_21 ?_
      refine R_iload_n (pc := 22) h 2 rfl rfl dX4_makeCells_22 ?_
      refine R_iload (pc := 23) h 4 rfl dX4_makeCells_23 ?_
      obtain ⟨_, hg3, hF⟩ := bd hF
      have hg3 := of_decide_eq_true (gd_s hg3)
      obtain ⟨M5, hc4, hF⟩ := bd hF
      refine R_callV (pc := 25) (st := []) h [.int x2, .int x4] cvX4_287 (c0_begin (ad := ad) (z := X.1) hc4) rfl rfl (lyCells hg3) (by decide) (by decide) (Nat.le_of_ble_eq_true rfl) dX4_makeCells_25 (st1 := []) rfl ?_
      refine R_iload_n (pc := 28) h 2 rfl rfl dX4_makeCells_28 ?_
      cases hF
      exact R_ireturn (pc := 29) h rfl rfl rfl dX4_makeCells_29
    · have hF := ifn c2 hF
      refine R_aload_n (pc := 15) h 0 rfl rfl dX4_makeCells_15 ?_
      refine R_iconst (pc := 16) (v := 5) h (by decide) dX4_makeCells_16 ?_
      obtain ⟨⟨M7, r8⟩, hc6, hF⟩ := bd hF
      refine R_callV (pc := 17) (st := []) h [.int (5 : Int32)] cvX4_78 (c4_find (ad := ad) (z := X.1) hc6) rfl rfl lc_28 (by decide) (by decide) (Nat.le_of_ble_eq_true rfl) dX4_makeCells_17 (st1 := [.int r8]) rfl ?_
      cases hF
      exact R_ireturn (pc := 20) h rfl rfl rfl dX4_makeCells_20
  · have hF := ifn c1 hF
    refine R_iconst (pc := 9) (v := (-1)) h (by decide) dX4_makeCells_9 ?_
    cases hF
    exact R_ireturn (pc := 10) h rfl rfl rfl dX4_makeCells_10
theorem c4_makeCells {ad : Nat → Nat} {z : ZZ} {R : Mem × Int32} {fu : Nat} {p1 : Nat} {x2 : Int32} {x3 : Int32} {x4 : Int32} {M : Mem} (hF : f4_makeCells fu p1 x2 x3 x4 M = some R) : Con layC ad z yX4_makeCells cX4_makeCells 5 (some .int) 2 M [.ref (ad 28), .ref (ad p1), .int x2, .int x3, .int x4] (R.1) (some (.int R.2)) := con_of (own := RX4) (lv := [(0, .ref (ad 28)), (1, .ref (ad p1)), (2, .int x2), (3, .int x3), (4, .int x4)]) (by decide +kernel) rfl (Nat.le_of_ble_eq_true rfl) rfl (fun X hz h => w4_makeCells h hF)
def f4_text (fu : Nat) (x1 : Int32) (x2 : Int32) (M : Mem) : Option (Mem × Int32) :=
    (f4_textAt x1).bind fun r2 =>
    oc r2 ((f4_makeCells_N fu x2 (60 : Int32) (32 : Int32) M).bind fun ⟨M5, r6⟩ =>
    (some (M5, r6)))
    fun q3 => (f4_makeCells fu q3 x2 (60 : Int32) (32 : Int32) M).bind fun ⟨M8, r9⟩ =>
    (some (M8, r9))
set_option maxHeartbeats 4000000 in
set_option maxRecDepth 10000 in
theorem w4_text {ad : Nat → Nat} {X : XX} {R : Mem × Int32} {fu : Nat} (h : Cx layC ad X cX4_text RX4 3 3 (some .int) (R.1) (some (.int R.2))) {x1 : Int32} {x2 : Int32} {M : Mem} (hF : f4_text fu x1 x2 M = some R) : Wp layC ad X M 0 [(0, .ref (ad 28)), (1, .int x1), (2, .int x2)] [] := by
  unfold f4_text at hF
  refine R_aload_n (pc := 0) h 0 rfl rfl dX4_text_0 ?_
  refine R_aload_n (pc := 1) h 0 rfl rfl dX4_text_1 ?_
  refine R_iload_n (pc := 2) h 1 rfl rfl dX4_text_2 ?_
  obtain ⟨r2, hc1, hF⟩ := bd hF
  rcases r2 with _ | q3
  · have hF := oc_n hF
    refine R_callV (pc := 3) (st := [.ref (ad 28)]) h [.int x1] cvX4_98 (c4_textAt (ad := ad) (z := X.1) (M := M) hc1) rfl rfl lc_28 (by decide) (by decide) (Nat.le_of_ble_eq_true rfl) dX4_text_3 (st1 := [.null, .ref (ad 28)]) rfl ?_
    refine R_iload_n (pc := 6) h 2 rfl rfl dX4_text_6 ?_
    refine R_bipush (pc := 7) (v := 60) h (by decide) dX4_text_7 ?_
    refine R_bipush (pc := 9) (v := 32) h (by decide) dX4_text_9 ?_
    obtain ⟨⟨M5, r6⟩, hc4, hF⟩ := bd hF
    refine R_callV (pc := 11) (st := []) h [.null, .int x2, .int (60 : Int32), .int (32 : Int32)] cvX4_55 (c4_makeCells_N (ad := ad) (z := X.1) hc4) rfl rfl lc_28 (by decide) (by decide) (Nat.le_of_ble_eq_true rfl) dX4_text_11 (st1 := [.int r6]) rfl ?_
    cases hF
    exact R_ireturn (pc := 14) h rfl rfl rfl dX4_text_14
  · have hF := oc_s hF
    refine R_callV (pc := 3) (st := [.ref (ad 28)]) h [.int x1] cvX4_98 (c4_textAt (ad := ad) (z := X.1) (M := M) hc1) rfl rfl lc_28 (by decide) (by decide) (Nat.le_of_ble_eq_true rfl) dX4_text_3 (st1 := [.ref (ad q3), .ref (ad 28)]) rfl ?_
    refine R_iload_n (pc := 6) h 2 rfl rfl dX4_text_6 ?_
    refine R_bipush (pc := 7) (v := 60) h (by decide) dX4_text_7 ?_
    refine R_bipush (pc := 9) (v := 32) h (by decide) dX4_text_9 ?_
    obtain ⟨⟨M8, r9⟩, hc7, hF⟩ := bd hF
    refine R_callV (pc := 11) (st := []) h [.ref (ad q3), .int x2, .int (60 : Int32), .int (32 : Int32)] cvX4_55 (c4_makeCells (ad := ad) (z := X.1) hc7) rfl rfl lc_28 (by decide) (by decide) (Nat.le_of_ble_eq_true rfl) dX4_text_11 (st1 := [.int r9]) rfl ?_
    cases hF
    exact R_ireturn (pc := 14) h rfl rfl rfl dX4_text_14
theorem c4_text {ad : Nat → Nat} {z : ZZ} {R : Mem × Int32} {fu : Nat} {x1 : Int32} {x2 : Int32} {M : Mem} (hF : f4_text fu x1 x2 M = some R) : Con layC ad z yX4_text cX4_text 3 (some .int) 3 M [.ref (ad 28), .int x1, .int x2] (R.1) (some (.int R.2)) := con_of (own := RX4) (lv := [(0, .ref (ad 28)), (1, .int x1), (2, .int x2)]) (by decide +kernel) rfl (Nat.le_of_ble_eq_true rfl) rfl (fun X hz h => w4_text h hF)
def f4_refuseMissing_N (M : Mem) : Option (Mem × Int32) :=
    (some (M, (-1 : Int32)))
set_option maxHeartbeats 4000000 in
set_option maxRecDepth 10000 in
theorem w4_refuseMissing_N {ad : Nat → Nat} {X : XX} {R : Mem × Int32} (h : Cx layC ad X cX4_refuseMissing RX4 2 1 (some .int) (R.1) (some (.int R.2))) {M : Mem} (hF : f4_refuseMissing_N M = some R) : Wp layC ad X M 0 [(0, .ref (ad 28)), (1, .null)] [] := by
  unfold f4_refuseMissing_N at hF
  refine R_aload_nN (pc := 0) h 1 rfl rfl dX4_refuseMissing_0 ?_
  refine R_ifnonnullN (pc := 1) h dX4_refuseMissing_1 ?_
  refine R_iconst (pc := 4) (v := (-1)) h (by decide) dX4_refuseMissing_4 ?_
  cases hF
  exact R_ireturn (pc := 5) h rfl rfl rfl dX4_refuseMissing_5
theorem c4_refuseMissing_N {ad : Nat → Nat} {z : ZZ} {R : Mem × Int32} {M : Mem} (hF : f4_refuseMissing_N M = some R) : Con layC ad z yX4_refuseMissing cX4_refuseMissing 2 (some .int) 1 M [.ref (ad 28), .null] (R.1) (some (.int R.2)) := con_of (own := RX4) (lv := [(0, .ref (ad 28)), (1, .null)]) (by decide +kernel) rfl (Nat.le_of_ble_eq_true rfl) rfl (fun X hz h => w4_refuseMissing_N h hF)
def f0_isMissing (M : Mem) (p0 : Nat) : Option (Int32) :=
    (gd (decide (p0 < 10))).bind fun _ =>
    if 0 ≤ (M.1 p0 0) then ((some (0 : Int32)))
    else ((some (1 : Int32)))
set_option maxHeartbeats 4000000 in
set_option maxRecDepth 10000 in
theorem w0_isMissing {ad : Nat → Nat} {X : XX} {R : Int32} {M : Mem} (h : Cx layC ad X cX0_isMissing RX0 1 1 (some .boolean) M (some (.int R))) {p0 : Nat} (hF : f0_isMissing M p0 = some R) : Wp layC ad X M 0 [(0, .ref (ad p0))] [] := by
  unfold f0_isMissing at hF
  refine R_aload_n (pc := 0) h 0 rfl rfl dX0_isMissing_0 ?_
  obtain ⟨_, hg1, hF⟩ := bd hF
  have hg1 := of_decide_eq_true (gd_s hg1)
  refine R_getI (pc := 1) h flX0_9 (lyCells hg1) rfl dX0_isMissing_1 ?_
  refine R_if_ge (pc := 4) (tgt := 11) h dX0_isMissing_4 (by decide) (fun c2 => ?_) (fun c2 => ?_)
  · have hF := itp c2 hF
    refine R_iconst (pc := 11) (v := 0) h (by decide) dX0_isMissing_11 ?_
    cases hF
    exact R_zreturn (pc := 12) h rfl zr0 rfl rfl dX0_isMissing_12
  · have hF := ifn c2 hF
    refine R_iconst (pc := 7) (v := 1) h (by decide) dX0_isMissing_7 ?_
    refine R_goto (pc := 8) (tgt := 12) h dX0_isMissing_8 (by decide) ?_
    cases hF
    exact R_zreturn (pc := 12) h rfl zr1 rfl rfl dX0_isMissing_12
theorem c0_isMissing {ad : Nat → Nat} {z : ZZ} {R : Int32} {M : Mem} {p0 : Nat} (hF : f0_isMissing M p0 = some R) : Con layC ad z yX0_isMissing cX0_isMissing 1 (some .boolean) 1 M [.ref (ad p0)] (M) (some (.int R)) := con_of (own := RX0) (lv := [(0, .ref (ad p0))]) (by decide +kernel) rfl (Nat.le_of_ble_eq_true rfl) rfl (fun X hz h => w0_isMissing h hF)
def f4_refuseMissing (p1 : Nat) (M : Mem) : Option (Mem × Int32) :=
    (gd (decide (p1 < 10))).bind fun _ =>
    (f0_isMissing M p1).bind fun r3 =>
    if r3 = 0 then ((some (M, (0 : Int32))))
    else ((f4_find (1 : Int32) M).bind fun ⟨M6, r7⟩ =>
    (some (M6, r7)))
set_option maxHeartbeats 4000000 in
set_option maxRecDepth 10000 in
theorem w4_refuseMissing {ad : Nat → Nat} {X : XX} {R : Mem × Int32} (h : Cx layC ad X cX4_refuseMissing RX4 2 2 (some .int) (R.1) (some (.int R.2))) {p1 : Nat} {M : Mem} (hF : f4_refuseMissing p1 M = some R) : Wp layC ad X M 0 [(0, .ref (ad 28)), (1, .ref (ad p1))] [] := by
  unfold f4_refuseMissing at hF
  refine R_aload_n (pc := 0) h 1 rfl rfl dX4_refuseMissing_0 ?_
  refine R_ifnonnull (pc := 1) (tgt := 6) h dX4_refuseMissing_1 (by decide) ?_
  refine R_aload_n (pc := 6) h 1 rfl rfl dX4_refuseMissing_6 ?_
  obtain ⟨_, hg1, hF⟩ := bd hF
  have hg1 := of_decide_eq_true (gd_s hg1)
  obtain ⟨r3, hc2, hF⟩ := bd hF
  refine R_callV (pc := 7) (st := []) h [] cvX4_81 (c0_isMissing (ad := ad) (z := X.1) hc2) rfl rfl (lyCells hg1) (by decide) (by decide) (Nat.le_of_ble_eq_true rfl) dX4_refuseMissing_7 (st1 := [.int r3]) rfl ?_
  refine R_if_eq (pc := 10) (tgt := 21) h dX4_refuseMissing_10 (by decide) (fun c4 => ?_) (fun c4 => ?_)
  · have hF := itp c4 hF
    refine R_iconst (pc := 21) (v := 0) h (by decide) dX4_refuseMissing_21 ?_
    cases hF
    exact R_ireturn (pc := 22) h rfl rfl rfl dX4_refuseMissing_22
  · have hF := ifn c4 hF
    refine R_aload_n (pc := 13) h 0 rfl rfl dX4_refuseMissing_13 ?_
    refine R_iconst (pc := 14) (v := 1) h (by decide) dX4_refuseMissing_14 ?_
    obtain ⟨⟨M6, r7⟩, hc5, hF⟩ := bd hF
    refine R_callV (pc := 15) (st := []) h [.int (1 : Int32)] cvX4_78 (c4_find (ad := ad) (z := X.1) hc5) rfl rfl lc_28 (by decide) (by decide) (Nat.le_of_ble_eq_true rfl) dX4_refuseMissing_15 (st1 := [.int r7]) rfl ?_
    refine R_goto (pc := 18) (tgt := 22) h dX4_refuseMissing_18 (by decide) ?_
    cases hF
    exact R_ireturn (pc := 22) h rfl rfl rfl dX4_refuseMissing_22
theorem c4_refuseMissing {ad : Nat → Nat} {z : ZZ} {R : Mem × Int32} {p1 : Nat} {M : Mem} (hF : f4_refuseMissing p1 M = some R) : Con layC ad z yX4_refuseMissing cX4_refuseMissing 2 (some .int) 2 M [.ref (ad 28), .ref (ad p1)] (R.1) (some (.int R.2)) := con_of (own := RX4) (lv := [(0, .ref (ad 28)), (1, .ref (ad p1))]) (by decide +kernel) rfl (Nat.le_of_ble_eq_true rfl) rfl (fun X hz h => w4_refuseMissing h hF)
def f0_cellAt (M : Mem) (p0 : Nat) (x1 : Int32) : Option (Int32) :=
    if x1 < 0 then ((some (0 : Int32)))
    else ((gd (decide (p0 < 10))).bind fun _ =>
    if (60 : Int32) ≤ x1 then ((some (0 : Int32)))
    else ((rd M (p0 + 10) 60 x1).bind fun v4 =>
    (some v4)))
set_option maxHeartbeats 4000000 in
set_option maxRecDepth 10000 in
theorem w0_cellAt {ad : Nat → Nat} {X : XX} {R : Int32} {M : Mem} (h : Cx layC ad X cX0_cellAt RX0 2 1 (some .int) M (some (.int R))) {p0 : Nat} {x1 : Int32} (hF : f0_cellAt M p0 x1 = some R) : Wp layC ad X M 0 [(0, .ref (ad p0)), (1, .int x1)] [] := by
  unfold f0_cellAt at hF
  refine R_iload_n (pc := 0) h 1 rfl rfl dX0_cellAt_0 ?_
  refine R_if_lt (pc := 1) (tgt := 22) h dX0_cellAt_1 (by decide) (fun c1 => ?_) (fun c1 => ?_)
  · have hF := itp c1 hF
    refine R_iconst (pc := 22) (v := 0) h (by decide) dX0_cellAt_22 ?_
    cases hF
    exact R_ireturn (pc := 23) h rfl rfl rfl dX0_cellAt_23
  · have hF := ifn c1 hF
    refine R_iload_n (pc := 4) h 1 rfl rfl dX0_cellAt_4 ?_
    refine R_aload_n (pc := 5) h 0 rfl rfl dX0_cellAt_5 ?_
    obtain ⟨_, hg2, hF⟩ := bd hF
    have hg2 := of_decide_eq_true (gd_s hg2)
    refine R_getR (pc := 6) (q1 := p0 + 10) h flX0_15 (lyCells hg2) rfl dX0_cellAt_6 ?_
    refine R_alen (pc := 9) (v := 60) h (by decide) (by decide) (lyCellsA hg2) dX0_cellAt_9 ?_
    refine R_icmp_ge (pc := 10) (tgt := 22) h dX0_cellAt_10 (by decide) (fun c3 => ?_) (fun c3 => ?_)
    · have hF := itp c3 hF
      refine R_iconst (pc := 22) (v := 0) h (by decide) dX0_cellAt_22 ?_
      cases hF
      exact R_ireturn (pc := 23) h rfl rfl rfl dX0_cellAt_23
    · have hF := ifn c3 hF
      refine R_aload_n (pc := 13) h 0 rfl rfl dX0_cellAt_13 ?_
      refine R_getR (pc := 14) (q1 := p0 + 10) h flX0_15 (lyCells hg2) rfl dX0_cellAt_14 ?_
      refine R_iload_n (pc := 17) h 1 rfl rfl dX0_cellAt_17 ?_
      obtain ⟨v4, hv4, hF⟩ := bd hF
      refine R_iald (pc := 18) h hv4 (lyCellsA hg2) dX0_cellAt_18 ?_
      refine R_goto (pc := 19) (tgt := 23) h dX0_cellAt_19 (by decide) ?_
      cases hF
      exact R_ireturn (pc := 23) h rfl rfl rfl dX0_cellAt_23
theorem c0_cellAt {ad : Nat → Nat} {z : ZZ} {R : Int32} {M : Mem} {p0 : Nat} {x1 : Int32} (hF : f0_cellAt M p0 x1 = some R) : Con layC ad z yX0_cellAt cX0_cellAt 2 (some .int) 1 M [.ref (ad p0), .int x1] (M) (some (.int R)) := con_of (own := RX0) (lv := [(0, .ref (ad p0)), (1, .int x1)]) (by decide +kernel) rfl (Nat.le_of_ble_eq_true rfl) rfl (fun X hz h => w0_cellAt h hF)
def f4_kindOfLetter_2 (M : Mem) (fu : Nat) : Nat → Int32 → Int32 → Option (Int32)
  | 0 => fun _ _ => none
  | f + 1 => fun x0 x1 =>
    if (6 : Int32) ≤ x1 then ((some (-9 : Int32)))
    else ((rdT x1).bind fun v2 =>
    if v2 = x0 then ((some x1))
    else (nm (x1 + (1 : Int32)) fun v4 =>
    ((f4_kindOfLetter_2 M fu f) x0 v4)))
set_option maxHeartbeats 4000000 in
set_option maxRecDepth 10000 in
theorem w4_kindOfLetteri_2 {ad : Nat → Nat} {X : XX} {R : Int32} {M : Mem} {fu : Nat}  (h : Cx layC ad X cX4_kindOfLetter RX4 2 1 (some .int) M (some (.int R)))  : ∀ (f : Nat) (x0 : Int32) (x1 : Int32), f4_kindOfLetter_2 M fu f x0 x1 = some R → Wp layC ad X M 2 [(0, .int x0), (1, .int x1)] [] := by
  intro f
  induction f with
  | zero => intro x0 x1 hF; exact absurd hF (by simp [f4_kindOfLetter_2])
  | succ f ih =>
    intro x0 x1 hF
    rw [f4_kindOfLetter_2] at hF
    refine R_iload_n (pc := 2) h 1 rfl rfl dX4_kindOfLetter_2 ?_
    refine R_bipush (pc := 3) (v := 6) h (by decide) dX4_kindOfLetter_3 ?_
    refine R_icmp_ge (pc := 5) (tgt := 25) h dX4_kindOfLetter_5 (by decide) (fun c1 => ?_) (fun c1 => ?_)
    · have hF := itp c1 hF
      refine R_bipush (pc := 25) (v := (-9)) h (by decide) dX4_kindOfLetter_25 ?_
      cases hF
      exact R_ireturn (pc := 27) h rfl rfl rfl dX4_kindOfLetter_27
    · have hF := ifn c1 hF
      refine R_gets (pc := 8) h gsX4_308 dX4_kindOfLetter_8 ?_
      refine R_iload_n (pc := 11) h 1 rfl rfl dX4_kindOfLetter_11 ?_
      obtain ⟨v2, hv2, hF⟩ := bd hF
      refine R_tld (pc := 12) h hv2 dX4_kindOfLetter_12 ?_
      refine R_iload_n (pc := 13) h 0 rfl rfl dX4_kindOfLetter_13 ?_
      refine R_icmp_ne (pc := 14) (tgt := 19) h dX4_kindOfLetter_14 (by decide) (fun c3 => ?_) (fun c3 => ?_)
      · have hF := ifn c3 hF
        obtain ⟨v4, hv4, hF⟩ := nm_e2 hF
        refine R_iinc (pc := 19) (lv' := [(1, .int v4), (0, .int x0)]) h 1 rfl (by decide) hv4 (by decide) rfl dX4_kindOfLetter_19 ?_
        refine R_goto (pc := 22) (tgt := 2) h dX4_kindOfLetter_22 (by decide) ?_
        exact Wp_sub (nX := 0) (lv' := [(0, .int x0), (1, .int v4)]) [1, 0] rfl (ih _ _ hF)
      · have hF := itp c3 hF
        refine R_iload_n (pc := 17) h 1 rfl rfl dX4_kindOfLetter_17 ?_
        cases hF
        exact R_ireturn (pc := 18) h rfl rfl rfl dX4_kindOfLetter_18
theorem w4_kindOfLetter_2 {ad : Nat → Nat} {X : XX} {R : Int32} {M : Mem} {fu : Nat}  (h : Cx layC ad X cX4_kindOfLetter RX4 2 1 (some .int) M (some (.int R)))  {f : Nat} {x0 : Int32} {x1 : Int32} (hF : f4_kindOfLetter_2 M fu f x0 x1 = some R) : Wp layC ad X M 2 [(0, .int x0), (1, .int x1)] [] := w4_kindOfLetteri_2 h  f _ _ hF
def f4_kindOfLetter (M : Mem) (fu : Nat) (x0 : Int32) : Option (Int32) :=
    (f4_kindOfLetter_2 M fu fu x0 (0 : Int32))
set_option maxHeartbeats 4000000 in
set_option maxRecDepth 10000 in
theorem w4_kindOfLetter {ad : Nat → Nat} {X : XX} {R : Int32} {M : Mem} {fu : Nat} (h : Cx layC ad X cX4_kindOfLetter RX4 2 1 (some .int) M (some (.int R))) {x0 : Int32} (hF : f4_kindOfLetter M fu x0 = some R) : Wp layC ad X M 0 [(0, .int x0)] [] := by
  unfold f4_kindOfLetter at hF
  refine R_iconst (pc := 0) (v := 0) h (by decide) dX4_kindOfLetter_0 ?_
  refine R_istore_n (pc := 1) (lv' := [(1, .int (0 : Int32)), (0, .int x0)]) h rfl rfl (by decide) rfl dX4_kindOfLetter_1 ?_
  exact Wp_sub (nX := 0) (lv' := [(0, .int x0), (1, .int (0 : Int32))]) [1, 0] rfl (w4_kindOfLetter_2 h  (hF := hF))
theorem c4_kindOfLetter {ad : Nat → Nat} {z : ZZ} {R : Int32} {M : Mem} {fu : Nat} {x0 : Int32} (hF : f4_kindOfLetter M fu x0 = some R) : Con layC ad z yX4_kindOfLetter cX4_kindOfLetter 2 (some .int) 1 M [.int x0] (M) (some (.int R)) := con_of (own := RX4) (lv := [(0, .int x0)]) (by decide +kernel) rfl (Nat.le_of_ble_eq_true rfl) rfl (fun X hz h => w4_kindOfLetter h hF)
def f4_isSign (M : Mem) (fu : Nat) (x0 : Int32) (x1 : Int32) : Option (Int32) :=
    if x0 = 0 then ((f4_kindOfLetter M fu x1).bind fun r3 =>
    if r3 = (-9 : Int32) then ((some (0 : Int32)))
    else ((some (1 : Int32))))
    else (nm (x1 - (48 : Int32)) fun v5 =>
    if x0 = (3 : Int32) then (if v5 < (1 : Int32) then ((some (0 : Int32)))
    else (if (4 : Int32) < v5 then ((some (0 : Int32)))
    else ((some (1 : Int32)))))
    else (if v5 < 0 then ((some (0 : Int32)))
    else (if (9 : Int32) < v5 then ((some (0 : Int32)))
    else ((some (1 : Int32))))))
set_option maxHeartbeats 4000000 in
set_option maxRecDepth 10000 in
theorem w4_isSign {ad : Nat → Nat} {X : XX} {R : Int32} {M : Mem} {fu : Nat} (h : Cx layC ad X cX4_isSign RX4 3 2 (some .boolean) M (some (.int R))) {x0 : Int32} {x1 : Int32} (hF : f4_isSign M fu x0 x1 = some R) : Wp layC ad X M 0 [(0, .int x0), (1, .int x1)] [] := by
  unfold f4_isSign at hF
  refine R_iload_n (pc := 0) h 0 rfl rfl dX4_isSign_0 ?_
  refine R_if_ne (pc := 1) (tgt := 19) h dX4_isSign_1 (by decide) (fun c1 => ?_) (fun c1 => ?_)
  · have hF := ifn c1 hF
    refine R_iload_n (pc := 19) h 1 rfl rfl dX4_isSign_19 ?_
    refine R_bipush (pc := 20) (v := 48) h (by decide) dX4_isSign_20 ?_
    refine R_isub (pc := 22) h dX4_isSign_22 ?_
    obtain ⟨v5, hv5, hF⟩ := nm_e2 hF
    refine R_istore_n (pc := 23) (lv' := [(2, .int v5), (0, .int x0), (1, .int x1)]) h hv5 rfl (by decide) rfl dX4_isSign_23 ?_
    refine R_iload_n (pc := 24) h 1 rfl rfl dX4_isSign_24 ?_
    refine R_iconst (pc := 25) (v := 3) h (by decide) dX4_isSign_25 ?_
    refine R_icmp_ne (pc := 26) (tgt := 47) h dX4_isSign_26 (by decide) (fun c6 => ?_) (fun c6 => ?_)
    · have hF := ifn c6 hF
      refine R_iload_n (pc := 47) h 0 rfl rfl dX4_isSign_47 ?_
      refine R_if_lt (pc := 48) (tgt := 61) h dX4_isSign_48 (by decide) (fun c9 => ?_) (fun c9 => ?_)
      · have hF := itp c9 hF
        refine R_iconst (pc := 61) (v := 0) h (by decide) dX4_isSign_61 ?_
        cases hF
        exact R_zreturn (pc := 62) h rfl zr0 rfl rfl dX4_isSign_62
      · have hF := ifn c9 hF
        refine R_iload_n (pc := 51) h 0 rfl rfl dX4_isSign_51 ?_
        refine R_bipush (pc := 52) (v := 9) h (by decide) dX4_isSign_52 ?_
        refine R_icmp_gt (pc := 54) (tgt := 61) h dX4_isSign_54 (by decide) (fun c10 => ?_) (fun c10 => ?_)
        · have hF := itp c10 hF
          refine R_iconst (pc := 61) (v := 0) h (by decide) dX4_isSign_61 ?_
          cases hF
          exact R_zreturn (pc := 62) h rfl zr0 rfl rfl dX4_isSign_62
        · have hF := ifn c10 hF
          refine R_iconst (pc := 57) (v := 1) h (by decide) dX4_isSign_57 ?_
          refine R_goto (pc := 58) (tgt := 62) h dX4_isSign_58 (by decide) ?_
          cases hF
          exact R_zreturn (pc := 62) h rfl zr1 rfl rfl dX4_isSign_62
    · have hF := itp c6 hF
      refine R_iload_n (pc := 29) h 0 rfl rfl dX4_isSign_29 ?_
      refine R_iconst (pc := 30) (v := 1) h (by decide) dX4_isSign_30 ?_
      refine R_icmp_lt (pc := 31) (tgt := 43) h dX4_isSign_31 (by decide) (fun c7 => ?_) (fun c7 => ?_)
      · have hF := itp c7 hF
        refine R_iconst (pc := 43) (v := 0) h (by decide) dX4_isSign_43 ?_
        refine R_goto (pc := 44) (tgt := 62) h dX4_isSign_44 (by decide) ?_
        cases hF
        exact R_zreturn (pc := 62) h rfl zr0 rfl rfl dX4_isSign_62
      · have hF := ifn c7 hF
        refine R_iload_n (pc := 34) h 0 rfl rfl dX4_isSign_34 ?_
        refine R_iconst (pc := 35) (v := 4) h (by decide) dX4_isSign_35 ?_
        refine R_icmp_gt (pc := 36) (tgt := 43) h dX4_isSign_36 (by decide) (fun c8 => ?_) (fun c8 => ?_)
        · have hF := itp c8 hF
          refine R_iconst (pc := 43) (v := 0) h (by decide) dX4_isSign_43 ?_
          refine R_goto (pc := 44) (tgt := 62) h dX4_isSign_44 (by decide) ?_
          cases hF
          exact R_zreturn (pc := 62) h rfl zr0 rfl rfl dX4_isSign_62
        · have hF := ifn c8 hF
          refine R_iconst (pc := 39) (v := 1) h (by decide) dX4_isSign_39 ?_
          refine R_goto (pc := 40) (tgt := 62) h dX4_isSign_40 (by decide) ?_
          cases hF
          exact R_zreturn (pc := 62) h rfl zr1 rfl rfl dX4_isSign_62
  · have hF := itp c1 hF
    refine R_iload_n (pc := 4) h 1 rfl rfl dX4_isSign_4 ?_
    obtain ⟨r3, hc2, hF⟩ := bd hF
    refine R_callS (pc := 5) (st := []) h [.int x1] csX4_314 (c4_kindOfLetter (ad := ad) (z := X.1) hc2) rfl rfl (by decide) (by decide) (Nat.le_of_ble_eq_true rfl) dX4_isSign_5 (st1 := [.int r3]) rfl ?_
    refine R_bipush (pc := 8) (v := (-9)) h (by decide) dX4_isSign_8 ?_
    refine R_icmp_eq (pc := 10) (tgt := 17) h dX4_isSign_10 (by decide) (fun c4 => ?_) (fun c4 => ?_)
    · have hF := itp c4 hF
      refine R_iconst (pc := 17) (v := 0) h (by decide) dX4_isSign_17 ?_
      cases hF
      exact R_zreturn (pc := 18) h rfl zr0 rfl rfl dX4_isSign_18
    · have hF := ifn c4 hF
      refine R_iconst (pc := 13) (v := 1) h (by decide) dX4_isSign_13 ?_
      refine R_goto (pc := 14) (tgt := 18) h dX4_isSign_14 (by decide) ?_
      cases hF
      exact R_zreturn (pc := 18) h rfl zr1 rfl rfl dX4_isSign_18
theorem c4_isSign {ad : Nat → Nat} {z : ZZ} {R : Int32} {M : Mem} {fu : Nat} {x0 : Int32} {x1 : Int32} (hF : f4_isSign M fu x0 x1 = some R) : Con layC ad z yX4_isSign cX4_isSign 3 (some .boolean) 2 M [.int x0, .int x1] (M) (some (.int R)) := con_of (own := RX4) (lv := [(0, .int x0), (1, .int x1)]) (by decide +kernel) rfl (Nat.le_of_ble_eq_true rfl) rfl (fun X hz h => w4_isSign h hF)
def f4_firstFault_32 (M : Mem) (fu : Nat) (k6 : Nat → Int32 → Int32 → Int32 → Option (Int32)) (px0 : Nat) (x1 : Int32) (x2 : Int32) (x3 : Int32) (x4 : Int32) : Option (Int32) :=
    if (8 : Int32) ≤ x1 then ((some x3))
    else ((f4_isSign M fu x2 x4).bind fun r3 =>
    if r3 = 0 then ((some x3))
    else (nm (x2 + (1 : Int32)) fun v5 =>
    if v5 = (5 : Int32) then (nm (x1 + (1 : Int32)) fun v7 =>
    nm (x3 + (1 : Int32)) fun v8 =>
    (k6 px0 v7 (0 : Int32) v8))
    else (nm (x3 + (1 : Int32)) fun v9 =>
    (k6 px0 x1 v5 v9))))
set_option maxHeartbeats 4000000 in
set_option maxRecDepth 10000 in
theorem w4_firstFault_32 {ad : Nat → Nat} {X : XX} {R : Int32} {M : Mem} {fu : Nat} {k6 : Nat → Int32 → Int32 → Int32 → Option (Int32)} (h : Cx layC ad X cX4_firstFault RX4 5 3 (some .int) M (some (.int R))) (hk6 : ∀ (px0 : Nat) (x1 : Int32) (x2 : Int32) (x3 : Int32), k6 px0 x1 x2 x3 = some R → Wp layC ad X M 6 [(0, .ref (ad px0)), (1, .int x1), (2, .int x2), (3, .int x3)] []) {px0 : Nat} {x1 : Int32} {x2 : Int32} {x3 : Int32} {x4 : Int32} (hF : f4_firstFault_32 M fu k6 px0 x1 x2 x3 x4 = some R) : Wp layC ad X M 32 [(0, .ref (ad px0)), (1, .int x1), (2, .int x2), (3, .int x3), (4, .int x4)] [] := by
  unfold f4_firstFault_32 at hF
  refine R_iload_n (pc := 32) h 1 rfl rfl dX4_firstFault_32 ?_
  refine R_bipush (pc := 33) (v := 8) h (by decide) dX4_firstFault_33 ?_
  refine R_icmp_ge (pc := 35) (tgt := 47) h dX4_firstFault_35 (by decide) (fun c1 => ?_) (fun c1 => ?_)
  · have hF := itp c1 hF
    refine R_iload_n (pc := 47) h 3 rfl rfl dX4_firstFault_47 ?_
    cases hF
    exact R_ireturn (pc := 48) h rfl rfl rfl dX4_firstFault_48
  · have hF := ifn c1 hF
    refine R_iload_n (pc := 38) h 2 rfl rfl dX4_firstFault_38 ?_
    refine R_iload (pc := 39) h 4 rfl dX4_firstFault_39 ?_
    obtain ⟨r3, hc2, hF⟩ := bd hF
    refine R_callS (pc := 41) (st := []) h [.int x2, .int x4] csX4_311 (c4_isSign (ad := ad) (z := X.1) hc2) rfl rfl (by decide) (by decide) (Nat.le_of_ble_eq_true rfl) dX4_firstFault_41 (st1 := [.int r3]) rfl ?_
    refine R_if_ne (pc := 44) (tgt := 49) h dX4_firstFault_44 (by decide) (fun c4 => ?_) (fun c4 => ?_)
    · have hF := ifn c4 hF
      obtain ⟨v5, hv5, hF⟩ := nm_e2 hF
      refine R_iinc (pc := 49) (lv' := [(2, .int v5), (0, .ref (ad px0)), (1, .int x1), (3, .int x3), (4, .int x4)]) h 2 rfl (by decide) hv5 (by decide) rfl dX4_firstFault_49 ?_
      refine R_iload_n (pc := 52) h 0 rfl rfl dX4_firstFault_52 ?_
      refine R_iconst (pc := 53) (v := 5) h (by decide) dX4_firstFault_53 ?_
      refine R_icmp_ne (pc := 54) (tgt := 62) h dX4_firstFault_54 (by decide) (fun c6 => ?_) (fun c6 => ?_)
      · have hF := ifn c6 hF
        obtain ⟨v9, hv9, hF⟩ := nm_e2 hF
        refine R_iinc (pc := 62) (lv' := [(3, .int v9), (2, .int v5), (0, .ref (ad px0)), (1, .int x1), (4, .int x4)]) h 3 rfl (by decide) hv9 (by decide) rfl dX4_firstFault_62 ?_
        refine R_goto (pc := 65) (tgt := 6) h dX4_firstFault_65 (by decide) ?_
        exact Wp_sub (nX := 0) (lv' := [(0, .ref (ad px0)), (1, .int x1), (2, .int v5), (3, .int v9)]) [2, 3, 1, 0] rfl (hk6 _ _ _ _ hF)
      · have hF := itp c6 hF
        refine R_iconst (pc := 57) (v := 0) h (by decide) dX4_firstFault_57 ?_
        refine R_istore_n (pc := 58) (lv' := [(2, .int (0 : Int32)), (0, .ref (ad px0)), (1, .int x1), (3, .int x3), (4, .int x4)]) h rfl rfl (by decide) rfl dX4_firstFault_58 ?_
        obtain ⟨v7, hv7, hF⟩ := nm_e2 hF
        refine R_iinc (pc := 59) (lv' := [(1, .int v7), (2, .int (0 : Int32)), (0, .ref (ad px0)), (3, .int x3), (4, .int x4)]) h 2 rfl (by decide) hv7 (by decide) rfl dX4_firstFault_59 ?_
        obtain ⟨v8, hv8, hF⟩ := nm_e2 hF
        refine R_iinc (pc := 62) (lv' := [(3, .int v8), (1, .int v7), (2, .int (0 : Int32)), (0, .ref (ad px0)), (4, .int x4)]) h 3 rfl (by decide) hv8 (by decide) rfl dX4_firstFault_62 ?_
        refine R_goto (pc := 65) (tgt := 6) h dX4_firstFault_65 (by decide) ?_
        exact Wp_sub (nX := 0) (lv' := [(0, .ref (ad px0)), (1, .int v7), (2, .int (0 : Int32)), (3, .int v8)]) [3, 1, 2, 0] rfl (hk6 _ _ _ _ hF)
    · have hF := itp c4 hF
      refine R_iload_n (pc := 47) h 3 rfl rfl dX4_firstFault_47 ?_
      cases hF
      exact R_ireturn (pc := 48) h rfl rfl rfl dX4_firstFault_48
def f4_firstFault_6 (M : Mem) (fu : Nat) : Nat → Nat → Int32 → Int32 → Int32 → Option (Int32)
  | 0 => fun _ _ _ _ => none
  | f + 1 => fun px0 x1 x2 x3 =>
    (gd (decide (px0 < 10))).bind fun _ =>
    if (M.1 px0 0) ≤ x3 then (if 0 < x2 then ((some (M.1 px0 0)))
    else (if x1 = 0 then ((some (M.1 px0 0)))
    else ((some (-9 : Int32)))))
    else ((f0_cellAt M px0 x3).bind fun r6 =>
    if 0 < x2 then ((f4_firstFault_32 M fu (f4_firstFault_6 M fu f) px0 x1 x2 x3 r6))
    else (if r6 = (32 : Int32) then (nm (x3 + (1 : Int32)) fun v9 =>
    ((f4_firstFault_6 M fu f) px0 x1 x2 v9))
    else ((f4_firstFault_32 M fu (f4_firstFault_6 M fu f) px0 x1 x2 x3 r6))))
set_option maxHeartbeats 4000000 in
set_option maxRecDepth 10000 in
theorem w4_firstFaulti_6 {ad : Nat → Nat} {X : XX} {R : Int32} {M : Mem} {fu : Nat}  (h : Cx layC ad X cX4_firstFault RX4 5 3 (some .int) M (some (.int R)))  : ∀ (f : Nat) (px0 : Nat) (x1 : Int32) (x2 : Int32) (x3 : Int32), f4_firstFault_6 M fu f px0 x1 x2 x3 = some R → Wp layC ad X M 6 [(0, .ref (ad px0)), (1, .int x1), (2, .int x2), (3, .int x3)] [] := by
  intro f
  induction f with
  | zero => intro px0 x1 x2 x3 hF; exact absurd hF (by simp [f4_firstFault_6])
  | succ f ih =>
    intro px0 x1 x2 x3 hF
    rw [f4_firstFault_6] at hF
    refine R_iload_n (pc := 6) h 3 rfl rfl dX4_firstFault_6 ?_
    refine R_aload_n (pc := 7) h 0 rfl rfl dX4_firstFault_7 ?_
    obtain ⟨_, hg1, hF⟩ := bd hF
    have hg1 := of_decide_eq_true (gd_s hg1)
    refine R_getI (pc := 8) h flX4_75 (lyCells hg1) rfl dX4_firstFault_8 ?_
    refine R_icmp_ge (pc := 11) (tgt := 68) h dX4_firstFault_11 (by decide) (fun c2 => ?_) (fun c2 => ?_)
    · have hF := itp c2 hF
      refine R_iload_n (pc := 68) h 2 rfl rfl dX4_firstFault_68 ?_
      refine R_if_gt (pc := 69) (tgt := 76) h dX4_firstFault_69 (by decide) (fun c3 => ?_) (fun c3 => ?_)
      · have hF := itp c3 hF
        refine R_aload_n (pc := 76) h 0 rfl rfl dX4_firstFault_76 ?_
        refine R_getI (pc := 77) h flX4_75 (lyCells hg1) rfl dX4_firstFault_77 ?_
        refine R_goto (pc := 80) (tgt := 85) h dX4_firstFault_80 (by decide) ?_
        cases hF
        exact R_ireturn (pc := 85) h rfl rfl rfl dX4_firstFault_85
      · have hF := ifn c3 hF
        refine R_iload_n (pc := 72) h 1 rfl rfl dX4_firstFault_72 ?_
        refine R_if_ne (pc := 73) (tgt := 83) h dX4_firstFault_73 (by decide) (fun c4 => ?_) (fun c4 => ?_)
        · have hF := ifn c4 hF
          refine R_bipush (pc := 83) (v := (-9)) h (by decide) dX4_firstFault_83 ?_
          cases hF
          exact R_ireturn (pc := 85) h rfl rfl rfl dX4_firstFault_85
        · have hF := itp c4 hF
          refine R_aload_n (pc := 76) h 0 rfl rfl dX4_firstFault_76 ?_
          refine R_getI (pc := 77) h flX4_75 (lyCells hg1) rfl dX4_firstFault_77 ?_
          refine R_goto (pc := 80) (tgt := 85) h dX4_firstFault_80 (by decide) ?_
          cases hF
          exact R_ireturn (pc := 85) h rfl rfl rfl dX4_firstFault_85
    · have hF := ifn c2 hF
      refine R_aload_n (pc := 14) h 0 rfl rfl dX4_firstFault_14 ?_
      refine R_iload_n (pc := 15) h 3 rfl rfl dX4_firstFault_15 ?_
      obtain ⟨r6, hc5, hF⟩ := bd hF
      refine R_callV (pc := 16) (st := []) h [.int x3] cvX4_63 (c0_cellAt (ad := ad) (z := X.1) hc5) rfl rfl (lyCells hg1) (by decide) (by decide) (Nat.le_of_ble_eq_true rfl) dX4_firstFault_16 (st1 := [.int r6]) rfl ?_
      refine R_istore (pc := 19) (lv' := [(4, .int r6), (0, .ref (ad px0)), (1, .int x1), (2, .int x2), (3, .int x3)]) h rfl (by decide) rfl dX4_firstFault_19 ?_
      refine R_iload_n (pc := 21) h 3 rfl rfl dX4_firstFault_21 ?_
      refine R_if_gt (pc := 22) (tgt := 32) h dX4_firstFault_22 (by decide) (fun c7 => ?_) (fun c7 => ?_)
      · have hF := itp c7 hF
        exact Wp_sub (nX := 0) (lv' := [(0, .ref (ad px0)), (1, .int x1), (2, .int x2), (3, .int x3), (4, .int r6)]) [1, 2, 3, 4, 0] rfl (w4_firstFault_32 h (hk6 := fun a0 a1 a2 a3 hF => ih a0 a1 a2 a3 hF) (hF := hF))
      · have hF := ifn c7 hF
        refine R_iload (pc := 25) h 0 rfl dX4_firstFault_25 ?_
        refine R_bipush (pc := 27) (v := 32) h (by decide) dX4_firstFault_27 ?_
        refine R_icmp_eq (pc := 29) (tgt := 62) h dX4_firstFault_29 (by decide) (fun c8 => ?_) (fun c8 => ?_)
        · have hF := itp c8 hF
          obtain ⟨v9, hv9, hF⟩ := nm_e2 hF
          refine R_iinc (pc := 62) (lv' := [(3, .int v9), (4, .int r6), (0, .ref (ad px0)), (1, .int x1), (2, .int x2)]) h 4 rfl (by decide) hv9 (by decide) rfl dX4_firstFault_62 ?_
          refine R_goto (pc := 65) (tgt := 6) h dX4_firstFault_65 (by decide) ?_
          exact Wp_sub (nX := 0) (lv' := [(0, .ref (ad px0)), (1, .int x1), (2, .int x2), (3, .int v9)]) [2, 3, 4, 0] rfl (ih _ _ _ _ hF)
        · have hF := ifn c8 hF
          exact Wp_sub (nX := 0) (lv' := [(0, .ref (ad px0)), (1, .int x1), (2, .int x2), (3, .int x3), (4, .int r6)]) [1, 2, 3, 4, 0] rfl (w4_firstFault_32 h (hk6 := fun a0 a1 a2 a3 hF => ih a0 a1 a2 a3 hF) (hF := hF))
theorem w4_firstFault_6 {ad : Nat → Nat} {X : XX} {R : Int32} {M : Mem} {fu : Nat}  (h : Cx layC ad X cX4_firstFault RX4 5 3 (some .int) M (some (.int R)))  {f : Nat} {px0 : Nat} {x1 : Int32} {x2 : Int32} {x3 : Int32} (hF : f4_firstFault_6 M fu f px0 x1 x2 x3 = some R) : Wp layC ad X M 6 [(0, .ref (ad px0)), (1, .int x1), (2, .int x2), (3, .int x3)] [] := w4_firstFaulti_6 h  f _ _ _ _ hF
def f4_firstFault (M : Mem) (fu : Nat) (p0 : Nat) : Option (Int32) :=
    (f4_firstFault_6 M fu fu p0 (0 : Int32) (0 : Int32) (0 : Int32))
set_option maxHeartbeats 4000000 in
set_option maxRecDepth 10000 in
theorem w4_firstFault {ad : Nat → Nat} {X : XX} {R : Int32} {M : Mem} {fu : Nat} (h : Cx layC ad X cX4_firstFault RX4 5 3 (some .int) M (some (.int R))) {p0 : Nat} (hF : f4_firstFault M fu p0 = some R) : Wp layC ad X M 0 [(0, .ref (ad p0))] [] := by
  unfold f4_firstFault at hF
  refine R_iconst (pc := 0) (v := 0) h (by decide) dX4_firstFault_0 ?_
  refine R_istore_n (pc := 1) (lv' := [(1, .int (0 : Int32)), (0, .ref (ad p0))]) h rfl rfl (by decide) rfl dX4_firstFault_1 ?_
  refine R_iconst (pc := 2) (v := 0) h (by decide) dX4_firstFault_2 ?_
  refine R_istore_n (pc := 3) (lv' := [(2, .int (0 : Int32)), (1, .int (0 : Int32)), (0, .ref (ad p0))]) h rfl rfl (by decide) rfl dX4_firstFault_3 ?_
  refine R_iconst (pc := 4) (v := 0) h (by decide) dX4_firstFault_4 ?_
  refine R_istore_n (pc := 5) (lv' := [(3, .int (0 : Int32)), (2, .int (0 : Int32)), (1, .int (0 : Int32)), (0, .ref (ad p0))]) h rfl rfl (by decide) rfl dX4_firstFault_5 ?_
  exact Wp_sub (nX := 0) (lv' := [(0, .ref (ad p0)), (1, .int (0 : Int32)), (2, .int (0 : Int32)), (3, .int (0 : Int32))]) [3, 2, 1, 0] rfl (w4_firstFault_6 h  (hF := hF))
theorem c4_firstFault {ad : Nat → Nat} {z : ZZ} {R : Int32} {M : Mem} {fu : Nat} {p0 : Nat} (hF : f4_firstFault M fu p0 = some R) : Con layC ad z yX4_firstFault cX4_firstFault 5 (some .int) 3 M [.ref (ad p0)] (M) (some (.int R)) := con_of (own := RX4) (lv := [(0, .ref (ad p0))]) (by decide +kernel) rfl (Nat.le_of_ble_eq_true rfl) rfl (fun X hz h => w4_firstFault h hF)
def f4_fault (fu : Nat) (x1 : Int32) (M : Mem) : Option (Mem × Int32) :=
    (f4_textAt x1).bind fun r2 =>
    oc r2 ((f4_refuseMissing_N M).bind fun ⟨M5, r6⟩ =>
    (some (M5, r6)))
    fun q3 => (f4_refuseMissing q3 M).bind fun ⟨M8, r9⟩ =>
    if r9 = 0 then ((f4_firstFault M8 fu q3).bind fun r12 =>
    (some (M8, r12)))
    else ((some (M8, r9)))
set_option maxHeartbeats 4000000 in
set_option maxRecDepth 10000 in
theorem w4_fault {ad : Nat → Nat} {X : XX} {R : Mem × Int32} {fu : Nat} (h : Cx layC ad X cX4_fault RX4 4 4 (some .int) (R.1) (some (.int R.2))) {x1 : Int32} {M : Mem} (hF : f4_fault fu x1 M = some R) : Wp layC ad X M 0 [(0, .ref (ad 28)), (1, .int x1)] [] := by
  unfold f4_fault at hF
  refine R_aload_n (pc := 0) h 0 rfl rfl dX4_fault_0 ?_
  refine R_iload_n (pc := 1) h 1 rfl rfl dX4_fault_1 ?_
  obtain ⟨r2, hc1, hF⟩ := bd hF
  rcases r2 with _ | q3
  · have hF := oc_n hF
    refine R_callV (pc := 2) (st := []) h [.int x1] cvX4_98 (c4_textAt (ad := ad) (z := X.1) (M := M) hc1) rfl rfl lc_28 (by decide) (by decide) (Nat.le_of_ble_eq_true rfl) dX4_fault_2 (st1 := [.null]) rfl ?_
    refine R_astore_nN (pc := 5) (lv' := [(2, .null), (0, .ref (ad 28)), (1, .int x1)]) h rfl (by decide) rfl dX4_fault_5 ?_
    refine R_aload_n (pc := 6) h 1 rfl rfl dX4_fault_6 ?_
    refine R_aload_nN (pc := 7) h 0 rfl rfl dX4_fault_7 ?_
    obtain ⟨⟨M5, r6⟩, hc4, hF⟩ := bd hF
    refine R_callV (pc := 8) (st := []) h [.null] cvX4_71 (c4_refuseMissing_N (ad := ad) (z := X.1) hc4) rfl rfl lc_28 (by decide) (by decide) (Nat.le_of_ble_eq_true rfl) dX4_fault_8 (st1 := [.int r6]) rfl ?_
    refine R_istore_n (pc := 11) (lv' := [(3, .int r6), (2, .null), (0, .ref (ad 28)), (1, .int x1)]) h rfl rfl (by decide) rfl dX4_fault_11 ?_
    refine R_aload_nN (pc := 12) h 1 rfl rfl dX4_fault_12 ?_
    refine R_ifnullN (pc := 13) (tgt := 20) h dX4_fault_13 (by decide) ?_
    refine R_iload_n (pc := 20) h 0 rfl rfl dX4_fault_20 ?_
    cases hF
    exact R_ireturn (pc := 21) h rfl rfl rfl dX4_fault_21
  · have hF := oc_s hF
    refine R_callV (pc := 2) (st := []) h [.int x1] cvX4_98 (c4_textAt (ad := ad) (z := X.1) (M := M) hc1) rfl rfl lc_28 (by decide) (by decide) (Nat.le_of_ble_eq_true rfl) dX4_fault_2 (st1 := [.ref (ad q3)]) rfl ?_
    refine R_astore_n (pc := 5) (lv' := [(2, .ref (ad q3)), (0, .ref (ad 28)), (1, .int x1)]) h rfl rfl (by decide) rfl dX4_fault_5 ?_
    refine R_aload_n (pc := 6) h 1 rfl rfl dX4_fault_6 ?_
    refine R_aload_n (pc := 7) h 0 rfl rfl dX4_fault_7 ?_
    obtain ⟨⟨M8, r9⟩, hc7, hF⟩ := bd hF
    refine R_callV (pc := 8) (st := []) h [.ref (ad q3)] cvX4_71 (c4_refuseMissing (ad := ad) (z := X.1) hc7) rfl rfl lc_28 (by decide) (by decide) (Nat.le_of_ble_eq_true rfl) dX4_fault_8 (st1 := [.int r9]) rfl ?_
    refine R_istore_n (pc := 11) (lv' := [(3, .int r9), (2, .ref (ad q3)), (0, .ref (ad 28)), (1, .int x1)]) h rfl rfl (by decide) rfl dX4_fault_11 ?_
    refine R_aload_n (pc := 12) h 1 rfl rfl dX4_fault_12 ?_
    refine R_ifnull (pc := 13) h dX4_fault_13 ?_
    refine R_iload_n (pc := 16) h 0 rfl rfl dX4_fault_16 ?_
    refine R_if_eq (pc := 17) (tgt := 22) h dX4_fault_17 (by decide) (fun c10 => ?_) (fun c10 => ?_)
    · have hF := itp c10 hF
      refine R_aload_n (pc := 22) h 1 rfl rfl dX4_fault_22 ?_
      obtain ⟨r12, hc11, hF⟩ := bd hF
      refine R_callS (pc := 23) (st := []) h [.ref (ad q3)] csX4_101 (c4_firstFault (ad := ad) (z := X.1) hc11) rfl rfl (by decide) (by decide) (Nat.le_of_ble_eq_true rfl) dX4_fault_23 (st1 := [.int r12]) rfl ?_
      cases hF
      exact R_ireturn (pc := 26) h rfl rfl rfl dX4_fault_26
    · have hF := ifn c10 hF
      refine R_iload_n (pc := 20) h 0 rfl rfl dX4_fault_20 ?_
      cases hF
      exact R_ireturn (pc := 21) h rfl rfl rfl dX4_fault_21
theorem c4_fault {ad : Nat → Nat} {z : ZZ} {R : Mem × Int32} {fu : Nat} {x1 : Int32} {M : Mem} (hF : f4_fault fu x1 M = some R) : Con layC ad z yX4_fault cX4_fault 4 (some .int) 4 M [.ref (ad 28), .int x1] (R.1) (some (.int R.2)) := con_of (own := RX4) (lv := [(0, .ref (ad 28)), (1, .int x1)]) (by decide +kernel) rfl (Nat.le_of_ble_eq_true rfl) rfl (fun X hz h => w4_fault h hF)
def f2_takeSign (fu : Nat) (x1 : Int32) (x2 : Int32) (M : Mem) : Option (Mem) :=
    if (M.1 35 0) < 0 then ((some M))
    else (if (M.1 35 0) < (8 : Int32) then (if x1 = 0 then ((f4_kindOfLetter M fu x2).bind fun r5 =>
    (wr M 36 8 (M.1 35 0) r5).bind fun M6 =>
    (some M6))
    else if x1 = 1 then ((wr M 37 8 (M.1 35 0) (x2 - (48 : Int32))).bind fun M8 =>
    (some M8))
    else if x1 = 2 then ((wr M 38 8 (M.1 35 0) (x2 - (48 : Int32))).bind fun M10 =>
    (some M10))
    else if x1 = 3 then ((wr M 39 8 (M.1 35 0) (x2 - (48 : Int32))).bind fun M12 =>
    (some M12))
    else ((wr M 40 8 (M.1 35 0) (x2 - (48 : Int32))).bind fun M13 =>
    (some M13)))
    else ((some M)))
set_option maxHeartbeats 4000000 in
set_option maxRecDepth 10000 in
theorem w2_takeSign {ad : Nat → Nat} {X : XX} {R : Mem} {fu : Nat} (h : Cx layC ad X cX2_takeSign RX2 3 2 none (R) none) {x1 : Int32} {x2 : Int32} {M : Mem} (hF : f2_takeSign fu x1 x2 M = some R) : Wp layC ad X M 0 [(0, .ref (ad 35)), (1, .int x1), (2, .int x2)] [] := by
  unfold f2_takeSign at hF
  refine R_aload_n (pc := 0) h 0 rfl rfl dX2_takeSign_0 ?_
  refine R_getI (pc := 1) h flX2_9 lc_35 rfl dX2_takeSign_1 ?_
  refine R_if_lt (pc := 4) (tgt := 16) h dX2_takeSign_4 (by decide) (fun c1 => ?_) (fun c1 => ?_)
  · have hF := itp c1 hF
    cases hF
    exact R_return (pc := 16) h rfl rfl rfl dX2_takeSign_16
  · have hF := ifn c1 hF
    refine R_aload_n (pc := 7) h 0 rfl rfl dX2_takeSign_7 ?_
    refine R_getI (pc := 8) h flX2_9 lc_35 rfl dX2_takeSign_8 ?_
    refine R_bipush (pc := 11) (v := 8) h (by decide) dX2_takeSign_11 ?_
    refine R_icmp_lt (pc := 13) (tgt := 17) h dX2_takeSign_13 (by decide) (fun c2 => ?_) (fun c2 => ?_)
    · have hF := itp c2 hF
      refine R_iload_n (pc := 17) h 1 rfl rfl dX2_takeSign_17 ?_
      by_cases c3 : x1 = 0
      · have hF := itp c3 hF
        refine R_tableIn (pc := 18) (off := 30) (tgt := 48) h dX2_takeSign_18 (by rw [c3]; decide +kernel) (by rw [c3]; decide +kernel) (by rw [c3]; decide +kernel) (by decide) ?_
        refine R_aload_n (pc := 48) h 0 rfl rfl dX2_takeSign_48 ?_
        refine R_getR (pc := 49) (q1 := 36) h flX2_15 lc_35 rfl dX2_takeSign_49 ?_
        refine R_aload_n (pc := 52) h 0 rfl rfl dX2_takeSign_52 ?_
        refine R_getI (pc := 53) h flX2_9 lc_35 rfl dX2_takeSign_53 ?_
        refine R_iload_n (pc := 56) h 2 rfl rfl dX2_takeSign_56 ?_
        obtain ⟨r5, hc4, hF⟩ := bd hF
        refine R_callN (pc := 57) (st := [.int (M.1 35 0), .ref (ad 36)]) h [.int x2] cnX2_75 (c4_kindOfLetter (ad := ad) (z := X.1) hc4) rfl rfl (by decide) (by decide) (Nat.le_of_ble_eq_true rfl) dX2_takeSign_57 (st1 := [.int r5, .int (M.1 35 0), .ref (ad 36)]) rfl ?_
        obtain ⟨M6, hM6, hF⟩ := bd hF
        refine R_iast (pc := 60) h hM6 lc_36 dX2_takeSign_60 ?_
        refine R_goto (pc := 61) (tgt := 125) h dX2_takeSign_61 (by decide) ?_
        cases hF
        exact R_return (pc := 125) h rfl rfl rfl dX2_takeSign_125
      have hF := ifn c3 hF
      by_cases c7 : x1 = 1
      · have hF := itp c7 hF
        refine R_tableIn (pc := 18) (off := 46) (tgt := 64) h dX2_takeSign_18 (by rw [c7]; decide +kernel) (by rw [c7]; decide +kernel) (by rw [c7]; decide +kernel) (by decide) ?_
        refine R_aload_n (pc := 64) h 0 rfl rfl dX2_takeSign_64 ?_
        refine R_getR (pc := 65) (q1 := 37) h flX2_19 lc_35 rfl dX2_takeSign_65 ?_
        refine R_aload_n (pc := 68) h 0 rfl rfl dX2_takeSign_68 ?_
        refine R_getI (pc := 69) h flX2_9 lc_35 rfl dX2_takeSign_69 ?_
        refine R_iload_n (pc := 72) h 2 rfl rfl dX2_takeSign_72 ?_
        refine R_bipush (pc := 73) (v := 48) h (by decide) dX2_takeSign_73 ?_
        refine R_isub (pc := 75) h dX2_takeSign_75 ?_
        obtain ⟨M8, hM8, hF⟩ := bd hF
        refine R_iast (pc := 76) h hM8 lc_37 dX2_takeSign_76 ?_
        refine R_goto (pc := 77) (tgt := 125) h dX2_takeSign_77 (by decide) ?_
        cases hF
        exact R_return (pc := 125) h rfl rfl rfl dX2_takeSign_125
      have hF := ifn c7 hF
      by_cases c9 : x1 = 2
      · have hF := itp c9 hF
        refine R_tableIn (pc := 18) (off := 62) (tgt := 80) h dX2_takeSign_18 (by rw [c9]; decide +kernel) (by rw [c9]; decide +kernel) (by rw [c9]; decide +kernel) (by decide) ?_
        refine R_aload_n (pc := 80) h 0 rfl rfl dX2_takeSign_80 ?_
        refine R_getR (pc := 81) (q1 := 38) h flX2_22 lc_35 rfl dX2_takeSign_81 ?_
        refine R_aload_n (pc := 84) h 0 rfl rfl dX2_takeSign_84 ?_
        refine R_getI (pc := 85) h flX2_9 lc_35 rfl dX2_takeSign_85 ?_
        refine R_iload_n (pc := 88) h 2 rfl rfl dX2_takeSign_88 ?_
        refine R_bipush (pc := 89) (v := 48) h (by decide) dX2_takeSign_89 ?_
        refine R_isub (pc := 91) h dX2_takeSign_91 ?_
        obtain ⟨M10, hM10, hF⟩ := bd hF
        refine R_iast (pc := 92) h hM10 lc_38 dX2_takeSign_92 ?_
        refine R_goto (pc := 93) (tgt := 125) h dX2_takeSign_93 (by decide) ?_
        cases hF
        exact R_return (pc := 125) h rfl rfl rfl dX2_takeSign_125
      have hF := ifn c9 hF
      by_cases c11 : x1 = 3
      · have hF := itp c11 hF
        refine R_tableIn (pc := 18) (off := 78) (tgt := 96) h dX2_takeSign_18 (by rw [c11]; decide +kernel) (by rw [c11]; decide +kernel) (by rw [c11]; decide +kernel) (by decide) ?_
        refine R_aload_n (pc := 96) h 0 rfl rfl dX2_takeSign_96 ?_
        refine R_getR (pc := 97) (q1 := 39) h flX2_25 lc_35 rfl dX2_takeSign_97 ?_
        refine R_aload_n (pc := 100) h 0 rfl rfl dX2_takeSign_100 ?_
        refine R_getI (pc := 101) h flX2_9 lc_35 rfl dX2_takeSign_101 ?_
        refine R_iload_n (pc := 104) h 2 rfl rfl dX2_takeSign_104 ?_
        refine R_bipush (pc := 105) (v := 48) h (by decide) dX2_takeSign_105 ?_
        refine R_isub (pc := 107) h dX2_takeSign_107 ?_
        obtain ⟨M12, hM12, hF⟩ := bd hF
        refine R_iast (pc := 108) h hM12 lc_39 dX2_takeSign_108 ?_
        refine R_goto (pc := 109) (tgt := 125) h dX2_takeSign_109 (by decide) ?_
        cases hF
        exact R_return (pc := 125) h rfl rfl rfl dX2_takeSign_125
      have hF := ifn c11 hF
      refine R_tableOut (pc := 18) (tgt := 112) h dX2_takeSign_18 (by have e0 := lv_neT c3 (a := 0) (by decide); have e1 := lv_neT c7 (a := 1) (by decide); have e2 := lv_neT c9 (a := 2) (by decide); have e3 := lv_neT c11 (a := 3) (by decide); omega) (by decide) ?_
      refine R_aload_n (pc := 112) h 0 rfl rfl dX2_takeSign_112 ?_
      refine R_getR (pc := 113) (q1 := 40) h flX2_28 lc_35 rfl dX2_takeSign_113 ?_
      refine R_aload_n (pc := 116) h 0 rfl rfl dX2_takeSign_116 ?_
      refine R_getI (pc := 117) h flX2_9 lc_35 rfl dX2_takeSign_117 ?_
      refine R_iload_n (pc := 120) h 2 rfl rfl dX2_takeSign_120 ?_
      refine R_bipush (pc := 121) (v := 48) h (by decide) dX2_takeSign_121 ?_
      refine R_isub (pc := 123) h dX2_takeSign_123 ?_
      obtain ⟨M13, hM13, hF⟩ := bd hF
      refine R_iast (pc := 124) h hM13 lc_40 dX2_takeSign_124 ?_
      cases hF
      exact R_return (pc := 125) h rfl rfl rfl dX2_takeSign_125
    · have hF := ifn c2 hF
      cases hF
      exact R_return (pc := 16) h rfl rfl rfl dX2_takeSign_16
theorem c2_takeSign {ad : Nat → Nat} {z : ZZ} {R : Mem} {fu : Nat} {x1 : Int32} {x2 : Int32} {M : Mem} (hF : f2_takeSign fu x1 x2 M = some R) : Con layC ad z yX2_takeSign cX2_takeSign 3 none 2 M [.ref (ad 35), .int x1, .int x2] (R) none := con_of (own := RX2) (lv := [(0, .ref (ad 35)), (1, .int x1), (2, .int x2)]) (by decide +kernel) rfl (Nat.le_of_ble_eq_true rfl) rfl (fun X hz h => w2_takeSign h hF)
def f2_has (M : Mem) (x1 : Int32) : Option (Int32) :=
    if x1 < 0 then ((some (0 : Int32)))
    else (if (M.1 35 0) ≤ x1 then ((some (0 : Int32)))
    else ((some (1 : Int32))))
set_option maxHeartbeats 4000000 in
set_option maxRecDepth 10000 in
theorem w2_has {ad : Nat → Nat} {X : XX} {R : Int32} {M : Mem} (h : Cx layC ad X cX2_has RX2 2 1 (some .boolean) M (some (.int R))) {x1 : Int32} (hF : f2_has M x1 = some R) : Wp layC ad X M 0 [(0, .ref (ad 35)), (1, .int x1)] [] := by
  unfold f2_has at hF
  refine R_iload_n (pc := 0) h 1 rfl rfl dX2_has_0 ?_
  refine R_if_lt (pc := 1) (tgt := 16) h dX2_has_1 (by decide) (fun c1 => ?_) (fun c1 => ?_)
  · have hF := itp c1 hF
    refine R_iconst (pc := 16) (v := 0) h (by decide) dX2_has_16 ?_
    cases hF
    exact R_zreturn (pc := 17) h rfl zr0 rfl rfl dX2_has_17
  · have hF := ifn c1 hF
    refine R_iload_n (pc := 4) h 1 rfl rfl dX2_has_4 ?_
    refine R_aload_n (pc := 5) h 0 rfl rfl dX2_has_5 ?_
    refine R_getI (pc := 6) h flX2_9 lc_35 rfl dX2_has_6 ?_
    refine R_icmp_ge (pc := 9) (tgt := 16) h dX2_has_9 (by decide) (fun c2 => ?_) (fun c2 => ?_)
    · have hF := itp c2 hF
      refine R_iconst (pc := 16) (v := 0) h (by decide) dX2_has_16 ?_
      cases hF
      exact R_zreturn (pc := 17) h rfl zr0 rfl rfl dX2_has_17
    · have hF := ifn c2 hF
      refine R_iconst (pc := 12) (v := 1) h (by decide) dX2_has_12 ?_
      refine R_goto (pc := 13) (tgt := 17) h dX2_has_13 (by decide) ?_
      cases hF
      exact R_zreturn (pc := 17) h rfl zr1 rfl rfl dX2_has_17
theorem c2_has {ad : Nat → Nat} {z : ZZ} {R : Int32} {M : Mem} {x1 : Int32} (hF : f2_has M x1 = some R) : Con layC ad z yX2_has cX2_has 2 (some .boolean) 1 M [.ref (ad 35), .int x1] (M) (some (.int R)) := con_of (own := RX2) (lv := [(0, .ref (ad 35)), (1, .int x1)]) (by decide +kernel) rfl (Nat.le_of_ble_eq_true rfl) rfl (fun X hz h => w2_has h hF)
def f2_valueAs_30 (M : Mem) (x1 : Int32) (x2 : Int32) (x3 : Int32) (s0 : Int32) : Option (Int32) :=
    if x2 = 1 then ((some (x3 - (10 : Int32))))
    else if x2 = 2 then ((some s0))
    else if x2 = 3 then ((rd M 39 8 x1).bind fun v4 =>
    (some (x3 * v4)))
    else if x2 = 4 then ((some ((2 : Int32) * s0)))
    else if x2 = 5 then ((rd M 39 8 x1).bind fun v7 =>
    (some ((x3 - (10 : Int32)) - v7)))
    else ((some x3))
set_option maxHeartbeats 4000000 in
set_option maxRecDepth 10000 in
theorem w2_valueAs_30 {ad : Nat → Nat} {X : XX} {R : Int32} {M : Mem}  (h : Cx layC ad X cX2_valueAs RX2 5 2 (some .int) M (some (.int R)))  {x1 : Int32} {x2 : Int32} {x3 : Int32} {s0 : Int32} (hF : f2_valueAs_30 M x1 x2 x3 s0 = some R) : Wp layC ad X M 30 [(0, .ref (ad 35)), (1, .int x1), (2, .int x2), (3, .int x3)] [.int s0] := by
  unfold f2_valueAs_30 at hF
  refine R_istore (pc := 30) (lv' := [(4, .int s0), (0, .ref (ad 35)), (1, .int x1), (2, .int x2), (3, .int x3)]) h rfl (by decide) rfl dX2_valueAs_30 ?_
  refine R_iload_n (pc := 32) h 3 rfl rfl dX2_valueAs_32 ?_
  by_cases c1 : x2 = 1
  · have hF := itp c1 hF
    refine R_tableIn (pc := 33) (off := 35) (tgt := 68) h dX2_valueAs_33 (by rw [c1]; decide +kernel) (by rw [c1]; decide +kernel) (by rw [c1]; decide +kernel) (by decide) ?_
    refine R_iload_n (pc := 68) h 4 rfl rfl dX2_valueAs_68 ?_
    refine R_bipush (pc := 69) (v := 10) h (by decide) dX2_valueAs_69 ?_
    refine R_isub (pc := 71) h dX2_valueAs_71 ?_
    cases hF
    exact R_ireturn (pc := 72) h rfl rfl rfl dX2_valueAs_72
  have hF := ifn c1 hF
  by_cases c2 : x2 = 2
  · have hF := itp c2 hF
    refine R_tableIn (pc := 33) (off := 40) (tgt := 73) h dX2_valueAs_33 (by rw [c2]; decide +kernel) (by rw [c2]; decide +kernel) (by rw [c2]; decide +kernel) (by decide) ?_
    refine R_iload (pc := 73) h 0 rfl dX2_valueAs_73 ?_
    cases hF
    exact R_ireturn (pc := 75) h rfl rfl rfl dX2_valueAs_75
  have hF := ifn c2 hF
  by_cases c3 : x2 = 3
  · have hF := itp c3 hF
    refine R_tableIn (pc := 33) (off := 43) (tgt := 76) h dX2_valueAs_33 (by rw [c3]; decide +kernel) (by rw [c3]; decide +kernel) (by rw [c3]; decide +kernel) (by decide) ?_
    refine R_iload_n (pc := 76) h 4 rfl rfl dX2_valueAs_76 ?_
    refine R_aload_n (pc := 77) h 1 rfl rfl dX2_valueAs_77 ?_
    refine R_getR (pc := 78) (q1 := 39) h flX2_25 lc_35 rfl dX2_valueAs_78 ?_
    refine R_iload_n (pc := 81) h 2 rfl rfl dX2_valueAs_81 ?_
    obtain ⟨v4, hv4, hF⟩ := bd hF
    refine R_iald (pc := 82) h hv4 lc_39 dX2_valueAs_82 ?_
    refine R_imul (pc := 83) h dX2_valueAs_83 ?_
    cases hF
    exact R_ireturn (pc := 84) h rfl rfl rfl dX2_valueAs_84
  have hF := ifn c3 hF
  by_cases c5 : x2 = 4
  · have hF := itp c5 hF
    refine R_tableIn (pc := 33) (off := 52) (tgt := 85) h dX2_valueAs_33 (by rw [c5]; decide +kernel) (by rw [c5]; decide +kernel) (by rw [c5]; decide +kernel) (by decide) ?_
    refine R_iconst (pc := 85) (v := 2) h (by decide) dX2_valueAs_85 ?_
    refine R_iload (pc := 86) h 0 rfl dX2_valueAs_86 ?_
    refine R_imul (pc := 88) h dX2_valueAs_88 ?_
    cases hF
    exact R_ireturn (pc := 89) h rfl rfl rfl dX2_valueAs_89
  have hF := ifn c5 hF
  by_cases c6 : x2 = 5
  · have hF := itp c6 hF
    refine R_tableIn (pc := 33) (off := 57) (tgt := 90) h dX2_valueAs_33 (by rw [c6]; decide +kernel) (by rw [c6]; decide +kernel) (by rw [c6]; decide +kernel) (by decide) ?_
    refine R_iload_n (pc := 90) h 4 rfl rfl dX2_valueAs_90 ?_
    refine R_bipush (pc := 91) (v := 10) h (by decide) dX2_valueAs_91 ?_
    refine R_isub (pc := 93) h dX2_valueAs_93 ?_
    refine R_aload_n (pc := 94) h 1 rfl rfl dX2_valueAs_94 ?_
    refine R_getR (pc := 95) (q1 := 39) h flX2_25 lc_35 rfl dX2_valueAs_95 ?_
    refine R_iload_n (pc := 98) h 2 rfl rfl dX2_valueAs_98 ?_
    obtain ⟨v7, hv7, hF⟩ := bd hF
    refine R_iald (pc := 99) h hv7 lc_39 dX2_valueAs_99 ?_
    refine R_isub (pc := 100) h dX2_valueAs_100 ?_
    cases hF
    exact R_ireturn (pc := 101) h rfl rfl rfl dX2_valueAs_101
  have hF := ifn c6 hF
  refine R_tableOut (pc := 33) (tgt := 102) h dX2_valueAs_33 (by have e0 := lv_neT c1 (a := 1) (by decide); have e1 := lv_neT c2 (a := 2) (by decide); have e2 := lv_neT c3 (a := 3) (by decide); have e3 := lv_neT c5 (a := 4) (by decide); have e4 := lv_neT c6 (a := 5) (by decide); omega) (by decide) ?_
  refine R_iload_n (pc := 102) h 4 rfl rfl dX2_valueAs_102 ?_
  cases hF
  exact R_ireturn (pc := 103) h rfl rfl rfl dX2_valueAs_103
def f2_valueAs (M : Mem) (x1 : Int32) (x2 : Int32) (x3 : Int32) : Option (Int32) :=
    (f2_has M x1).bind fun r2 =>
    if r2 = 0 then ((some (0 : Int32)))
    else ((rd M 41 8 x1).bind fun v4 =>
    if ((v4 >>> ((5 : Int32) &&& 31)) &&& (1 : Int32)) = 0 then ((f2_valueAs_30 M x1 x2 x3 x3))
    else ((f2_valueAs_30 M x1 x2 x3 (x3 + (3 : Int32)))))
set_option maxHeartbeats 4000000 in
set_option maxRecDepth 10000 in
theorem w2_valueAs {ad : Nat → Nat} {X : XX} {R : Int32} {M : Mem} (h : Cx layC ad X cX2_valueAs RX2 5 2 (some .int) M (some (.int R))) {x1 : Int32} {x2 : Int32} {x3 : Int32} (hF : f2_valueAs M x1 x2 x3 = some R) : Wp layC ad X M 0 [(0, .ref (ad 35)), (1, .int x1), (2, .int x2), (3, .int x3)] [] := by
  unfold f2_valueAs at hF
  refine R_aload_n (pc := 0) h 0 rfl rfl dX2_valueAs_0 ?_
  refine R_iload_n (pc := 1) h 1 rfl rfl dX2_valueAs_1 ?_
  obtain ⟨r2, hc1, hF⟩ := bd hF
  refine R_callV (pc := 2) (st := []) h [.int x1] cvX2_87 (c2_has (ad := ad) (z := X.1) hc1) rfl rfl lc_35 (by decide) (by decide) (Nat.le_of_ble_eq_true rfl) dX2_valueAs_2 (st1 := [.int r2]) rfl ?_
  refine R_if_ne (pc := 5) (tgt := 10) h dX2_valueAs_5 (by decide) (fun c3 => ?_) (fun c3 => ?_)
  · have hF := ifn c3 hF
    refine R_aload_n (pc := 10) h 0 rfl rfl dX2_valueAs_10 ?_
    refine R_getR (pc := 11) (q1 := 41) h flX2_31 lc_35 rfl dX2_valueAs_11 ?_
    refine R_iload_n (pc := 14) h 1 rfl rfl dX2_valueAs_14 ?_
    obtain ⟨v4, hv4, hF⟩ := bd hF
    refine R_iald (pc := 15) h hv4 lc_41 dX2_valueAs_15 ?_
    refine R_iconst (pc := 16) (v := 5) h (by decide) dX2_valueAs_16 ?_
    refine R_ishr (pc := 17) h dX2_valueAs_17 ?_
    refine R_iconst (pc := 18) (v := 1) h (by decide) dX2_valueAs_18 ?_
    refine R_iand (pc := 19) h dX2_valueAs_19 ?_
    refine R_if_eq (pc := 20) (tgt := 29) h dX2_valueAs_20 (by decide) (fun c5 => ?_) (fun c5 => ?_)
    · have hF := itp c5 hF
      refine R_iload_n (pc := 29) h 3 rfl rfl dX2_valueAs_29 ?_
      exact Wp_sub (nX := 0) (lv' := [(0, .ref (ad 35)), (1, .int x1), (2, .int x2), (3, .int x3)]) [0, 1, 2, 3] rfl (w2_valueAs_30 h  (hF := hF))
    · have hF := ifn c5 hF
      refine R_iload_n (pc := 23) h 3 rfl rfl dX2_valueAs_23 ?_
      refine R_iconst (pc := 24) (v := 3) h (by decide) dX2_valueAs_24 ?_
      refine R_iadd (pc := 25) h dX2_valueAs_25 ?_
      refine R_goto (pc := 26) (tgt := 30) h dX2_valueAs_26 (by decide) ?_
      exact Wp_sub (nX := 0) (lv' := [(0, .ref (ad 35)), (1, .int x1), (2, .int x2), (3, .int x3)]) [0, 1, 2, 3] rfl (w2_valueAs_30 h  (hF := hF))
  · have hF := itp c3 hF
    refine R_iconst (pc := 8) (v := 0) h (by decide) dX2_valueAs_8 ?_
    cases hF
    exact R_ireturn (pc := 9) h rfl rfl rfl dX2_valueAs_9
theorem c2_valueAs {ad : Nat → Nat} {z : ZZ} {R : Int32} {M : Mem} {x1 : Int32} {x2 : Int32} {x3 : Int32} (hF : f2_valueAs M x1 x2 x3 = some R) : Con layC ad z yX2_valueAs cX2_valueAs 5 (some .int) 2 M [.ref (ad 35), .int x1, .int x2, .int x3] (M) (some (.int R)) := con_of (own := RX2) (lv := [(0, .ref (ad 35)), (1, .int x1), (2, .int x2), (3, .int x3)]) (by decide +kernel) rfl (Nat.le_of_ble_eq_true rfl) rfl (fun X hz h => w2_valueAs h hF)
def f2_apartFrom_4 (M : Mem) (fu : Nat) : Nat → Int32 → Int32 → Int32 → Option (Int32)
  | 0 => fun _ _ _ => none
  | f + 1 => fun x1 x2 x3 =>
    if (M.1 35 0) ≤ x3 then ((some x2))
    else ((rd M 41 8 x3).bind fun v2 =>
    if (v2 &&& x1) = 0 then (nm (x2 ||| ((1 : Int32) <<< (x3 &&& 31))) fun v4 =>
    nm (x3 + (1 : Int32)) fun v5 =>
    ((f2_apartFrom_4 M fu f) x1 v4 v5))
    else (nm (x3 + (1 : Int32)) fun v6 =>
    ((f2_apartFrom_4 M fu f) x1 x2 v6)))
set_option maxHeartbeats 4000000 in
set_option maxRecDepth 10000 in
theorem w2_apartFromi_4 {ad : Nat → Nat} {X : XX} {R : Int32} {M : Mem} {fu : Nat}  (h : Cx layC ad X cX2_apartFrom RX2 4 1 (some .int) M (some (.int R)))  : ∀ (f : Nat) (x1 : Int32) (x2 : Int32) (x3 : Int32), f2_apartFrom_4 M fu f x1 x2 x3 = some R → Wp layC ad X M 4 [(0, .ref (ad 35)), (1, .int x1), (2, .int x2), (3, .int x3)] [] := by
  intro f
  induction f with
  | zero => intro x1 x2 x3 hF; exact absurd hF (by simp [f2_apartFrom_4])
  | succ f ih =>
    intro x1 x2 x3 hF
    rw [f2_apartFrom_4] at hF
    refine R_iload_n (pc := 4) h 3 rfl rfl dX2_apartFrom_4 ?_
    refine R_aload_n (pc := 5) h 0 rfl rfl dX2_apartFrom_5 ?_
    refine R_getI (pc := 6) h flX2_9 lc_35 rfl dX2_apartFrom_6 ?_
    refine R_icmp_ge (pc := 9) (tgt := 35) h dX2_apartFrom_9 (by decide) (fun c1 => ?_) (fun c1 => ?_)
    · have hF := itp c1 hF
      refine R_iload_n (pc := 35) h 2 rfl rfl dX2_apartFrom_35 ?_
      cases hF
      exact R_ireturn (pc := 36) h rfl rfl rfl dX2_apartFrom_36
    · have hF := ifn c1 hF
      refine R_aload_n (pc := 12) h 0 rfl rfl dX2_apartFrom_12 ?_
      refine R_getR (pc := 13) (q1 := 41) h flX2_31 lc_35 rfl dX2_apartFrom_13 ?_
      refine R_iload_n (pc := 16) h 3 rfl rfl dX2_apartFrom_16 ?_
      obtain ⟨v2, hv2, hF⟩ := bd hF
      refine R_iald (pc := 17) h hv2 lc_41 dX2_apartFrom_17 ?_
      refine R_iload_n (pc := 18) h 1 rfl rfl dX2_apartFrom_18 ?_
      refine R_iand (pc := 19) h dX2_apartFrom_19 ?_
      refine R_if_ne (pc := 20) (tgt := 29) h dX2_apartFrom_20 (by decide) (fun c3 => ?_) (fun c3 => ?_)
      · have hF := ifn c3 hF
        obtain ⟨v6, hv6, hF⟩ := nm_e2 hF
        refine R_iinc (pc := 29) (lv' := [(3, .int v6), (0, .ref (ad 35)), (1, .int x1), (2, .int x2)]) h 3 rfl (by decide) hv6 (by decide) rfl dX2_apartFrom_29 ?_
        refine R_goto (pc := 32) (tgt := 4) h dX2_apartFrom_32 (by decide) ?_
        exact Wp_sub (nX := 0) (lv' := [(0, .ref (ad 35)), (1, .int x1), (2, .int x2), (3, .int v6)]) [1, 2, 3, 0] rfl (ih _ _ _ hF)
      · have hF := itp c3 hF
        refine R_iload_n (pc := 23) h 2 rfl rfl dX2_apartFrom_23 ?_
        refine R_iconst (pc := 24) (v := 1) h (by decide) dX2_apartFrom_24 ?_
        refine R_iload_n (pc := 25) h 3 rfl rfl dX2_apartFrom_25 ?_
        refine R_ishl (pc := 26) h dX2_apartFrom_26 ?_
        refine R_ior (pc := 27) h dX2_apartFrom_27 ?_
        obtain ⟨v4, hv4, hF⟩ := nm_e2 hF
        refine R_istore_n (pc := 28) (lv' := [(2, .int v4), (0, .ref (ad 35)), (1, .int x1), (3, .int x3)]) h hv4 rfl (by decide) rfl dX2_apartFrom_28 ?_
        obtain ⟨v5, hv5, hF⟩ := nm_e2 hF
        refine R_iinc (pc := 29) (lv' := [(3, .int v5), (2, .int v4), (0, .ref (ad 35)), (1, .int x1)]) h 3 rfl (by decide) hv5 (by decide) rfl dX2_apartFrom_29 ?_
        refine R_goto (pc := 32) (tgt := 4) h dX2_apartFrom_32 (by decide) ?_
        exact Wp_sub (nX := 0) (lv' := [(0, .ref (ad 35)), (1, .int x1), (2, .int v4), (3, .int v5)]) [2, 3, 1, 0] rfl (ih _ _ _ hF)
theorem w2_apartFrom_4 {ad : Nat → Nat} {X : XX} {R : Int32} {M : Mem} {fu : Nat}  (h : Cx layC ad X cX2_apartFrom RX2 4 1 (some .int) M (some (.int R)))  {f : Nat} {x1 : Int32} {x2 : Int32} {x3 : Int32} (hF : f2_apartFrom_4 M fu f x1 x2 x3 = some R) : Wp layC ad X M 4 [(0, .ref (ad 35)), (1, .int x1), (2, .int x2), (3, .int x3)] [] := w2_apartFromi_4 h  f _ _ _ hF
def f2_apartFrom (M : Mem) (fu : Nat) (x1 : Int32) : Option (Int32) :=
    (f2_apartFrom_4 M fu fu x1 (0 : Int32) (0 : Int32))
set_option maxHeartbeats 4000000 in
set_option maxRecDepth 10000 in
theorem w2_apartFrom {ad : Nat → Nat} {X : XX} {R : Int32} {M : Mem} {fu : Nat} (h : Cx layC ad X cX2_apartFrom RX2 4 1 (some .int) M (some (.int R))) {x1 : Int32} (hF : f2_apartFrom M fu x1 = some R) : Wp layC ad X M 0 [(0, .ref (ad 35)), (1, .int x1)] [] := by
  unfold f2_apartFrom at hF
  refine R_iconst (pc := 0) (v := 0) h (by decide) dX2_apartFrom_0 ?_
  refine R_istore_n (pc := 1) (lv' := [(2, .int (0 : Int32)), (0, .ref (ad 35)), (1, .int x1)]) h rfl rfl (by decide) rfl dX2_apartFrom_1 ?_
  refine R_iconst (pc := 2) (v := 0) h (by decide) dX2_apartFrom_2 ?_
  refine R_istore_n (pc := 3) (lv' := [(3, .int (0 : Int32)), (2, .int (0 : Int32)), (0, .ref (ad 35)), (1, .int x1)]) h rfl rfl (by decide) rfl dX2_apartFrom_3 ?_
  exact Wp_sub (nX := 0) (lv' := [(0, .ref (ad 35)), (1, .int x1), (2, .int (0 : Int32)), (3, .int (0 : Int32))]) [2, 3, 1, 0] rfl (w2_apartFrom_4 h  (hF := hF))
theorem c2_apartFrom {ad : Nat → Nat} {z : ZZ} {R : Int32} {M : Mem} {fu : Nat} {x1 : Int32} (hF : f2_apartFrom M fu x1 = some R) : Con layC ad z yX2_apartFrom cX2_apartFrom 4 (some .int) 1 M [.ref (ad 35), .int x1] (M) (some (.int R)) := con_of (own := RX2) (lv := [(0, .ref (ad 35)), (1, .int x1)]) (by decide +kernel) rfl (Nat.le_of_ble_eq_true rfl) rfl (fun X hz h => w2_apartFrom h hF)
def f2_reckonSetsTo_120 (fu : Nat) (k18 : Int32 → Int32 → Int32 → Int32 → Mem → Option (Mem)) (x1 : Int32) (x2 : Int32) (x3 : Int32) (x4 : Int32) (x5 : Int32) (s0 : Int32) (s1 : Int32) (M : Mem) : Option (Mem) :=
    (wr M 45 256 s1 (zb s0)).bind fun M1 =>
    (rd M1 46 256 x4).bind fun v2 =>
    (rd M1 42 8 x1).bind fun v3 =>
    (rd M1 46 256 (x4 &&& x3)).bind fun v4 =>
    (wr M1 46 256 x5 (if v2 < (v3 + v4) then (v3 + v4) else v2)).bind fun M5 =>
    nm (x4 + (1 : Int32)) fun v6 =>
    (k18 x1 x2 x3 v6 M5)
set_option maxHeartbeats 4000000 in
set_option maxRecDepth 10000 in
theorem w2_reckonSetsTo_120 {ad : Nat → Nat} {X : XX} {R : Mem} {fu : Nat} {k18 : Int32 → Int32 → Int32 → Int32 → Mem → Option (Mem)} (h : Cx layC ad X cX2_reckonSetsTo RX2 6 2 none (R) none) (hk18 : ∀ (x1 : Int32) (x2 : Int32) (x3 : Int32) (x4 : Int32) (M : Mem), k18 x1 x2 x3 x4 M = some R → Wp layC ad X M 18 [(0, .ref (ad 35)), (1, .int x1), (2, .int x2), (3, .int x3), (4, .int x4)] []) {x1 : Int32} {x2 : Int32} {x3 : Int32} {x4 : Int32} {x5 : Int32} {s0 : Int32} {s1 : Int32} {M : Mem} (hF : f2_reckonSetsTo_120 fu k18 x1 x2 x3 x4 x5 s0 s1 M = some R) : Wp layC ad X M 120 [(0, .ref (ad 35)), (1, .int x1), (2, .int x2), (3, .int x3), (4, .int x4), (5, .int x5)] [.int s0, .int s1, .ref (ad 45)] := by
  unfold f2_reckonSetsTo_120 at hF
  obtain ⟨M1, hM1, hF⟩ := bd hF
  refine R_zast (pc := 120) h hM1 lc_45 dX2_reckonSetsTo_120 ?_
  refine R_aload_n (pc := 121) h 0 rfl rfl dX2_reckonSetsTo_121 ?_
  refine R_getR (pc := 122) (q1 := 46) h flX2_47 lc_35 rfl dX2_reckonSetsTo_122 ?_
  refine R_iload (pc := 125) h 5 rfl dX2_reckonSetsTo_125 ?_
  refine R_aload_n (pc := 127) h 0 rfl rfl dX2_reckonSetsTo_127 ?_
  refine R_getR (pc := 128) (q1 := 46) h flX2_47 lc_35 rfl dX2_reckonSetsTo_128 ?_
  refine R_iload (pc := 131) h 4 rfl dX2_reckonSetsTo_131 ?_
  obtain ⟨v2, hv2, hF⟩ := bd hF
  refine R_iald (pc := 133) h hv2 lc_46 dX2_reckonSetsTo_133 ?_
  refine R_aload_n (pc := 134) h 0 rfl rfl dX2_reckonSetsTo_134 ?_
  refine R_getR (pc := 135) (q1 := 42) h flX2_34 lc_35 rfl dX2_reckonSetsTo_135 ?_
  refine R_iload_n (pc := 138) h 1 rfl rfl dX2_reckonSetsTo_138 ?_
  obtain ⟨v3, hv3, hF⟩ := bd hF
  refine R_iald (pc := 139) h hv3 lc_42 dX2_reckonSetsTo_139 ?_
  refine R_aload_n (pc := 140) h 0 rfl rfl dX2_reckonSetsTo_140 ?_
  refine R_getR (pc := 141) (q1 := 46) h flX2_47 lc_35 rfl dX2_reckonSetsTo_141 ?_
  refine R_iload (pc := 144) h 4 rfl dX2_reckonSetsTo_144 ?_
  refine R_iload_n (pc := 146) h 3 rfl rfl dX2_reckonSetsTo_146 ?_
  refine R_iand (pc := 147) h dX2_reckonSetsTo_147 ?_
  obtain ⟨v4, hv4, hF⟩ := bd hF
  refine R_iald (pc := 148) h hv4 lc_46 dX2_reckonSetsTo_148 ?_
  refine R_iadd (pc := 149) h dX2_reckonSetsTo_149 ?_
  refine R_mmax (pc := 150) h mlX2_81 (by decide) (Nat.le_of_ble_eq_true rfl) dX2_reckonSetsTo_150 ?_
  obtain ⟨M5, hM5, hF⟩ := bd hF
  refine R_iast (pc := 153) h hM5 lc_46 dX2_reckonSetsTo_153 ?_
  obtain ⟨v6, hv6, hF⟩ := nm_e2 hF
  refine R_iinc (pc := 154) (lv' := [(4, .int v6), (0, .ref (ad 35)), (1, .int x1), (2, .int x2), (3, .int x3), (5, .int x5)]) h 4 rfl (by decide) hv6 (by decide) rfl dX2_reckonSetsTo_154 ?_
  refine R_goto (pc := 157) (tgt := 18) h dX2_reckonSetsTo_157 (by decide) ?_
  exact Wp_sub (nX := 0) (lv' := [(0, .ref (ad 35)), (1, .int x1), (2, .int x2), (3, .int x3), (4, .int v6)]) [1, 2, 3, 4, 0] rfl (hk18 _ _ _ _ _ hF)
def f2_reckonSetsTo_18 (fu : Nat) : Nat → Int32 → Int32 → Int32 → Int32 → Mem → Option (Mem)
  | 0 => fun _ _ _ _ _ => none
  | f + 1 => fun x1 x2 x3 x4 M =>
    if x2 ≤ x4 then ((some M))
    else (if (256 : Int32) ≤ (x4 ||| x2) then ((some M))
    else (nm (x4 ||| x2) fun v3 =>
    (rd M 43 256 x4).bind fun v4 =>
    (rd M 41 8 x1).bind fun v5 =>
    (wr M 43 256 v3 (v4 ||| v5)).bind fun M6 =>
    (rd M6 44 256 x4).bind fun v7 =>
    (rd M6 42 8 x1).bind fun v8 =>
    (wr M6 44 256 v3 (v7 + v8)).bind fun M9 =>
    (rd M9 45 256 x4).bind fun v10 =>
    if v10 = 0 then ((f2_reckonSetsTo_120 fu (f2_reckonSetsTo_18 fu f) x1 x2 x3 x4 v3 (0 : Int32) v3 M9))
    else ((rd M9 43 256 x4).bind fun v12 =>
    (rd M9 41 8 x1).bind fun v13 =>
    if (v12 &&& v13) = 0 then ((f2_reckonSetsTo_120 fu (f2_reckonSetsTo_18 fu f) x1 x2 x3 x4 v3 (1 : Int32) v3 M9))
    else ((f2_reckonSetsTo_120 fu (f2_reckonSetsTo_18 fu f) x1 x2 x3 x4 v3 (0 : Int32) v3 M9)))))
set_option maxHeartbeats 4000000 in
set_option maxRecDepth 10000 in
theorem w2_reckonSetsToi_18 {ad : Nat → Nat} {X : XX} {R : Mem} {fu : Nat}  (h : Cx layC ad X cX2_reckonSetsTo RX2 6 2 none (R) none)  : ∀ (f : Nat) (x1 : Int32) (x2 : Int32) (x3 : Int32) (x4 : Int32) (M : Mem), f2_reckonSetsTo_18 fu f x1 x2 x3 x4 M = some R → Wp layC ad X M 18 [(0, .ref (ad 35)), (1, .int x1), (2, .int x2), (3, .int x3), (4, .int x4)] [] := by
  intro f
  induction f with
  | zero => intro x1 x2 x3 x4 M hF; exact absurd hF (by simp [f2_reckonSetsTo_18])
  | succ f ih =>
    intro x1 x2 x3 x4 M hF
    rw [f2_reckonSetsTo_18] at hF
    refine R_iload (pc := 18) h 4 rfl dX2_reckonSetsTo_18 ?_
    refine R_iload_n (pc := 20) h 2 rfl rfl dX2_reckonSetsTo_20 ?_
    refine R_icmp_ge (pc := 21) (tgt := 160) h dX2_reckonSetsTo_21 (by decide) (fun c1 => ?_) (fun c1 => ?_)
    · have hF := itp c1 hF
      cases hF
      exact R_return (pc := 160) h rfl rfl rfl dX2_reckonSetsTo_160
    · have hF := ifn c1 hF
      refine R_iload (pc := 24) h 4 rfl dX2_reckonSetsTo_24 ?_
      refine R_iload_n (pc := 26) h 2 rfl rfl dX2_reckonSetsTo_26 ?_
      refine R_ior (pc := 27) h dX2_reckonSetsTo_27 ?_
      refine R_sipush (pc := 28) (v := 256) h (by decide) dX2_reckonSetsTo_28 ?_
      refine R_icmp_ge (pc := 31) (tgt := 160) h dX2_reckonSetsTo_31 (by decide) (fun c2 => ?_) (fun c2 => ?_)
      · have hF := itp c2 hF
        cases hF
        exact R_return (pc := 160) h rfl rfl rfl dX2_reckonSetsTo_160
      · have hF := ifn c2 hF
        refine R_iload (pc := 34) h 4 rfl dX2_reckonSetsTo_34 ?_
        refine R_iload_n (pc := 36) h 2 rfl rfl dX2_reckonSetsTo_36 ?_
        refine R_ior (pc := 37) h dX2_reckonSetsTo_37 ?_
        obtain ⟨v3, hv3, hF⟩ := nm_e2 hF
        refine R_istore (pc := 38) (lv' := [(5, .int v3), (0, .ref (ad 35)), (1, .int x1), (2, .int x2), (3, .int x3), (4, .int x4)]) h hv3 (by decide) rfl dX2_reckonSetsTo_38 ?_
        refine R_aload_n (pc := 40) h 1 rfl rfl dX2_reckonSetsTo_40 ?_
        refine R_getR (pc := 41) (q1 := 43) h flX2_37 lc_35 rfl dX2_reckonSetsTo_41 ?_
        refine R_iload (pc := 44) h 0 rfl dX2_reckonSetsTo_44 ?_
        refine R_aload_n (pc := 46) h 1 rfl rfl dX2_reckonSetsTo_46 ?_
        refine R_getR (pc := 47) (q1 := 43) h flX2_37 lc_35 rfl dX2_reckonSetsTo_47 ?_
        refine R_iload (pc := 50) h 5 rfl dX2_reckonSetsTo_50 ?_
        obtain ⟨v4, hv4, hF⟩ := bd hF
        refine R_iald (pc := 52) h hv4 lc_43 dX2_reckonSetsTo_52 ?_
        refine R_aload_n (pc := 53) h 1 rfl rfl dX2_reckonSetsTo_53 ?_
        refine R_getR (pc := 54) (q1 := 41) h flX2_31 lc_35 rfl dX2_reckonSetsTo_54 ?_
        refine R_iload_n (pc := 57) h 2 rfl rfl dX2_reckonSetsTo_57 ?_
        obtain ⟨v5, hv5, hF⟩ := bd hF
        refine R_iald (pc := 58) h hv5 lc_41 dX2_reckonSetsTo_58 ?_
        refine R_ior (pc := 59) h dX2_reckonSetsTo_59 ?_
        obtain ⟨M6, hM6, hF⟩ := bd hF
        refine R_iast (pc := 60) h hM6 lc_43 dX2_reckonSetsTo_60 ?_
        refine R_aload_n (pc := 61) h 1 rfl rfl dX2_reckonSetsTo_61 ?_
        refine R_getR (pc := 62) (q1 := 44) h flX2_40 lc_35 rfl dX2_reckonSetsTo_62 ?_
        refine R_iload (pc := 65) h 0 rfl dX2_reckonSetsTo_65 ?_
        refine R_aload_n (pc := 67) h 1 rfl rfl dX2_reckonSetsTo_67 ?_
        refine R_getR (pc := 68) (q1 := 44) h flX2_40 lc_35 rfl dX2_reckonSetsTo_68 ?_
        refine R_iload (pc := 71) h 5 rfl dX2_reckonSetsTo_71 ?_
        obtain ⟨v7, hv7, hF⟩ := bd hF
        refine R_iald (pc := 73) h hv7 lc_44 dX2_reckonSetsTo_73 ?_
        refine R_aload_n (pc := 74) h 1 rfl rfl dX2_reckonSetsTo_74 ?_
        refine R_getR (pc := 75) (q1 := 42) h flX2_34 lc_35 rfl dX2_reckonSetsTo_75 ?_
        refine R_iload_n (pc := 78) h 2 rfl rfl dX2_reckonSetsTo_78 ?_
        obtain ⟨v8, hv8, hF⟩ := bd hF
        refine R_iald (pc := 79) h hv8 lc_42 dX2_reckonSetsTo_79 ?_
        refine R_iadd (pc := 80) h dX2_reckonSetsTo_80 ?_
        obtain ⟨M9, hM9, hF⟩ := bd hF
        refine R_iast (pc := 81) h hM9 lc_44 dX2_reckonSetsTo_81 ?_
        refine R_aload_n (pc := 82) h 1 rfl rfl dX2_reckonSetsTo_82 ?_
        refine R_getR (pc := 83) (q1 := 45) h flX2_43 lc_35 rfl dX2_reckonSetsTo_83 ?_
        refine R_iload (pc := 86) h 0 rfl dX2_reckonSetsTo_86 ?_
        refine R_aload_n (pc := 88) h 1 rfl rfl dX2_reckonSetsTo_88 ?_
        refine R_getR (pc := 89) (q1 := 45) h flX2_43 lc_35 rfl dX2_reckonSetsTo_89 ?_
        refine R_iload (pc := 92) h 5 rfl dX2_reckonSetsTo_92 ?_
        obtain ⟨v10, hv10, hF⟩ := bd hF
        refine R_zald (pc := 94) h hv10 lc_45 dX2_reckonSetsTo_94 ?_
        refine R_if_eq (pc := 95) (tgt := 119) h dX2_reckonSetsTo_95 (by decide) (fun c11 => ?_) (fun c11 => ?_)
        · have hF := itp c11 hF
          refine R_iconst (pc := 119) (v := 0) h (by decide) dX2_reckonSetsTo_119 ?_
          exact Wp_sub (nX := 0) (lv' := [(0, .ref (ad 35)), (1, .int x1), (2, .int x2), (3, .int x3), (4, .int x4), (5, .int v3)]) [1, 2, 3, 4, 5, 0] rfl (w2_reckonSetsTo_120 h (hk18 := fun a0 a1 a2 a3 a4 hF => ih a0 a1 a2 a3 a4 hF) (hF := hF))
        · have hF := ifn c11 hF
          refine R_aload_n (pc := 98) h 1 rfl rfl dX2_reckonSetsTo_98 ?_
          refine R_getR (pc := 99) (q1 := 43) h flX2_37 lc_35 rfl dX2_reckonSetsTo_99 ?_
          refine R_iload (pc := 102) h 5 rfl dX2_reckonSetsTo_102 ?_
          obtain ⟨v12, hv12, hF⟩ := bd hF
          refine R_iald (pc := 104) h hv12 lc_43 dX2_reckonSetsTo_104 ?_
          refine R_aload_n (pc := 105) h 1 rfl rfl dX2_reckonSetsTo_105 ?_
          refine R_getR (pc := 106) (q1 := 41) h flX2_31 lc_35 rfl dX2_reckonSetsTo_106 ?_
          refine R_iload_n (pc := 109) h 2 rfl rfl dX2_reckonSetsTo_109 ?_
          obtain ⟨v13, hv13, hF⟩ := bd hF
          refine R_iald (pc := 110) h hv13 lc_41 dX2_reckonSetsTo_110 ?_
          refine R_iand (pc := 111) h dX2_reckonSetsTo_111 ?_
          refine R_if_ne (pc := 112) (tgt := 119) h dX2_reckonSetsTo_112 (by decide) (fun c14 => ?_) (fun c14 => ?_)
          · have hF := ifn c14 hF
            refine R_iconst (pc := 119) (v := 0) h (by decide) dX2_reckonSetsTo_119 ?_
            exact Wp_sub (nX := 0) (lv' := [(0, .ref (ad 35)), (1, .int x1), (2, .int x2), (3, .int x3), (4, .int x4), (5, .int v3)]) [1, 2, 3, 4, 5, 0] rfl (w2_reckonSetsTo_120 h (hk18 := fun a0 a1 a2 a3 a4 hF => ih a0 a1 a2 a3 a4 hF) (hF := hF))
          · have hF := itp c14 hF
            refine R_iconst (pc := 115) (v := 1) h (by decide) dX2_reckonSetsTo_115 ?_
            refine R_goto (pc := 116) (tgt := 120) h dX2_reckonSetsTo_116 (by decide) ?_
            exact Wp_sub (nX := 0) (lv' := [(0, .ref (ad 35)), (1, .int x1), (2, .int x2), (3, .int x3), (4, .int x4), (5, .int v3)]) [1, 2, 3, 4, 5, 0] rfl (w2_reckonSetsTo_120 h (hk18 := fun a0 a1 a2 a3 a4 hF => ih a0 a1 a2 a3 a4 hF) (hF := hF))
theorem w2_reckonSetsTo_18 {ad : Nat → Nat} {X : XX} {R : Mem} {fu : Nat}  (h : Cx layC ad X cX2_reckonSetsTo RX2 6 2 none (R) none)  {f : Nat} {x1 : Int32} {x2 : Int32} {x3 : Int32} {x4 : Int32} {M : Mem} (hF : f2_reckonSetsTo_18 fu f x1 x2 x3 x4 M = some R) : Wp layC ad X M 18 [(0, .ref (ad 35)), (1, .int x1), (2, .int x2), (3, .int x3), (4, .int x4)] [] := w2_reckonSetsToi_18 h  f _ _ _ _ _ hF
def f2_reckonSetsTo (fu : Nat) (x1 : Int32) (M : Mem) : Option (Mem) :=
    nm ((1 : Int32) <<< (x1 &&& 31)) fun v1 =>
    (rd M 41 8 x1).bind fun v2 =>
    (f2_apartFrom M fu v2).bind fun r4 =>
    (f2_reckonSetsTo_18 fu fu x1 v1 r4 (0 : Int32) M)
set_option maxHeartbeats 4000000 in
set_option maxRecDepth 10000 in
theorem w2_reckonSetsTo {ad : Nat → Nat} {X : XX} {R : Mem} {fu : Nat} (h : Cx layC ad X cX2_reckonSetsTo RX2 6 2 none (R) none) {x1 : Int32} {M : Mem} (hF : f2_reckonSetsTo fu x1 M = some R) : Wp layC ad X M 0 [(0, .ref (ad 35)), (1, .int x1)] [] := by
  unfold f2_reckonSetsTo at hF
  refine R_iconst (pc := 0) (v := 1) h (by decide) dX2_reckonSetsTo_0 ?_
  refine R_iload_n (pc := 1) h 1 rfl rfl dX2_reckonSetsTo_1 ?_
  refine R_ishl (pc := 2) h dX2_reckonSetsTo_2 ?_
  obtain ⟨v1, hv1, hF⟩ := nm_e2 hF
  refine R_istore_n (pc := 3) (lv' := [(2, .int v1), (0, .ref (ad 35)), (1, .int x1)]) h hv1 rfl (by decide) rfl dX2_reckonSetsTo_3 ?_
  refine R_aload_n (pc := 4) h 1 rfl rfl dX2_reckonSetsTo_4 ?_
  refine R_aload_n (pc := 5) h 1 rfl rfl dX2_reckonSetsTo_5 ?_
  refine R_getR (pc := 6) (q1 := 41) h flX2_31 lc_35 rfl dX2_reckonSetsTo_6 ?_
  refine R_iload_n (pc := 9) h 2 rfl rfl dX2_reckonSetsTo_9 ?_
  obtain ⟨v2, hv2, hF⟩ := bd hF
  refine R_iald (pc := 10) h hv2 lc_41 dX2_reckonSetsTo_10 ?_
  obtain ⟨r4, hc3, hF⟩ := bd hF
  refine R_callV (pc := 11) (st := []) h [.int v2] cvX2_78 (c2_apartFrom (ad := ad) (z := X.1) hc3) rfl rfl lc_35 (by decide) (by decide) (Nat.le_of_ble_eq_true rfl) dX2_reckonSetsTo_11 (st1 := [.int r4]) rfl ?_
  refine R_istore_n (pc := 14) (lv' := [(3, .int r4), (2, .int v1), (0, .ref (ad 35)), (1, .int x1)]) h rfl rfl (by decide) rfl dX2_reckonSetsTo_14 ?_
  refine R_iconst (pc := 15) (v := 0) h (by decide) dX2_reckonSetsTo_15 ?_
  refine R_istore (pc := 16) (lv' := [(4, .int (0 : Int32)), (3, .int r4), (2, .int v1), (0, .ref (ad 35)), (1, .int x1)]) h rfl (by decide) rfl dX2_reckonSetsTo_16 ?_
  exact Wp_sub (nX := 0) (lv' := [(0, .ref (ad 35)), (1, .int x1), (2, .int v1), (3, .int r4), (4, .int (0 : Int32))]) [3, 4, 2, 1, 0] rfl (w2_reckonSetsTo_18 h  (hF := hF))
theorem c2_reckonSetsTo {ad : Nat → Nat} {z : ZZ} {R : Mem} {fu : Nat} {x1 : Int32} {M : Mem} (hF : f2_reckonSetsTo fu x1 M = some R) : Con layC ad z yX2_reckonSetsTo cX2_reckonSetsTo 6 none 2 M [.ref (ad 35), .int x1] (R) none := con_of (own := RX2) (lv := [(0, .ref (ad 35)), (1, .int x1)]) (by decide +kernel) rfl (Nat.le_of_ble_eq_true rfl) rfl (fun X hz h => w2_reckonSetsTo h hF)
def f2_read_137 (fu : Nat) : Nat → Int32 → Mem → Option (Mem)
  | 0 => fun _ _ => none
  | f + 1 => fun x3 M =>
    if (M.1 35 0) ≤ x3 then ((some M))
    else ((f2_reckonSetsTo fu x3 M).bind fun M3 =>
    nm (x3 + (1 : Int32)) fun v4 =>
    ((f2_read_137 fu f) v4 M3))
set_option maxHeartbeats 4000000 in
set_option maxRecDepth 10000 in
theorem w2_readi_137 {ad : Nat → Nat} {X : XX} {R : Mem} {fu : Nat}  (h : Cx layC ad X cX2_read RX2 5 3 none (R) none)  : ∀ (f : Nat) (x3 : Int32) (M : Mem), f2_read_137 fu f x3 M = some R → Wp layC ad X M 137 [(0, .ref (ad 35)), (3, .int x3)] [] := by
  intro f
  induction f with
  | zero => intro x3 M hF; exact absurd hF (by simp [f2_read_137])
  | succ f ih =>
    intro x3 M hF
    rw [f2_read_137] at hF
    refine R_iload_n (pc := 137) h 1 rfl rfl dX2_read_137 ?_
    refine R_aload_n (pc := 138) h 0 rfl rfl dX2_read_138 ?_
    refine R_getI (pc := 139) h flX2_9 lc_35 rfl dX2_read_139 ?_
    refine R_icmp_ge (pc := 142) (tgt := 156) h dX2_read_142 (by decide) (fun c1 => ?_) (fun c1 => ?_)
    · have hF := itp c1 hF
      cases hF
      exact R_return (pc := 156) h rfl rfl rfl dX2_read_156
    · have hF := ifn c1 hF
      refine R_aload_n (pc := 145) h 0 rfl rfl dX2_read_145 ?_
      refine R_iload_n (pc := 146) h 1 rfl rfl dX2_read_146 ?_
      obtain ⟨M3, hc2, hF⟩ := bd hF
      refine R_callV (pc := 147) (st := []) h [.int x3] cvX2_71 (c2_reckonSetsTo (ad := ad) (z := X.1) hc2) rfl rfl lc_35 (by decide) (by decide) (Nat.le_of_ble_eq_true rfl) dX2_read_147 (st1 := []) rfl ?_
      obtain ⟨v4, hv4, hF⟩ := nm_e2 hF
      refine R_iinc (pc := 150) (lv' := [(3, .int v4), (0, .ref (ad 35))]) h 1 rfl (by decide) hv4 (by decide) rfl dX2_read_150 ?_
      refine R_goto (pc := 153) (tgt := 137) h dX2_read_153 (by decide) ?_
      exact Wp_sub (nX := 0) (lv' := [(0, .ref (ad 35)), (3, .int v4)]) [1, 0] rfl (ih _ _ hF)
theorem w2_read_137 {ad : Nat → Nat} {X : XX} {R : Mem} {fu : Nat}  (h : Cx layC ad X cX2_read RX2 5 3 none (R) none)  {f : Nat} {x3 : Int32} {M : Mem} (hF : f2_read_137 fu f x3 M = some R) : Wp layC ad X M 137 [(0, .ref (ad 35)), (3, .int x3)] [] := w2_readi_137 h  f _ _ hF
def f2_read_75 (fu : Nat) : Nat → Int32 → Mem → Option (Mem)
  | 0 => fun _ _ => none
  | f + 1 => fun x3 M =>
    if (M.1 35 0) ≤ x3 then ((f2_read_137 fu fu (0 : Int32) M))
    else ((rd M 39 8 x3).bind fun v2 =>
    (rd M 38 8 x3).bind fun v3 =>
    (wr M 41 8 x3 ((((1 : Int32) <<< (v2 &&& 31)) - (1 : Int32)) <<< (v3 &&& 31))).bind fun M4 =>
    (rd M4 36 8 x3).bind fun v5 =>
    (rd M4 40 8 x3).bind fun v6 =>
    (f2_valueAs M4 x3 v5 v6).bind fun r8 =>
    (wr M4 42 8 x3 r8).bind fun M9 =>
    nm (x3 + (1 : Int32)) fun v10 =>
    ((f2_read_75 fu f) v10 M9))
set_option maxHeartbeats 4000000 in
set_option maxRecDepth 10000 in
theorem w2_readi_75 {ad : Nat → Nat} {X : XX} {R : Mem} {fu : Nat}  (h : Cx layC ad X cX2_read RX2 5 3 none (R) none)  : ∀ (f : Nat) (x3 : Int32) (M : Mem), f2_read_75 fu f x3 M = some R → Wp layC ad X M 75 [(0, .ref (ad 35)), (3, .int x3)] [] := by
  intro f
  induction f with
  | zero => intro x3 M hF; exact absurd hF (by simp [f2_read_75])
  | succ f ih =>
    intro x3 M hF
    rw [f2_read_75] at hF
    refine R_iload_n (pc := 75) h 1 rfl rfl dX2_read_75 ?_
    refine R_aload_n (pc := 76) h 0 rfl rfl dX2_read_76 ?_
    refine R_getI (pc := 77) h flX2_9 lc_35 rfl dX2_read_77 ?_
    refine R_icmp_ge (pc := 80) (tgt := 135) h dX2_read_80 (by decide) (fun c1 => ?_) (fun c1 => ?_)
    · have hF := itp c1 hF
      refine R_iconst (pc := 135) (v := 0) h (by decide) dX2_read_135 ?_
      refine R_istore_n (pc := 136) (lv' := [(3, .int (0 : Int32)), (0, .ref (ad 35))]) h rfl rfl (by decide) rfl dX2_read_136 ?_
      exact Wp_sub (nX := 0) (lv' := [(0, .ref (ad 35)), (3, .int (0 : Int32))]) [1, 0] rfl (w2_read_137 h  (hF := hF))
    · have hF := ifn c1 hF
      refine R_aload_n (pc := 83) h 0 rfl rfl dX2_read_83 ?_
      refine R_getR (pc := 84) (q1 := 41) h flX2_31 lc_35 rfl dX2_read_84 ?_
      refine R_iload_n (pc := 87) h 1 rfl rfl dX2_read_87 ?_
      refine R_iconst (pc := 88) (v := 1) h (by decide) dX2_read_88 ?_
      refine R_aload_n (pc := 89) h 0 rfl rfl dX2_read_89 ?_
      refine R_getR (pc := 90) (q1 := 39) h flX2_25 lc_35 rfl dX2_read_90 ?_
      refine R_iload_n (pc := 93) h 1 rfl rfl dX2_read_93 ?_
      obtain ⟨v2, hv2, hF⟩ := bd hF
      refine R_iald (pc := 94) h hv2 lc_39 dX2_read_94 ?_
      refine R_ishl (pc := 95) h dX2_read_95 ?_
      refine R_iconst (pc := 96) (v := 1) h (by decide) dX2_read_96 ?_
      refine R_isub (pc := 97) h dX2_read_97 ?_
      refine R_aload_n (pc := 98) h 0 rfl rfl dX2_read_98 ?_
      refine R_getR (pc := 99) (q1 := 38) h flX2_22 lc_35 rfl dX2_read_99 ?_
      refine R_iload_n (pc := 102) h 1 rfl rfl dX2_read_102 ?_
      obtain ⟨v3, hv3, hF⟩ := bd hF
      refine R_iald (pc := 103) h hv3 lc_38 dX2_read_103 ?_
      refine R_ishl (pc := 104) h dX2_read_104 ?_
      obtain ⟨M4, hM4, hF⟩ := bd hF
      refine R_iast (pc := 105) h hM4 lc_41 dX2_read_105 ?_
      refine R_aload_n (pc := 106) h 0 rfl rfl dX2_read_106 ?_
      refine R_getR (pc := 107) (q1 := 42) h flX2_34 lc_35 rfl dX2_read_107 ?_
      refine R_iload_n (pc := 110) h 1 rfl rfl dX2_read_110 ?_
      refine R_aload_n (pc := 111) h 0 rfl rfl dX2_read_111 ?_
      refine R_iload_n (pc := 112) h 1 rfl rfl dX2_read_112 ?_
      refine R_aload_n (pc := 113) h 0 rfl rfl dX2_read_113 ?_
      refine R_getR (pc := 114) (q1 := 36) h flX2_15 lc_35 rfl dX2_read_114 ?_
      refine R_iload_n (pc := 117) h 1 rfl rfl dX2_read_117 ?_
      obtain ⟨v5, hv5, hF⟩ := bd hF
      refine R_iald (pc := 118) h hv5 lc_36 dX2_read_118 ?_
      refine R_aload_n (pc := 119) h 0 rfl rfl dX2_read_119 ?_
      refine R_getR (pc := 120) (q1 := 40) h flX2_28 lc_35 rfl dX2_read_120 ?_
      refine R_iload_n (pc := 123) h 1 rfl rfl dX2_read_123 ?_
      obtain ⟨v6, hv6, hF⟩ := bd hF
      refine R_iald (pc := 124) h hv6 lc_40 dX2_read_124 ?_
      obtain ⟨r8, hc7, hF⟩ := bd hF
      refine R_callV (pc := 125) (st := [.int x3, .ref (ad 42)]) h [.int x3, .int v5, .int v6] cvX2_67 (c2_valueAs (ad := ad) (z := X.1) hc7) rfl rfl lc_35 (by decide) (by decide) (Nat.le_of_ble_eq_true rfl) dX2_read_125 (st1 := [.int r8, .int x3, .ref (ad 42)]) rfl ?_
      obtain ⟨M9, hM9, hF⟩ := bd hF
      refine R_iast (pc := 128) h hM9 lc_42 dX2_read_128 ?_
      obtain ⟨v10, hv10, hF⟩ := nm_e2 hF
      refine R_iinc (pc := 129) (lv' := [(3, .int v10), (0, .ref (ad 35))]) h 1 rfl (by decide) hv10 (by decide) rfl dX2_read_129 ?_
      refine R_goto (pc := 132) (tgt := 75) h dX2_read_132 (by decide) ?_
      exact Wp_sub (nX := 0) (lv' := [(0, .ref (ad 35)), (3, .int v10)]) [1, 0] rfl (ih _ _ hF)
theorem w2_read_75 {ad : Nat → Nat} {X : XX} {R : Mem} {fu : Nat}  (h : Cx layC ad X cX2_read RX2 5 3 none (R) none)  {f : Nat} {x3 : Int32} {M : Mem} (hF : f2_read_75 fu f x3 M = some R) : Wp layC ad X M 75 [(0, .ref (ad 35)), (3, .int x3)] [] := w2_readi_75 h  f _ _ hF
def f2_read_9 (fu : Nat) : Nat → Nat → Int32 → Int32 → Mem → Option (Mem)
  | 0 => fun _ _ _ _ => none
  | f + 1 => fun px1 x2 x3 M =>
    (gd (decide (px1 < 10))).bind fun _ =>
    if (M.1 px1 0) ≤ x3 then ((f2_read_75 fu fu (0 : Int32) M))
    else (if (8 : Int32) ≤ (M.1 35 0) then ((f2_read_75 fu fu (0 : Int32) M))
    else ((f0_cellAt M px1 x3).bind fun r5 =>
    if r5 = (32 : Int32) then (nm (x3 + (1 : Int32)) fun v7 =>
    ((f2_read_9 fu f) px1 x2 v7 M))
    else ((f2_takeSign fu x2 r5 M).bind fun M9 =>
    nm (x2 + (1 : Int32)) fun v10 =>
    if v10 = (5 : Int32) then (nm (sI M9 35 0 ((M9.1 35 0) + (1 : Int32))) fun M12 =>
    nm (x3 + (1 : Int32)) fun v13 =>
    ((f2_read_9 fu f) px1 (0 : Int32) v13 M12))
    else (nm (x3 + (1 : Int32)) fun v14 =>
    ((f2_read_9 fu f) px1 v10 v14 M9)))))
set_option maxHeartbeats 4000000 in
set_option maxRecDepth 10000 in
theorem w2_readi_9 {ad : Nat → Nat} {X : XX} {R : Mem} {fu : Nat}  (h : Cx layC ad X cX2_read RX2 5 3 none (R) none)  : ∀ (f : Nat) (px1 : Nat) (x2 : Int32) (x3 : Int32) (M : Mem), f2_read_9 fu f px1 x2 x3 M = some R → Wp layC ad X M 9 [(0, .ref (ad 35)), (1, .ref (ad px1)), (2, .int x2), (3, .int x3)] [] := by
  intro f
  induction f with
  | zero => intro px1 x2 x3 M hF; exact absurd hF (by simp [f2_read_9])
  | succ f ih =>
    intro px1 x2 x3 M hF
    rw [f2_read_9] at hF
    refine R_iload_n (pc := 9) h 3 rfl rfl dX2_read_9 ?_
    refine R_aload_n (pc := 10) h 1 rfl rfl dX2_read_10 ?_
    obtain ⟨_, hg1, hF⟩ := bd hF
    have hg1 := of_decide_eq_true (gd_s hg1)
    refine R_getI (pc := 11) h flX2_54 (lyCells hg1) rfl dX2_read_11 ?_
    refine R_icmp_ge (pc := 14) (tgt := 73) h dX2_read_14 (by decide) (fun c2 => ?_) (fun c2 => ?_)
    · have hF := itp c2 hF
      refine R_iconst (pc := 73) (v := 0) h (by decide) dX2_read_73 ?_
      refine R_istore_n (pc := 74) (lv' := [(3, .int (0 : Int32)), (0, .ref (ad 35)), (1, .ref (ad px1)), (2, .int x2)]) h rfl rfl (by decide) rfl dX2_read_74 ?_
      exact Wp_sub (nX := 0) (lv' := [(0, .ref (ad 35)), (3, .int (0 : Int32))]) [1, 0] rfl (w2_read_75 h  (hF := hF))
    · have hF := ifn c2 hF
      refine R_aload_n (pc := 17) h 0 rfl rfl dX2_read_17 ?_
      refine R_getI (pc := 18) h flX2_9 lc_35 rfl dX2_read_18 ?_
      refine R_bipush (pc := 21) (v := 8) h (by decide) dX2_read_21 ?_
      refine R_icmp_ge (pc := 23) (tgt := 73) h dX2_read_23 (by decide) (fun c3 => ?_) (fun c3 => ?_)
      · have hF := itp c3 hF
        refine R_iconst (pc := 73) (v := 0) h (by decide) dX2_read_73 ?_
        refine R_istore_n (pc := 74) (lv' := [(3, .int (0 : Int32)), (0, .ref (ad 35)), (1, .ref (ad px1)), (2, .int x2)]) h rfl rfl (by decide) rfl dX2_read_74 ?_
        exact Wp_sub (nX := 0) (lv' := [(0, .ref (ad 35)), (3, .int (0 : Int32))]) [1, 0] rfl (w2_read_75 h  (hF := hF))
      · have hF := ifn c3 hF
        refine R_aload_n (pc := 26) h 1 rfl rfl dX2_read_26 ?_
        refine R_iload_n (pc := 27) h 3 rfl rfl dX2_read_27 ?_
        obtain ⟨r5, hc4, hF⟩ := bd hF
        refine R_callV (pc := 28) (st := []) h [.int x3] cvX2_59 (c0_cellAt (ad := ad) (z := X.1) hc4) rfl rfl (lyCells hg1) (by decide) (by decide) (Nat.le_of_ble_eq_true rfl) dX2_read_28 (st1 := [.int r5]) rfl ?_
        refine R_istore (pc := 31) (lv' := [(4, .int r5), (0, .ref (ad 35)), (1, .ref (ad px1)), (2, .int x2), (3, .int x3)]) h rfl (by decide) rfl dX2_read_31 ?_
        refine R_iload (pc := 33) h 0 rfl dX2_read_33 ?_
        refine R_bipush (pc := 35) (v := 32) h (by decide) dX2_read_35 ?_
        refine R_icmp_eq (pc := 37) (tgt := 67) h dX2_read_37 (by decide) (fun c6 => ?_) (fun c6 => ?_)
        · have hF := itp c6 hF
          obtain ⟨v7, hv7, hF⟩ := nm_e2 hF
          refine R_iinc (pc := 67) (lv' := [(3, .int v7), (4, .int r5), (0, .ref (ad 35)), (1, .ref (ad px1)), (2, .int x2)]) h 4 rfl (by decide) hv7 (by decide) rfl dX2_read_67 ?_
          refine R_goto (pc := 70) (tgt := 9) h dX2_read_70 (by decide) ?_
          exact Wp_sub (nX := 0) (lv' := [(0, .ref (ad 35)), (1, .ref (ad px1)), (2, .int x2), (3, .int v7)]) [2, 3, 4, 0] rfl (ih _ _ _ _ hF)
        · have hF := ifn c6 hF
          refine R_aload_n (pc := 40) h 1 rfl rfl dX2_read_40 ?_
          refine R_iload_n (pc := 41) h 3 rfl rfl dX2_read_41 ?_
          refine R_iload (pc := 42) h 0 rfl dX2_read_42 ?_
          obtain ⟨M9, hc8, hF⟩ := bd hF
          refine R_callV (pc := 44) (st := []) h [.int x2, .int r5] cvX2_63 (c2_takeSign (ad := ad) (z := X.1) hc8) rfl rfl lc_35 (by decide) (by decide) (Nat.le_of_ble_eq_true rfl) dX2_read_44 (st1 := []) rfl ?_
          obtain ⟨v10, hv10, hF⟩ := nm_e2 hF
          refine R_iinc (pc := 47) (lv' := [(2, .int v10), (4, .int r5), (0, .ref (ad 35)), (1, .ref (ad px1)), (3, .int x3)]) h 3 rfl (by decide) hv10 (by decide) rfl dX2_read_47 ?_
          refine R_iload_n (pc := 50) h 0 rfl rfl dX2_read_50 ?_
          refine R_iconst (pc := 51) (v := 5) h (by decide) dX2_read_51 ?_
          refine R_icmp_ne (pc := 52) (tgt := 67) h dX2_read_52 (by decide) (fun c11 => ?_) (fun c11 => ?_)
          · have hF := ifn c11 hF
            obtain ⟨v14, hv14, hF⟩ := nm_e2 hF
            refine R_iinc (pc := 67) (lv' := [(3, .int v14), (2, .int v10), (4, .int r5), (0, .ref (ad 35)), (1, .ref (ad px1))]) h 4 rfl (by decide) hv14 (by decide) rfl dX2_read_67 ?_
            refine R_goto (pc := 70) (tgt := 9) h dX2_read_70 (by decide) ?_
            exact Wp_sub (nX := 0) (lv' := [(0, .ref (ad 35)), (1, .ref (ad px1)), (2, .int v10), (3, .int v14)]) [3, 4, 1, 0] rfl (ih _ _ _ _ hF)
          · have hF := itp c11 hF
            refine R_iconst (pc := 55) (v := 0) h (by decide) dX2_read_55 ?_
            refine R_istore_n (pc := 56) (lv' := [(2, .int (0 : Int32)), (4, .int r5), (0, .ref (ad 35)), (1, .ref (ad px1)), (3, .int x3)]) h rfl rfl (by decide) rfl dX2_read_56 ?_
            refine R_aload_n (pc := 57) h 2 rfl rfl dX2_read_57 ?_
            refine R_dup (pc := 58) h rfl dX2_read_58 ?_
            refine R_getI (pc := 59) h flX2_9 lc_35 rfl dX2_read_59 ?_
            refine R_iconst (pc := 62) (v := 1) h (by decide) dX2_read_62 ?_
            refine R_iadd (pc := 63) h dX2_read_63 ?_
            obtain ⟨M12, hM12, hF⟩ := nm_e2 hF
            refine R_putI (pc := 64) h hM12 fpX2_9 lc_35 rfl dX2_read_64 ?_
            obtain ⟨v13, hv13, hF⟩ := nm_e2 hF
            refine R_iinc (pc := 67) (lv' := [(3, .int v13), (2, .int (0 : Int32)), (4, .int r5), (0, .ref (ad 35)), (1, .ref (ad px1))]) h 4 rfl (by decide) hv13 (by decide) rfl dX2_read_67 ?_
            refine R_goto (pc := 70) (tgt := 9) h dX2_read_70 (by decide) ?_
            exact Wp_sub (nX := 0) (lv' := [(0, .ref (ad 35)), (1, .ref (ad px1)), (2, .int (0 : Int32)), (3, .int v13)]) [3, 4, 1, 0] rfl (ih _ _ _ _ hF)
theorem w2_read_9 {ad : Nat → Nat} {X : XX} {R : Mem} {fu : Nat}  (h : Cx layC ad X cX2_read RX2 5 3 none (R) none)  {f : Nat} {px1 : Nat} {x2 : Int32} {x3 : Int32} {M : Mem} (hF : f2_read_9 fu f px1 x2 x3 M = some R) : Wp layC ad X M 9 [(0, .ref (ad 35)), (1, .ref (ad px1)), (2, .int x2), (3, .int x3)] [] := w2_readi_9 h  f _ _ _ _ hF
def f2_read (fu : Nat) (p1 : Nat) (M : Mem) : Option (Mem) :=
    nm (sI M 35 0 (0 : Int32)) fun M1 =>
    (f2_read_9 fu fu p1 (0 : Int32) (0 : Int32) M1)
set_option maxHeartbeats 4000000 in
set_option maxRecDepth 10000 in
theorem w2_read {ad : Nat → Nat} {X : XX} {R : Mem} {fu : Nat} (h : Cx layC ad X cX2_read RX2 5 3 none (R) none) {p1 : Nat} {M : Mem} (hF : f2_read fu p1 M = some R) : Wp layC ad X M 0 [(0, .ref (ad 35)), (1, .ref (ad p1))] [] := by
  unfold f2_read at hF
  refine R_aload_n (pc := 0) h 0 rfl rfl dX2_read_0 ?_
  refine R_iconst (pc := 1) (v := 0) h (by decide) dX2_read_1 ?_
  obtain ⟨M1, hM1, hF⟩ := nm_e2 hF
  refine R_putI (pc := 2) h hM1 fpX2_9 lc_35 rfl dX2_read_2 ?_
  refine R_iconst (pc := 5) (v := 0) h (by decide) dX2_read_5 ?_
  refine R_istore_n (pc := 6) (lv' := [(2, .int (0 : Int32)), (0, .ref (ad 35)), (1, .ref (ad p1))]) h rfl rfl (by decide) rfl dX2_read_6 ?_
  refine R_iconst (pc := 7) (v := 0) h (by decide) dX2_read_7 ?_
  refine R_istore_n (pc := 8) (lv' := [(3, .int (0 : Int32)), (2, .int (0 : Int32)), (0, .ref (ad 35)), (1, .ref (ad p1))]) h rfl rfl (by decide) rfl dX2_read_8 ?_
  exact Wp_sub (nX := 0) (lv' := [(0, .ref (ad 35)), (1, .ref (ad p1)), (2, .int (0 : Int32)), (3, .int (0 : Int32))]) [2, 3, 1, 0] rfl (w2_read_9 h  (hF := hF))
theorem c2_read {ad : Nat → Nat} {z : ZZ} {R : Mem} {fu : Nat} {p1 : Nat} {M : Mem} (hF : f2_read fu p1 M = some R) : Con layC ad z yX2_read cX2_read 5 none 3 M [.ref (ad 35), .ref (ad p1)] (R) none := con_of (own := RX2) (lv := [(0, .ref (ad 35)), (1, .ref (ad p1))]) (by decide +kernel) rfl (Nat.le_of_ble_eq_true rfl) rfl (fun X hz h => w2_read h hF)
def f2_all (M : Mem) : Option (Int32) :=
    (some (((1 : Int32) <<< ((M.1 35 0) &&& 31)) - (1 : Int32)))
set_option maxHeartbeats 4000000 in
set_option maxRecDepth 10000 in
theorem w2_all {ad : Nat → Nat} {X : XX} {R : Int32} {M : Mem} (h : Cx layC ad X cX2_all RX2 1 1 (some .int) M (some (.int R)))  (hF : f2_all M = some R) : Wp layC ad X M 0 [(0, .ref (ad 35))] [] := by
  unfold f2_all at hF
  refine R_iconst (pc := 0) (v := 1) h (by decide) dX2_all_0 ?_
  refine R_aload_n (pc := 1) h 0 rfl rfl dX2_all_1 ?_
  refine R_getI (pc := 2) h flX2_9 lc_35 rfl dX2_all_2 ?_
  refine R_ishl (pc := 5) h dX2_all_5 ?_
  refine R_iconst (pc := 6) (v := 1) h (by decide) dX2_all_6 ?_
  refine R_isub (pc := 7) h dX2_all_7 ?_
  cases hF
  exact R_ireturn (pc := 8) h rfl rfl rfl dX2_all_8
theorem c2_all {ad : Nat → Nat} {z : ZZ} {R : Int32} {M : Mem}  (hF : f2_all M = some R) : Con layC ad z yX2_all cX2_all 1 (some .int) 1 M [.ref (ad 35)] (M) (some (.int R)) := con_of (own := RX2) (lv := [(0, .ref (ad 35))]) (by decide +kernel) rfl (Nat.le_of_ble_eq_true rfl) rfl (fun X hz h => w2_all h hF)
def f3_lying (M : Mem) : Option (Int32) :=
    (f2_all M).bind fun r2 =>
    (some ((r2 &&& ((M.1 33 3) ^^^ (-1 : Int32))) &&& ((M.1 33 4) ^^^ (-1 : Int32))))
set_option maxHeartbeats 4000000 in
set_option maxRecDepth 10000 in
theorem w3_lying {ad : Nat → Nat} {X : XX} {R : Int32} {M : Mem} (h : Cx layC ad X cX3_lying RX3 1 2 (some .int) M (some (.int R)))  (hF : f3_lying M = some R) : Wp layC ad X M 0 [(0, .ref (ad 33))] [] := by
  unfold f3_lying at hF
  refine R_aload_n (pc := 0) h 0 rfl rfl dX3_lying_0 ?_
  refine R_getR (pc := 1) (q1 := 35) h flX3_12 lc_33 rfl dX3_lying_1 ?_
  obtain ⟨r2, hc1, hF⟩ := bd hF
  refine R_callV (pc := 4) (st := []) h [] cvX3_42 (c2_all (ad := ad) (z := X.1) hc1) rfl rfl lc_35 (by decide) (by decide) (Nat.le_of_ble_eq_true rfl) dX3_lying_4 (st1 := [.int r2]) rfl ?_
  refine R_aload_n (pc := 7) h 0 rfl rfl dX3_lying_7 ?_
  refine R_getI (pc := 8) h flX3_29 lc_33 rfl dX3_lying_8 ?_
  refine R_iconst (pc := 11) (v := (-1)) h (by decide) dX3_lying_11 ?_
  refine R_ixor (pc := 12) h dX3_lying_12 ?_
  refine R_iand (pc := 13) h dX3_lying_13 ?_
  refine R_aload_n (pc := 14) h 0 rfl rfl dX3_lying_14 ?_
  refine R_getI (pc := 15) h flX3_32 lc_33 rfl dX3_lying_15 ?_
  refine R_iconst (pc := 18) (v := (-1)) h (by decide) dX3_lying_18 ?_
  refine R_ixor (pc := 19) h dX3_lying_19 ?_
  refine R_iand (pc := 20) h dX3_lying_20 ?_
  cases hF
  exact R_ireturn (pc := 21) h rfl rfl rfl dX3_lying_21
theorem c3_lying {ad : Nat → Nat} {z : ZZ} {R : Int32} {M : Mem}  (hF : f3_lying M = some R) : Con layC ad z yX3_lying cX3_lying 1 (some .int) 2 M [.ref (ad 33)] (M) (some (.int R)) := con_of (own := RX3) (lv := [(0, .ref (ad 33))]) (by decide +kernel) rfl (Nat.le_of_ble_eq_true rfl) rfl (fun X hz h => w3_lying h hF)
def f3_lyingHere_4 (M : Mem) (fu : Nat) : Nat → Int32 → Int32 → Option (Int32)
  | 0 => fun _ _ => none
  | f + 1 => fun x1 x2 =>
    if (M.1 35 0) ≤ x2 then ((f3_lying M).bind fun r3 =>
    (some (x1 &&& r3)))
    else ((rd M 34 8 x2).bind fun v4 =>
    if v4 = (M.1 33 2) then (nm (x1 ||| ((1 : Int32) <<< (x2 &&& 31))) fun v6 =>
    nm (x2 + (1 : Int32)) fun v7 =>
    ((f3_lyingHere_4 M fu f) v6 v7))
    else (nm (x2 + (1 : Int32)) fun v8 =>
    ((f3_lyingHere_4 M fu f) x1 v8)))
set_option maxHeartbeats 4000000 in
set_option maxRecDepth 10000 in
theorem w3_lyingHerei_4 {ad : Nat → Nat} {X : XX} {R : Int32} {M : Mem} {fu : Nat}  (h : Cx layC ad X cX3_lyingHere RX3 3 3 (some .int) M (some (.int R)))  : ∀ (f : Nat) (x1 : Int32) (x2 : Int32), f3_lyingHere_4 M fu f x1 x2 = some R → Wp layC ad X M 4 [(0, .ref (ad 33)), (1, .int x1), (2, .int x2)] [] := by
  intro f
  induction f with
  | zero => intro x1 x2 hF; exact absurd hF (by simp [f3_lyingHere_4])
  | succ f ih =>
    intro x1 x2 hF
    rw [f3_lyingHere_4] at hF
    refine R_iload_n (pc := 4) h 2 rfl rfl dX3_lyingHere_4 ?_
    refine R_aload_n (pc := 5) h 0 rfl rfl dX3_lyingHere_5 ?_
    refine R_getR (pc := 6) (q1 := 35) h flX3_12 lc_33 rfl dX3_lyingHere_6 ?_
    refine R_getI (pc := 9) h flX3_46 lc_35 rfl dX3_lyingHere_9 ?_
    refine R_icmp_ge (pc := 12) (tgt := 40) h dX3_lyingHere_12 (by decide) (fun c1 => ?_) (fun c1 => ?_)
    · have hF := itp c1 hF
      refine R_iload_n (pc := 40) h 1 rfl rfl dX3_lyingHere_40 ?_
      refine R_aload_n (pc := 41) h 0 rfl rfl dX3_lyingHere_41 ?_
      obtain ⟨r3, hc2, hF⟩ := bd hF
      refine R_callV (pc := 42) (st := [.int x1]) h [] cvX3_49 (c3_lying (ad := ad) (z := X.1) hc2) rfl rfl lc_33 (by decide) (by decide) (Nat.le_of_ble_eq_true rfl) dX3_lyingHere_42 (st1 := [.int r3, .int x1]) rfl ?_
      refine R_iand (pc := 45) h dX3_lyingHere_45 ?_
      cases hF
      exact R_ireturn (pc := 46) h rfl rfl rfl dX3_lyingHere_46
    · have hF := ifn c1 hF
      refine R_aload_n (pc := 15) h 0 rfl rfl dX3_lyingHere_15 ?_
      refine R_getR (pc := 16) (q1 := 34) h flX3_35 lc_33 rfl dX3_lyingHere_16 ?_
      refine R_iload_n (pc := 19) h 2 rfl rfl dX3_lyingHere_19 ?_
      obtain ⟨v4, hv4, hF⟩ := bd hF
      refine R_iald (pc := 20) h hv4 lc_34 dX3_lyingHere_20 ?_
      refine R_aload_n (pc := 21) h 0 rfl rfl dX3_lyingHere_21 ?_
      refine R_getI (pc := 22) h flX3_25 lc_33 rfl dX3_lyingHere_22 ?_
      refine R_icmp_ne (pc := 25) (tgt := 34) h dX3_lyingHere_25 (by decide) (fun c5 => ?_) (fun c5 => ?_)
      · have hF := ifn c5 hF
        obtain ⟨v8, hv8, hF⟩ := nm_e2 hF
        refine R_iinc (pc := 34) (lv' := [(2, .int v8), (0, .ref (ad 33)), (1, .int x1)]) h 2 rfl (by decide) hv8 (by decide) rfl dX3_lyingHere_34 ?_
        refine R_goto (pc := 37) (tgt := 4) h dX3_lyingHere_37 (by decide) ?_
        exact Wp_sub (nX := 0) (lv' := [(0, .ref (ad 33)), (1, .int x1), (2, .int v8)]) [1, 2, 0] rfl (ih _ _ hF)
      · have hF := itp c5 hF
        refine R_iload_n (pc := 28) h 1 rfl rfl dX3_lyingHere_28 ?_
        refine R_iconst (pc := 29) (v := 1) h (by decide) dX3_lyingHere_29 ?_
        refine R_iload_n (pc := 30) h 2 rfl rfl dX3_lyingHere_30 ?_
        refine R_ishl (pc := 31) h dX3_lyingHere_31 ?_
        refine R_ior (pc := 32) h dX3_lyingHere_32 ?_
        obtain ⟨v6, hv6, hF⟩ := nm_e2 hF
        refine R_istore_n (pc := 33) (lv' := [(1, .int v6), (0, .ref (ad 33)), (2, .int x2)]) h hv6 rfl (by decide) rfl dX3_lyingHere_33 ?_
        obtain ⟨v7, hv7, hF⟩ := nm_e2 hF
        refine R_iinc (pc := 34) (lv' := [(2, .int v7), (1, .int v6), (0, .ref (ad 33))]) h 2 rfl (by decide) hv7 (by decide) rfl dX3_lyingHere_34 ?_
        refine R_goto (pc := 37) (tgt := 4) h dX3_lyingHere_37 (by decide) ?_
        exact Wp_sub (nX := 0) (lv' := [(0, .ref (ad 33)), (1, .int v6), (2, .int v7)]) [2, 1, 0] rfl (ih _ _ hF)
theorem w3_lyingHere_4 {ad : Nat → Nat} {X : XX} {R : Int32} {M : Mem} {fu : Nat}  (h : Cx layC ad X cX3_lyingHere RX3 3 3 (some .int) M (some (.int R)))  {f : Nat} {x1 : Int32} {x2 : Int32} (hF : f3_lyingHere_4 M fu f x1 x2 = some R) : Wp layC ad X M 4 [(0, .ref (ad 33)), (1, .int x1), (2, .int x2)] [] := w3_lyingHerei_4 h  f _ _ hF
def f3_lyingHere (M : Mem) (fu : Nat) : Option (Int32) :=
    (f3_lyingHere_4 M fu fu (0 : Int32) (0 : Int32))
set_option maxHeartbeats 4000000 in
set_option maxRecDepth 10000 in
theorem w3_lyingHere {ad : Nat → Nat} {X : XX} {R : Int32} {M : Mem} {fu : Nat} (h : Cx layC ad X cX3_lyingHere RX3 3 3 (some .int) M (some (.int R)))  (hF : f3_lyingHere M fu = some R) : Wp layC ad X M 0 [(0, .ref (ad 33))] [] := by
  unfold f3_lyingHere at hF
  refine R_iconst (pc := 0) (v := 0) h (by decide) dX3_lyingHere_0 ?_
  refine R_istore_n (pc := 1) (lv' := [(1, .int (0 : Int32)), (0, .ref (ad 33))]) h rfl rfl (by decide) rfl dX3_lyingHere_1 ?_
  refine R_iconst (pc := 2) (v := 0) h (by decide) dX3_lyingHere_2 ?_
  refine R_istore_n (pc := 3) (lv' := [(2, .int (0 : Int32)), (1, .int (0 : Int32)), (0, .ref (ad 33))]) h rfl rfl (by decide) rfl dX3_lyingHere_3 ?_
  exact Wp_sub (nX := 0) (lv' := [(0, .ref (ad 33)), (1, .int (0 : Int32)), (2, .int (0 : Int32))]) [2, 1, 0] rfl (w3_lyingHere_4 h  (hF := hF))
theorem c3_lyingHere {ad : Nat → Nat} {z : ZZ} {R : Int32} {M : Mem} {fu : Nat}  (hF : f3_lyingHere M fu = some R) : Con layC ad z yX3_lyingHere cX3_lyingHere 3 (some .int) 3 M [.ref (ad 33)] (M) (some (.int R)) := con_of (own := RX3) (lv := [(0, .ref (ad 33))]) (by decide +kernel) rfl (Nat.le_of_ble_eq_true rfl) rfl (fun X hz h => w3_lyingHere h hF)
def f3_change (fu : Nat) (x1 : Int32) (M : Mem) : Option (Mem) :=
    if x1 = 0 then (nm (sI M 33 2 ((M.1 33 2) + (1 : Int32))) fun M2 =>
    (some M2))
    else (if x1 = (1 : Int32) then (nm (sI M 33 2 ((M.1 33 2) - (1 : Int32))) fun M4 =>
    (some M4))
    else (if x1 = (2 : Int32) then ((f3_lyingHere M fu).bind fun r7 =>
    nm (sI M 33 4 ((M.1 33 4) ||| r7)) fun M8 =>
    (some M8))
    else ((f2_has M (x1 - (8 : Int32))).bind fun r10 =>
    if r10 = 0 then ((f2_has M (x1 - (16 : Int32))).bind fun r13 =>
    if r13 = 0 then ((some M))
    else (nm (sI M 33 3 ((M.1 33 3) &&& (((1 : Int32) <<< ((x1 - (16 : Int32)) &&& 31)) ^^^ (-1 : Int32)))) fun M15 =>
    (wr M15 34 8 (x1 - (16 : Int32)) (M15.1 33 2)).bind fun M16 =>
    (some M16)))
    else (nm (sI M 33 3 ((M.1 33 3) ||| ((1 : Int32) <<< ((x1 - (8 : Int32)) &&& 31)))) fun M17 =>
    (some M17)))))
set_option maxHeartbeats 4000000 in
set_option maxRecDepth 10000 in
theorem w3_change {ad : Nat → Nat} {X : XX} {R : Mem} {fu : Nat} (h : Cx layC ad X cX3_change RX3 2 4 none (R) none) {x1 : Int32} {M : Mem} (hF : f3_change fu x1 M = some R) : Wp layC ad X M 0 [(0, .ref (ad 33)), (1, .int x1)] [] := by
  unfold f3_change at hF
  refine R_iload_n (pc := 0) h 1 rfl rfl dX3_change_0 ?_
  refine R_if_ne (pc := 1) (tgt := 17) h dX3_change_1 (by decide) (fun c1 => ?_) (fun c1 => ?_)
  · have hF := ifn c1 hF
    refine R_iload_n (pc := 17) h 1 rfl rfl dX3_change_17 ?_
    refine R_iconst (pc := 18) (v := 1) h (by decide) dX3_change_18 ?_
    refine R_icmp_ne (pc := 19) (tgt := 35) h dX3_change_19 (by decide) (fun c3 => ?_) (fun c3 => ?_)
    · have hF := ifn c3 hF
      refine R_iload_n (pc := 35) h 1 rfl rfl dX3_change_35 ?_
      refine R_iconst (pc := 36) (v := 2) h (by decide) dX3_change_36 ?_
      refine R_icmp_ne (pc := 37) (tgt := 56) h dX3_change_37 (by decide) (fun c5 => ?_) (fun c5 => ?_)
      · have hF := ifn c5 hF
        refine R_aload_n (pc := 56) h 0 rfl rfl dX3_change_56 ?_
        refine R_getR (pc := 57) (q1 := 35) h flX3_12 lc_33 rfl dX3_change_57 ?_
        refine R_iload_n (pc := 60) h 1 rfl rfl dX3_change_60 ?_
        refine R_bipush (pc := 61) (v := 8) h (by decide) dX3_change_61 ?_
        refine R_isub (pc := 63) h dX3_change_63 ?_
        obtain ⟨r10, hc9, hF⟩ := bd hF
        refine R_callV (pc := 64) (st := []) h [.int (x1 - (8 : Int32))] cvX3_64 (c2_has (ad := ad) (z := X.1) hc9) rfl rfl lc_35 (by decide) (by decide) (Nat.le_of_ble_eq_true rfl) dX3_change_64 (st1 := [.int r10]) rfl ?_
        refine R_if_eq (pc := 67) (tgt := 88) h dX3_change_67 (by decide) (fun c11 => ?_) (fun c11 => ?_)
        · have hF := itp c11 hF
          refine R_aload_n (pc := 88) h 0 rfl rfl dX3_change_88 ?_
          refine R_getR (pc := 89) (q1 := 35) h flX3_12 lc_33 rfl dX3_change_89 ?_
          refine R_iload_n (pc := 92) h 1 rfl rfl dX3_change_92 ?_
          refine R_bipush (pc := 93) (v := 16) h (by decide) dX3_change_93 ?_
          refine R_isub (pc := 95) h dX3_change_95 ?_
          obtain ⟨r13, hc12, hF⟩ := bd hF
          refine R_callV (pc := 96) (st := []) h [.int (x1 - (16 : Int32))] cvX3_64 (c2_has (ad := ad) (z := X.1) hc12) rfl rfl lc_35 (by decide) (by decide) (Nat.le_of_ble_eq_true rfl) dX3_change_96 (st1 := [.int r13]) rfl ?_
          refine R_if_eq (pc := 99) (tgt := 132) h dX3_change_99 (by decide) (fun c14 => ?_) (fun c14 => ?_)
          · have hF := itp c14 hF
            cases hF
            exact R_return (pc := 132) h rfl rfl rfl dX3_change_132
          · have hF := ifn c14 hF
            refine R_aload_n (pc := 102) h 0 rfl rfl dX3_change_102 ?_
            refine R_dup (pc := 103) h rfl dX3_change_103 ?_
            refine R_getI (pc := 104) h flX3_29 lc_33 rfl dX3_change_104 ?_
            refine R_iconst (pc := 107) (v := 1) h (by decide) dX3_change_107 ?_
            refine R_iload_n (pc := 108) h 1 rfl rfl dX3_change_108 ?_
            refine R_bipush (pc := 109) (v := 16) h (by decide) dX3_change_109 ?_
            refine R_isub (pc := 111) h dX3_change_111 ?_
            refine R_ishl (pc := 112) h dX3_change_112 ?_
            refine R_iconst (pc := 113) (v := (-1)) h (by decide) dX3_change_113 ?_
            refine R_ixor (pc := 114) h dX3_change_114 ?_
            refine R_iand (pc := 115) h dX3_change_115 ?_
            obtain ⟨M15, hM15, hF⟩ := nm_e2 hF
            refine R_putI (pc := 116) h hM15 fpX3_29 lc_33 rfl dX3_change_116 ?_
            refine R_aload_n (pc := 119) h 0 rfl rfl dX3_change_119 ?_
            refine R_getR (pc := 120) (q1 := 34) h flX3_35 lc_33 rfl dX3_change_120 ?_
            refine R_iload_n (pc := 123) h 1 rfl rfl dX3_change_123 ?_
            refine R_bipush (pc := 124) (v := 16) h (by decide) dX3_change_124 ?_
            refine R_isub (pc := 126) h dX3_change_126 ?_
            refine R_aload_n (pc := 127) h 0 rfl rfl dX3_change_127 ?_
            refine R_getI (pc := 128) h flX3_25 lc_33 rfl dX3_change_128 ?_
            obtain ⟨M16, hM16, hF⟩ := bd hF
            refine R_iast (pc := 131) h hM16 lc_34 dX3_change_131 ?_
            cases hF
            exact R_return (pc := 132) h rfl rfl rfl dX3_change_132
        · have hF := ifn c11 hF
          refine R_aload_n (pc := 70) h 0 rfl rfl dX3_change_70 ?_
          refine R_dup (pc := 71) h rfl dX3_change_71 ?_
          refine R_getI (pc := 72) h flX3_29 lc_33 rfl dX3_change_72 ?_
          refine R_iconst (pc := 75) (v := 1) h (by decide) dX3_change_75 ?_
          refine R_iload_n (pc := 76) h 1 rfl rfl dX3_change_76 ?_
          refine R_bipush (pc := 77) (v := 8) h (by decide) dX3_change_77 ?_
          refine R_isub (pc := 79) h dX3_change_79 ?_
          refine R_ishl (pc := 80) h dX3_change_80 ?_
          refine R_ior (pc := 81) h dX3_change_81 ?_
          obtain ⟨M17, hM17, hF⟩ := nm_e2 hF
          refine R_putI (pc := 82) h hM17 fpX3_29 lc_33 rfl dX3_change_82 ?_
          refine R_goto (pc := 85) (tgt := 132) h dX3_change_85 (by decide) ?_
          cases hF
          exact R_return (pc := 132) h rfl rfl rfl dX3_change_132
      · have hF := itp c5 hF
        refine R_aload_n (pc := 40) h 0 rfl rfl dX3_change_40 ?_
        refine R_dup (pc := 41) h rfl dX3_change_41 ?_
        refine R_getI (pc := 42) h flX3_32 lc_33 rfl dX3_change_42 ?_
        refine R_aload_n (pc := 45) h 0 rfl rfl dX3_change_45 ?_
        obtain ⟨r7, hc6, hF⟩ := bd hF
        refine R_callV (pc := 46) (st := [.int (M.1 33 4), .ref (ad 33)]) h [] cvX3_61 (c3_lyingHere (ad := ad) (z := X.1) hc6) rfl rfl lc_33 (by decide) (by decide) (Nat.le_of_ble_eq_true rfl) dX3_change_46 (st1 := [.int r7, .int (M.1 33 4), .ref (ad 33)]) rfl ?_
        refine R_ior (pc := 49) h dX3_change_49 ?_
        obtain ⟨M8, hM8, hF⟩ := nm_e2 hF
        refine R_putI (pc := 50) h hM8 fpX3_32 lc_33 rfl dX3_change_50 ?_
        refine R_goto (pc := 53) (tgt := 132) h dX3_change_53 (by decide) ?_
        cases hF
        exact R_return (pc := 132) h rfl rfl rfl dX3_change_132
    · have hF := itp c3 hF
      refine R_aload_n (pc := 22) h 0 rfl rfl dX3_change_22 ?_
      refine R_dup (pc := 23) h rfl dX3_change_23 ?_
      refine R_getI (pc := 24) h flX3_25 lc_33 rfl dX3_change_24 ?_
      refine R_iconst (pc := 27) (v := 1) h (by decide) dX3_change_27 ?_
      refine R_isub (pc := 28) h dX3_change_28 ?_
      obtain ⟨M4, hM4, hF⟩ := nm_e2 hF
      refine R_putI (pc := 29) h hM4 fpX3_25 lc_33 rfl dX3_change_29 ?_
      refine R_goto (pc := 32) (tgt := 132) h dX3_change_32 (by decide) ?_
      cases hF
      exact R_return (pc := 132) h rfl rfl rfl dX3_change_132
  · have hF := itp c1 hF
    refine R_aload_n (pc := 4) h 0 rfl rfl dX3_change_4 ?_
    refine R_dup (pc := 5) h rfl dX3_change_5 ?_
    refine R_getI (pc := 6) h flX3_25 lc_33 rfl dX3_change_6 ?_
    refine R_iconst (pc := 9) (v := 1) h (by decide) dX3_change_9 ?_
    refine R_iadd (pc := 10) h dX3_change_10 ?_
    obtain ⟨M2, hM2, hF⟩ := nm_e2 hF
    refine R_putI (pc := 11) h hM2 fpX3_25 lc_33 rfl dX3_change_11 ?_
    refine R_goto (pc := 14) (tgt := 132) h dX3_change_14 (by decide) ?_
    cases hF
    exact R_return (pc := 132) h rfl rfl rfl dX3_change_132
theorem c3_change {ad : Nat → Nat} {z : ZZ} {R : Mem} {fu : Nat} {x1 : Int32} {M : Mem} (hF : f3_change fu x1 M = some R) : Con layC ad z yX3_change cX3_change 2 none 4 M [.ref (ad 33), .int x1] (R) none := con_of (own := RX3) (lv := [(0, .ref (ad 33)), (1, .int x1)]) (by decide +kernel) rfl (Nat.le_of_ble_eq_true rfl) rfl (fun X hz h => w3_change h hF)
def f3_goBackTo_51 (fu : Nat) : Nat → Int32 → Int32 → Mem → Option (Mem)
  | 0 => fun _ _ _ => none
  | f + 1 => fun x1 x2 M =>
    if x1 ≤ x2 then (nm (sI M 23 0 x1) fun M2 =>
    (some M2))
    else (if (40 : Int32) ≤ x2 then (nm (sI M 23 0 x1) fun M4 =>
    (some M4))
    else ((rd M 27 40 x2).bind fun v5 =>
    (f3_change fu v5 M).bind fun M7 =>
    nm (x2 + (1 : Int32)) fun v8 =>
    ((f3_goBackTo_51 fu f) x1 v8 M7)))
set_option maxHeartbeats 4000000 in
set_option maxRecDepth 10000 in
theorem w3_goBackToi_51 {ad : Nat → Nat} {X : XX} {R : Mem} {fu : Nat}  (h : Cx layC ad X cX3_goBackTo RX3 3 5 none (R) none)  : ∀ (f : Nat) (x1 : Int32) (x2 : Int32) (M : Mem), f3_goBackTo_51 fu f x1 x2 M = some R → Wp layC ad X M 51 [(0, .ref (ad 33)), (1, .int x1), (2, .int x2)] [] := by
  intro f
  induction f with
  | zero => intro x1 x2 M hF; exact absurd hF (by simp [f3_goBackTo_51])
  | succ f ih =>
    intro x1 x2 M hF
    rw [f3_goBackTo_51] at hF
    refine R_iload_n (pc := 51) h 2 rfl rfl dX3_goBackTo_51 ?_
    refine R_iload_n (pc := 52) h 1 rfl rfl dX3_goBackTo_52 ?_
    refine R_icmp_ge (pc := 53) (tgt := 81) h dX3_goBackTo_53 (by decide) (fun c1 => ?_) (fun c1 => ?_)
    · have hF := itp c1 hF
      refine R_aload_n (pc := 81) h 0 rfl rfl dX3_goBackTo_81 ?_
      refine R_getR (pc := 82) (q1 := 23) h flX3_21 lc_33 rfl dX3_goBackTo_82 ?_
      refine R_iload_n (pc := 85) h 1 rfl rfl dX3_goBackTo_85 ?_
      obtain ⟨M2, hM2, hF⟩ := nm_e2 hF
      refine R_putI (pc := 86) h hM2 fpX3_39 lc_23 rfl dX3_goBackTo_86 ?_
      cases hF
      exact R_return (pc := 89) h rfl rfl rfl dX3_goBackTo_89
    · have hF := ifn c1 hF
      refine R_iload_n (pc := 56) h 2 rfl rfl dX3_goBackTo_56 ?_
      refine R_bipush (pc := 57) (v := 40) h (by decide) dX3_goBackTo_57 ?_
      refine R_icmp_ge (pc := 59) (tgt := 81) h dX3_goBackTo_59 (by decide) (fun c3 => ?_) (fun c3 => ?_)
      · have hF := itp c3 hF
        refine R_aload_n (pc := 81) h 0 rfl rfl dX3_goBackTo_81 ?_
        refine R_getR (pc := 82) (q1 := 23) h flX3_21 lc_33 rfl dX3_goBackTo_82 ?_
        refine R_iload_n (pc := 85) h 1 rfl rfl dX3_goBackTo_85 ?_
        obtain ⟨M4, hM4, hF⟩ := nm_e2 hF
        refine R_putI (pc := 86) h hM4 fpX3_39 lc_23 rfl dX3_goBackTo_86 ?_
        cases hF
        exact R_return (pc := 89) h rfl rfl rfl dX3_goBackTo_89
      · have hF := ifn c3 hF
        refine R_aload_n (pc := 62) h 0 rfl rfl dX3_goBackTo_62 ?_
        refine R_aload_n (pc := 63) h 0 rfl rfl dX3_goBackTo_63 ?_
        refine R_getR (pc := 64) (q1 := 23) h flX3_21 lc_33 rfl dX3_goBackTo_64 ?_
        refine R_getR (pc := 67) (q1 := 27) h flX3_52 lc_23 rfl dX3_goBackTo_67 ?_
        refine R_iload_n (pc := 70) h 2 rfl rfl dX3_goBackTo_70 ?_
        obtain ⟨v5, hv5, hF⟩ := bd hF
        refine R_iald (pc := 71) h hv5 lc_27 dX3_goBackTo_71 ?_
        obtain ⟨M7, hc6, hF⟩ := bd hF
        refine R_callV (pc := 72) (st := []) h [.int v5] cvX3_55 (c3_change (ad := ad) (z := X.1) hc6) rfl rfl lc_33 (by decide) (by decide) (Nat.le_of_ble_eq_true rfl) dX3_goBackTo_72 (st1 := []) rfl ?_
        obtain ⟨v8, hv8, hF⟩ := nm_e2 hF
        refine R_iinc (pc := 75) (lv' := [(2, .int v8), (0, .ref (ad 33)), (1, .int x1)]) h 2 rfl (by decide) hv8 (by decide) rfl dX3_goBackTo_75 ?_
        refine R_goto (pc := 78) (tgt := 51) h dX3_goBackTo_78 (by decide) ?_
        exact Wp_sub (nX := 0) (lv' := [(0, .ref (ad 33)), (1, .int x1), (2, .int v8)]) [1, 2, 0] rfl (ih _ _ _ hF)
theorem w3_goBackTo_51 {ad : Nat → Nat} {X : XX} {R : Mem} {fu : Nat}  (h : Cx layC ad X cX3_goBackTo RX3 3 5 none (R) none)  {f : Nat} {x1 : Int32} {x2 : Int32} {M : Mem} (hF : f3_goBackTo_51 fu f x1 x2 M = some R) : Wp layC ad X M 51 [(0, .ref (ad 33)), (1, .int x1), (2, .int x2)] [] := w3_goBackToi_51 h  f _ _ _ hF
def f3_goBackTo_17 (fu : Nat) : Nat → Int32 → Int32 → Mem → Option (Mem)
  | 0 => fun _ _ _ => none
  | f + 1 => fun x1 x2 M =>
    if (M.1 35 0) ≤ x2 then ((f3_goBackTo_51 fu fu x1 (0 : Int32) M))
    else ((rd M 37 8 x2).bind fun v2 =>
    (wr M 34 8 x2 v2).bind fun M3 =>
    nm (x2 + (1 : Int32)) fun v4 =>
    ((f3_goBackTo_17 fu f) x1 v4 M3))
set_option maxHeartbeats 4000000 in
set_option maxRecDepth 10000 in
theorem w3_goBackToi_17 {ad : Nat → Nat} {X : XX} {R : Mem} {fu : Nat}  (h : Cx layC ad X cX3_goBackTo RX3 3 5 none (R) none)  : ∀ (f : Nat) (x1 : Int32) (x2 : Int32) (M : Mem), f3_goBackTo_17 fu f x1 x2 M = some R → Wp layC ad X M 17 [(0, .ref (ad 33)), (1, .int x1), (2, .int x2)] [] := by
  intro f
  induction f with
  | zero => intro x1 x2 M hF; exact absurd hF (by simp [f3_goBackTo_17])
  | succ f ih =>
    intro x1 x2 M hF
    rw [f3_goBackTo_17] at hF
    refine R_iload_n (pc := 17) h 2 rfl rfl dX3_goBackTo_17 ?_
    refine R_aload_n (pc := 18) h 0 rfl rfl dX3_goBackTo_18 ?_
    refine R_getR (pc := 19) (q1 := 35) h flX3_12 lc_33 rfl dX3_goBackTo_19 ?_
    refine R_getI (pc := 22) h flX3_46 lc_35 rfl dX3_goBackTo_22 ?_
    refine R_icmp_ge (pc := 25) (tgt := 49) h dX3_goBackTo_25 (by decide) (fun c1 => ?_) (fun c1 => ?_)
    · have hF := itp c1 hF
      refine R_iconst (pc := 49) (v := 0) h (by decide) dX3_goBackTo_49 ?_
      refine R_istore_n (pc := 50) (lv' := [(2, .int (0 : Int32)), (0, .ref (ad 33)), (1, .int x1)]) h rfl rfl (by decide) rfl dX3_goBackTo_50 ?_
      exact Wp_sub (nX := 0) (lv' := [(0, .ref (ad 33)), (1, .int x1), (2, .int (0 : Int32))]) [1, 2, 0] rfl (w3_goBackTo_51 h  (hF := hF))
    · have hF := ifn c1 hF
      refine R_aload_n (pc := 28) h 0 rfl rfl dX3_goBackTo_28 ?_
      refine R_getR (pc := 29) (q1 := 34) h flX3_35 lc_33 rfl dX3_goBackTo_29 ?_
      refine R_iload_n (pc := 32) h 2 rfl rfl dX3_goBackTo_32 ?_
      refine R_aload_n (pc := 33) h 0 rfl rfl dX3_goBackTo_33 ?_
      refine R_getR (pc := 34) (q1 := 35) h flX3_12 lc_33 rfl dX3_goBackTo_34 ?_
      refine R_getR (pc := 37) (q1 := 37) h flX3_59 lc_35 rfl dX3_goBackTo_37 ?_
      refine R_iload_n (pc := 40) h 2 rfl rfl dX3_goBackTo_40 ?_
      obtain ⟨v2, hv2, hF⟩ := bd hF
      refine R_iald (pc := 41) h hv2 lc_37 dX3_goBackTo_41 ?_
      obtain ⟨M3, hM3, hF⟩ := bd hF
      refine R_iast (pc := 42) h hM3 lc_34 dX3_goBackTo_42 ?_
      obtain ⟨v4, hv4, hF⟩ := nm_e2 hF
      refine R_iinc (pc := 43) (lv' := [(2, .int v4), (0, .ref (ad 33)), (1, .int x1)]) h 2 rfl (by decide) hv4 (by decide) rfl dX3_goBackTo_43 ?_
      refine R_goto (pc := 46) (tgt := 17) h dX3_goBackTo_46 (by decide) ?_
      exact Wp_sub (nX := 0) (lv' := [(0, .ref (ad 33)), (1, .int x1), (2, .int v4)]) [1, 2, 0] rfl (ih _ _ _ hF)
theorem w3_goBackTo_17 {ad : Nat → Nat} {X : XX} {R : Mem} {fu : Nat}  (h : Cx layC ad X cX3_goBackTo RX3 3 5 none (R) none)  {f : Nat} {x1 : Int32} {x2 : Int32} {M : Mem} (hF : f3_goBackTo_17 fu f x1 x2 M = some R) : Wp layC ad X M 17 [(0, .ref (ad 33)), (1, .int x1), (2, .int x2)] [] := w3_goBackToi_17 h  f _ _ _ hF
def f3_goBackTo (fu : Nat) (x1 : Int32) (M : Mem) : Option (Mem) :=
    nm (sI M 33 2 (0 : Int32)) fun M1 =>
    nm (sI M1 33 3 (0 : Int32)) fun M2 =>
    nm (sI M2 33 4 (0 : Int32)) fun M3 =>
    (f3_goBackTo_17 fu fu x1 (0 : Int32) M3)
set_option maxHeartbeats 4000000 in
set_option maxRecDepth 10000 in
theorem w3_goBackTo {ad : Nat → Nat} {X : XX} {R : Mem} {fu : Nat} (h : Cx layC ad X cX3_goBackTo RX3 3 5 none (R) none) {x1 : Int32} {M : Mem} (hF : f3_goBackTo fu x1 M = some R) : Wp layC ad X M 0 [(0, .ref (ad 33)), (1, .int x1)] [] := by
  unfold f3_goBackTo at hF
  refine R_aload_n (pc := 0) h 0 rfl rfl dX3_goBackTo_0 ?_
  refine R_iconst (pc := 1) (v := 0) h (by decide) dX3_goBackTo_1 ?_
  obtain ⟨M1, hM1, hF⟩ := nm_e2 hF
  refine R_putI (pc := 2) h hM1 fpX3_25 lc_33 rfl dX3_goBackTo_2 ?_
  refine R_aload_n (pc := 5) h 0 rfl rfl dX3_goBackTo_5 ?_
  refine R_iconst (pc := 6) (v := 0) h (by decide) dX3_goBackTo_6 ?_
  obtain ⟨M2, hM2, hF⟩ := nm_e2 hF
  refine R_putI (pc := 7) h hM2 fpX3_29 lc_33 rfl dX3_goBackTo_7 ?_
  refine R_aload_n (pc := 10) h 0 rfl rfl dX3_goBackTo_10 ?_
  refine R_iconst (pc := 11) (v := 0) h (by decide) dX3_goBackTo_11 ?_
  obtain ⟨M3, hM3, hF⟩ := nm_e2 hF
  refine R_putI (pc := 12) h hM3 fpX3_32 lc_33 rfl dX3_goBackTo_12 ?_
  refine R_iconst (pc := 15) (v := 0) h (by decide) dX3_goBackTo_15 ?_
  refine R_istore_n (pc := 16) (lv' := [(2, .int (0 : Int32)), (0, .ref (ad 33)), (1, .int x1)]) h rfl rfl (by decide) rfl dX3_goBackTo_16 ?_
  exact Wp_sub (nX := 0) (lv' := [(0, .ref (ad 33)), (1, .int x1), (2, .int (0 : Int32))]) [1, 2, 0] rfl (w3_goBackTo_17 h  (hF := hF))
theorem c3_goBackTo {ad : Nat → Nat} {z : ZZ} {R : Mem} {fu : Nat} {x1 : Int32} {M : Mem} (hF : f3_goBackTo fu x1 M = some R) : Con layC ad z yX3_goBackTo cX3_goBackTo 3 none 5 M [.ref (ad 33), .int x1] (R) none := con_of (own := RX3) (lv := [(0, .ref (ad 33)), (1, .int x1)]) (by decide +kernel) rfl (Nat.le_of_ble_eq_true rfl) rfl (fun X hz h => w3_goBackTo h hF)
def f4_street_56 (fu : Nat) : Nat → Int32 → Mem → Option (Mem × Int32)
  | 0 => fun _ _ => none
  | f + 1 => fun x4 M =>
    if (3 : Int32) ≤ x4 then ((some (M, (M.1 35 0))))
    else ((rdR [20, 21, 22] x4).bind fun q2 =>
    (gd (decide (20 ≤ q2 ∧ q2 < 24))).bind fun _ =>
    nm (sI M q2 0 (-1 : Int32)) fun M4 =>
    nm (x4 + (1 : Int32)) fun v5 =>
    ((f4_street_56 fu f) v5 M4))
set_option maxHeartbeats 4000000 in
set_option maxRecDepth 10000 in
theorem w4_streeti_56 {ad : Nat → Nat} {X : XX} {R : Mem × Int32} {fu : Nat}  (h : Cx layC ad X cX4_street RX4 5 6 (some .int) (R.1) (some (.int R.2)))  : ∀ (f : Nat) (x4 : Int32) (M : Mem), f4_street_56 fu f x4 M = some R → Wp layC ad X M 56 [(0, .ref (ad 28)), (4, .int x4)] [] := by
  intro f
  induction f with
  | zero => intro x4 M hF; exact absurd hF (by simp [f4_street_56])
  | succ f ih =>
    intro x4 M hF
    rw [f4_street_56] at hF
    refine R_iload (pc := 56) h 1 rfl dX4_street_56 ?_
    refine R_iconst (pc := 58) (v := 3) h (by decide) dX4_street_58 ?_
    refine R_icmp_ge (pc := 59) (tgt := 79) h dX4_street_59 (by decide) (fun c1 => ?_) (fun c1 => ?_)
    · have hF := itp c1 hF
      refine R_aload_n (pc := 79) h 0 rfl rfl dX4_street_79 ?_
      refine R_getR (pc := 80) (q1 := 33) h flX4_27 lc_28 rfl dX4_street_80 ?_
      refine R_getR (pc := 83) (q1 := 35) h flX4_104 lc_33 rfl dX4_street_83 ?_
      refine R_getI (pc := 86) h flX4_121 lc_35 rfl dX4_street_86 ?_
      cases hF
      exact R_ireturn (pc := 89) h rfl rfl rfl dX4_street_89
    · have hF := ifn c1 hF
      refine R_aload_n (pc := 62) h 0 rfl rfl dX4_street_62 ?_
      refine R_getR (pc := 63) (q1 := 31) h flX4_20 lc_28 rfl dX4_street_63 ?_
      refine R_iload (pc := 66) h 1 rfl dX4_street_66 ?_
      obtain ⟨q2, hq2, hF⟩ := bd hF
      refine R_aald (pc := 68) h hq2 (by decide) lc_31 dX4_street_68 ?_
      refine R_iconst (pc := 69) (v := (-1)) h (by decide) dX4_street_69 ?_
      obtain ⟨_, hg3, hF⟩ := bd hF
      have hg3 := of_decide_eq_true (gd_s hg3)
      obtain ⟨M4, hM4, hF⟩ := nm_e2 hF
      refine R_putI (pc := 70) h hM4 fpX4_118 (lyDeeds hg3) rfl dX4_street_70 ?_
      obtain ⟨v5, hv5, hF⟩ := nm_e2 hF
      refine R_iinc (pc := 73) (lv' := [(4, .int v5), (0, .ref (ad 28))]) h 1 rfl (by decide) hv5 (by decide) rfl dX4_street_73 ?_
      refine R_goto (pc := 76) (tgt := 56) h dX4_street_76 (by decide) ?_
      exact Wp_sub (nX := 0) (lv' := [(0, .ref (ad 28)), (4, .int v5)]) [1, 0] rfl (ih _ _ hF)
theorem w4_street_56 {ad : Nat → Nat} {X : XX} {R : Mem × Int32} {fu : Nat}  (h : Cx layC ad X cX4_street RX4 5 6 (some .int) (R.1) (some (.int R.2)))  {f : Nat} {x4 : Int32} {M : Mem} (hF : f4_street_56 fu f x4 M = some R) : Wp layC ad X M 56 [(0, .ref (ad 28)), (4, .int x4)] [] := w4_streeti_56 h  f _ _ hF
def f4_street (fu : Nat) (x1 : Int32) (M : Mem) : Option (Mem × Int32) :=
    (f4_textAt x1).bind fun r2 =>
    oc r2 ((f4_refuseMissing_N M).bind fun ⟨M5, r6⟩ =>
    (some (M5, r6)))
    fun q3 => (f4_refuseMissing q3 M).bind fun ⟨M8, r9⟩ =>
    if r9 = 0 then ((f4_firstFault M8 fu q3).bind fun r12 =>
    if r12 = (-9 : Int32) then ((f2_read fu q3 M8).bind fun M15 =>
    (f3_goBackTo fu (0 : Int32) M15).bind fun M17 =>
    (f4_street_56 fu fu (0 : Int32) M17))
    else ((some (M8, (-4 : Int32)))))
    else ((some (M8, r9)))
set_option maxHeartbeats 4000000 in
set_option maxRecDepth 10000 in
theorem w4_street {ad : Nat → Nat} {X : XX} {R : Mem × Int32} {fu : Nat} (h : Cx layC ad X cX4_street RX4 5 6 (some .int) (R.1) (some (.int R.2))) {x1 : Int32} {M : Mem} (hF : f4_street fu x1 M = some R) : Wp layC ad X M 0 [(0, .ref (ad 28)), (1, .int x1)] [] := by
  unfold f4_street at hF
  refine R_aload_n (pc := 0) h 0 rfl rfl dX4_street_0 ?_
  refine R_iload_n (pc := 1) h 1 rfl rfl dX4_street_1 ?_
  obtain ⟨r2, hc1, hF⟩ := bd hF
  rcases r2 with _ | q3
  · have hF := oc_n hF
    refine R_callV (pc := 2) (st := []) h [.int x1] cvX4_98 (c4_textAt (ad := ad) (z := X.1) (M := M) hc1) rfl rfl lc_28 (by decide) (by decide) (Nat.le_of_ble_eq_true rfl) dX4_street_2 (st1 := [.null]) rfl ?_
    refine R_astore_nN (pc := 5) (lv' := [(2, .null), (0, .ref (ad 28)), (1, .int x1)]) h rfl (by decide) rfl dX4_street_5 ?_
    refine R_aload_n (pc := 6) h 1 rfl rfl dX4_street_6 ?_
    refine R_aload_nN (pc := 7) h 0 rfl rfl dX4_street_7 ?_
    obtain ⟨⟨M5, r6⟩, hc4, hF⟩ := bd hF
    refine R_callV (pc := 8) (st := []) h [.null] cvX4_71 (c4_refuseMissing_N (ad := ad) (z := X.1) hc4) rfl rfl lc_28 (by decide) (by decide) (Nat.le_of_ble_eq_true rfl) dX4_street_8 (st1 := [.int r6]) rfl ?_
    refine R_istore_n (pc := 11) (lv' := [(3, .int r6), (2, .null), (0, .ref (ad 28)), (1, .int x1)]) h rfl rfl (by decide) rfl dX4_street_11 ?_
    refine R_aload_nN (pc := 12) h 1 rfl rfl dX4_street_12 ?_
    refine R_ifnullN (pc := 13) (tgt := 20) h dX4_street_13 (by decide) ?_
    refine R_iload_n (pc := 20) h 0 rfl rfl dX4_street_20 ?_
    cases hF
    exact R_ireturn (pc := 21) h rfl rfl rfl dX4_street_21
  · have hF := oc_s hF
    refine R_callV (pc := 2) (st := []) h [.int x1] cvX4_98 (c4_textAt (ad := ad) (z := X.1) (M := M) hc1) rfl rfl lc_28 (by decide) (by decide) (Nat.le_of_ble_eq_true rfl) dX4_street_2 (st1 := [.ref (ad q3)]) rfl ?_
    refine R_astore_n (pc := 5) (lv' := [(2, .ref (ad q3)), (0, .ref (ad 28)), (1, .int x1)]) h rfl rfl (by decide) rfl dX4_street_5 ?_
    refine R_aload_n (pc := 6) h 1 rfl rfl dX4_street_6 ?_
    refine R_aload_n (pc := 7) h 0 rfl rfl dX4_street_7 ?_
    obtain ⟨⟨M8, r9⟩, hc7, hF⟩ := bd hF
    refine R_callV (pc := 8) (st := []) h [.ref (ad q3)] cvX4_71 (c4_refuseMissing (ad := ad) (z := X.1) hc7) rfl rfl lc_28 (by decide) (by decide) (Nat.le_of_ble_eq_true rfl) dX4_street_8 (st1 := [.int r9]) rfl ?_
    refine R_istore_n (pc := 11) (lv' := [(3, .int r9), (2, .ref (ad q3)), (0, .ref (ad 28)), (1, .int x1)]) h rfl rfl (by decide) rfl dX4_street_11 ?_
    refine R_aload_n (pc := 12) h 1 rfl rfl dX4_street_12 ?_
    refine R_ifnull (pc := 13) h dX4_street_13 ?_
    refine R_iload_n (pc := 16) h 0 rfl rfl dX4_street_16 ?_
    refine R_if_eq (pc := 17) (tgt := 22) h dX4_street_17 (by decide) (fun c10 => ?_) (fun c10 => ?_)
    · have hF := itp c10 hF
      refine R_aload_n (pc := 22) h 1 rfl rfl dX4_street_22 ?_
      obtain ⟨r12, hc11, hF⟩ := bd hF
      refine R_callS (pc := 23) (st := []) h [.ref (ad q3)] csX4_101 (c4_firstFault (ad := ad) (z := X.1) hc11) rfl rfl (by decide) (by decide) (Nat.le_of_ble_eq_true rfl) dX4_street_23 (st1 := [.int r12]) rfl ?_
      refine R_bipush (pc := 26) (v := (-9)) h (by decide) dX4_street_26 ?_
      refine R_icmp_eq (pc := 28) (tgt := 34) h dX4_street_28 (by decide) (fun c13 => ?_) (fun c13 => ?_)
      · have hF := itp c13 hF
        refine R_aload_n (pc := 34) h 2 rfl rfl dX4_street_34 ?_
        refine R_getR (pc := 35) (q1 := 33) h flX4_27 lc_28 rfl dX4_street_35 ?_
        refine R_getR (pc := 38) (q1 := 35) h flX4_104 lc_33 rfl dX4_street_38 ?_
        refine R_aload_n (pc := 41) h 1 rfl rfl dX4_street_41 ?_
        obtain ⟨M15, hc14, hF⟩ := bd hF
        refine R_callV (pc := 42) (st := []) h [.ref (ad q3)] cvX4_108 (c2_read (ad := ad) (z := X.1) hc14) rfl rfl lc_35 (by decide) (by decide) (Nat.le_of_ble_eq_true rfl) dX4_street_42 (st1 := []) rfl ?_
        refine R_aload_n (pc := 45) h 2 rfl rfl dX4_street_45 ?_
        refine R_getR (pc := 46) (q1 := 33) h flX4_27 lc_28 rfl dX4_street_46 ?_
        refine R_iconst (pc := 49) (v := 0) h (by decide) dX4_street_49 ?_
        obtain ⟨M17, hc16, hF⟩ := bd hF
        refine R_callV (pc := 50) (st := []) h [.int (0 : Int32)] cvX4_114 (c3_goBackTo (ad := ad) (z := X.1) hc16) rfl rfl lc_33 (by decide) (by decide) (Nat.le_of_ble_eq_true rfl) dX4_street_50 (st1 := []) rfl ?_
        refine R_iconst (pc := 53) (v := 0) h (by decide) dX4_street_53 ?_
        refine R_istore (pc := 54) (lv' := [(4, .int (0 : Int32)), (3, .int r9), (2, .ref (ad q3)), (0, .ref (ad 28)), (1, .int x1)]) h rfl (by decide) rfl dX4_street_54 ?_
        exact Wp_sub (nX := 0) (lv' := [(0, .ref (ad 28)), (4, .int (0 : Int32))]) [3, 0] rfl (w4_street_56 h  (hF := hF))
      · have hF := ifn c13 hF
        refine R_bipush (pc := 31) (v := (-4)) h (by decide) dX4_street_31 ?_
        cases hF
        exact R_ireturn (pc := 33) h rfl rfl rfl dX4_street_33
    · have hF := ifn c10 hF
      refine R_iload_n (pc := 20) h 0 rfl rfl dX4_street_20 ?_
      cases hF
      exact R_ireturn (pc := 21) h rfl rfl rfl dX4_street_21
theorem c4_street {ad : Nat → Nat} {z : ZZ} {R : Mem × Int32} {fu : Nat} {x1 : Int32} {M : Mem} (hF : f4_street fu x1 M = some R) : Con layC ad z yX4_street cX4_street 5 (some .int) 6 M [.ref (ad 28), .int x1] (R.1) (some (.int R.2)) := con_of (own := RX4) (lv := [(0, .ref (ad 28)), (1, .int x1)]) (by decide +kernel) rfl (Nat.le_of_ble_eq_true rfl) rfl (fun X hz h => w4_street h hF)
def f4_countThere_29_4 (M : Mem) (fu : Nat) : Nat → Int32 → Int32 → Option (Int32)
  | 0 => fun _ _ => none
  | f + 1 => fun x1 x2 =>
    if (6 : Int32) ≤ x2 then ((some x1))
    else ((rdR [0, 1, 2, 3, 4, 5] x2).bind fun q2 =>
    (gd (decide (q2 < 10))).bind fun _ =>
    (f0_isMissing M q2).bind fun r5 =>
    if r5 = 0 then (nm (x1 + (1 : Int32)) fun v7 =>
    nm (x2 + (1 : Int32)) fun v8 =>
    ((f4_countThere_29_4 M fu f) v7 v8))
    else (nm (x2 + (1 : Int32)) fun v9 =>
    ((f4_countThere_29_4 M fu f) x1 v9)))
set_option maxHeartbeats 4000000 in
set_option maxRecDepth 10000 in
theorem w4_countThere_29i_4 {ad : Nat → Nat} {X : XX} {R : Int32} {M : Mem} {fu : Nat}  (h : Cx layC ad X cX4_countThere RX4 3 2 (some .int) M (some (.int R)))  : ∀ (f : Nat) (x1 : Int32) (x2 : Int32), f4_countThere_29_4 M fu f x1 x2 = some R → Wp layC ad X M 4 [(0, .ref (ad 29)), (1, .int x1), (2, .int x2)] [] := by
  intro f
  induction f with
  | zero => intro x1 x2 hF; exact absurd hF (by simp [f4_countThere_29_4])
  | succ f ih =>
    intro x1 x2 hF
    rw [f4_countThere_29_4] at hF
    refine R_iload_n (pc := 4) h 2 rfl rfl dX4_countThere_4 ?_
    refine R_aload_n (pc := 5) h 0 rfl rfl dX4_countThere_5 ?_
    refine R_alenR (pc := 6) (v := 6) h (by decide) (by decide) lc_29 dX4_countThere_6 ?_
    refine R_icmp_ge (pc := 7) (tgt := 28) h dX4_countThere_7 (by decide) (fun c1 => ?_) (fun c1 => ?_)
    · have hF := itp c1 hF
      refine R_iload_n (pc := 28) h 1 rfl rfl dX4_countThere_28 ?_
      cases hF
      exact R_ireturn (pc := 29) h rfl rfl rfl dX4_countThere_29
    · have hF := ifn c1 hF
      refine R_aload_n (pc := 10) h 0 rfl rfl dX4_countThere_10 ?_
      refine R_iload_n (pc := 11) h 2 rfl rfl dX4_countThere_11 ?_
      obtain ⟨q2, hq2, hF⟩ := bd hF
      refine R_aald (pc := 12) h hq2 (by decide) lc_29 dX4_countThere_12 ?_
      obtain ⟨_, hg3, hF⟩ := bd hF
      have hg3 := of_decide_eq_true (gd_s hg3)
      obtain ⟨r5, hc4, hF⟩ := bd hF
      refine R_callV (pc := 13) (st := []) h [] cvX4_81 (c0_isMissing (ad := ad) (z := X.1) hc4) rfl rfl (lyCells hg3) (by decide) (by decide) (Nat.le_of_ble_eq_true rfl) dX4_countThere_13 (st1 := [.int r5]) rfl ?_
      refine R_if_ne (pc := 16) (tgt := 22) h dX4_countThere_16 (by decide) (fun c6 => ?_) (fun c6 => ?_)
      · have hF := ifn c6 hF
        obtain ⟨v9, hv9, hF⟩ := nm_e2 hF
        refine R_iinc (pc := 22) (lv' := [(2, .int v9), (0, .ref (ad 29)), (1, .int x1)]) h 2 rfl (by decide) hv9 (by decide) rfl dX4_countThere_22 ?_
        refine R_goto (pc := 25) (tgt := 4) h dX4_countThere_25 (by decide) ?_
        exact Wp_sub (nX := 0) (lv' := [(0, .ref (ad 29)), (1, .int x1), (2, .int v9)]) [1, 2, 0] rfl (ih _ _ hF)
      · have hF := itp c6 hF
        obtain ⟨v7, hv7, hF⟩ := nm_e2 hF
        refine R_iinc (pc := 19) (lv' := [(1, .int v7), (0, .ref (ad 29)), (2, .int x2)]) h 1 rfl (by decide) hv7 (by decide) rfl dX4_countThere_19 ?_
        obtain ⟨v8, hv8, hF⟩ := nm_e2 hF
        refine R_iinc (pc := 22) (lv' := [(2, .int v8), (1, .int v7), (0, .ref (ad 29))]) h 2 rfl (by decide) hv8 (by decide) rfl dX4_countThere_22 ?_
        refine R_goto (pc := 25) (tgt := 4) h dX4_countThere_25 (by decide) ?_
        exact Wp_sub (nX := 0) (lv' := [(0, .ref (ad 29)), (1, .int v7), (2, .int v8)]) [2, 1, 0] rfl (ih _ _ hF)
theorem w4_countThere_29_4 {ad : Nat → Nat} {X : XX} {R : Int32} {M : Mem} {fu : Nat}  (h : Cx layC ad X cX4_countThere RX4 3 2 (some .int) M (some (.int R)))  {f : Nat} {x1 : Int32} {x2 : Int32} (hF : f4_countThere_29_4 M fu f x1 x2 = some R) : Wp layC ad X M 4 [(0, .ref (ad 29)), (1, .int x1), (2, .int x2)] [] := w4_countThere_29i_4 h  f _ _ hF
def f4_countThere_29 (M : Mem) (fu : Nat) : Option (Int32) :=
    (f4_countThere_29_4 M fu fu (0 : Int32) (0 : Int32))
set_option maxHeartbeats 4000000 in
set_option maxRecDepth 10000 in
theorem w4_countThere_29 {ad : Nat → Nat} {X : XX} {R : Int32} {M : Mem} {fu : Nat} (h : Cx layC ad X cX4_countThere RX4 3 2 (some .int) M (some (.int R)))  (hF : f4_countThere_29 M fu = some R) : Wp layC ad X M 0 [(0, .ref (ad 29))] [] := by
  unfold f4_countThere_29 at hF
  refine R_iconst (pc := 0) (v := 0) h (by decide) dX4_countThere_0 ?_
  refine R_istore_n (pc := 1) (lv' := [(1, .int (0 : Int32)), (0, .ref (ad 29))]) h rfl rfl (by decide) rfl dX4_countThere_1 ?_
  refine R_iconst (pc := 2) (v := 0) h (by decide) dX4_countThere_2 ?_
  refine R_istore_n (pc := 3) (lv' := [(2, .int (0 : Int32)), (1, .int (0 : Int32)), (0, .ref (ad 29))]) h rfl rfl (by decide) rfl dX4_countThere_3 ?_
  exact Wp_sub (nX := 0) (lv' := [(0, .ref (ad 29)), (1, .int (0 : Int32)), (2, .int (0 : Int32))]) [2, 1, 0] rfl (w4_countThere_29_4 h  (hF := hF))
theorem c4_countThere_29 {ad : Nat → Nat} {z : ZZ} {R : Int32} {M : Mem} {fu : Nat}  (hF : f4_countThere_29 M fu = some R) : Con layC ad z yX4_countThere cX4_countThere 3 (some .int) 2 M [.ref (ad 29)] (M) (some (.int R)) := con_of (own := RX4) (lv := [(0, .ref (ad 29))]) (by decide +kernel) rfl (Nat.le_of_ble_eq_true rfl) rfl (fun X hz h => w4_countThere_29 h hF)
def f4_countThere_30_4 (M : Mem) (fu : Nat) : Nat → Int32 → Int32 → Option (Int32)
  | 0 => fun _ _ => none
  | f + 1 => fun x1 x2 =>
    if (4 : Int32) ≤ x2 then ((some x1))
    else ((rdR [6, 7, 8, 9] x2).bind fun q2 =>
    (gd (decide (q2 < 10))).bind fun _ =>
    (f0_isMissing M q2).bind fun r5 =>
    if r5 = 0 then (nm (x1 + (1 : Int32)) fun v7 =>
    nm (x2 + (1 : Int32)) fun v8 =>
    ((f4_countThere_30_4 M fu f) v7 v8))
    else (nm (x2 + (1 : Int32)) fun v9 =>
    ((f4_countThere_30_4 M fu f) x1 v9)))
set_option maxHeartbeats 4000000 in
set_option maxRecDepth 10000 in
theorem w4_countThere_30i_4 {ad : Nat → Nat} {X : XX} {R : Int32} {M : Mem} {fu : Nat}  (h : Cx layC ad X cX4_countThere RX4 3 2 (some .int) M (some (.int R)))  : ∀ (f : Nat) (x1 : Int32) (x2 : Int32), f4_countThere_30_4 M fu f x1 x2 = some R → Wp layC ad X M 4 [(0, .ref (ad 30)), (1, .int x1), (2, .int x2)] [] := by
  intro f
  induction f with
  | zero => intro x1 x2 hF; exact absurd hF (by simp [f4_countThere_30_4])
  | succ f ih =>
    intro x1 x2 hF
    rw [f4_countThere_30_4] at hF
    refine R_iload_n (pc := 4) h 2 rfl rfl dX4_countThere_4 ?_
    refine R_aload_n (pc := 5) h 0 rfl rfl dX4_countThere_5 ?_
    refine R_alenR (pc := 6) (v := 4) h (by decide) (by decide) lc_30 dX4_countThere_6 ?_
    refine R_icmp_ge (pc := 7) (tgt := 28) h dX4_countThere_7 (by decide) (fun c1 => ?_) (fun c1 => ?_)
    · have hF := itp c1 hF
      refine R_iload_n (pc := 28) h 1 rfl rfl dX4_countThere_28 ?_
      cases hF
      exact R_ireturn (pc := 29) h rfl rfl rfl dX4_countThere_29
    · have hF := ifn c1 hF
      refine R_aload_n (pc := 10) h 0 rfl rfl dX4_countThere_10 ?_
      refine R_iload_n (pc := 11) h 2 rfl rfl dX4_countThere_11 ?_
      obtain ⟨q2, hq2, hF⟩ := bd hF
      refine R_aald (pc := 12) h hq2 (by decide) lc_30 dX4_countThere_12 ?_
      obtain ⟨_, hg3, hF⟩ := bd hF
      have hg3 := of_decide_eq_true (gd_s hg3)
      obtain ⟨r5, hc4, hF⟩ := bd hF
      refine R_callV (pc := 13) (st := []) h [] cvX4_81 (c0_isMissing (ad := ad) (z := X.1) hc4) rfl rfl (lyCells hg3) (by decide) (by decide) (Nat.le_of_ble_eq_true rfl) dX4_countThere_13 (st1 := [.int r5]) rfl ?_
      refine R_if_ne (pc := 16) (tgt := 22) h dX4_countThere_16 (by decide) (fun c6 => ?_) (fun c6 => ?_)
      · have hF := ifn c6 hF
        obtain ⟨v9, hv9, hF⟩ := nm_e2 hF
        refine R_iinc (pc := 22) (lv' := [(2, .int v9), (0, .ref (ad 30)), (1, .int x1)]) h 2 rfl (by decide) hv9 (by decide) rfl dX4_countThere_22 ?_
        refine R_goto (pc := 25) (tgt := 4) h dX4_countThere_25 (by decide) ?_
        exact Wp_sub (nX := 0) (lv' := [(0, .ref (ad 30)), (1, .int x1), (2, .int v9)]) [1, 2, 0] rfl (ih _ _ hF)
      · have hF := itp c6 hF
        obtain ⟨v7, hv7, hF⟩ := nm_e2 hF
        refine R_iinc (pc := 19) (lv' := [(1, .int v7), (0, .ref (ad 30)), (2, .int x2)]) h 1 rfl (by decide) hv7 (by decide) rfl dX4_countThere_19 ?_
        obtain ⟨v8, hv8, hF⟩ := nm_e2 hF
        refine R_iinc (pc := 22) (lv' := [(2, .int v8), (1, .int v7), (0, .ref (ad 30))]) h 2 rfl (by decide) hv8 (by decide) rfl dX4_countThere_22 ?_
        refine R_goto (pc := 25) (tgt := 4) h dX4_countThere_25 (by decide) ?_
        exact Wp_sub (nX := 0) (lv' := [(0, .ref (ad 30)), (1, .int v7), (2, .int v8)]) [2, 1, 0] rfl (ih _ _ hF)
theorem w4_countThere_30_4 {ad : Nat → Nat} {X : XX} {R : Int32} {M : Mem} {fu : Nat}  (h : Cx layC ad X cX4_countThere RX4 3 2 (some .int) M (some (.int R)))  {f : Nat} {x1 : Int32} {x2 : Int32} (hF : f4_countThere_30_4 M fu f x1 x2 = some R) : Wp layC ad X M 4 [(0, .ref (ad 30)), (1, .int x1), (2, .int x2)] [] := w4_countThere_30i_4 h  f _ _ hF
def f4_countThere_30 (M : Mem) (fu : Nat) : Option (Int32) :=
    (f4_countThere_30_4 M fu fu (0 : Int32) (0 : Int32))
set_option maxHeartbeats 4000000 in
set_option maxRecDepth 10000 in
theorem w4_countThere_30 {ad : Nat → Nat} {X : XX} {R : Int32} {M : Mem} {fu : Nat} (h : Cx layC ad X cX4_countThere RX4 3 2 (some .int) M (some (.int R)))  (hF : f4_countThere_30 M fu = some R) : Wp layC ad X M 0 [(0, .ref (ad 30))] [] := by
  unfold f4_countThere_30 at hF
  refine R_iconst (pc := 0) (v := 0) h (by decide) dX4_countThere_0 ?_
  refine R_istore_n (pc := 1) (lv' := [(1, .int (0 : Int32)), (0, .ref (ad 30))]) h rfl rfl (by decide) rfl dX4_countThere_1 ?_
  refine R_iconst (pc := 2) (v := 0) h (by decide) dX4_countThere_2 ?_
  refine R_istore_n (pc := 3) (lv' := [(2, .int (0 : Int32)), (1, .int (0 : Int32)), (0, .ref (ad 30))]) h rfl rfl (by decide) rfl dX4_countThere_3 ?_
  exact Wp_sub (nX := 0) (lv' := [(0, .ref (ad 30)), (1, .int (0 : Int32)), (2, .int (0 : Int32))]) [2, 1, 0] rfl (w4_countThere_30_4 h  (hF := hF))
theorem c4_countThere_30 {ad : Nat → Nat} {z : ZZ} {R : Int32} {M : Mem} {fu : Nat}  (hF : f4_countThere_30 M fu = some R) : Con layC ad z yX4_countThere cX4_countThere 3 (some .int) 2 M [.ref (ad 30)] (M) (some (.int R)) := con_of (own := RX4) (lv := [(0, .ref (ad 30))]) (by decide +kernel) rfl (Nat.le_of_ble_eq_true rfl) rfl (fun X hz h => w4_countThere_30 h hF)
def f4_countKept_4 (M : Mem) (fu : Nat) : Nat → Int32 → Int32 → Option (Int32)
  | 0 => fun _ _ => none
  | f + 1 => fun x1 x2 =>
    if (3 : Int32) ≤ x2 then ((some x1))
    else ((rdR [20, 21, 22] x2).bind fun q2 =>
    (gd (decide (20 ≤ q2 ∧ q2 < 24))).bind fun _ =>
    if (M.1 q2 0) < 0 then (nm (x2 + (1 : Int32)) fun v5 =>
    ((f4_countKept_4 M fu f) x1 v5))
    else (nm (x1 + (1 : Int32)) fun v6 =>
    nm (x2 + (1 : Int32)) fun v7 =>
    ((f4_countKept_4 M fu f) v6 v7)))
set_option maxHeartbeats 4000000 in
set_option maxRecDepth 10000 in
theorem w4_countKepti_4 {ad : Nat → Nat} {X : XX} {R : Int32} {M : Mem} {fu : Nat}  (h : Cx layC ad X cX4_countKept RX4 3 1 (some .int) M (some (.int R)))  : ∀ (f : Nat) (x1 : Int32) (x2 : Int32), f4_countKept_4 M fu f x1 x2 = some R → Wp layC ad X M 4 [(0, .ref (ad 28)), (1, .int x1), (2, .int x2)] [] := by
  intro f
  induction f with
  | zero => intro x1 x2 hF; exact absurd hF (by simp [f4_countKept_4])
  | succ f ih =>
    intro x1 x2 hF
    rw [f4_countKept_4] at hF
    refine R_iload_n (pc := 4) h 2 rfl rfl dX4_countKept_4 ?_
    refine R_iconst (pc := 5) (v := 3) h (by decide) dX4_countKept_5 ?_
    refine R_icmp_ge (pc := 6) (tgt := 30) h dX4_countKept_6 (by decide) (fun c1 => ?_) (fun c1 => ?_)
    · have hF := itp c1 hF
      refine R_iload_n (pc := 30) h 1 rfl rfl dX4_countKept_30 ?_
      cases hF
      exact R_ireturn (pc := 31) h rfl rfl rfl dX4_countKept_31
    · have hF := ifn c1 hF
      refine R_aload_n (pc := 9) h 0 rfl rfl dX4_countKept_9 ?_
      refine R_getR (pc := 10) (q1 := 31) h flX4_20 lc_28 rfl dX4_countKept_10 ?_
      refine R_iload_n (pc := 13) h 2 rfl rfl dX4_countKept_13 ?_
      obtain ⟨q2, hq2, hF⟩ := bd hF
      refine R_aald (pc := 14) h hq2 (by decide) lc_31 dX4_countKept_14 ?_
      obtain ⟨_, hg3, hF⟩ := bd hF
      have hg3 := of_decide_eq_true (gd_s hg3)
      refine R_getI (pc := 15) h flX4_118 (lyDeeds hg3) rfl dX4_countKept_15 ?_
      refine R_if_lt (pc := 18) (tgt := 24) h dX4_countKept_18 (by decide) (fun c4 => ?_) (fun c4 => ?_)
      · have hF := itp c4 hF
        obtain ⟨v5, hv5, hF⟩ := nm_e2 hF
        refine R_iinc (pc := 24) (lv' := [(2, .int v5), (0, .ref (ad 28)), (1, .int x1)]) h 2 rfl (by decide) hv5 (by decide) rfl dX4_countKept_24 ?_
        refine R_goto (pc := 27) (tgt := 4) h dX4_countKept_27 (by decide) ?_
        exact Wp_sub (nX := 0) (lv' := [(0, .ref (ad 28)), (1, .int x1), (2, .int v5)]) [1, 2, 0] rfl (ih _ _ hF)
      · have hF := ifn c4 hF
        obtain ⟨v6, hv6, hF⟩ := nm_e2 hF
        refine R_iinc (pc := 21) (lv' := [(1, .int v6), (0, .ref (ad 28)), (2, .int x2)]) h 1 rfl (by decide) hv6 (by decide) rfl dX4_countKept_21 ?_
        obtain ⟨v7, hv7, hF⟩ := nm_e2 hF
        refine R_iinc (pc := 24) (lv' := [(2, .int v7), (1, .int v6), (0, .ref (ad 28))]) h 2 rfl (by decide) hv7 (by decide) rfl dX4_countKept_24 ?_
        refine R_goto (pc := 27) (tgt := 4) h dX4_countKept_27 (by decide) ?_
        exact Wp_sub (nX := 0) (lv' := [(0, .ref (ad 28)), (1, .int v6), (2, .int v7)]) [2, 1, 0] rfl (ih _ _ hF)
theorem w4_countKept_4 {ad : Nat → Nat} {X : XX} {R : Int32} {M : Mem} {fu : Nat}  (h : Cx layC ad X cX4_countKept RX4 3 1 (some .int) M (some (.int R)))  {f : Nat} {x1 : Int32} {x2 : Int32} (hF : f4_countKept_4 M fu f x1 x2 = some R) : Wp layC ad X M 4 [(0, .ref (ad 28)), (1, .int x1), (2, .int x2)] [] := w4_countKepti_4 h  f _ _ hF
def f4_countKept (M : Mem) (fu : Nat) : Option (Int32) :=
    (f4_countKept_4 M fu fu (0 : Int32) (0 : Int32))
set_option maxHeartbeats 4000000 in
set_option maxRecDepth 10000 in
theorem w4_countKept {ad : Nat → Nat} {X : XX} {R : Int32} {M : Mem} {fu : Nat} (h : Cx layC ad X cX4_countKept RX4 3 1 (some .int) M (some (.int R)))  (hF : f4_countKept M fu = some R) : Wp layC ad X M 0 [(0, .ref (ad 28))] [] := by
  unfold f4_countKept at hF
  refine R_iconst (pc := 0) (v := 0) h (by decide) dX4_countKept_0 ?_
  refine R_istore_n (pc := 1) (lv' := [(1, .int (0 : Int32)), (0, .ref (ad 28))]) h rfl rfl (by decide) rfl dX4_countKept_1 ?_
  refine R_iconst (pc := 2) (v := 0) h (by decide) dX4_countKept_2 ?_
  refine R_istore_n (pc := 3) (lv' := [(2, .int (0 : Int32)), (1, .int (0 : Int32)), (0, .ref (ad 28))]) h rfl rfl (by decide) rfl dX4_countKept_3 ?_
  exact Wp_sub (nX := 0) (lv' := [(0, .ref (ad 28)), (1, .int (0 : Int32)), (2, .int (0 : Int32))]) [2, 1, 0] rfl (w4_countKept_4 h  (hF := hF))
theorem c4_countKept {ad : Nat → Nat} {z : ZZ} {R : Int32} {M : Mem} {fu : Nat}  (hF : f4_countKept M fu = some R) : Con layC ad z yX4_countKept cX4_countKept 3 (some .int) 1 M [.ref (ad 28)] (M) (some (.int R)) := con_of (own := RX4) (lv := [(0, .ref (ad 28))]) (by decide +kernel) rfl (Nat.le_of_ble_eq_true rfl) rfl (fun X hz h => w4_countKept h hF)
def f4_isOf_19 (x0 : Int32) (x1 : Int32) : Option (Int32) :=
    if x0 = (5 : Int32) then (if x1 = (1 : Int32) then ((some (1 : Int32)))
    else ((some (0 : Int32))))
    else ((some (0 : Int32)))
set_option maxHeartbeats 4000000 in
set_option maxRecDepth 10000 in
theorem w4_isOf_19 {ad : Nat → Nat} {X : XX} {R : Int32} {M : Mem}  (h : Cx layC ad X cX4_isOf RX4 2 1 (some .boolean) M (some (.int R)))  {x0 : Int32} {x1 : Int32} (hF : f4_isOf_19 x0 x1 = some R) : Wp layC ad X M 19 [(0, .int x0), (1, .int x1)] [] := by
  unfold f4_isOf_19 at hF
  refine R_iload_n (pc := 19) h 0 rfl rfl dX4_isOf_19 ?_
  refine R_iconst (pc := 20) (v := 5) h (by decide) dX4_isOf_20 ?_
  refine R_icmp_ne (pc := 21) (tgt := 33) h dX4_isOf_21 (by decide) (fun c1 => ?_) (fun c1 => ?_)
  · have hF := ifn c1 hF
    refine R_iconst (pc := 33) (v := 0) h (by decide) dX4_isOf_33 ?_
    cases hF
    exact R_zreturn (pc := 34) h rfl zr0 rfl rfl dX4_isOf_34
  · have hF := itp c1 hF
    refine R_iload_n (pc := 24) h 1 rfl rfl dX4_isOf_24 ?_
    refine R_iconst (pc := 25) (v := 1) h (by decide) dX4_isOf_25 ?_
    refine R_icmp_ne (pc := 26) (tgt := 33) h dX4_isOf_26 (by decide) (fun c2 => ?_) (fun c2 => ?_)
    · have hF := ifn c2 hF
      refine R_iconst (pc := 33) (v := 0) h (by decide) dX4_isOf_33 ?_
      cases hF
      exact R_zreturn (pc := 34) h rfl zr0 rfl rfl dX4_isOf_34
    · have hF := itp c2 hF
      refine R_iconst (pc := 29) (v := 1) h (by decide) dX4_isOf_29 ?_
      refine R_goto (pc := 30) (tgt := 34) h dX4_isOf_30 (by decide) ?_
      cases hF
      exact R_zreturn (pc := 34) h rfl zr1 rfl rfl dX4_isOf_34
def f4_isOf (x0 : Int32) (x1 : Int32) : Option (Int32) :=
    if x0 = x1 then ((some (1 : Int32)))
    else (if x1 = 0 then ((some (1 : Int32)))
    else (if x0 = (4 : Int32) then (if x1 = (2 : Int32) then ((some (1 : Int32)))
    else ((f4_isOf_19 x0 x1)))
    else ((f4_isOf_19 x0 x1))))
set_option maxHeartbeats 4000000 in
set_option maxRecDepth 10000 in
theorem w4_isOf {ad : Nat → Nat} {X : XX} {R : Int32} {M : Mem} (h : Cx layC ad X cX4_isOf RX4 2 1 (some .boolean) M (some (.int R))) {x0 : Int32} {x1 : Int32} (hF : f4_isOf x0 x1 = some R) : Wp layC ad X M 0 [(0, .int x0), (1, .int x1)] [] := by
  unfold f4_isOf at hF
  refine R_iload_n (pc := 0) h 0 rfl rfl dX4_isOf_0 ?_
  refine R_iload_n (pc := 1) h 1 rfl rfl dX4_isOf_1 ?_
  refine R_icmp_eq (pc := 2) (tgt := 29) h dX4_isOf_2 (by decide) (fun c1 => ?_) (fun c1 => ?_)
  · have hF := itp c1 hF
    refine R_iconst (pc := 29) (v := 1) h (by decide) dX4_isOf_29 ?_
    refine R_goto (pc := 30) (tgt := 34) h dX4_isOf_30 (by decide) ?_
    cases hF
    exact R_zreturn (pc := 34) h rfl zr1 rfl rfl dX4_isOf_34
  · have hF := ifn c1 hF
    refine R_iload_n (pc := 5) h 1 rfl rfl dX4_isOf_5 ?_
    refine R_if_eq (pc := 6) (tgt := 29) h dX4_isOf_6 (by decide) (fun c2 => ?_) (fun c2 => ?_)
    · have hF := itp c2 hF
      refine R_iconst (pc := 29) (v := 1) h (by decide) dX4_isOf_29 ?_
      refine R_goto (pc := 30) (tgt := 34) h dX4_isOf_30 (by decide) ?_
      cases hF
      exact R_zreturn (pc := 34) h rfl zr1 rfl rfl dX4_isOf_34
    · have hF := ifn c2 hF
      refine R_iload_n (pc := 9) h 0 rfl rfl dX4_isOf_9 ?_
      refine R_iconst (pc := 10) (v := 4) h (by decide) dX4_isOf_10 ?_
      refine R_icmp_ne (pc := 11) (tgt := 19) h dX4_isOf_11 (by decide) (fun c3 => ?_) (fun c3 => ?_)
      · have hF := ifn c3 hF
        exact Wp_sub (nX := 0) (lv' := [(0, .int x0), (1, .int x1)]) [0, 1] rfl (w4_isOf_19 h  (hF := hF))
      · have hF := itp c3 hF
        refine R_iload_n (pc := 14) h 1 rfl rfl dX4_isOf_14 ?_
        refine R_iconst (pc := 15) (v := 2) h (by decide) dX4_isOf_15 ?_
        refine R_icmp_eq (pc := 16) (tgt := 29) h dX4_isOf_16 (by decide) (fun c4 => ?_) (fun c4 => ?_)
        · have hF := itp c4 hF
          refine R_iconst (pc := 29) (v := 1) h (by decide) dX4_isOf_29 ?_
          refine R_goto (pc := 30) (tgt := 34) h dX4_isOf_30 (by decide) ?_
          cases hF
          exact R_zreturn (pc := 34) h rfl zr1 rfl rfl dX4_isOf_34
        · have hF := ifn c4 hF
          exact Wp_sub (nX := 0) (lv' := [(0, .int x0), (1, .int x1)]) [0, 1] rfl (w4_isOf_19 h  (hF := hF))
theorem c4_isOf {ad : Nat → Nat} {z : ZZ} {R : Int32} {M : Mem} {x0 : Int32} {x1 : Int32} (hF : f4_isOf x0 x1 = some R) : Con layC ad z yX4_isOf cX4_isOf 2 (some .boolean) 1 M [.int x0, .int x1] (M) (some (.int R)) := con_of (own := RX4) (lv := [(0, .int x0), (1, .int x1)]) (by decide +kernel) rfl (Nat.le_of_ble_eq_true rfl) rfl (fun X hz h => w4_isOf h hF)
