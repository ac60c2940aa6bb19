theorem d_Heap_isIn_2 : decode prog_2_method_9_code 2 = .ok (.lshr, 1) := by decide +kernel
theorem d_Heap_isIn_3 : decode prog_2_method_9_code 3 = .ok (.lconst 1, 1) := by decide +kernel
theorem d_Heap_isIn_4 : decode prog_2_method_9_code 4 = .ok (.land, 1) := by decide +kernel
theorem d_Heap_isIn_5 : decode prog_2_method_9_code 5 = .ok (.lconst 1, 1) := by decide +kernel
theorem d_Heap_isIn_6 : decode prog_2_method_9_code 6 = .ok (.lcmp, 1) := by decide +kernel
theorem d_Heap_isIn_7 : decode prog_2_method_9_code 7 = .ok (.ifCond .ne 7, 3) := by decide +kernel
theorem d_Heap_isIn_10 : decode prog_2_method_9_code 10 = .ok (.iconst 1, 1) := by decide +kernel
theorem d_Heap_isIn_11 : decode prog_2_method_9_code 11 = .ok (.goto 4, 3) := by decide +kernel
theorem d_Heap_isIn_14 : decode prog_2_method_9_code 14 = .ok (.iconst 0, 1) := by decide +kernel
theorem d_Heap_isIn_15 : decode prog_2_method_9_code 15 = .ok (.ireturn, 1) := by decide +kernel
theorem d_Heap_make_0 : decode prog_2_method_5_code 0 = .ok (.bipush 9, 2) := by decide +kernel
theorem d_Heap_make_2 : decode prog_2_method_5_code 2 = .ok (.istore_n 2, 1) := by decide +kernel
theorem d_Heap_make_3 : decode prog_2_method_5_code 3 = .ok (.iload_n 2, 1) := by decide +kernel
theorem d_Heap_make_4 : decode prog_2_method_5_code 4 = .ok (.bipush 33, 2) := by decide +kernel
theorem d_Heap_make_6 : decode prog_2_method_5_code 6 = .ok (.if_icmp .ge 42, 3) := by decide +kernel
theorem d_Heap_make_9 : decode prog_2_method_5_code 9 = .ok (.aload_n 0, 1) := by decide +kernel
theorem d_Heap_make_10 : decode prog_2_method_5_code 10 = .ok (.getfield 24, 3) := by decide +kernel
theorem d_Heap_make_13 : decode prog_2_method_5_code 13 = .ok (.iload_n 2, 1) := by decide +kernel
theorem d_Heap_make_14 : decode prog_2_method_5_code 14 = .ok (.invokestatic 41, 3) := by decide +kernel
theorem d_Heap_make_17 : decode prog_2_method_5_code 17 = .ok (.ifCond .ne 25, 3) := by decide +kernel
theorem d_Heap_make_20 : decode prog_2_method_5_code 20 = .ok (.aload_n 0, 1) := by decide +kernel
theorem d_Heap_make_21 : decode prog_2_method_5_code 21 = .ok (.dup, 1) := by decide +kernel
theorem d_Heap_make_22 : decode prog_2_method_5_code 22 = .ok (.getfield 24, 3) := by decide +kernel
theorem d_Heap_make_25 : decode prog_2_method_5_code 25 = .ok (.lconst 1, 1) := by decide +kernel
theorem d_Heap_make_26 : decode prog_2_method_5_code 26 = .ok (.iload_n 2, 1) := by decide +kernel
theorem d_Heap_make_27 : decode prog_2_method_5_code 27 = .ok (.lshl, 1) := by decide +kernel
theorem d_Heap_make_28 : decode prog_2_method_5_code 28 = .ok (.lor, 1) := by decide +kernel
theorem d_Heap_make_29 : decode prog_2_method_5_code 29 = .ok (.putfield 24, 3) := by decide +kernel
theorem d_Heap_make_32 : decode prog_2_method_5_code 32 = .ok (.aload_n 0, 1) := by decide +kernel
theorem d_Heap_make_33 : decode prog_2_method_5_code 33 = .ok (.iload_n 2, 1) := by decide +kernel
theorem d_Heap_make_34 : decode prog_2_method_5_code 34 = .ok (.iload_n 1, 1) := by decide +kernel
theorem d_Heap_make_35 : decode prog_2_method_5_code 35 = .ok (.iconst 0, 1) := by decide +kernel
theorem d_Heap_make_36 : decode prog_2_method_5_code 36 = .ok (.iconst 0, 1) := by decide +kernel
theorem d_Heap_make_37 : decode prog_2_method_5_code 37 = .ok (.invokevirtual 45, 3) := by decide +kernel
theorem d_Heap_make_40 : decode prog_2_method_5_code 40 = .ok (.iload_n 2, 1) := by decide +kernel
theorem d_Heap_make_41 : decode prog_2_method_5_code 41 = .ok (.ireturn, 1) := by decide +kernel
theorem d_Heap_make_42 : decode prog_2_method_5_code 42 = .ok (.iinc 2 1, 3) := by decide +kernel
theorem d_Heap_make_45 : decode prog_2_method_5_code 45 = .ok (.goto (-42), 3) := by decide +kernel
theorem d_Heap_make_48 : decode prog_2_method_5_code 48 = .ok (.iconst 0, 1) := by decide +kernel
theorem d_Heap_make_49 : decode prog_2_method_5_code 49 = .ok (.ireturn, 1) := by decide +kernel
theorem d_Stk_putReference_0 : decode prog_6_method_5_code 0 = .ok (.aload_n 0, 1) := by decide +kernel
theorem d_Stk_putReference_1 : decode prog_6_method_5_code 1 = .ok (.iload_n 1, 1) := by decide +kernel
theorem d_Stk_putReference_2 : decode prog_6_method_5_code 2 = .ok (.iconst 1, 1) := by decide +kernel
theorem d_Stk_putReference_3 : decode prog_6_method_5_code 3 = .ok (.invokevirtual 23, 3) := by decide +kernel
theorem d_Stk_putReference_6 : decode prog_6_method_5_code 6 = .ok (.return_, 1) := by decide +kernel
theorem d_JL_bitCount_0 : decode prog_10_method_50_code 0 = .ok (.lload_n 0, 1) := by decide +kernel
theorem d_JL_bitCount_1 : decode prog_10_method_50_code 1 = .ok (.lload_n 0, 1) := by decide +kernel
theorem d_JL_bitCount_2 : decode prog_10_method_50_code 2 = .ok (.iconst 1, 1) := by decide +kernel
theorem d_JL_bitCount_3 : decode prog_10_method_50_code 3 = .ok (.lushr, 1) := by decide +kernel
theorem d_JL_bitCount_4 : decode prog_10_method_50_code 4 = .ok (.ldc2_w 314, 3) := by decide +kernel
theorem d_JL_bitCount_7 : decode prog_10_method_50_code 7 = .ok (.land, 1) := by decide +kernel
theorem d_JL_bitCount_8 : decode prog_10_method_50_code 8 = .ok (.lsub, 1) := by decide +kernel
theorem d_JL_bitCount_9 : decode prog_10_method_50_code 9 = .ok (.lstore_n 0, 1) := by decide +kernel
theorem d_JL_bitCount_10 : decode prog_10_method_50_code 10 = .ok (.lload_n 0, 1) := by decide +kernel
theorem d_JL_bitCount_11 : decode prog_10_method_50_code 11 = .ok (.ldc2_w 316, 3) := by decide +kernel
theorem d_JL_bitCount_14 : decode prog_10_method_50_code 14 = .ok (.land, 1) := by decide +kernel
theorem d_JL_bitCount_15 : decode prog_10_method_50_code 15 = .ok (.lload_n 0, 1) := by decide +kernel
theorem d_JL_bitCount_16 : decode prog_10_method_50_code 16 = .ok (.iconst 2, 1) := by decide +kernel
theorem d_JL_bitCount_17 : decode prog_10_method_50_code 17 = .ok (.lushr, 1) := by decide +kernel
theorem d_JL_bitCount_18 : decode prog_10_method_50_code 18 = .ok (.ldc2_w 316, 3) := by decide +kernel
theorem d_JL_bitCount_21 : decode prog_10_method_50_code 21 = .ok (.land, 1) := by decide +kernel
theorem d_JL_bitCount_22 : decode prog_10_method_50_code 22 = .ok (.ladd, 1) := by decide +kernel
theorem d_JL_bitCount_23 : decode prog_10_method_50_code 23 = .ok (.lstore_n 0, 1) := by decide +kernel
theorem d_JL_bitCount_24 : decode prog_10_method_50_code 24 = .ok (.lload_n 0, 1) := by decide +kernel
theorem d_JL_bitCount_25 : decode prog_10_method_50_code 25 = .ok (.lload_n 0, 1) := by decide +kernel
theorem d_JL_bitCount_26 : decode prog_10_method_50_code 26 = .ok (.iconst 4, 1) := by decide +kernel
theorem d_JL_bitCount_27 : decode prog_10_method_50_code 27 = .ok (.lushr, 1) := by decide +kernel
theorem d_JL_bitCount_28 : decode prog_10_method_50_code 28 = .ok (.ladd, 1) := by decide +kernel
theorem d_JL_bitCount_29 : decode prog_10_method_50_code 29 = .ok (.ldc2_w 318, 3) := by decide +kernel
theorem d_JL_bitCount_32 : decode prog_10_method_50_code 32 = .ok (.land, 1) := by decide +kernel
theorem d_JL_bitCount_33 : decode prog_10_method_50_code 33 = .ok (.lstore_n 0, 1) := by decide +kernel
theorem d_JL_bitCount_34 : decode prog_10_method_50_code 34 = .ok (.lload_n 0, 1) := by decide +kernel
theorem d_JL_bitCount_35 : decode prog_10_method_50_code 35 = .ok (.lload_n 0, 1) := by decide +kernel
theorem d_JL_bitCount_36 : decode prog_10_method_50_code 36 = .ok (.bipush 8, 2) := by decide +kernel
theorem d_JL_bitCount_38 : decode prog_10_method_50_code 38 = .ok (.lushr, 1) := by decide +kernel
theorem d_JL_bitCount_39 : decode prog_10_method_50_code 39 = .ok (.ladd, 1) := by decide +kernel
theorem d_JL_bitCount_40 : decode prog_10_method_50_code 40 = .ok (.lstore_n 0, 1) := by decide +kernel
theorem d_JL_bitCount_41 : decode prog_10_method_50_code 41 = .ok (.lload_n 0, 1) := by decide +kernel
theorem d_JL_bitCount_42 : decode prog_10_method_50_code 42 = .ok (.lload_n 0, 1) := by decide +kernel
theorem d_JL_bitCount_43 : decode prog_10_method_50_code 43 = .ok (.bipush 16, 2) := by decide +kernel
theorem d_JL_bitCount_45 : decode prog_10_method_50_code 45 = .ok (.lushr, 1) := by decide +kernel
theorem d_JL_bitCount_46 : decode prog_10_method_50_code 46 = .ok (.ladd, 1) := by decide +kernel
theorem d_JL_bitCount_47 : decode prog_10_method_50_code 47 = .ok (.lstore_n 0, 1) := by decide +kernel
theorem d_JL_bitCount_48 : decode prog_10_method_50_code 48 = .ok (.lload_n 0, 1) := by decide +kernel
theorem d_JL_bitCount_49 : decode prog_10_method_50_code 49 = .ok (.lload_n 0, 1) := by decide +kernel
theorem d_JL_bitCount_50 : decode prog_10_method_50_code 50 = .ok (.bipush 32, 2) := by decide +kernel
theorem d_JL_bitCount_52 : decode prog_10_method_50_code 52 = .ok (.lushr, 1) := by decide +kernel
theorem d_JL_bitCount_53 : decode prog_10_method_50_code 53 = .ok (.ladd, 1) := by decide +kernel
theorem d_JL_bitCount_54 : decode prog_10_method_50_code 54 = .ok (.lstore_n 0, 1) := by decide +kernel
theorem d_JL_bitCount_55 : decode prog_10_method_50_code 55 = .ok (.lload_n 0, 1) := by decide +kernel
theorem d_JL_bitCount_56 : decode prog_10_method_50_code 56 = .ok (.l2i, 1) := by decide +kernel
theorem d_JL_bitCount_57 : decode prog_10_method_50_code 57 = .ok (.bipush 127, 2) := by decide +kernel
theorem d_JL_bitCount_59 : decode prog_10_method_50_code 59 = .ok (.iand, 1) := by decide +kernel
theorem d_JL_bitCount_60 : decode prog_10_method_50_code 60 = .ok (.ireturn, 1) := by decide +kernel
theorem d_Heap_fits_0 : decode prog_2_method_4_code 0 = .ok (.aload_n 0, 1) := by decide +kernel
theorem d_Heap_fits_1 : decode prog_2_method_4_code 1 = .ok (.getfield 24, 3) := by decide +kernel
theorem d_Heap_fits_4 : decode prog_2_method_4_code 4 = .ok (.invokestatic 35, 3) := by decide +kernel
theorem d_Heap_fits_7 : decode prog_2_method_4_code 7 = .ok (.iload_n 1, 1) := by decide +kernel
theorem d_Heap_fits_8 : decode prog_2_method_4_code 8 = .ok (.iadd, 1) := by decide +kernel
theorem d_Heap_fits_9 : decode prog_2_method_4_code 9 = .ok (.aload_n 0, 1) := by decide +kernel
theorem d_Heap_fits_10 : decode prog_2_method_4_code 10 = .ok (.getfield 28, 3) := by decide +kernel
theorem d_Heap_fits_13 : decode prog_2_method_4_code 13 = .ok (.if_icmp .gt 7, 3) := by decide +kernel
theorem d_Heap_fits_16 : decode prog_2_method_4_code 16 = .ok (.iconst 1, 1) := by decide +kernel
theorem d_Heap_fits_17 : decode prog_2_method_4_code 17 = .ok (.goto 4, 3) := by decide +kernel
theorem d_Heap_fits_20 : decode prog_2_method_4_code 20 = .ok (.iconst 0, 1) := by decide +kernel
theorem d_Heap_fits_21 : decode prog_2_method_4_code 21 = .ok (.ireturn, 1) := by decide +kernel
theorem d_Heap_keepOnly_0 : decode prog_2_method_6_code 0 = .ok (.aload_n 0, 1) := by decide +kernel
theorem d_Heap_keepOnly_1 : decode prog_2_method_6_code 1 = .ok (.dup, 1) := by decide +kernel
theorem d_Heap_keepOnly_2 : decode prog_2_method_6_code 2 = .ok (.getfield 24, 3) := by decide +kernel
theorem d_Heap_keepOnly_5 : decode prog_2_method_6_code 5 = .ok (.lload_n 1, 1) := by decide +kernel
theorem d_Heap_keepOnly_6 : decode prog_2_method_6_code 6 = .ok (.land, 1) := by decide +kernel
theorem d_Heap_keepOnly_7 : decode prog_2_method_6_code 7 = .ok (.putfield 24, 3) := by decide +kernel
theorem d_Heap_keepOnly_10 : decode prog_2_method_6_code 10 = .ok (.aload_n 0, 1) := by decide +kernel
theorem d_Heap_keepOnly_11 : decode prog_2_method_6_code 11 = .ok (.dup, 1) := by decide +kernel
theorem d_Heap_keepOnly_12 : decode prog_2_method_6_code 12 = .ok (.getfield 32, 3) := by decide +kernel
theorem d_Heap_keepOnly_15 : decode prog_2_method_6_code 15 = .ok (.iconst 1, 1) := by decide +kernel
theorem d_Heap_keepOnly_16 : decode prog_2_method_6_code 16 = .ok (.iadd, 1) := by decide +kernel
theorem d_Heap_keepOnly_17 : decode prog_2_method_6_code 17 = .ok (.putfield 32, 3) := by decide +kernel
theorem d_Heap_keepOnly_20 : decode prog_2_method_6_code 20 = .ok (.return_, 1) := by decide +kernel
theorem d_Heap_reachedFrom_0 : decode prog_2_method_7_code 0 = .ok (.lload_n 1, 1) := by decide +kernel
theorem d_Heap_reachedFrom_1 : decode prog_2_method_7_code 1 = .ok (.ldc2_w 49, 3) := by decide +kernel
theorem d_Heap_reachedFrom_4 : decode prog_2_method_7_code 4 = .ok (.land, 1) := by decide +kernel
theorem d_Heap_reachedFrom_5 : decode prog_2_method_7_code 5 = .ok (.lstore_n 3, 1) := by decide +kernel
theorem d_Heap_reachedFrom_6 : decode prog_2_method_7_code 6 = .ok (.lconst 0, 1) := by decide +kernel
theorem d_Heap_reachedFrom_7 : decode prog_2_method_7_code 7 = .ok (.lstore 5, 2) := by decide +kernel
theorem d_Heap_reachedFrom_9 : decode prog_2_method_7_code 9 = .ok (.iconst 0, 1) := by decide +kernel
theorem d_Heap_reachedFrom_10 : decode prog_2_method_7_code 10 = .ok (.istore 7, 2) := by decide +kernel
theorem d_Heap_reachedFrom_12 : decode prog_2_method_7_code 12 = .ok (.iload 7, 2) := by decide +kernel
theorem d_Heap_reachedFrom_14 : decode prog_2_method_7_code 14 = .ok (.bipush 24, 2) := by decide +kernel
theorem d_Heap_reachedFrom_16 : decode prog_2_method_7_code 16 = .ok (.if_icmp .gt 71, 3) := by decide +kernel
theorem d_Heap_reachedFrom_19 : decode prog_2_method_7_code 19 = .ok (.lload_n 3, 1) := by decide +kernel
theorem d_Heap_reachedFrom_20 : decode prog_2_method_7_code 20 = .ok (.lload 5, 2) := by decide +kernel
theorem d_Heap_reachedFrom_22 : decode prog_2_method_7_code 22 = .ok (.lcmp, 1) := by decide +kernel
theorem d_Heap_reachedFrom_23 : decode prog_2_method_7_code 23 = .ok (.ifCond .eq 64, 3) := by decide +kernel
theorem d_Heap_reachedFrom_26 : decode prog_2_method_7_code 26 = .ok (.lload_n 3, 1) := by decide +kernel
theorem d_Heap_reachedFrom_27 : decode prog_2_method_7_code 27 = .ok (.lstore 5, 2) := by decide +kernel
theorem d_Heap_reachedFrom_29 : decode prog_2_method_7_code 29 = .ok (.bipush 9, 2) := by decide +kernel
theorem d_Heap_reachedFrom_31 : decode prog_2_method_7_code 31 = .ok (.istore 8, 2) := by decide +kernel
theorem d_Heap_reachedFrom_33 : decode prog_2_method_7_code 33 = .ok (.iload 8, 2) := by decide +kernel
theorem d_Heap_reachedFrom_35 : decode prog_2_method_7_code 35 = .ok (.bipush 33, 2) := by decide +kernel
theorem d_Heap_reachedFrom_37 : decode prog_2_method_7_code 37 = .ok (.if_icmp .ge 44, 3) := by decide +kernel
theorem d_Heap_reachedFrom_40 : decode prog_2_method_7_code 40 = .ok (.lload_n 3, 1) := by decide +kernel
theorem d_Heap_reachedFrom_41 : decode prog_2_method_7_code 41 = .ok (.iload 8, 2) := by decide +kernel
theorem d_Heap_reachedFrom_43 : decode prog_2_method_7_code 43 = .ok (.invokestatic 41, 3) := by decide +kernel
theorem d_Heap_reachedFrom_46 : decode prog_2_method_7_code 46 = .ok (.ifCond .eq 29, 3) := by decide +kernel
theorem d_Heap_reachedFrom_49 : decode prog_2_method_7_code 49 = .ok (.lload_n 3, 1) := by decide +kernel
theorem d_Heap_reachedFrom_50 : decode prog_2_method_7_code 50 = .ok (.lconst 1, 1) := by decide +kernel
theorem d_Heap_reachedFrom_51 : decode prog_2_method_7_code 51 = .ok (.aload_n 0, 1) := by decide +kernel
theorem d_Heap_reachedFrom_52 : decode prog_2_method_7_code 52 = .ok (.getfield 15, 3) := by decide +kernel
theorem d_Heap_reachedFrom_55 : decode prog_2_method_7_code 55 = .ok (.iload 8, 2) := by decide +kernel
theorem d_Heap_reachedFrom_57 : decode prog_2_method_7_code 57 = .ok (.iaload, 1) := by decide +kernel
theorem d_Heap_reachedFrom_58 : decode prog_2_method_7_code 58 = .ok (.lshl, 1) := by decide +kernel
theorem d_Heap_reachedFrom_59 : decode prog_2_method_7_code 59 = .ok (.lconst 1, 1) := by decide +kernel
theorem d_Heap_reachedFrom_60 : decode prog_2_method_7_code 60 = .ok (.aload_n 0, 1) := by decide +kernel
theorem d_Heap_reachedFrom_61 : decode prog_2_method_7_code 61 = .ok (.getfield 18, 3) := by decide +kernel
theorem d_Heap_reachedFrom_64 : decode prog_2_method_7_code 64 = .ok (.iload 8, 2) := by decide +kernel
theorem d_Heap_reachedFrom_66 : decode prog_2_method_7_code 66 = .ok (.iaload, 1) := by decide +kernel
theorem d_Heap_reachedFrom_67 : decode prog_2_method_7_code 67 = .ok (.lshl, 1) := by decide +kernel
theorem d_Heap_reachedFrom_68 : decode prog_2_method_7_code 68 = .ok (.lor, 1) := by decide +kernel
theorem d_Heap_reachedFrom_69 : decode prog_2_method_7_code 69 = .ok (.ldc2_w 49, 3) := by decide +kernel
theorem d_Heap_reachedFrom_72 : decode prog_2_method_7_code 72 = .ok (.land, 1) := by decide +kernel
theorem d_Heap_reachedFrom_73 : decode prog_2_method_7_code 73 = .ok (.lor, 1) := by decide +kernel
theorem d_Heap_reachedFrom_74 : decode prog_2_method_7_code 74 = .ok (.lstore_n 3, 1) := by decide +kernel
theorem d_Heap_reachedFrom_75 : decode prog_2_method_7_code 75 = .ok (.iinc 8 1, 3) := by decide +kernel
theorem d_Heap_reachedFrom_78 : decode prog_2_method_7_code 78 = .ok (.goto (-45), 3) := by decide +kernel
theorem d_Heap_reachedFrom_81 : decode prog_2_method_7_code 81 = .ok (.iinc 7 1, 3) := by decide +kernel
theorem d_Heap_reachedFrom_84 : decode prog_2_method_7_code 84 = .ok (.goto (-72), 3) := by decide +kernel
theorem d_Heap_reachedFrom_87 : decode prog_2_method_7_code 87 = .ok (.lload_n 3, 1) := by decide +kernel
theorem d_Heap_reachedFrom_88 : decode prog_2_method_7_code 88 = .ok (.lreturn, 1) := by decide +kernel
theorem d_Line_itemAt_0 : decode prog_4_method_4_code 0 = .ok (.iload_n 1, 1) := by decide +kernel
theorem d_Line_itemAt_1 : decode prog_4_method_4_code 1 = .ok (.ifCond .lt 20, 3) := by decide +kernel
theorem d_Line_itemAt_4 : decode prog_4_method_4_code 4 = .ok (.iload_n 1, 1) := by decide +kernel
theorem d_Line_itemAt_5 : decode prog_4_method_4_code 5 = .ok (.aload_n 0, 1) := by decide +kernel
theorem d_Line_itemAt_6 : decode prog_4_method_4_code 6 = .ok (.getfield 7, 3) := by decide +kernel
theorem d_Line_itemAt_9 : decode prog_4_method_4_code 9 = .ok (.if_icmp .ge 12, 3) := by decide +kernel
theorem d_Line_itemAt_12 : decode prog_4_method_4_code 12 = .ok (.aload_n 0, 1) := by decide +kernel
theorem d_Line_itemAt_13 : decode prog_4_method_4_code 13 = .ok (.getfield 13, 3) := by decide +kernel
theorem d_Line_itemAt_16 : decode prog_4_method_4_code 16 = .ok (.iload_n 1, 1) := by decide +kernel
theorem d_Line_itemAt_17 : decode prog_4_method_4_code 17 = .ok (.iaload, 1) := by decide +kernel
theorem d_Line_itemAt_18 : decode prog_4_method_4_code 18 = .ok (.goto 4, 3) := by decide +kernel
theorem d_Line_itemAt_21 : decode prog_4_method_4_code 21 = .ok (.iconst 0, 1) := by decide +kernel
theorem d_Line_itemAt_22 : decode prog_4_method_4_code 22 = .ok (.ireturn, 1) := by decide +kernel
theorem d_Stk_cells_0 : decode prog_6_method_10_code 0 = .ok (.lconst 0, 1) := by decide +kernel
theorem d_Stk_cells_1 : decode prog_6_method_10_code 1 = .ok (.lstore_n 1, 1) := by decide +kernel
theorem d_Stk_cells_2 : decode prog_6_method_10_code 2 = .ok (.iconst 0, 1) := by decide +kernel
theorem d_Stk_cells_3 : decode prog_6_method_10_code 3 = .ok (.istore_n 3, 1) := by decide +kernel
theorem d_Stk_cells_4 : decode prog_6_method_10_code 4 = .ok (.iload_n 3, 1) := by decide +kernel
theorem d_Stk_cells_5 : decode prog_6_method_10_code 5 = .ok (.aload_n 0, 1) := by decide +kernel
theorem d_Stk_cells_6 : decode prog_6_method_10_code 6 = .ok (.getfield 19, 3) := by decide +kernel
theorem d_Stk_cells_9 : decode prog_6_method_10_code 9 = .ok (.if_icmp .ge 29, 3) := by decide +kernel
theorem d_Stk_cells_12 : decode prog_6_method_10_code 12 = .ok (.aload_n 0, 1) := by decide +kernel
theorem d_Stk_cells_13 : decode prog_6_method_10_code 13 = .ok (.getfield 15, 3) := by decide +kernel
theorem d_Stk_cells_16 : decode prog_6_method_10_code 16 = .ok (.iload_n 3, 1) := by decide +kernel
theorem d_Stk_cells_17 : decode prog_6_method_10_code 17 = .ok (.baload, 1) := by decide +kernel
theorem d_Stk_cells_18 : decode prog_6_method_10_code 18 = .ok (.ifCond .eq 14, 3) := by decide +kernel
theorem d_Stk_cells_21 : decode prog_6_method_10_code 21 = .ok (.lload_n 1, 1) := by decide +kernel
theorem d_Stk_cells_22 : decode prog_6_method_10_code 22 = .ok (.lconst 1, 1) := by decide +kernel
theorem d_Stk_cells_23 : decode prog_6_method_10_code 23 = .ok (.aload_n 0, 1) := by decide +kernel
theorem d_Stk_cells_24 : decode prog_6_method_10_code 24 = .ok (.getfield 9, 3) := by decide +kernel
theorem d_Stk_cells_27 : decode prog_6_method_10_code 27 = .ok (.iload_n 3, 1) := by decide +kernel
theorem d_Stk_cells_28 : decode prog_6_method_10_code 28 = .ok (.iaload, 1) := by decide +kernel
theorem d_Stk_cells_29 : decode prog_6_method_10_code 29 = .ok (.lshl, 1) := by decide +kernel
theorem d_Stk_cells_30 : decode prog_6_method_10_code 30 = .ok (.lor, 1) := by decide +kernel
theorem d_Stk_cells_31 : decode prog_6_method_10_code 31 = .ok (.lstore_n 1, 1) := by decide +kernel
theorem d_Stk_cells_32 : decode prog_6_method_10_code 32 = .ok (.iinc 3 1, 3) := by decide +kernel
theorem d_Stk_cells_35 : decode prog_6_method_10_code 35 = .ok (.goto (-31), 3) := by decide +kernel
theorem d_Stk_cells_38 : decode prog_6_method_10_code 38 = .ok (.lload_n 1, 1) := by decide +kernel
theorem d_Stk_cells_39 : decode prog_6_method_10_code 39 = .ok (.lreturn, 1) := by decide +kernel
theorem d_Ten_liveCells_0 : decode prog_7_method_5_code 0 = .ok (.aload_n 0, 1) := by decide +kernel
theorem d_Ten_liveCells_1 : decode prog_7_method_5_code 1 = .ok (.getfield 21, 3) := by decide +kernel
theorem d_Ten_liveCells_4 : decode prog_7_method_5_code 4 = .ok (.invokevirtual 66, 3) := by decide +kernel
theorem d_Ten_liveCells_7 : decode prog_7_method_5_code 7 = .ok (.lstore_n 1, 1) := by decide +kernel
theorem d_Ten_liveCells_8 : decode prog_7_method_5_code 8 = .ok (.iconst 2, 1) := by decide +kernel
theorem d_Ten_liveCells_9 : decode prog_7_method_5_code 9 = .ok (.istore_n 3, 1) := by decide +kernel
theorem d_Ten_liveCells_10 : decode prog_7_method_5_code 10 = .ok (.iload_n 3, 1) := by decide +kernel
theorem d_Ten_liveCells_11 : decode prog_7_method_5_code 11 = .ok (.iconst 4, 1) := by decide +kernel
theorem d_Ten_liveCells_12 : decode prog_7_method_5_code 12 = .ok (.if_icmp .ge 20, 3) := by decide +kernel
theorem d_Ten_liveCells_15 : decode prog_7_method_5_code 15 = .ok (.lload_n 1, 1) := by decide +kernel
theorem d_Ten_liveCells_16 : decode prog_7_method_5_code 16 = .ok (.lconst 1, 1) := by decide +kernel
theorem d_Ten_liveCells_17 : decode prog_7_method_5_code 17 = .ok (.aload_n 0, 1) := by decide +kernel
theorem d_Ten_liveCells_18 : decode prog_7_method_5_code 18 = .ok (.getfield 25, 3) := by decide +kernel
theorem d_Ten_liveCells_21 : decode prog_7_method_5_code 21 = .ok (.iload_n 3, 1) := by decide +kernel
theorem d_Ten_liveCells_22 : decode prog_7_method_5_code 22 = .ok (.iaload, 1) := by decide +kernel
theorem d_Ten_liveCells_23 : decode prog_7_method_5_code 23 = .ok (.lshl, 1) := by decide +kernel
theorem d_Ten_liveCells_24 : decode prog_7_method_5_code 24 = .ok (.lor, 1) := by decide +kernel
theorem d_Ten_liveCells_25 : decode prog_7_method_5_code 25 = .ok (.lstore_n 1, 1) := by decide +kernel
theorem d_Ten_liveCells_26 : decode prog_7_method_5_code 26 = .ok (.iinc 3 1, 3) := by decide +kernel
theorem d_Ten_liveCells_29 : decode prog_7_method_5_code 29 = .ok (.goto (-19), 3) := by decide +kernel
theorem d_Ten_liveCells_32 : decode prog_7_method_5_code 32 = .ok (.iconst 0, 1) := by decide +kernel
theorem d_Ten_liveCells_33 : decode prog_7_method_5_code 33 = .ok (.istore_n 3, 1) := by decide +kernel
theorem d_Ten_liveCells_34 : decode prog_7_method_5_code 34 = .ok (.iload_n 3, 1) := by decide +kernel
theorem d_Ten_liveCells_35 : decode prog_7_method_5_code 35 = .ok (.aload_n 0, 1) := by decide +kernel
theorem d_Ten_liveCells_36 : decode prog_7_method_5_code 36 = .ok (.getfield 34, 3) := by decide +kernel
theorem d_Ten_liveCells_39 : decode prog_7_method_5_code 39 = .ok (.getfield 70, 3) := by decide +kernel
theorem d_Ten_liveCells_42 : decode prog_7_method_5_code 42 = .ok (.if_icmp .ge 22, 3) := by decide +kernel
theorem d_Ten_liveCells_45 : decode prog_7_method_5_code 45 = .ok (.lload_n 1, 1) := by decide +kernel
theorem d_Ten_liveCells_46 : decode prog_7_method_5_code 46 = .ok (.lconst 1, 1) := by decide +kernel
theorem d_Ten_liveCells_47 : decode prog_7_method_5_code 47 = .ok (.aload_n 0, 1) := by decide +kernel
theorem d_Ten_liveCells_48 : decode prog_7_method_5_code 48 = .ok (.getfield 34, 3) := by decide +kernel
theorem d_Ten_liveCells_51 : decode prog_7_method_5_code 51 = .ok (.iload_n 3, 1) := by decide +kernel
theorem d_Ten_liveCells_52 : decode prog_7_method_5_code 52 = .ok (.invokevirtual 73, 3) := by decide +kernel
theorem d_Ten_liveCells_55 : decode prog_7_method_5_code 55 = .ok (.lshl, 1) := by decide +kernel
theorem d_Ten_liveCells_56 : decode prog_7_method_5_code 56 = .ok (.lor, 1) := by decide +kernel
theorem d_Ten_liveCells_57 : decode prog_7_method_5_code 57 = .ok (.lstore_n 1, 1) := by decide +kernel
theorem d_Ten_liveCells_58 : decode prog_7_method_5_code 58 = .ok (.iinc 3 1, 3) := by decide +kernel
theorem d_Ten_liveCells_61 : decode prog_7_method_5_code 61 = .ok (.goto (-27), 3) := by decide +kernel
theorem d_Ten_liveCells_64 : decode prog_7_method_5_code 64 = .ok (.aload_n 0, 1) := by decide +kernel
theorem d_Ten_liveCells_65 : decode prog_7_method_5_code 65 = .ok (.getfield 12, 3) := by decide +kernel
theorem d_Ten_liveCells_68 : decode prog_7_method_5_code 68 = .ok (.lload_n 1, 1) := by decide +kernel
theorem d_Ten_liveCells_69 : decode prog_7_method_5_code 69 = .ok (.invokevirtual 77, 3) := by decide +kernel
theorem d_Ten_liveCells_72 : decode prog_7_method_5_code 72 = .ok (.lreturn, 1) := by decide +kernel
theorem d_Ten_hasRoom_0 : decode prog_7_method_6_code 0 = .ok (.aload_n 0, 1) := by decide +kernel
theorem d_Ten_hasRoom_1 : decode prog_7_method_6_code 1 = .ok (.getfield 12, 3) := by decide +kernel
theorem d_Ten_hasRoom_4 : decode prog_7_method_6_code 4 = .ok (.iload_n 1, 1) := by decide +kernel
theorem d_Ten_hasRoom_5 : decode prog_7_method_6_code 5 = .ok (.invokevirtual 81, 3) := by decide +kernel
theorem d_Ten_hasRoom_8 : decode prog_7_method_6_code 8 = .ok (.ifCond .ne 14, 3) := by decide +kernel
theorem d_Ten_hasRoom_11 : decode prog_7_method_6_code 11 = .ok (.aload_n 0, 1) := by decide +kernel
theorem d_Ten_hasRoom_12 : decode prog_7_method_6_code 12 = .ok (.getfield 12, 3) := by decide +kernel
theorem d_Ten_hasRoom_15 : decode prog_7_method_6_code 15 = .ok (.aload_n 0, 1) := by decide +kernel
theorem d_Ten_hasRoom_16 : decode prog_7_method_6_code 16 = .ok (.invokevirtual 85, 3) := by decide +kernel
theorem d_Ten_hasRoom_19 : decode prog_7_method_6_code 19 = .ok (.invokevirtual 88, 3) := by decide +kernel
theorem d_Ten_hasRoom_22 : decode prog_7_method_6_code 22 = .ok (.aload_n 0, 1) := by decide +kernel
theorem d_Ten_hasRoom_23 : decode prog_7_method_6_code 23 = .ok (.getfield 12, 3) := by decide +kernel
theorem d_Ten_hasRoom_26 : decode prog_7_method_6_code 26 = .ok (.iload_n 1, 1) := by decide +kernel
theorem d_Ten_hasRoom_27 : decode prog_7_method_6_code 27 = .ok (.invokevirtual 81, 3) := by decide +kernel
theorem d_Ten_hasRoom_30 : decode prog_7_method_6_code 30 = .ok (.ireturn, 1) := by decide +kernel
theorem d_Host_makeCell_0 : decode prog_1_method_34_code 0 = .ok (.aload_n 1, 1) := by decide +kernel
theorem d_Host_makeCell_1 : decode prog_1_method_34_code 1 = .ok (.iconst 1, 1) := by decide +kernel
theorem d_Host_makeCell_2 : decode prog_1_method_34_code 2 = .ok (.invokevirtual 270, 3) := by decide +kernel
theorem d_Host_makeCell_5 : decode prog_1_method_34_code 5 = .ok (.ifCond .eq 29, 3) := by decide +kernel
theorem d_Host_makeCell_8 : decode prog_1_method_34_code 8 = .ok (.aload_n 1, 1) := by decide +kernel
theorem d_Host_makeCell_9 : decode prog_1_method_34_code 9 = .ok (.getfield 205, 3) := by decide +kernel
theorem d_Host_makeCell_12 : decode prog_1_method_34_code 12 = .ok (.invokevirtual 226, 3) := by decide +kernel
theorem d_Host_makeCell_15 : decode prog_1_method_34_code 15 = .ok (.istore_n 2, 1) := by decide +kernel
theorem d_Host_makeCell_16 : decode prog_1_method_34_code 16 = .ok (.aload_n 1, 1) := by decide +kernel
theorem d_Host_makeCell_17 : decode prog_1_method_34_code 17 = .ok (.getfield 205, 3) := by decide +kernel
theorem d_Host_makeCell_20 : decode prog_1_method_34_code 20 = .ok (.aload_n 1, 1) := by decide +kernel
theorem d_Host_makeCell_21 : decode prog_1_method_34_code 21 = .ok (.getfield 69, 3) := by decide +kernel
theorem d_Host_makeCell_24 : decode prog_1_method_34_code 24 = .ok (.iload_n 2, 1) := by decide +kernel
theorem d_Host_makeCell_25 : decode prog_1_method_34_code 25 = .ok (.invokevirtual 273, 3) := by decide +kernel
theorem d_Host_makeCell_28 : decode prog_1_method_34_code 28 = .ok (.invokevirtual 245, 3) := by decide +kernel
theorem d_Host_makeCell_31 : decode prog_1_method_34_code 31 = .ok (.goto 10, 3) := by decide +kernel
theorem d_Host_makeCell_34 : decode prog_1_method_34_code 34 = .ok (.aload_n 0, 1) := by decide +kernel
theorem d_Host_makeCell_35 : decode prog_1_method_34_code 35 = .ok (.aload_n 1, 1) := by decide +kernel
theorem d_Host_makeCell_36 : decode prog_1_method_34_code 36 = .ok (.bipush 9, 2) := by decide +kernel
theorem d_Host_makeCell_38 : decode prog_1_method_34_code 38 = .ok (.invokevirtual 185, 3) := by decide +kernel
theorem d_Host_makeCell_41 : decode prog_1_method_34_code 41 = .ok (.return_, 1) := by decide +kernel
theorem d_Host_putOut_0 : decode prog_1_method_39_code 0 = .ok (.aload_n 1, 1) := by decide +kernel
theorem d_Host_putOut_1 : decode prog_1_method_39_code 1 = .ok (.getfield 154, 3) := by decide +kernel
theorem d_Host_putOut_4 : decode prog_1_method_39_code 4 = .ok (.aload_n 1, 1) := by decide +kernel
theorem d_Host_putOut_5 : decode prog_1_method_39_code 5 = .ok (.getfield 205, 3) := by decide +kernel
theorem d_Host_putOut_8 : decode prog_1_method_39_code 8 = .ok (.invokevirtual 226, 3) := by decide +kernel
theorem d_Host_putOut_11 : decode prog_1_method_39_code 11 = .ok (.invokevirtual 110, 3) := by decide +kernel
theorem d_Host_putOut_14 : decode prog_1_method_39_code 14 = .ok (.ifCond .ne 10, 3) := by decide +kernel
theorem d_Host_putOut_17 : decode prog_1_method_39_code 17 = .ok (.aload_n 0, 1) := by decide +kernel
theorem d_Host_putOut_18 : decode prog_1_method_39_code 18 = .ok (.aload_n 1, 1) := by decide +kernel
theorem d_Host_putOut_19 : decode prog_1_method_39_code 19 = .ok (.bipush 11, 2) := by decide +kernel
theorem d_Host_putOut_21 : decode prog_1_method_39_code 21 = .ok (.invokevirtual 185, 3) := by decide +kernel
theorem d_Host_putOut_24 : decode prog_1_method_39_code 24 = .ok (.return_, 1) := by decide +kernel
theorem d_Heap_copyFrom_0 : decode prog_2_method_8_code 0 = .ok (.bipush 9, 2) := by decide +kernel
theorem d_Heap_copyFrom_2 : decode prog_2_method_8_code 2 = .ok (.istore 5, 2) := by decide +kernel
theorem d_Heap_copyFrom_4 : decode prog_2_method_8_code 4 = .ok (.iload 5, 2) := by decide +kernel
theorem d_Heap_copyFrom_6 : decode prog_2_method_8_code 6 = .ok (.bipush 33, 2) := by decide +kernel
theorem d_Heap_copyFrom_8 : decode prog_2_method_8_code 8 = .ok (.if_icmp .ge 36, 3) := by decide +kernel
theorem d_Heap_copyFrom_11 : decode prog_2_method_8_code 11 = .ok (.lload_n 2, 1) := by decide +kernel
theorem d_Heap_copyFrom_12 : decode prog_2_method_8_code 12 = .ok (.iload 5, 2) := by decide +kernel
theorem d_Heap_copyFrom_14 : decode prog_2_method_8_code 14 = .ok (.invokestatic 41, 3) := by decide +kernel
theorem d_Heap_copyFrom_17 : decode prog_2_method_8_code 17 = .ok (.ifCond .eq 21, 3) := by decide +kernel
theorem d_Heap_copyFrom_20 : decode prog_2_method_8_code 20 = .ok (.aload_n 0, 1) := by decide +kernel
theorem d_Heap_copyFrom_21 : decode prog_2_method_8_code 21 = .ok (.getfield 21, 3) := by decide +kernel
theorem d_Heap_copyFrom_24 : decode prog_2_method_8_code 24 = .ok (.iload 5, 2) := by decide +kernel
theorem d_Heap_copyFrom_26 : decode prog_2_method_8_code 26 = .ok (.aload_n 0, 1) := by decide +kernel
theorem d_Heap_copyFrom_27 : decode prog_2_method_8_code 27 = .ok (.aload_n 1, 1) := by decide +kernel
theorem d_Heap_copyFrom_28 : decode prog_2_method_8_code 28 = .ok (.getfield 9, 3) := by decide +kernel
theorem d_Heap_copyFrom_31 : decode prog_2_method_8_code 31 = .ok (.iload 5, 2) := by decide +kernel
theorem d_Heap_copyFrom_33 : decode prog_2_method_8_code 33 = .ok (.iaload, 1) := by decide +kernel
theorem d_Heap_copyFrom_34 : decode prog_2_method_8_code 34 = .ok (.invokevirtual 51, 3) := by decide +kernel
theorem d_Heap_copyFrom_37 : decode prog_2_method_8_code 37 = .ok (.iastore, 1) := by decide +kernel
theorem d_Heap_copyFrom_38 : decode prog_2_method_8_code 38 = .ok (.iinc 5 1, 3) := by decide +kernel
theorem d_Heap_copyFrom_41 : decode prog_2_method_8_code 41 = .ok (.goto (-37), 3) := by decide +kernel
theorem d_Heap_copyFrom_44 : decode prog_2_method_8_code 44 = .ok (.bipush 9, 2) := by decide +kernel
theorem d_Heap_copyFrom_46 : decode prog_2_method_8_code 46 = .ok (.istore 5, 2) := by decide +kernel
theorem d_Heap_copyFrom_48 : decode prog_2_method_8_code 48 = .ok (.iload 5, 2) := by decide +kernel
theorem d_Heap_copyFrom_50 : decode prog_2_method_8_code 50 = .ok (.bipush 33, 2) := by decide +kernel
theorem d_Heap_copyFrom_52 : decode prog_2_method_8_code 52 = .ok (.if_icmp .ge 66, 3) := by decide +kernel
theorem d_Heap_copyFrom_55 : decode prog_2_method_8_code 55 = .ok (.lload_n 2, 1) := by decide +kernel
theorem d_Heap_copyFrom_56 : decode prog_2_method_8_code 56 = .ok (.iload 5, 2) := by decide +kernel
theorem d_Heap_copyFrom_58 : decode prog_2_method_8_code 58 = .ok (.invokestatic 41, 3) := by decide +kernel
theorem d_Heap_copyFrom_61 : decode prog_2_method_8_code 61 = .ok (.ifCond .eq 51, 3) := by decide +kernel
theorem d_Heap_copyFrom_64 : decode prog_2_method_8_code 64 = .ok (.aload_n 0, 1) := by decide +kernel
theorem d_Heap_copyFrom_65 : decode prog_2_method_8_code 65 = .ok (.getfield 15, 3) := by decide +kernel
theorem d_Heap_copyFrom_68 : decode prog_2_method_8_code 68 = .ok (.aload_n 0, 1) := by decide +kernel
theorem d_Heap_copyFrom_69 : decode prog_2_method_8_code 69 = .ok (.getfield 21, 3) := by decide +kernel
theorem d_Heap_copyFrom_72 : decode prog_2_method_8_code 72 = .ok (.iload 5, 2) := by decide +kernel
theorem d_Heap_copyFrom_74 : decode prog_2_method_8_code 74 = .ok (.iaload, 1) := by decide +kernel
theorem d_Heap_copyFrom_75 : decode prog_2_method_8_code 75 = .ok (.aload_n 0, 1) := by decide +kernel
theorem d_Heap_copyFrom_76 : decode prog_2_method_8_code 76 = .ok (.getfield 21, 3) := by decide +kernel
theorem d_Heap_copyFrom_79 : decode prog_2_method_8_code 79 = .ok (.aload_n 1, 1) := by decide +kernel
theorem d_Heap_copyFrom_80 : decode prog_2_method_8_code 80 = .ok (.getfield 15, 3) := by decide +kernel
theorem d_Heap_copyFrom_83 : decode prog_2_method_8_code 83 = .ok (.iload 5, 2) := by decide +kernel
theorem d_Heap_copyFrom_85 : decode prog_2_method_8_code 85 = .ok (.iaload, 1) := by decide +kernel
theorem d_Heap_copyFrom_86 : decode prog_2_method_8_code 86 = .ok (.iaload, 1) := by decide +kernel
theorem d_Heap_copyFrom_87 : decode prog_2_method_8_code 87 = .ok (.iastore, 1) := by decide +kernel
theorem d_Heap_copyFrom_88 : decode prog_2_method_8_code 88 = .ok (.aload_n 0, 1) := by decide +kernel
theorem d_Heap_copyFrom_89 : decode prog_2_method_8_code 89 = .ok (.getfield 18, 3) := by decide +kernel
theorem d_Heap_copyFrom_92 : decode prog_2_method_8_code 92 = .ok (.aload_n 0, 1) := by decide +kernel
theorem d_Heap_copyFrom_93 : decode prog_2_method_8_code 93 = .ok (.getfield 21, 3) := by decide +kernel
theorem d_Heap_copyFrom_96 : decode prog_2_method_8_code 96 = .ok (.iload 5, 2) := by decide +kernel
theorem d_Heap_copyFrom_98 : decode prog_2_method_8_code 98 = .ok (.iaload, 1) := by decide +kernel
theorem d_Heap_copyFrom_99 : decode prog_2_method_8_code 99 = .ok (.aload_n 0, 1) := by decide +kernel
theorem d_Heap_copyFrom_100 : decode prog_2_method_8_code 100 = .ok (.getfield 21, 3) := by decide +kernel
theorem d_Heap_copyFrom_103 : decode prog_2_method_8_code 103 = .ok (.aload_n 1, 1) := by decide +kernel
theorem d_Heap_copyFrom_104 : decode prog_2_method_8_code 104 = .ok (.getfield 18, 3) := by decide +kernel
theorem d_Heap_copyFrom_107 : decode prog_2_method_8_code 107 = .ok (.iload 5, 2) := by decide +kernel
theorem d_Heap_copyFrom_109 : decode prog_2_method_8_code 109 = .ok (.iaload, 1) := by decide +kernel
theorem d_Heap_copyFrom_110 : decode prog_2_method_8_code 110 = .ok (.iaload, 1) := by decide +kernel
theorem d_Heap_copyFrom_111 : decode prog_2_method_8_code 111 = .ok (.iastore, 1) := by decide +kernel
theorem d_Heap_copyFrom_112 : decode prog_2_method_8_code 112 = .ok (.iinc 5 1, 3) := by decide +kernel
theorem d_Heap_copyFrom_115 : decode prog_2_method_8_code 115 = .ok (.goto (-67), 3) := by decide +kernel
theorem d_Heap_copyFrom_118 : decode prog_2_method_8_code 118 = .ok (.aload_n 0, 1) := by decide +kernel
theorem d_Heap_copyFrom_119 : decode prog_2_method_8_code 119 = .ok (.getfield 21, 3) := by decide +kernel
theorem d_Heap_copyFrom_122 : decode prog_2_method_8_code 122 = .ok (.iload 4, 2) := by decide +kernel
theorem d_Heap_copyFrom_124 : decode prog_2_method_8_code 124 = .ok (.iaload, 1) := by decide +kernel
theorem d_Heap_copyFrom_125 : decode prog_2_method_8_code 125 = .ok (.ireturn, 1) := by decide +kernel
theorem d_Ten_isAlive_0 : decode prog_7_method_3_code 0 = .ok (.aload_n 0, 1) := by decide +kernel
theorem d_Ten_isAlive_1 : decode prog_7_method_3_code 1 = .ok (.getfield 47, 3) := by decide +kernel
theorem d_Ten_isAlive_4 : decode prog_7_method_3_code 4 = .ok (.iconst 1, 1) := by decide +kernel
theorem d_Ten_isAlive_5 : decode prog_7_method_3_code 5 = .ok (.if_icmp .eq 11, 3) := by decide +kernel
theorem d_Ten_isAlive_8 : decode prog_7_method_3_code 8 = .ok (.aload_n 0, 1) := by decide +kernel
theorem d_Ten_isAlive_9 : decode prog_7_method_3_code 9 = .ok (.getfield 47, 3) := by decide +kernel
theorem d_Ten_isAlive_12 : decode prog_7_method_3_code 12 = .ok (.iconst 2, 1) := by decide +kernel
theorem d_Ten_isAlive_13 : decode prog_7_method_3_code 13 = .ok (.if_icmp .ne 7, 3) := by decide +kernel
theorem d_Ten_isAlive_16 : decode prog_7_method_3_code 16 = .ok (.iconst 1, 1) := by decide +kernel
theorem d_Ten_isAlive_17 : decode prog_7_method_3_code 17 = .ok (.goto 4, 3) := by decide +kernel
theorem d_Ten_isAlive_20 : decode prog_7_method_3_code 20 = .ok (.iconst 0, 1) := by decide +kernel
theorem d_Ten_isAlive_21 : decode prog_7_method_3_code 21 = .ok (.ireturn, 1) := by decide +kernel
theorem d_Ten_may_0 : decode prog_7_method_4_code 0 = .ok (.aload_n 0, 1) := by decide +kernel
theorem d_Ten_may_1 : decode prog_7_method_4_code 1 = .ok (.getfield 44, 3) := by decide +kernel
theorem d_Ten_may_4 : decode prog_7_method_4_code 4 = .ok (.iload_n 2, 1) := by decide +kernel
theorem d_Ten_may_5 : decode prog_7_method_4_code 5 = .ok (.iaload, 1) := by decide +kernel
theorem d_Ten_may_6 : decode prog_7_method_4_code 6 = .ok (.iload_n 1, 1) := by decide +kernel
theorem d_Ten_may_7 : decode prog_7_method_4_code 7 = .ok (.iand, 1) := by decide +kernel
theorem d_Ten_may_8 : decode prog_7_method_4_code 8 = .ok (.ifCond .eq 7, 3) := by decide +kernel
theorem d_Ten_may_11 : decode prog_7_method_4_code 11 = .ok (.iconst 1, 1) := by decide +kernel
theorem d_Ten_may_12 : decode prog_7_method_4_code 12 = .ok (.goto 4, 3) := by decide +kernel
theorem d_Ten_may_15 : decode prog_7_method_4_code 15 = .ok (.iconst 0, 1) := by decide +kernel
theorem d_Ten_may_16 : decode prog_7_method_4_code 16 = .ok (.ireturn, 1) := by decide +kernel
theorem d_Host_sendTo_0 : decode prog_1_method_40_code 0 = .ok (.aload_n 1, 1) := by decide +kernel
theorem d_Host_sendTo_1 : decode prog_1_method_40_code 1 = .ok (.iconst 1, 1) := by decide +kernel
theorem d_Host_sendTo_2 : decode prog_1_method_40_code 2 = .ok (.iload_n 2, 1) := by decide +kernel
theorem d_Host_sendTo_3 : decode prog_1_method_40_code 3 = .ok (.invokevirtual 280, 3) := by decide +kernel
theorem d_Host_sendTo_6 : decode prog_1_method_40_code 6 = .ok (.ifCond .ne 11, 3) := by decide +kernel
theorem d_Host_sendTo_9 : decode prog_1_method_40_code 9 = .ok (.aload_n 0, 1) := by decide +kernel
theorem d_Host_sendTo_10 : decode prog_1_method_40_code 10 = .ok (.aload_n 1, 1) := by decide +kernel
theorem d_Host_sendTo_11 : decode prog_1_method_40_code 11 = .ok (.bipush 10, 2) := by decide +kernel
theorem d_Host_sendTo_13 : decode prog_1_method_40_code 13 = .ok (.invokevirtual 185, 3) := by decide +kernel
theorem d_Host_sendTo_16 : decode prog_1_method_40_code 16 = .ok (.return_, 1) := by decide +kernel
theorem d_Host_sendTo_17 : decode prog_1_method_40_code 17 = .ok (.aload_n 0, 1) := by decide +kernel
theorem d_Host_sendTo_18 : decode prog_1_method_40_code 18 = .ok (.getfield 17, 3) := by decide +kernel
theorem d_Host_sendTo_21 : decode prog_1_method_40_code 21 = .ok (.iload_n 2, 1) := by decide +kernel
theorem d_Host_sendTo_22 : decode prog_1_method_40_code 22 = .ok (.aaload, 1) := by decide +kernel
theorem d_Host_sendTo_23 : decode prog_1_method_40_code 23 = .ok (.astore_n 3, 1) := by decide +kernel
theorem d_Host_sendTo_24 : decode prog_1_method_40_code 24 = .ok (.aload_n 1, 1) := by decide +kernel
theorem d_Host_sendTo_25 : decode prog_1_method_40_code 25 = .ok (.getfield 205, 3) := by decide +kernel
theorem d_Host_sendTo_28 : decode prog_1_method_40_code 28 = .ok (.invokevirtual 283, 3) := by decide +kernel
theorem d_Host_sendTo_31 : decode prog_1_method_40_code 31 = .ok (.istore 4, 2) := by decide +kernel
theorem d_Host_sendTo_33 : decode prog_1_method_40_code 33 = .ok (.aload_n 1, 1) := by decide +kernel
theorem d_Host_sendTo_34 : decode prog_1_method_40_code 34 = .ok (.getfield 69, 3) := by decide +kernel
theorem d_Host_sendTo_37 : decode prog_1_method_40_code 37 = .ok (.lconst 1, 1) := by decide +kernel
theorem d_Host_sendTo_38 : decode prog_1_method_40_code 38 = .ok (.iload 4, 2) := by decide +kernel
theorem d_Host_sendTo_40 : decode prog_1_method_40_code 40 = .ok (.lshl, 1) := by decide +kernel
theorem d_Host_sendTo_41 : decode prog_1_method_40_code 41 = .ok (.invokevirtual 286, 3) := by decide +kernel
theorem d_Host_sendTo_44 : decode prog_1_method_40_code 44 = .ok (.lstore 5, 2) := by decide +kernel
theorem d_Host_sendTo_46 : decode prog_1_method_40_code 46 = .ok (.aload_n 3, 1) := by decide +kernel
theorem d_Host_sendTo_47 : decode prog_1_method_40_code 47 = .ok (.invokevirtual 182, 3) := by decide +kernel
theorem d_Host_sendTo_50 : decode prog_1_method_40_code 50 = .ok (.ifCond .eq 29, 3) := by decide +kernel
theorem d_Host_sendTo_53 : decode prog_1_method_40_code 53 = .ok (.aload_n 3, 1) := by decide +kernel
theorem d_Host_sendTo_54 : decode prog_1_method_40_code 54 = .ok (.getfield 148, 3) := by decide +kernel
theorem d_Host_sendTo_57 : decode prog_1_method_40_code 57 = .ok (.invokevirtual 290, 3) := by decide +kernel
theorem d_Host_sendTo_60 : decode prog_1_method_40_code 60 = .ok (.ifCond .ne 19, 3) := by decide +kernel
theorem d_Host_sendTo_63 : decode prog_1_method_40_code 63 = .ok (.aload_n 3, 1) := by decide +kernel
theorem d_Host_sendTo_64 : decode prog_1_method_40_code 64 = .ok (.lload 5, 2) := by decide +kernel
theorem d_Host_sendTo_66 : decode prog_1_method_40_code 66 = .ok (.invokestatic 132, 3) := by decide +kernel
theorem d_Host_sendTo_69 : decode prog_1_method_40_code 69 = .ok (.invokevirtual 270, 3) := by decide +kernel
theorem d_Host_sendTo_72 : decode prog_1_method_40_code 72 = .ok (.ifCond .eq 7, 3) := by decide +kernel
theorem d_Host_sendTo_75 : decode prog_1_method_40_code 75 = .ok (.iconst 1, 1) := by decide +kernel
theorem d_Host_sendTo_76 : decode prog_1_method_40_code 76 = .ok (.goto 4, 3) := by decide +kernel
theorem d_Host_sendTo_79 : decode prog_1_method_40_code 79 = .ok (.iconst 0, 1) := by decide +kernel
theorem d_Host_sendTo_80 : decode prog_1_method_40_code 80 = .ok (.istore 7, 2) := by decide +kernel
theorem d_Host_sendTo_82 : decode prog_1_method_40_code 82 = .ok (.iload 7, 2) := by decide +kernel
theorem d_Host_sendTo_84 : decode prog_1_method_40_code 84 = .ok (.ifCond .eq 26, 3) := by decide +kernel
theorem d_Host_sendTo_87 : decode prog_1_method_40_code 87 = .ok (.aload_n 3, 1) := by decide +kernel
theorem d_Host_sendTo_88 : decode prog_1_method_40_code 88 = .ok (.getfield 148, 3) := by decide +kernel
theorem d_Host_sendTo_91 : decode prog_1_method_40_code 91 = .ok (.aload_n 3, 1) := by decide +kernel
theorem d_Host_sendTo_92 : decode prog_1_method_40_code 92 = .ok (.getfield 69, 3) := by decide +kernel
theorem d_Host_sendTo_95 : decode prog_1_method_40_code 95 = .ok (.aload_n 1, 1) := by decide +kernel
theorem d_Host_sendTo_96 : decode prog_1_method_40_code 96 = .ok (.getfield 69, 3) := by decide +kernel
theorem d_Host_sendTo_99 : decode prog_1_method_40_code 99 = .ok (.lload 5, 2) := by decide +kernel
theorem d_Host_sendTo_101 : decode prog_1_method_40_code 101 = .ok (.iload 4, 2) := by decide +kernel
theorem d_Host_sendTo_103 : decode prog_1_method_40_code 103 = .ok (.invokevirtual 293, 3) := by decide +kernel
theorem d_Host_sendTo_106 : decode prog_1_method_40_code 106 = .ok (.invokevirtual 110, 3) := by decide +kernel
theorem d_Host_sendTo_109 : decode prog_1_method_40_code 109 = .ok (.pop, 1) := by decide +kernel
theorem d_Host_sendTo_110 : decode prog_1_method_40_code 110 = .ok (.aload_n 1, 1) := by decide +kernel
theorem d_Host_sendTo_111 : decode prog_1_method_40_code 111 = .ok (.getfield 205, 3) := by decide +kernel
theorem d_Host_sendTo_114 : decode prog_1_method_40_code 114 = .ok (.invokevirtual 226, 3) := by decide +kernel
theorem d_Host_sendTo_117 : decode prog_1_method_40_code 117 = .ok (.pop, 1) := by decide +kernel
theorem d_Host_sendTo_118 : decode prog_1_method_40_code 118 = .ok (.aload_n 1, 1) := by decide +kernel
theorem d_Host_sendTo_119 : decode prog_1_method_40_code 119 = .ok (.getfield 205, 3) := by decide +kernel
theorem d_Host_sendTo_122 : decode prog_1_method_40_code 122 = .ok (.iload 7, 2) := by decide +kernel
theorem d_Host_sendTo_124 : decode prog_1_method_40_code 124 = .ok (.invokevirtual 266, 3) := by decide +kernel
theorem d_Host_sendTo_127 : decode prog_1_method_40_code 127 = .ok (.return_, 1) := by decide +kernel
theorem d_Host_setPart_0 : decode prog_1_method_36_code 0 = .ok (.aload_n 1, 1) := by decide +kernel
theorem d_Host_setPart_1 : decode prog_1_method_36_code 1 = .ok (.getfield 205, 3) := by decide +kernel
theorem d_Host_setPart_4 : decode prog_1_method_36_code 4 = .ok (.invokevirtual 226, 3) := by decide +kernel
theorem d_Host_setPart_7 : decode prog_1_method_36_code 7 = .ok (.istore_n 3, 1) := by decide +kernel
theorem d_Host_setPart_8 : decode prog_1_method_36_code 8 = .ok (.aload_n 1, 1) := by decide +kernel
theorem d_Host_setPart_9 : decode prog_1_method_36_code 9 = .ok (.getfield 205, 3) := by decide +kernel
theorem d_Host_setPart_12 : decode prog_1_method_36_code 12 = .ok (.invokevirtual 226, 3) := by decide +kernel
theorem d_Host_setPart_15 : decode prog_1_method_36_code 15 = .ok (.istore 4, 2) := by decide +kernel
theorem d_Host_setPart_17 : decode prog_1_method_36_code 17 = .ok (.iload 4, 2) := by decide +kernel
theorem d_Host_setPart_19 : decode prog_1_method_36_code 19 = .ok (.ifCond .ne 13, 3) := by decide +kernel
theorem d_Host_setPart_22 : decode prog_1_method_36_code 22 = .ok (.aload_n 0, 1) := by decide +kernel
theorem d_Host_setPart_23 : decode prog_1_method_36_code 23 = .ok (.aload_n 1, 1) := by decide +kernel
theorem d_Host_setPart_24 : decode prog_1_method_36_code 24 = .ok (.bipush 7, 2) := by decide +kernel
theorem d_Host_setPart_26 : decode prog_1_method_36_code 26 = .ok (.invokevirtual 185, 3) := by decide +kernel
theorem d_Host_setPart_29 : decode prog_1_method_36_code 29 = .ok (.goto 32, 3) := by decide +kernel
theorem d_Host_setPart_32 : decode prog_1_method_36_code 32 = .ok (.iload 4, 2) := by decide +kernel
theorem d_Host_setPart_34 : decode prog_1_method_36_code 34 = .ok (.bipush 9, 2) := by decide +kernel
theorem d_Host_setPart_36 : decode prog_1_method_36_code 36 = .ok (.if_icmp .ge 13, 3) := by decide +kernel
theorem d_Host_setPart_39 : decode prog_1_method_36_code 39 = .ok (.aload_n 0, 1) := by decide +kernel
theorem d_Host_setPart_40 : decode prog_1_method_36_code 40 = .ok (.aload_n 1, 1) := by decide +kernel
theorem d_Host_setPart_41 : decode prog_1_method_36_code 41 = .ok (.bipush 8, 2) := by decide +kernel
theorem d_Host_setPart_43 : decode prog_1_method_36_code 43 = .ok (.invokevirtual 185, 3) := by decide +kernel
theorem d_Host_setPart_46 : decode prog_1_method_36_code 46 = .ok (.goto 15, 3) := by decide +kernel
theorem d_Host_setPart_49 : decode prog_1_method_36_code 49 = .ok (.aload_n 1, 1) := by decide +kernel
theorem d_Host_setPart_50 : decode prog_1_method_36_code 50 = .ok (.getfield 69, 3) := by decide +kernel
theorem d_Host_setPart_53 : decode prog_1_method_36_code 53 = .ok (.iload_n 2, 1) := by decide +kernel
theorem d_Host_setPart_54 : decode prog_1_method_36_code 54 = .ok (.invokevirtual 276, 3) := by decide +kernel
theorem d_Host_setPart_57 : decode prog_1_method_36_code 57 = .ok (.iload 4, 2) := by decide +kernel
theorem d_Host_setPart_59 : decode prog_1_method_36_code 59 = .ok (.iload_n 3, 1) := by decide +kernel
theorem d_Host_setPart_60 : decode prog_1_method_36_code 60 = .ok (.iastore, 1) := by decide +kernel
theorem d_Host_setPart_61 : decode prog_1_method_36_code 61 = .ok (.return_, 1) := by decide +kernel
theorem d_Host_startOther_0 : decode prog_1_method_41_code 0 = .ok (.aload_n 1, 1) := by decide +kernel
theorem d_Host_startOther_1 : decode prog_1_method_41_code 1 = .ok (.iconst 2, 1) := by decide +kernel
theorem d_Host_startOther_2 : decode prog_1_method_41_code 2 = .ok (.iload_n 2, 1) := by decide +kernel
theorem d_Host_startOther_3 : decode prog_1_method_41_code 3 = .ok (.invokevirtual 280, 3) := by decide +kernel
theorem d_Host_startOther_6 : decode prog_1_method_41_code 6 = .ok (.ifCond .eq 32, 3) := by decide +kernel
theorem d_Host_startOther_9 : decode prog_1_method_41_code 9 = .ok (.aload_n 1, 1) := by decide +kernel
theorem d_Host_startOther_10 : decode prog_1_method_41_code 10 = .ok (.getfield 205, 3) := by decide +kernel
theorem d_Host_startOther_13 : decode prog_1_method_41_code 13 = .ok (.invokevirtual 226, 3) := by decide +kernel
theorem d_Host_startOther_16 : decode prog_1_method_41_code 16 = .ok (.istore_n 3, 1) := by decide +kernel
theorem d_Host_startOther_17 : decode prog_1_method_41_code 17 = .ok (.aload_n 1, 1) := by decide +kernel
theorem d_Host_startOther_18 : decode prog_1_method_41_code 18 = .ok (.getfield 205, 3) := by decide +kernel
theorem d_Host_startOther_21 : decode prog_1_method_41_code 21 = .ok (.aload_n 0, 1) := by decide +kernel
theorem d_Host_startOther_22 : decode prog_1_method_41_code 22 = .ok (.aload_n 0, 1) := by decide +kernel
theorem d_Host_startOther_23 : decode prog_1_method_41_code 23 = .ok (.getfield 17, 3) := by decide +kernel
theorem d_Host_startOther_26 : decode prog_1_method_41_code 26 = .ok (.iload_n 2, 1) := by decide +kernel
theorem d_Host_startOther_27 : decode prog_1_method_41_code 27 = .ok (.aaload, 1) := by decide +kernel
theorem d_Host_startOther_28 : decode prog_1_method_41_code 28 = .ok (.iload_n 3, 1) := by decide +kernel
theorem d_Host_startOther_29 : decode prog_1_method_41_code 29 = .ok (.invokevirtual 102, 3) := by decide +kernel
theorem d_Host_startOther_32 : decode prog_1_method_41_code 32 = .ok (.invokevirtual 266, 3) := by decide +kernel
theorem d_Host_startOther_35 : decode prog_1_method_41_code 35 = .ok (.goto 10, 3) := by decide +kernel
theorem d_Host_startOther_38 : decode prog_1_method_41_code 38 = .ok (.aload_n 0, 1) := by decide +kernel
theorem d_Host_startOther_39 : decode prog_1_method_41_code 39 = .ok (.aload_n 1, 1) := by decide +kernel
theorem d_Host_startOther_40 : decode prog_1_method_41_code 40 = .ok (.bipush 10, 2) := by decide +kernel
theorem d_Host_startOther_42 : decode prog_1_method_41_code 42 = .ok (.invokevirtual 185, 3) := by decide +kernel
theorem d_Host_startOther_45 : decode prog_1_method_41_code 45 = .ok (.return_, 1) := by decide +kernel
theorem d_Host_stopOther_0 : decode prog_1_method_42_code 0 = .ok (.aload_n 1, 1) := by decide +kernel
theorem d_Host_stopOther_1 : decode prog_1_method_42_code 1 = .ok (.iconst 4, 1) := by decide +kernel
theorem d_Host_stopOther_2 : decode prog_1_method_42_code 2 = .ok (.iload_n 2, 1) := by decide +kernel
theorem d_Host_stopOther_3 : decode prog_1_method_42_code 3 = .ok (.invokevirtual 280, 3) := by decide +kernel
theorem d_Host_stopOther_6 : decode prog_1_method_42_code 6 = .ok (.ifCond .ne 11, 3) := by decide +kernel
theorem d_Host_stopOther_9 : decode prog_1_method_42_code 9 = .ok (.aload_n 0, 1) := by decide +kernel
theorem d_Host_stopOther_10 : decode prog_1_method_42_code 10 = .ok (.aload_n 1, 1) := by decide +kernel
theorem d_Host_stopOther_11 : decode prog_1_method_42_code 11 = .ok (.bipush 10, 2) := by decide +kernel
theorem d_Host_stopOther_13 : decode prog_1_method_42_code 13 = .ok (.invokevirtual 185, 3) := by decide +kernel
theorem d_Host_stopOther_16 : decode prog_1_method_42_code 16 = .ok (.return_, 1) := by decide +kernel
theorem d_Host_stopOther_17 : decode prog_1_method_42_code 17 = .ok (.aload_n 0, 1) := by decide +kernel
theorem d_Host_stopOther_18 : decode prog_1_method_42_code 18 = .ok (.getfield 17, 3) := by decide +kernel
theorem d_Host_stopOther_21 : decode prog_1_method_42_code 21 = .ok (.iload_n 2, 1) := by decide +kernel
theorem d_Host_stopOther_22 : decode prog_1_method_42_code 22 = .ok (.aaload, 1) := by decide +kernel
theorem d_Host_stopOther_23 : decode prog_1_method_42_code 23 = .ok (.astore_n 3, 1) := by decide +kernel
theorem d_Host_stopOther_24 : decode prog_1_method_42_code 24 = .ok (.aload_n 3, 1) := by decide +kernel
theorem d_Host_stopOther_25 : decode prog_1_method_42_code 25 = .ok (.invokevirtual 182, 3) := by decide +kernel
theorem d_Host_stopOther_28 : decode prog_1_method_42_code 28 = .ok (.istore 4, 2) := by decide +kernel
theorem d_Host_stopOther_30 : decode prog_1_method_42_code 30 = .ok (.iload 4, 2) := by decide +kernel
theorem d_Host_stopOther_32 : decode prog_1_method_42_code 32 = .ok (.ifCond .eq 9, 3) := by decide +kernel
theorem d_Host_stopOther_35 : decode prog_1_method_42_code 35 = .ok (.aload_n 0, 1) := by decide +kernel
theorem d_Host_stopOther_36 : decode prog_1_method_42_code 36 = .ok (.aload_n 3, 1) := by decide +kernel
theorem d_Host_stopOther_37 : decode prog_1_method_42_code 37 = .ok (.iconst 4, 1) := by decide +kernel
theorem d_Host_stopOther_38 : decode prog_1_method_42_code 38 = .ok (.invokevirtual 185, 3) := by decide +kernel
theorem d_Host_stopOther_41 : decode prog_1_method_42_code 41 = .ok (.aload_n 1, 1) := by decide +kernel
theorem d_Host_stopOther_42 : decode prog_1_method_42_code 42 = .ok (.invokevirtual 182, 3) := by decide +kernel
theorem d_Host_stopOther_45 : decode prog_1_method_42_code 45 = .ok (.ifCond .eq 12, 3) := by decide +kernel
theorem d_Host_stopOther_48 : decode prog_1_method_42_code 48 = .ok (.aload_n 1, 1) := by decide +kernel
theorem d_Host_stopOther_49 : decode prog_1_method_42_code 49 = .ok (.getfield 205, 3) := by decide +kernel
theorem d_Host_stopOther_52 : decode prog_1_method_42_code 52 = .ok (.iload 4, 2) := by decide +kernel
theorem d_Host_stopOther_54 : decode prog_1_method_42_code 54 = .ok (.invokevirtual 266, 3) := by decide +kernel
theorem d_Host_stopOther_57 : decode prog_1_method_42_code 57 = .ok (.return_, 1) := by decide +kernel
theorem d_Line_takeFirst_0 : decode prog_4_method_5_code 0 = .ok (.aload_n 0, 1) := by decide +kernel
theorem d_Line_takeFirst_1 : decode prog_4_method_5_code 1 = .ok (.iconst 0, 1) := by decide +kernel
theorem d_Line_takeFirst_2 : decode prog_4_method_5_code 2 = .ok (.invokevirtual 21, 3) := by decide +kernel
theorem d_Line_takeFirst_5 : decode prog_4_method_5_code 5 = .ok (.istore_n 1, 1) := by decide +kernel
theorem d_Line_takeFirst_6 : decode prog_4_method_5_code 6 = .ok (.aload_n 0, 1) := by decide +kernel
theorem d_Line_takeFirst_7 : decode prog_4_method_5_code 7 = .ok (.getfield 7, 3) := by decide +kernel
theorem d_Line_takeFirst_10 : decode prog_4_method_5_code 10 = .ok (.ifCond .le 30, 3) := by decide +kernel
theorem d_Line_takeFirst_13 : decode prog_4_method_5_code 13 = .ok (.aload_n 0, 1) := by decide +kernel
theorem d_Line_takeFirst_14 : decode prog_4_method_5_code 14 = .ok (.dup, 1) := by decide +kernel
theorem d_Line_takeFirst_15 : decode prog_4_method_5_code 15 = .ok (.getfield 7, 3) := by decide +kernel
theorem d_Line_takeFirst_18 : decode prog_4_method_5_code 18 = .ok (.iconst 1, 1) := by decide +kernel
theorem d_Line_takeFirst_19 : decode prog_4_method_5_code 19 = .ok (.isub, 1) := by decide +kernel
theorem d_Line_takeFirst_20 : decode prog_4_method_5_code 20 = .ok (.putfield 7, 3) := by decide +kernel
theorem d_Line_takeFirst_23 : decode prog_4_method_5_code 23 = .ok (.aload_n 0, 1) := by decide +kernel
theorem d_Line_takeFirst_24 : decode prog_4_method_5_code 24 = .ok (.getfield 13, 3) := by decide +kernel
theorem d_Line_takeFirst_27 : decode prog_4_method_5_code 27 = .ok (.iconst 1, 1) := by decide +kernel
theorem d_Line_takeFirst_28 : decode prog_4_method_5_code 28 = .ok (.aload_n 0, 1) := by decide +kernel
theorem d_Line_takeFirst_29 : decode prog_4_method_5_code 29 = .ok (.getfield 13, 3) := by decide +kernel
theorem d_Line_takeFirst_32 : decode prog_4_method_5_code 32 = .ok (.iconst 0, 1) := by decide +kernel
theorem d_Line_takeFirst_33 : decode prog_4_method_5_code 33 = .ok (.aload_n 0, 1) := by decide +kernel
theorem d_Line_takeFirst_34 : decode prog_4_method_5_code 34 = .ok (.getfield 7, 3) := by decide +kernel
theorem d_Line_takeFirst_37 : decode prog_4_method_5_code 37 = .ok (.invokestatic 25, 3) := by decide +kernel
theorem d_Line_takeFirst_40 : decode prog_4_method_5_code 40 = .ok (.iload_n 1, 1) := by decide +kernel
theorem d_Line_takeFirst_41 : decode prog_4_method_5_code 41 = .ok (.ireturn, 1) := by decide +kernel
theorem d_Prog_argAt_0 : decode prog_5_method_7_code 0 = .ok (.aload_n 0, 1) := by decide +kernel
theorem d_Prog_argAt_1 : decode prog_5_method_7_code 1 = .ok (.iload_n 1, 1) := by decide +kernel
theorem d_Prog_argAt_2 : decode prog_5_method_7_code 2 = .ok (.invokevirtual 39, 3) := by decide +kernel
theorem d_Prog_argAt_5 : decode prog_5_method_7_code 5 = .ok (.ifCond .eq 12, 3) := by decide +kernel
theorem d_Prog_argAt_8 : decode prog_5_method_7_code 8 = .ok (.aload_n 0, 1) := by decide +kernel
theorem d_Prog_argAt_9 : decode prog_5_method_7_code 9 = .ok (.getfield 15, 3) := by decide +kernel
theorem d_Prog_argAt_12 : decode prog_5_method_7_code 12 = .ok (.iload_n 1, 1) := by decide +kernel
theorem d_Prog_argAt_13 : decode prog_5_method_7_code 13 = .ok (.iaload, 1) := by decide +kernel
theorem d_Prog_argAt_14 : decode prog_5_method_7_code 14 = .ok (.goto 4, 3) := by decide +kernel
theorem d_Prog_argAt_17 : decode prog_5_method_7_code 17 = .ok (.iconst 0, 1) := by decide +kernel
theorem d_Prog_argAt_18 : decode prog_5_method_7_code 18 = .ok (.ireturn, 1) := by decide +kernel
theorem d_Prog_opAt_0 : decode prog_5_method_6_code 0 = .ok (.aload_n 0, 1) := by decide +kernel
theorem d_Prog_opAt_1 : decode prog_5_method_6_code 1 = .ok (.iload_n 1, 1) := by decide +kernel
theorem d_Prog_opAt_2 : decode prog_5_method_6_code 2 = .ok (.invokevirtual 39, 3) := by decide +kernel
theorem d_Prog_opAt_5 : decode prog_5_method_6_code 5 = .ok (.ifCond .eq 12, 3) := by decide +kernel
theorem d_Prog_opAt_8 : decode prog_5_method_6_code 8 = .ok (.aload_n 0, 1) := by decide +kernel
theorem d_Prog_opAt_9 : decode prog_5_method_6_code 9 = .ok (.getfield 9, 3) := by decide +kernel
theorem d_Prog_opAt_12 : decode prog_5_method_6_code 12 = .ok (.iload_n 1, 1) := by decide +kernel
theorem d_Prog_opAt_13 : decode prog_5_method_6_code 13 = .ok (.iaload, 1) := by decide +kernel
theorem d_Prog_opAt_14 : decode prog_5_method_6_code 14 = .ok (.goto 4, 3) := by decide +kernel
theorem d_Prog_opAt_17 : decode prog_5_method_6_code 17 = .ok (.iconst 0, 1) := by decide +kernel
theorem d_Prog_opAt_18 : decode prog_5_method_6_code 18 = .ok (.ireturn, 1) := by decide +kernel
theorem d_Stk_putTopAgain_0 : decode prog_6_method_6_code 0 = .ok (.aload_n 0, 1) := by decide +kernel
theorem d_Stk_putTopAgain_1 : decode prog_6_method_6_code 1 = .ok (.getfield 19, 3) := by decide +kernel
theorem d_Stk_putTopAgain_4 : decode prog_6_method_6_code 4 = .ok (.ifCond .le 29, 3) := by decide +kernel
theorem d_Stk_putTopAgain_7 : decode prog_6_method_6_code 7 = .ok (.aload_n 0, 1) := by decide +kernel
theorem d_Stk_putTopAgain_8 : decode prog_6_method_6_code 8 = .ok (.aload_n 0, 1) := by decide +kernel
theorem d_Stk_putTopAgain_9 : decode prog_6_method_6_code 9 = .ok (.getfield 9, 3) := by decide +kernel
theorem d_Stk_putTopAgain_12 : decode prog_6_method_6_code 12 = .ok (.aload_n 0, 1) := by decide +kernel
theorem d_Stk_putTopAgain_13 : decode prog_6_method_6_code 13 = .ok (.getfield 19, 3) := by decide +kernel
theorem d_Stk_putTopAgain_16 : decode prog_6_method_6_code 16 = .ok (.iconst 1, 1) := by decide +kernel
theorem d_Stk_putTopAgain_17 : decode prog_6_method_6_code 17 = .ok (.isub, 1) := by decide +kernel
theorem d_Stk_putTopAgain_18 : decode prog_6_method_6_code 18 = .ok (.iaload, 1) := by decide +kernel
theorem d_Stk_putTopAgain_19 : decode prog_6_method_6_code 19 = .ok (.aload_n 0, 1) := by decide +kernel
theorem d_Stk_putTopAgain_20 : decode prog_6_method_6_code 20 = .ok (.getfield 15, 3) := by decide +kernel
theorem d_Stk_putTopAgain_23 : decode prog_6_method_6_code 23 = .ok (.aload_n 0, 1) := by decide +kernel
theorem d_Stk_putTopAgain_24 : decode prog_6_method_6_code 24 = .ok (.getfield 19, 3) := by decide +kernel
theorem d_Stk_putTopAgain_27 : decode prog_6_method_6_code 27 = .ok (.iconst 1, 1) := by decide +kernel
theorem d_Stk_putTopAgain_28 : decode prog_6_method_6_code 28 = .ok (.isub, 1) := by decide +kernel
theorem d_Stk_putTopAgain_29 : decode prog_6_method_6_code 29 = .ok (.baload, 1) := by decide +kernel
theorem d_Stk_putTopAgain_30 : decode prog_6_method_6_code 30 = .ok (.invokevirtual 23, 3) := by decide +kernel
theorem d_Stk_putTopAgain_33 : decode prog_6_method_6_code 33 = .ok (.return_, 1) := by decide +kernel
theorem d_Host_doInstruction_0 : decode prog_1_method_31_code 0 = .ok (.aload_n 0, 1) := by decide +kernel
theorem d_Host_doInstruction_1 : decode prog_1_method_31_code 1 = .ok (.getfield 11, 3) := by decide +kernel
theorem d_Host_doInstruction_4 : decode prog_1_method_31_code 4 = .ok (.aload_n 1, 1) := by decide +kernel
theorem d_Host_doInstruction_5 : decode prog_1_method_31_code 5 = .ok (.getfield 176, 3) := by decide +kernel
theorem d_Host_doInstruction_8 : decode prog_1_method_31_code 8 = .ok (.aaload, 1) := by decide +kernel
theorem d_Host_doInstruction_9 : decode prog_1_method_31_code 9 = .ok (.aload_n 1, 1) := by decide +kernel
theorem d_Host_doInstruction_10 : decode prog_1_method_31_code 10 = .ok (.getfield 196, 3) := by decide +kernel
theorem d_Host_doInstruction_13 : decode prog_1_method_31_code 13 = .ok (.invokevirtual 199, 3) := by decide +kernel
theorem d_Host_doInstruction_16 : decode prog_1_method_31_code 16 = .ok (.istore_n 2, 1) := by decide +kernel
theorem d_Host_doInstruction_17 : decode prog_1_method_31_code 17 = .ok (.aload_n 0, 1) := by decide +kernel
theorem d_Host_doInstruction_18 : decode prog_1_method_31_code 18 = .ok (.getfield 11, 3) := by decide +kernel
theorem d_Host_doInstruction_21 : decode prog_1_method_31_code 21 = .ok (.aload_n 1, 1) := by decide +kernel
theorem d_Host_doInstruction_22 : decode prog_1_method_31_code 22 = .ok (.getfield 176, 3) := by decide +kernel
theorem d_Host_doInstruction_25 : decode prog_1_method_31_code 25 = .ok (.aaload, 1) := by decide +kernel
theorem d_Host_doInstruction_26 : decode prog_1_method_31_code 26 = .ok (.aload_n 1, 1) := by decide +kernel
theorem d_Host_doInstruction_27 : decode prog_1_method_31_code 27 = .ok (.getfield 196, 3) := by decide +kernel
theorem d_Host_doInstruction_30 : decode prog_1_method_31_code 30 = .ok (.invokevirtual 202, 3) := by decide +kernel
theorem d_Host_doInstruction_33 : decode prog_1_method_31_code 33 = .ok (.istore_n 3, 1) := by decide +kernel
theorem d_Host_doInstruction_34 : decode prog_1_method_31_code 34 = .ok (.aload_n 1, 1) := by decide +kernel
theorem d_Host_doInstruction_35 : decode prog_1_method_31_code 35 = .ok (.iconst 1, 1) := by decide +kernel
theorem d_Host_doInstruction_36 : decode prog_1_method_31_code 36 = .ok (.putfield 122, 3) := by decide +kernel
theorem d_Host_doInstruction_39 : decode prog_1_method_31_code 39 = .ok (.aload_n 1, 1) := by decide +kernel
theorem d_Host_doInstruction_40 : decode prog_1_method_31_code 40 = .ok (.dup, 1) := by decide +kernel
theorem d_Host_doInstruction_41 : decode prog_1_method_31_code 41 = .ok (.getfield 125, 3) := by decide +kernel
theorem d_Host_doInstruction_44 : decode prog_1_method_31_code 44 = .ok (.iconst 1, 1) := by decide +kernel
theorem d_Host_doInstruction_45 : decode prog_1_method_31_code 45 = .ok (.iadd, 1) := by decide +kernel
theorem d_Host_doInstruction_46 : decode prog_1_method_31_code 46 = .ok (.putfield 125, 3) := by decide +kernel
theorem d_Host_doInstruction_49 : decode prog_1_method_31_code 49 = .ok (.aload_n 1, 1) := by decide +kernel
theorem d_Host_doInstruction_50 : decode prog_1_method_31_code 50 = .ok (.dup, 1) := by decide +kernel
theorem d_Host_doInstruction_51 : decode prog_1_method_31_code 51 = .ok (.getfield 196, 3) := by decide +kernel
theorem d_Host_doInstruction_54 : decode prog_1_method_31_code 54 = .ok (.iconst 1, 1) := by decide +kernel
theorem d_Host_doInstruction_55 : decode prog_1_method_31_code 55 = .ok (.iadd, 1) := by decide +kernel
theorem d_Host_doInstruction_56 : decode prog_1_method_31_code 56 = .ok (.putfield 196, 3) := by decide +kernel
theorem d_Host_doInstruction_59 : decode prog_1_method_31_code 59 = .ok (.iload_n 2, 1) := by decide +kernel
theorem d_Host_doInstruction_60 : decode prog_1_method_31_code 60 = .ok (.tableswitch 376 0 24 #[116, 125, 136, 136, 136, 147, 136, 155, 181, 197, 207, 218, 226, 235, 244, 254, 265, 291, 299, 307, 315, 332, 341, 358, 367], 116) := by decide +kernel
theorem d_Host_doInstruction_176 : decode prog_1_method_31_code 176 = .ok (.aload_n 0, 1) := by decide +kernel
theorem d_Host_doInstruction_177 : decode prog_1_method_31_code 177 = .ok (.aload_n 1, 1) := by decide +kernel
theorem d_Host_doInstruction_178 : decode prog_1_method_31_code 178 = .ok (.iconst 3, 1) := by decide +kernel
theorem d_Host_doInstruction_179 : decode prog_1_method_31_code 179 = .ok (.invokevirtual 185, 3) := by decide +kernel
theorem d_Host_doInstruction_182 : decode prog_1_method_31_code 182 = .ok (.goto 254, 3) := by decide +kernel
theorem d_Host_doInstruction_185 : decode prog_1_method_31_code 185 = .ok (.aload_n 1, 1) := by decide +kernel
theorem d_Host_doInstruction_186 : decode prog_1_method_31_code 186 = .ok (.getfield 205, 3) := by decide +kernel
theorem d_Host_doInstruction_189 : decode prog_1_method_31_code 189 = .ok (.iload_n 3, 1) := by decide +kernel
theorem d_Host_doInstruction_190 : decode prog_1_method_31_code 190 = .ok (.invokevirtual 209, 3) := by decide +kernel
theorem d_Host_doInstruction_193 : decode prog_1_method_31_code 193 = .ok (.goto 243, 3) := by decide +kernel
theorem d_Host_doInstruction_196 : decode prog_1_method_31_code 196 = .ok (.aload_n 1, 1) := by decide +kernel
theorem d_Host_doInstruction_197 : decode prog_1_method_31_code 197 = .ok (.getfield 205, 3) := by decide +kernel
theorem d_Host_doInstruction_200 : decode prog_1_method_31_code 200 = .ok (.iload_n 2, 1) := by decide +kernel
theorem d_Host_doInstruction_201 : decode prog_1_method_31_code 201 = .ok (.invokestatic 215, 3) := by decide +kernel
theorem d_Host_doInstruction_204 : decode prog_1_method_31_code 204 = .ok (.goto 232, 3) := by decide +kernel
theorem d_Host_doInstruction_207 : decode prog_1_method_31_code 207 = .ok (.aload_n 0, 1) := by decide +kernel
theorem d_Host_doInstruction_208 : decode prog_1_method_31_code 208 = .ok (.aload_n 1, 1) := by decide +kernel
theorem d_Host_doInstruction_209 : decode prog_1_method_31_code 209 = .ok (.invokevirtual 219, 3) := by decide +kernel
theorem d_Host_doInstruction_212 : decode prog_1_method_31_code 212 = .ok (.goto 224, 3) := by decide +kernel
theorem d_Host_doInstruction_215 : decode prog_1_method_31_code 215 = .ok (.aload_n 1, 1) := by decide +kernel
theorem d_Host_doInstruction_216 : decode prog_1_method_31_code 216 = .ok (.getfield 205, 3) := by decide +kernel
theorem d_Host_doInstruction_219 : decode prog_1_method_31_code 219 = .ok (.aload_n 1, 1) := by decide +kernel
theorem d_Host_doInstruction_220 : decode prog_1_method_31_code 220 = .ok (.getfield 160, 3) := by decide +kernel
theorem d_Host_doInstruction_223 : decode prog_1_method_31_code 223 = .ok (.iload_n 3, 1) := by decide +kernel
theorem d_Host_doInstruction_224 : decode prog_1_method_31_code 224 = .ok (.iaload, 1) := by decide +kernel
theorem d_Host_doInstruction_225 : decode prog_1_method_31_code 225 = .ok (.iload_n 3, 1) := by decide +kernel
theorem d_Host_doInstruction_226 : decode prog_1_method_31_code 226 = .ok (.iconst 2, 1) := by decide +kernel
theorem d_Host_doInstruction_227 : decode prog_1_method_31_code 227 = .ok (.if_icmp .lt 7, 3) := by decide +kernel
theorem d_Host_doInstruction_230 : decode prog_1_method_31_code 230 = .ok (.iconst 1, 1) := by decide +kernel
theorem d_Host_doInstruction_231 : decode prog_1_method_31_code 231 = .ok (.goto 4, 3) := by decide +kernel
theorem d_Host_doInstruction_234 : decode prog_1_method_31_code 234 = .ok (.iconst 0, 1) := by decide +kernel
theorem d_Host_doInstruction_235 : decode prog_1_method_31_code 235 = .ok (.invokevirtual 222, 3) := by decide +kernel
theorem d_Host_doInstruction_238 : decode prog_1_method_31_code 238 = .ok (.goto 198, 3) := by decide +kernel
theorem d_Host_doInstruction_241 : decode prog_1_method_31_code 241 = .ok (.aload_n 1, 1) := by decide +kernel
theorem d_Host_doInstruction_242 : decode prog_1_method_31_code 242 = .ok (.getfield 160, 3) := by decide +kernel
theorem d_Host_doInstruction_245 : decode prog_1_method_31_code 245 = .ok (.iload_n 3, 1) := by decide +kernel
theorem d_Host_doInstruction_246 : decode prog_1_method_31_code 246 = .ok (.aload_n 1, 1) := by decide +kernel
theorem d_Host_doInstruction_247 : decode prog_1_method_31_code 247 = .ok (.getfield 205, 3) := by decide +kernel
theorem d_Host_doInstruction_250 : decode prog_1_method_31_code 250 = .ok (.invokevirtual 226, 3) := by decide +kernel
theorem d_Host_doInstruction_253 : decode prog_1_method_31_code 253 = .ok (.iastore, 1) := by decide +kernel
theorem d_Host_doInstruction_254 : decode prog_1_method_31_code 254 = .ok (.goto 182, 3) := by decide +kernel
theorem d_Host_doInstruction_257 : decode prog_1_method_31_code 257 = .ok (.aload_n 1, 1) := by decide +kernel
theorem d_Host_doInstruction_258 : decode prog_1_method_31_code 258 = .ok (.getfield 205, 3) := by decide +kernel
theorem d_Host_doInstruction_261 : decode prog_1_method_31_code 261 = .ok (.invokevirtual 229, 3) := by decide +kernel
theorem d_Host_doInstruction_264 : decode prog_1_method_31_code 264 = .ok (.goto 172, 3) := by decide +kernel
theorem d_Host_doInstruction_267 : decode prog_1_method_31_code 267 = .ok (.aload_n 1, 1) := by decide +kernel
theorem d_Host_doInstruction_268 : decode prog_1_method_31_code 268 = .ok (.getfield 205, 3) := by decide +kernel
theorem d_Host_doInstruction_271 : decode prog_1_method_31_code 271 = .ok (.invokevirtual 226, 3) := by decide +kernel
theorem d_Host_doInstruction_274 : decode prog_1_method_31_code 274 = .ok (.pop, 1) := by decide +kernel
theorem d_Host_doInstruction_275 : decode prog_1_method_31_code 275 = .ok (.goto 161, 3) := by decide +kernel
theorem d_Host_doInstruction_278 : decode prog_1_method_31_code 278 = .ok (.aload_n 0, 1) := by decide +kernel
theorem d_Host_doInstruction_279 : decode prog_1_method_31_code 279 = .ok (.aload_n 1, 1) := by decide +kernel
theorem d_Host_doInstruction_280 : decode prog_1_method_31_code 280 = .ok (.invokevirtual 232, 3) := by decide +kernel
theorem d_Host_doInstruction_283 : decode prog_1_method_31_code 283 = .ok (.goto 153, 3) := by decide +kernel
theorem d_Host_doInstruction_286 : decode prog_1_method_31_code 286 = .ok (.aload_n 0, 1) := by decide +kernel
theorem d_Host_doInstruction_287 : decode prog_1_method_31_code 287 = .ok (.aload_n 1, 1) := by decide +kernel
theorem d_Host_doInstruction_288 : decode prog_1_method_31_code 288 = .ok (.iload_n 3, 1) := by decide +kernel
theorem d_Host_doInstruction_289 : decode prog_1_method_31_code 289 = .ok (.invokevirtual 235, 3) := by decide +kernel
theorem d_Host_doInstruction_292 : decode prog_1_method_31_code 292 = .ok (.goto 144, 3) := by decide +kernel
theorem d_Host_doInstruction_295 : decode prog_1_method_31_code 295 = .ok (.aload_n 0, 1) := by decide +kernel
theorem d_Host_doInstruction_296 : decode prog_1_method_31_code 296 = .ok (.aload_n 1, 1) := by decide +kernel
theorem d_Host_doInstruction_297 : decode prog_1_method_31_code 297 = .ok (.iload_n 3, 1) := by decide +kernel
theorem d_Host_doInstruction_298 : decode prog_1_method_31_code 298 = .ok (.invokevirtual 238, 3) := by decide +kernel
theorem d_Host_doInstruction_301 : decode prog_1_method_31_code 301 = .ok (.goto 135, 3) := by decide +kernel
theorem d_Host_doInstruction_304 : decode prog_1_method_31_code 304 = .ok (.aload_n 1, 1) := by decide +kernel
theorem d_Host_doInstruction_305 : decode prog_1_method_31_code 305 = .ok (.getfield 205, 3) := by decide +kernel
theorem d_Host_doInstruction_308 : decode prog_1_method_31_code 308 = .ok (.invokestatic 241, 3) := by decide +kernel
theorem d_Host_doInstruction_311 : decode prog_1_method_31_code 311 = .ok (.goto 125, 3) := by decide +kernel
theorem d_Host_doInstruction_314 : decode prog_1_method_31_code 314 = .ok (.aload_n 1, 1) := by decide +kernel
theorem d_Host_doInstruction_315 : decode prog_1_method_31_code 315 = .ok (.getfield 205, 3) := by decide +kernel
theorem d_Host_doInstruction_318 : decode prog_1_method_31_code 318 = .ok (.iconst 0, 1) := by decide +kernel
theorem d_Host_doInstruction_319 : decode prog_1_method_31_code 319 = .ok (.invokevirtual 245, 3) := by decide +kernel
theorem d_Host_doInstruction_322 : decode prog_1_method_31_code 322 = .ok (.goto 114, 3) := by decide +kernel
theorem d_Host_doInstruction_325 : decode prog_1_method_31_code 325 = .ok (.aload_n 1, 1) := by decide +kernel
theorem d_Host_doInstruction_326 : decode prog_1_method_31_code 326 = .ok (.getfield 205, 3) := by decide +kernel
theorem d_Host_doInstruction_329 : decode prog_1_method_31_code 329 = .ok (.iload_n 3, 1) := by decide +kernel
theorem d_Host_doInstruction_330 : decode prog_1_method_31_code 330 = .ok (.aload_n 0, 1) := by decide +kernel
theorem d_Host_doInstruction_331 : decode prog_1_method_31_code 331 = .ok (.getfield 21, 3) := by decide +kernel
theorem d_Host_doInstruction_334 : decode prog_1_method_31_code 334 = .ok (.if_icmp .ge 10, 3) := by decide +kernel
theorem d_Host_doInstruction_337 : decode prog_1_method_31_code 337 = .ok (.iload_n 3, 1) := by decide +kernel
theorem d_Host_doInstruction_338 : decode prog_1_method_31_code 338 = .ok (.invokestatic 73, 3) := by decide +kernel
theorem d_Host_doInstruction_341 : decode prog_1_method_31_code 341 = .ok (.goto 4, 3) := by decide +kernel
theorem d_Host_doInstruction_344 : decode prog_1_method_31_code 344 = .ok (.iconst 0, 1) := by decide +kernel
theorem d_Host_doInstruction_345 : decode prog_1_method_31_code 345 = .ok (.invokevirtual 245, 3) := by decide +kernel
theorem d_Host_doInstruction_348 : decode prog_1_method_31_code 348 = .ok (.goto 88, 3) := by decide +kernel
theorem d_Host_doInstruction_351 : decode prog_1_method_31_code 351 = .ok (.aload_n 1, 1) := by decide +kernel
theorem d_Host_doInstruction_352 : decode prog_1_method_31_code 352 = .ok (.iload_n 3, 1) := by decide +kernel
theorem d_Host_doInstruction_353 : decode prog_1_method_31_code 353 = .ok (.putfield 196, 3) := by decide +kernel
theorem d_Host_doInstruction_356 : decode prog_1_method_31_code 356 = .ok (.goto 80, 3) := by decide +kernel
theorem d_Host_doInstruction_359 : decode prog_1_method_31_code 359 = .ok (.aload_n 1, 1) := by decide +kernel
theorem d_Host_doInstruction_360 : decode prog_1_method_31_code 360 = .ok (.iload_n 3, 1) := by decide +kernel
theorem d_Host_doInstruction_361 : decode prog_1_method_31_code 361 = .ok (.invokestatic 248, 3) := by decide +kernel
theorem d_Host_doInstruction_364 : decode prog_1_method_31_code 364 = .ok (.goto 72, 3) := by decide +kernel
theorem d_Host_doInstruction_367 : decode prog_1_method_31_code 367 = .ok (.aload_n 0, 1) := by decide +kernel
theorem d_Host_doInstruction_368 : decode prog_1_method_31_code 368 = .ok (.aload_n 1, 1) := by decide +kernel
theorem d_Host_doInstruction_369 : decode prog_1_method_31_code 369 = .ok (.invokevirtual 251, 3) := by decide +kernel
theorem d_Host_doInstruction_372 : decode prog_1_method_31_code 372 = .ok (.goto 64, 3) := by decide +kernel
theorem d_Host_doInstruction_375 : decode prog_1_method_31_code 375 = .ok (.aload_n 1, 1) := by decide +kernel
theorem d_Host_doInstruction_376 : decode prog_1_method_31_code 376 = .ok (.getfield 205, 3) := by decide +kernel
theorem d_Host_doInstruction_379 : decode prog_1_method_31_code 379 = .ok (.aload_n 1, 1) := by decide +kernel
theorem d_Host_doInstruction_380 : decode prog_1_method_31_code 380 = .ok (.getfield 106, 3) := by decide +kernel
theorem d_Host_doInstruction_383 : decode prog_1_method_31_code 383 = .ok (.invokevirtual 254, 3) := by decide +kernel
theorem d_Host_doInstruction_386 : decode prog_1_method_31_code 386 = .ok (.invokevirtual 209, 3) := by decide +kernel
theorem d_Host_doInstruction_389 : decode prog_1_method_31_code 389 = .ok (.goto 47, 3) := by decide +kernel
theorem d_Host_doInstruction_392 : decode prog_1_method_31_code 392 = .ok (.aload_n 0, 1) := by decide +kernel
theorem d_Host_doInstruction_393 : decode prog_1_method_31_code 393 = .ok (.aload_n 1, 1) := by decide +kernel
theorem d_Host_doInstruction_394 : decode prog_1_method_31_code 394 = .ok (.iload_n 3, 1) := by decide +kernel
theorem d_Host_doInstruction_395 : decode prog_1_method_31_code 395 = .ok (.invokevirtual 257, 3) := by decide +kernel
theorem d_Host_doInstruction_398 : decode prog_1_method_31_code 398 = .ok (.goto 38, 3) := by decide +kernel
theorem d_Host_doInstruction_401 : decode prog_1_method_31_code 401 = .ok (.aload_n 1, 1) := by decide +kernel
theorem d_Host_doInstruction_402 : decode prog_1_method_31_code 402 = .ok (.getfield 205, 3) := by decide +kernel
theorem d_Host_doInstruction_405 : decode prog_1_method_31_code 405 = .ok (.aload_n 1, 1) := by decide +kernel
theorem d_Host_doInstruction_406 : decode prog_1_method_31_code 406 = .ok (.getfield 148, 3) := by decide +kernel
theorem d_Host_doInstruction_409 : decode prog_1_method_31_code 409 = .ok (.invokevirtual 254, 3) := by decide +kernel
theorem d_Host_doInstruction_412 : decode prog_1_method_31_code 412 = .ok (.invokevirtual 245, 3) := by decide +kernel
theorem d_Host_doInstruction_415 : decode prog_1_method_31_code 415 = .ok (.goto 21, 3) := by decide +kernel
theorem d_Host_doInstruction_418 : decode prog_1_method_31_code 418 = .ok (.aload_n 0, 1) := by decide +kernel
theorem d_Host_doInstruction_419 : decode prog_1_method_31_code 419 = .ok (.aload_n 1, 1) := by decide +kernel
theorem d_Host_doInstruction_420 : decode prog_1_method_31_code 420 = .ok (.iload_n 3, 1) := by decide +kernel
theorem d_Host_doInstruction_421 : decode prog_1_method_31_code 421 = .ok (.invokevirtual 260, 3) := by decide +kernel
theorem d_Host_doInstruction_424 : decode prog_1_method_31_code 424 = .ok (.goto 12, 3) := by decide +kernel
theorem d_Host_doInstruction_427 : decode prog_1_method_31_code 427 = .ok (.aload_n 0, 1) := by decide +kernel
theorem d_Host_doInstruction_428 : decode prog_1_method_31_code 428 = .ok (.aload_n 1, 1) := by decide +kernel
theorem d_Host_doInstruction_429 : decode prog_1_method_31_code 429 = .ok (.iload_n 3, 1) := by decide +kernel
theorem d_Host_doInstruction_430 : decode prog_1_method_31_code 430 = .ok (.invokevirtual 263, 3) := by decide +kernel
theorem d_Host_doInstruction_433 : decode prog_1_method_31_code 433 = .ok (.goto 3, 3) := by decide +kernel
theorem d_Host_doInstruction_436 : decode prog_1_method_31_code 436 = .ok (.return_, 1) := by decide +kernel
theorem d_Host_mustWait_0 : decode prog_1_method_30_code 0 = .ok (.aload_n 1, 1) := by decide +kernel
theorem d_Host_mustWait_1 : decode prog_1_method_30_code 1 = .ok (.getfield 148, 3) := by decide +kernel
theorem d_Host_mustWait_4 : decode prog_1_method_30_code 4 = .ok (.getfield 151, 3) := by decide +kernel
theorem d_Host_mustWait_7 : decode prog_1_method_30_code 7 = .ok (.ifCond .ne 28, 3) := by decide +kernel
theorem d_Host_mustWait_10 : decode prog_1_method_30_code 10 = .ok (.aload_n 0, 1) := by decide +kernel
theorem d_Host_mustWait_11 : decode prog_1_method_30_code 11 = .ok (.getfield 11, 3) := by decide +kernel
theorem d_Host_mustWait_14 : decode prog_1_method_30_code 14 = .ok (.aload_n 1, 1) := by decide +kernel
theorem d_Host_mustWait_15 : decode prog_1_method_30_code 15 = .ok (.getfield 176, 3) := by decide +kernel
theorem d_Host_mustWait_18 : decode prog_1_method_30_code 18 = .ok (.aaload, 1) := by decide +kernel
theorem d_Host_mustWait_19 : decode prog_1_method_30_code 19 = .ok (.aload_n 1, 1) := by decide +kernel
theorem d_Host_mustWait_20 : decode prog_1_method_30_code 20 = .ok (.getfield 196, 3) := by decide +kernel
theorem d_Host_mustWait_23 : decode prog_1_method_30_code 23 = .ok (.invokevirtual 199, 3) := by decide +kernel
theorem d_Host_mustWait_26 : decode prog_1_method_30_code 26 = .ok (.bipush 22, 2) := by decide +kernel
theorem d_Host_mustWait_28 : decode prog_1_method_30_code 28 = .ok (.if_icmp .ne 7, 3) := by decide +kernel
theorem d_Host_mustWait_31 : decode prog_1_method_30_code 31 = .ok (.iconst 1, 1) := by decide +kernel
theorem d_Host_mustWait_32 : decode prog_1_method_30_code 32 = .ok (.goto 4, 3) := by decide +kernel
theorem d_Host_mustWait_35 : decode prog_1_method_30_code 35 = .ok (.iconst 0, 1) := by decide +kernel
theorem d_Host_mustWait_36 : decode prog_1_method_30_code 36 = .ok (.ireturn, 1) := by decide +kernel
theorem d_Host_doSlice_0 : decode prog_1_method_29_code 0 = .ok (.iconst 0, 1) := by decide +kernel
theorem d_Host_doSlice_1 : decode prog_1_method_29_code 1 = .ok (.istore_n 2, 1) := by decide +kernel
theorem d_Host_doSlice_2 : decode prog_1_method_29_code 2 = .ok (.iload_n 2, 1) := by decide +kernel
theorem d_Host_doSlice_3 : decode prog_1_method_29_code 3 = .ok (.aload_n 0, 1) := by decide +kernel
theorem d_Host_doSlice_4 : decode prog_1_method_29_code 4 = .ok (.getfield 37, 3) := by decide +kernel
theorem d_Host_doSlice_7 : decode prog_1_method_29_code 7 = .ok (.if_icmp .ge 57, 3) := by decide +kernel
theorem d_Host_doSlice_10 : decode prog_1_method_29_code 10 = .ok (.aload_n 1, 1) := by decide +kernel
theorem d_Host_doSlice_11 : decode prog_1_method_29_code 11 = .ok (.invokevirtual 182, 3) := by decide +kernel
theorem d_Host_doSlice_14 : decode prog_1_method_29_code 14 = .ok (.ifCond .eq 50, 3) := by decide +kernel
theorem d_Host_doSlice_17 : decode prog_1_method_29_code 17 = .ok (.aload_n 1, 1) := by decide +kernel
theorem d_Host_doSlice_18 : decode prog_1_method_29_code 18 = .ok (.getfield 125, 3) := by decide +kernel
theorem d_Host_doSlice_21 : decode prog_1_method_29_code 21 = .ok (.aload_n 1, 1) := by decide +kernel
theorem d_Host_doSlice_22 : decode prog_1_method_29_code 22 = .ok (.getfield 95, 3) := by decide +kernel
theorem d_Host_doSlice_25 : decode prog_1_method_29_code 25 = .ok (.if_icmp .lt 12, 3) := by decide +kernel
theorem d_Host_doSlice_28 : decode prog_1_method_29_code 28 = .ok (.aload_n 0, 1) := by decide +kernel
theorem d_Host_doSlice_29 : decode prog_1_method_29_code 29 = .ok (.aload_n 1, 1) := by decide +kernel
theorem d_Host_doSlice_30 : decode prog_1_method_29_code 30 = .ok (.iconst 5, 1) := by decide +kernel
theorem d_Host_doSlice_31 : decode prog_1_method_29_code 31 = .ok (.invokevirtual 185, 3) := by decide +kernel
theorem d_Host_doSlice_34 : decode prog_1_method_29_code 34 = .ok (.goto 24, 3) := by decide +kernel
theorem d_Host_doSlice_37 : decode prog_1_method_29_code 37 = .ok (.aload_n 0, 1) := by decide +kernel
theorem d_Host_doSlice_38 : decode prog_1_method_29_code 38 = .ok (.aload_n 1, 1) := by decide +kernel
theorem d_Host_doSlice_39 : decode prog_1_method_29_code 39 = .ok (.invokevirtual 189, 3) := by decide +kernel
theorem d_Host_doSlice_42 : decode prog_1_method_29_code 42 = .ok (.ifCond .eq 11, 3) := by decide +kernel
theorem d_Host_doSlice_45 : decode prog_1_method_29_code 45 = .ok (.aload_n 1, 1) := by decide +kernel
theorem d_Host_doSlice_46 : decode prog_1_method_29_code 46 = .ok (.iconst 2, 1) := by decide +kernel
theorem d_Host_doSlice_47 : decode prog_1_method_29_code 47 = .ok (.putfield 122, 3) := by decide +kernel
theorem d_Host_doSlice_50 : decode prog_1_method_29_code 50 = .ok (.goto 14, 3) := by decide +kernel
theorem d_Host_doSlice_53 : decode prog_1_method_29_code 53 = .ok (.aload_n 0, 1) := by decide +kernel
theorem d_Host_doSlice_54 : decode prog_1_method_29_code 54 = .ok (.aload_n 1, 1) := by decide +kernel
theorem d_Host_doSlice_55 : decode prog_1_method_29_code 55 = .ok (.invokevirtual 193, 3) := by decide +kernel
theorem d_Host_doSlice_58 : decode prog_1_method_29_code 58 = .ok (.iinc 2 1, 3) := by decide +kernel
theorem d_Host_doSlice_61 : decode prog_1_method_29_code 61 = .ok (.goto (-59), 3) := by decide +kernel
theorem d_Host_doSlice_64 : decode prog_1_method_29_code 64 = .ok (.return_, 1) := by decide +kernel
theorem d_JM_floorMod_0 : decode prog_11_method_50_code 0 = .ok (.iload_n 0, 1) := by decide +kernel
theorem d_JM_floorMod_1 : decode prog_11_method_50_code 1 = .ok (.iload_n 1, 1) := by decide +kernel
theorem d_JM_floorMod_2 : decode prog_11_method_50_code 2 = .ok (.irem, 1) := by decide +kernel
theorem d_JM_floorMod_3 : decode prog_11_method_50_code 3 = .ok (.istore_n 2, 1) := by decide +kernel
theorem d_JM_floorMod_4 : decode prog_11_method_50_code 4 = .ok (.iload_n 0, 1) := by decide +kernel
theorem d_JM_floorMod_5 : decode prog_11_method_50_code 5 = .ok (.iload_n 1, 1) := by decide +kernel
theorem d_JM_floorMod_6 : decode prog_11_method_50_code 6 = .ok (.ixor, 1) := by decide +kernel
theorem d_JM_floorMod_7 : decode prog_11_method_50_code 7 = .ok (.ifCond .ge 11, 3) := by decide +kernel
theorem d_JM_floorMod_10 : decode prog_11_method_50_code 10 = .ok (.iload_n 2, 1) := by decide +kernel
theorem d_JM_floorMod_11 : decode prog_11_method_50_code 11 = .ok (.ifCond .eq 7, 3) := by decide +kernel
theorem d_JM_floorMod_14 : decode prog_11_method_50_code 14 = .ok (.iload_n 2, 1) := by decide +kernel
theorem d_JM_floorMod_15 : decode prog_11_method_50_code 15 = .ok (.iload_n 1, 1) := by decide +kernel
theorem d_JM_floorMod_16 : decode prog_11_method_50_code 16 = .ok (.iadd, 1) := by decide +kernel
theorem d_JM_floorMod_17 : decode prog_11_method_50_code 17 = .ok (.ireturn, 1) := by decide +kernel
theorem d_JM_floorMod_18 : decode prog_11_method_50_code 18 = .ok (.iload_n 2, 1) := by decide +kernel
theorem d_JM_floorMod_19 : decode prog_11_method_50_code 19 = .ok (.ireturn, 1) := by decide +kernel
theorem d_Host_run_0 : decode prog_1_method_11_code 0 = .ok (.iload_n 1, 1) := by decide +kernel
theorem d_Host_run_1 : decode prog_1_method_11_code 1 = .ok (.ifCond .lt 50, 3) := by decide +kernel
theorem d_Host_run_4 : decode prog_1_method_11_code 4 = .ok (.iload_n 1, 1) := by decide +kernel
theorem d_Host_run_5 : decode prog_1_method_11_code 5 = .ok (.sipush 200, 3) := by decide +kernel
theorem d_Host_run_8 : decode prog_1_method_11_code 8 = .ok (.if_icmp .gt 43, 3) := by decide +kernel
theorem d_Host_run_11 : decode prog_1_method_11_code 11 = .ok (.iconst 0, 1) := by decide +kernel
theorem d_Host_run_12 : decode prog_1_method_11_code 12 = .ok (.istore_n 2, 1) := by decide +kernel
theorem d_Host_run_13 : decode prog_1_method_11_code 13 = .ok (.iload_n 2, 1) := by decide +kernel
theorem d_Host_run_14 : decode prog_1_method_11_code 14 = .ok (.iload_n 1, 1) := by decide +kernel
theorem d_Host_run_15 : decode prog_1_method_11_code 15 = .ok (.if_icmp .ge 36, 3) := by decide +kernel
theorem d_Host_run_18 : decode prog_1_method_11_code 18 = .ok (.aload_n 0, 1) := by decide +kernel
theorem d_Host_run_19 : decode prog_1_method_11_code 19 = .ok (.aload_n 0, 1) := by decide +kernel
theorem d_Host_run_20 : decode prog_1_method_11_code 20 = .ok (.getfield 17, 3) := by decide +kernel
theorem d_Host_run_23 : decode prog_1_method_11_code 23 = .ok (.aload_n 0, 1) := by decide +kernel
theorem d_Host_run_24 : decode prog_1_method_11_code 24 = .ok (.getfield 25, 3) := by decide +kernel
theorem d_Host_run_27 : decode prog_1_method_11_code 27 = .ok (.iconst 4, 1) := by decide +kernel
theorem d_Host_run_28 : decode prog_1_method_11_code 28 = .ok (.invokestatic 115, 3) := by decide +kernel
theorem d_Host_run_31 : decode prog_1_method_11_code 31 = .ok (.aaload, 1) := by decide +kernel
theorem d_Host_run_32 : decode prog_1_method_11_code 32 = .ok (.invokevirtual 118, 3) := by decide +kernel
theorem d_Host_run_35 : decode prog_1_method_11_code 35 = .ok (.aload_n 0, 1) := by decide +kernel
theorem d_Host_run_36 : decode prog_1_method_11_code 36 = .ok (.dup, 1) := by decide +kernel
theorem d_Host_run_37 : decode prog_1_method_11_code 37 = .ok (.getfield 25, 3) := by decide +kernel
theorem d_Host_run_40 : decode prog_1_method_11_code 40 = .ok (.iconst 1, 1) := by decide +kernel
theorem d_Host_run_41 : decode prog_1_method_11_code 41 = .ok (.iadd, 1) := by decide +kernel
theorem d_Host_run_42 : decode prog_1_method_11_code 42 = .ok (.putfield 25, 3) := by decide +kernel
theorem d_Host_run_45 : decode prog_1_method_11_code 45 = .ok (.iinc 2 1, 3) := by decide +kernel
theorem d_Host_run_48 : decode prog_1_method_11_code 48 = .ok (.goto (-35), 3) := by decide +kernel
theorem d_Host_run_51 : decode prog_1_method_11_code 51 = .ok (.aload_n 0, 1) := by decide +kernel
theorem d_Host_run_52 : decode prog_1_method_11_code 52 = .ok (.getfield 25, 3) := by decide +kernel
theorem d_Host_run_55 : decode prog_1_method_11_code 55 = .ok (.ireturn, 1) := by decide +kernel
theorem d_Host_state_0 : decode prog_1_method_12_code 0 = .ok (.iload_n 1, 1) := by decide +kernel
theorem d_Host_state_1 : decode prog_1_method_12_code 1 = .ok (.invokestatic 82, 3) := by decide +kernel
theorem d_Host_state_4 : decode prog_1_method_12_code 4 = .ok (.ifCond .eq 15, 3) := by decide +kernel
theorem d_Host_state_7 : decode prog_1_method_12_code 7 = .ok (.aload_n 0, 1) := by decide +kernel
theorem d_Host_state_8 : decode prog_1_method_12_code 8 = .ok (.getfield 17, 3) := by decide +kernel
theorem d_Host_state_11 : decode prog_1_method_12_code 11 = .ok (.iload_n 1, 1) := by decide +kernel
theorem d_Host_state_12 : decode prog_1_method_12_code 12 = .ok (.aaload, 1) := by decide +kernel
theorem d_Host_state_13 : decode prog_1_method_12_code 13 = .ok (.getfield 122, 3) := by decide +kernel
theorem d_Host_state_16 : decode prog_1_method_12_code 16 = .ok (.goto 4, 3) := by decide +kernel
theorem d_Host_state_19 : decode prog_1_method_12_code 19 = .ok (.iconst (-1), 1) := by decide +kernel
theorem d_Host_state_20 : decode prog_1_method_12_code 20 = .ok (.ireturn, 1) := by decide +kernel
theorem d_Host_steps_0 : decode prog_1_method_13_code 0 = .ok (.iload_n 1, 1) := by decide +kernel
theorem d_Host_steps_1 : decode prog_1_method_13_code 1 = .ok (.invokestatic 82, 3) := by decide +kernel
theorem d_Host_steps_4 : decode prog_1_method_13_code 4 = .ok (.ifCond .eq 15, 3) := by decide +kernel
theorem d_Host_steps_7 : decode prog_1_method_13_code 7 = .ok (.aload_n 0, 1) := by decide +kernel
theorem d_Host_steps_8 : decode prog_1_method_13_code 8 = .ok (.getfield 17, 3) := by decide +kernel
theorem d_Host_steps_11 : decode prog_1_method_13_code 11 = .ok (.iload_n 1, 1) := by decide +kernel
theorem d_Host_steps_12 : decode prog_1_method_13_code 12 = .ok (.aaload, 1) := by decide +kernel
theorem d_Host_steps_13 : decode prog_1_method_13_code 13 = .ok (.getfield 125, 3) := by decide +kernel
theorem d_Host_steps_16 : decode prog_1_method_13_code 16 = .ok (.goto 4, 3) := by decide +kernel
theorem d_Host_steps_19 : decode prog_1_method_13_code 19 = .ok (.iconst (-1), 1) := by decide +kernel
theorem d_Host_steps_20 : decode prog_1_method_13_code 20 = .ok (.ireturn, 1) := by decide +kernel
theorem d_Host_used_0 : decode prog_1_method_14_code 0 = .ok (.iload_n 1, 1) := by decide +kernel
theorem d_Host_used_1 : decode prog_1_method_14_code 1 = .ok (.invokestatic 82, 3) := by decide +kernel
theorem d_Host_used_4 : decode prog_1_method_14_code 4 = .ok (.ifCond .eq 21, 3) := by decide +kernel
theorem d_Host_used_7 : decode prog_1_method_14_code 7 = .ok (.aload_n 0, 1) := by decide +kernel
theorem d_Host_used_8 : decode prog_1_method_14_code 8 = .ok (.getfield 17, 3) := by decide +kernel
theorem d_Host_used_11 : decode prog_1_method_14_code 11 = .ok (.iload_n 1, 1) := by decide +kernel
theorem d_Host_used_12 : decode prog_1_method_14_code 12 = .ok (.aaload, 1) := by decide +kernel
theorem d_Host_used_13 : decode prog_1_method_14_code 13 = .ok (.getfield 69, 3) := by decide +kernel
theorem d_Host_used_16 : decode prog_1_method_14_code 16 = .ok (.getfield 128, 3) := by decide +kernel
theorem d_Host_used_19 : decode prog_1_method_14_code 19 = .ok (.invokestatic 132, 3) := by decide +kernel
theorem d_Host_used_22 : decode prog_1_method_14_code 22 = .ok (.goto 4, 3) := by decide +kernel
theorem d_Host_used_25 : decode prog_1_method_14_code 25 = .ok (.iconst (-1), 1) := by decide +kernel
theorem d_Host_used_26 : decode prog_1_method_14_code 26 = .ok (.ireturn, 1) := by decide +kernel
theorem d_Host_live_0 : decode prog_1_method_15_code 0 = .ok (.iload_n 1, 1) := by decide +kernel
