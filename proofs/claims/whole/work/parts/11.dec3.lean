theorem d_Mod_end_42 : decode prog_9_method_30_code 42 = .ok (.iconst 4, 1) := by decide +kernel
theorem d_Mod_end_43 : decode prog_9_method_30_code 43 = .ok (.iload_n 1, 1) := by decide +kernel
theorem d_Mod_end_44 : decode prog_9_method_30_code 44 = .ok (.imul, 1) := by decide +kernel
theorem d_Mod_end_45 : decode prog_9_method_30_code 45 = .ok (.iload_n 3, 1) := by decide +kernel
theorem d_Mod_end_46 : decode prog_9_method_30_code 46 = .ok (.iadd, 1) := by decide +kernel
theorem d_Mod_end_47 : decode prog_9_method_30_code 47 = .ok (.iload_n 3, 1) := by decide +kernel
theorem d_Mod_end_48 : decode prog_9_method_30_code 48 = .ok (.iconst 2, 1) := by decide +kernel
theorem d_Mod_end_49 : decode prog_9_method_30_code 49 = .ok (.if_icmp .ge 7, 3) := by decide +kernel
theorem d_Mod_end_52 : decode prog_9_method_30_code 52 = .ok (.iconst 0, 1) := by decide +kernel
theorem d_Mod_end_53 : decode prog_9_method_30_code 53 = .ok (.goto 4, 3) := by decide +kernel
theorem d_Mod_end_56 : decode prog_9_method_30_code 56 = .ok (.iconst (-1), 1) := by decide +kernel
theorem d_Mod_end_57 : decode prog_9_method_30_code 57 = .ok (.iastore, 1) := by decide +kernel
theorem d_Mod_end_58 : decode prog_9_method_30_code 58 = .ok (.iinc 3 1, 3) := by decide +kernel
theorem d_Mod_end_61 : decode prog_9_method_30_code 61 = .ok (.goto (-28), 3) := by decide +kernel
theorem d_Mod_end_64 : decode prog_9_method_30_code 64 = .ok (.bipush 24, 2) := by decide +kernel
theorem d_Mod_end_66 : decode prog_9_method_30_code 66 = .ok (.iload_n 1, 1) := by decide +kernel
theorem d_Mod_end_67 : decode prog_9_method_30_code 67 = .ok (.imul, 1) := by decide +kernel
theorem d_Mod_end_68 : decode prog_9_method_30_code 68 = .ok (.istore_n 3, 1) := by decide +kernel
theorem d_Mod_end_69 : decode prog_9_method_30_code 69 = .ok (.iload_n 3, 1) := by decide +kernel
theorem d_Mod_end_70 : decode prog_9_method_30_code 70 = .ok (.bipush 24, 2) := by decide +kernel
theorem d_Mod_end_72 : decode prog_9_method_30_code 72 = .ok (.iload_n 1, 1) := by decide +kernel
theorem d_Mod_end_73 : decode prog_9_method_30_code 73 = .ok (.imul, 1) := by decide +kernel
theorem d_Mod_end_74 : decode prog_9_method_30_code 74 = .ok (.bipush 24, 2) := by decide +kernel
theorem d_Mod_end_76 : decode prog_9_method_30_code 76 = .ok (.iadd, 1) := by decide +kernel
theorem d_Mod_end_77 : decode prog_9_method_30_code 77 = .ok (.if_icmp .ge 16, 3) := by decide +kernel
theorem d_Mod_end_80 : decode prog_9_method_30_code 80 = .ok (.aload_n 0, 1) := by decide +kernel
theorem d_Mod_end_81 : decode prog_9_method_30_code 81 = .ok (.getfield 26, 3) := by decide +kernel
theorem d_Mod_end_84 : decode prog_9_method_30_code 84 = .ok (.iload_n 3, 1) := by decide +kernel
theorem d_Mod_end_85 : decode prog_9_method_30_code 85 = .ok (.iconst 0, 1) := by decide +kernel
theorem d_Mod_end_86 : decode prog_9_method_30_code 86 = .ok (.bastore, 1) := by decide +kernel
theorem d_Mod_end_87 : decode prog_9_method_30_code 87 = .ok (.iinc 3 1, 3) := by decide +kernel
theorem d_Mod_end_90 : decode prog_9_method_30_code 90 = .ok (.goto (-21), 3) := by decide +kernel
theorem d_Mod_end_93 : decode prog_9_method_30_code 93 = .ok (.return_, 1) := by decide +kernel
theorem d_Mod_become_0 : decode prog_9_method_32_code 0 = .ok (.aload_n 0, 1) := by decide +kernel
theorem d_Mod_become_1 : decode prog_9_method_32_code 1 = .ok (.getfield 71, 3) := by decide +kernel
theorem d_Mod_become_4 : decode prog_9_method_32_code 4 = .ok (.iload_n 1, 1) := by decide +kernel
theorem d_Mod_become_5 : decode prog_9_method_32_code 5 = .ok (.dup2, 1) := by decide +kernel
theorem d_Mod_become_6 : decode prog_9_method_32_code 6 = .ok (.iaload, 1) := by decide +kernel
theorem d_Mod_become_7 : decode prog_9_method_32_code 7 = .ok (.iload_n 2, 1) := by decide +kernel
theorem d_Mod_become_8 : decode prog_9_method_32_code 8 = .ok (.isub, 1) := by decide +kernel
theorem d_Mod_become_9 : decode prog_9_method_32_code 9 = .ok (.iastore, 1) := by decide +kernel
theorem d_Mod_become_10 : decode prog_9_method_32_code 10 = .ok (.aload_n 0, 1) := by decide +kernel
theorem d_Mod_become_11 : decode prog_9_method_32_code 11 = .ok (.getfield 74, 3) := by decide +kernel
theorem d_Mod_become_14 : decode prog_9_method_32_code 14 = .ok (.bipush 6, 2) := by decide +kernel
theorem d_Mod_become_16 : decode prog_9_method_32_code 16 = .ok (.iload_n 1, 1) := by decide +kernel
theorem d_Mod_become_17 : decode prog_9_method_32_code 17 = .ok (.imul, 1) := by decide +kernel
theorem d_Mod_become_18 : decode prog_9_method_32_code 18 = .ok (.aload_n 0, 1) := by decide +kernel
theorem d_Mod_become_19 : decode prog_9_method_32_code 19 = .ok (.getfield 71, 3) := by decide +kernel
theorem d_Mod_become_22 : decode prog_9_method_32_code 22 = .ok (.iload_n 1, 1) := by decide +kernel
theorem d_Mod_become_23 : decode prog_9_method_32_code 23 = .ok (.iaload, 1) := by decide +kernel
theorem d_Mod_become_24 : decode prog_9_method_32_code 24 = .ok (.iadd, 1) := by decide +kernel
theorem d_Mod_become_25 : decode prog_9_method_32_code 25 = .ok (.iload_n 3, 1) := by decide +kernel
theorem d_Mod_become_26 : decode prog_9_method_32_code 26 = .ok (.iastore, 1) := by decide +kernel
theorem d_Mod_become_27 : decode prog_9_method_32_code 27 = .ok (.aload_n 0, 1) := by decide +kernel
theorem d_Mod_become_28 : decode prog_9_method_32_code 28 = .ok (.getfield 71, 3) := by decide +kernel
theorem d_Mod_become_31 : decode prog_9_method_32_code 31 = .ok (.iload_n 1, 1) := by decide +kernel
theorem d_Mod_become_32 : decode prog_9_method_32_code 32 = .ok (.dup2, 1) := by decide +kernel
theorem d_Mod_become_33 : decode prog_9_method_32_code 33 = .ok (.iaload, 1) := by decide +kernel
theorem d_Mod_become_34 : decode prog_9_method_32_code 34 = .ok (.iconst 1, 1) := by decide +kernel
theorem d_Mod_become_35 : decode prog_9_method_32_code 35 = .ok (.iadd, 1) := by decide +kernel
theorem d_Mod_become_36 : decode prog_9_method_32_code 36 = .ok (.iastore, 1) := by decide +kernel
theorem d_Mod_become_37 : decode prog_9_method_32_code 37 = .ok (.return_, 1) := by decide +kernel
theorem d_Mod_make_0 : decode prog_9_method_21_code 0 = .ok (.bipush 24, 2) := by decide +kernel
theorem d_Mod_make_2 : decode prog_9_method_21_code 2 = .ok (.iload_n 1, 1) := by decide +kernel
theorem d_Mod_make_3 : decode prog_9_method_21_code 3 = .ok (.imul, 1) := by decide +kernel
theorem d_Mod_make_4 : decode prog_9_method_21_code 4 = .ok (.istore_n 3, 1) := by decide +kernel
theorem d_Mod_make_5 : decode prog_9_method_21_code 5 = .ok (.iload_n 3, 1) := by decide +kernel
theorem d_Mod_make_6 : decode prog_9_method_21_code 6 = .ok (.bipush 24, 2) := by decide +kernel
theorem d_Mod_make_8 : decode prog_9_method_21_code 8 = .ok (.iload_n 1, 1) := by decide +kernel
theorem d_Mod_make_9 : decode prog_9_method_21_code 9 = .ok (.imul, 1) := by decide +kernel
theorem d_Mod_make_10 : decode prog_9_method_21_code 10 = .ok (.bipush 23, 2) := by decide +kernel
theorem d_Mod_make_12 : decode prog_9_method_21_code 12 = .ok (.iadd, 1) := by decide +kernel
theorem d_Mod_make_13 : decode prog_9_method_21_code 13 = .ok (.if_icmp .ge 18, 3) := by decide +kernel
theorem d_Mod_make_16 : decode prog_9_method_21_code 16 = .ok (.aload_n 0, 1) := by decide +kernel
theorem d_Mod_make_17 : decode prog_9_method_21_code 17 = .ok (.getfield 26, 3) := by decide +kernel
theorem d_Mod_make_20 : decode prog_9_method_21_code 20 = .ok (.iload_n 3, 1) := by decide +kernel
theorem d_Mod_make_21 : decode prog_9_method_21_code 21 = .ok (.baload, 1) := by decide +kernel
theorem d_Mod_make_22 : decode prog_9_method_21_code 22 = .ok (.ifCond .eq 9, 3) := by decide +kernel
theorem d_Mod_make_25 : decode prog_9_method_21_code 25 = .ok (.iinc 3 1, 3) := by decide +kernel
theorem d_Mod_make_28 : decode prog_9_method_21_code 28 = .ok (.goto (-23), 3) := by decide +kernel
theorem d_Mod_make_31 : decode prog_9_method_21_code 31 = .ok (.aload_n 0, 1) := by decide +kernel
theorem d_Mod_make_32 : decode prog_9_method_21_code 32 = .ok (.getfield 26, 3) := by decide +kernel
theorem d_Mod_make_35 : decode prog_9_method_21_code 35 = .ok (.iload_n 3, 1) := by decide +kernel
theorem d_Mod_make_36 : decode prog_9_method_21_code 36 = .ok (.iconst 1, 1) := by decide +kernel
theorem d_Mod_make_37 : decode prog_9_method_21_code 37 = .ok (.bastore, 1) := by decide +kernel
theorem d_Mod_make_38 : decode prog_9_method_21_code 38 = .ok (.aload_n 0, 1) := by decide +kernel
theorem d_Mod_make_39 : decode prog_9_method_21_code 39 = .ok (.getfield 29, 3) := by decide +kernel
theorem d_Mod_make_42 : decode prog_9_method_21_code 42 = .ok (.iload_n 3, 1) := by decide +kernel
theorem d_Mod_make_43 : decode prog_9_method_21_code 43 = .ok (.iload_n 2, 1) := by decide +kernel
theorem d_Mod_make_44 : decode prog_9_method_21_code 44 = .ok (.iastore, 1) := by decide +kernel
theorem d_Mod_make_45 : decode prog_9_method_21_code 45 = .ok (.aload_n 0, 1) := by decide +kernel
theorem d_Mod_make_46 : decode prog_9_method_21_code 46 = .ok (.getfield 32, 3) := by decide +kernel
theorem d_Mod_make_49 : decode prog_9_method_21_code 49 = .ok (.iload_n 3, 1) := by decide +kernel
theorem d_Mod_make_50 : decode prog_9_method_21_code 50 = .ok (.iconst (-1), 1) := by decide +kernel
theorem d_Mod_make_51 : decode prog_9_method_21_code 51 = .ok (.iastore, 1) := by decide +kernel
theorem d_Mod_make_52 : decode prog_9_method_21_code 52 = .ok (.aload_n 0, 1) := by decide +kernel
theorem d_Mod_make_53 : decode prog_9_method_21_code 53 = .ok (.getfield 35, 3) := by decide +kernel
theorem d_Mod_make_56 : decode prog_9_method_21_code 56 = .ok (.iload_n 3, 1) := by decide +kernel
theorem d_Mod_make_57 : decode prog_9_method_21_code 57 = .ok (.iconst (-1), 1) := by decide +kernel
theorem d_Mod_make_58 : decode prog_9_method_21_code 58 = .ok (.iastore, 1) := by decide +kernel
theorem d_Mod_make_59 : decode prog_9_method_21_code 59 = .ok (.iload_n 3, 1) := by decide +kernel
theorem d_Mod_make_60 : decode prog_9_method_21_code 60 = .ok (.ireturn, 1) := by decide +kernel
theorem d_Mod_counted_0 : decode prog_9_method_19_code 0 = .ok (.iconst 0, 1) := by decide +kernel
theorem d_Mod_counted_1 : decode prog_9_method_19_code 1 = .ok (.istore_n 3, 1) := by decide +kernel
theorem d_Mod_counted_2 : decode prog_9_method_19_code 2 = .ok (.bipush 24, 2) := by decide +kernel
theorem d_Mod_counted_4 : decode prog_9_method_19_code 4 = .ok (.iload_n 1, 1) := by decide +kernel
theorem d_Mod_counted_5 : decode prog_9_method_19_code 5 = .ok (.imul, 1) := by decide +kernel
theorem d_Mod_counted_6 : decode prog_9_method_19_code 6 = .ok (.istore 4, 2) := by decide +kernel
theorem d_Mod_counted_8 : decode prog_9_method_19_code 8 = .ok (.iload 4, 2) := by decide +kernel
theorem d_Mod_counted_10 : decode prog_9_method_19_code 10 = .ok (.bipush 24, 2) := by decide +kernel
theorem d_Mod_counted_12 : decode prog_9_method_19_code 12 = .ok (.iload_n 1, 1) := by decide +kernel
theorem d_Mod_counted_13 : decode prog_9_method_19_code 13 = .ok (.imul, 1) := by decide +kernel
theorem d_Mod_counted_14 : decode prog_9_method_19_code 14 = .ok (.bipush 24, 2) := by decide +kernel
theorem d_Mod_counted_16 : decode prog_9_method_19_code 16 = .ok (.iadd, 1) := by decide +kernel
theorem d_Mod_counted_17 : decode prog_9_method_19_code 17 = .ok (.if_icmp .ge 41, 3) := by decide +kernel
theorem d_Mod_counted_20 : decode prog_9_method_19_code 20 = .ok (.iload_n 3, 1) := by decide +kernel
theorem d_Mod_counted_21 : decode prog_9_method_19_code 21 = .ok (.aload_n 0, 1) := by decide +kernel
theorem d_Mod_counted_22 : decode prog_9_method_19_code 22 = .ok (.getfield 26, 3) := by decide +kernel
theorem d_Mod_counted_25 : decode prog_9_method_19_code 25 = .ok (.iload 4, 2) := by decide +kernel
theorem d_Mod_counted_27 : decode prog_9_method_19_code 27 = .ok (.baload, 1) := by decide +kernel
theorem d_Mod_counted_28 : decode prog_9_method_19_code 28 = .ok (.ifCond .eq 21, 3) := by decide +kernel
theorem d_Mod_counted_31 : decode prog_9_method_19_code 31 = .ok (.aload_n 0, 1) := by decide +kernel
theorem d_Mod_counted_32 : decode prog_9_method_19_code 32 = .ok (.getfield 38, 3) := by decide +kernel
theorem d_Mod_counted_35 : decode prog_9_method_19_code 35 = .ok (.iload 4, 2) := by decide +kernel
theorem d_Mod_counted_37 : decode prog_9_method_19_code 37 = .ok (.baload, 1) := by decide +kernel
theorem d_Mod_counted_38 : decode prog_9_method_19_code 38 = .ok (.ifCond .ne 7, 3) := by decide +kernel
theorem d_Mod_counted_41 : decode prog_9_method_19_code 41 = .ok (.iload_n 2, 1) := by decide +kernel
theorem d_Mod_counted_42 : decode prog_9_method_19_code 42 = .ok (.ifCond .ne 7, 3) := by decide +kernel
theorem d_Mod_counted_45 : decode prog_9_method_19_code 45 = .ok (.iconst 1, 1) := by decide +kernel
theorem d_Mod_counted_46 : decode prog_9_method_19_code 46 = .ok (.goto 4, 3) := by decide +kernel
theorem d_Mod_counted_49 : decode prog_9_method_19_code 49 = .ok (.iconst 0, 1) := by decide +kernel
theorem d_Mod_counted_50 : decode prog_9_method_19_code 50 = .ok (.iadd, 1) := by decide +kernel
theorem d_Mod_counted_51 : decode prog_9_method_19_code 51 = .ok (.istore_n 3, 1) := by decide +kernel
theorem d_Mod_counted_52 : decode prog_9_method_19_code 52 = .ok (.iinc 4 1, 3) := by decide +kernel
theorem d_Mod_counted_55 : decode prog_9_method_19_code 55 = .ok (.goto (-47), 3) := by decide +kernel
theorem d_Mod_counted_58 : decode prog_9_method_19_code 58 = .ok (.iload_n 3, 1) := by decide +kernel
theorem d_Mod_counted_59 : decode prog_9_method_19_code 59 = .ok (.ireturn, 1) := by decide +kernel
theorem d_Mod_markRoot_0 : decode prog_9_method_16_code 0 = .ok (.iload_n 1, 1) := by decide +kernel
theorem d_Mod_markRoot_1 : decode prog_9_method_16_code 1 = .ok (.ifCond .lt 10, 3) := by decide +kernel
theorem d_Mod_markRoot_4 : decode prog_9_method_16_code 4 = .ok (.aload_n 0, 1) := by decide +kernel
theorem d_Mod_markRoot_5 : decode prog_9_method_16_code 5 = .ok (.getfield 38, 3) := by decide +kernel
theorem d_Mod_markRoot_8 : decode prog_9_method_16_code 8 = .ok (.iload_n 1, 1) := by decide +kernel
theorem d_Mod_markRoot_9 : decode prog_9_method_16_code 9 = .ok (.iconst 1, 1) := by decide +kernel
theorem d_Mod_markRoot_10 : decode prog_9_method_16_code 10 = .ok (.bastore, 1) := by decide +kernel
theorem d_Mod_markRoot_11 : decode prog_9_method_16_code 11 = .ok (.return_, 1) := by decide +kernel
theorem d_Mod_markAll_0 : decode prog_9_method_17_code 0 = .ok (.iconst 1, 1) := by decide +kernel
theorem d_Mod_markAll_1 : decode prog_9_method_17_code 1 = .ok (.istore_n 1, 1) := by decide +kernel
theorem d_Mod_markAll_2 : decode prog_9_method_17_code 2 = .ok (.iconst 0, 1) := by decide +kernel
theorem d_Mod_markAll_3 : decode prog_9_method_17_code 3 = .ok (.istore_n 2, 1) := by decide +kernel
theorem d_Mod_markAll_4 : decode prog_9_method_17_code 4 = .ok (.iload_n 2, 1) := by decide +kernel
theorem d_Mod_markAll_5 : decode prog_9_method_17_code 5 = .ok (.bipush 105, 2) := by decide +kernel
theorem d_Mod_markAll_7 : decode prog_9_method_17_code 7 = .ok (.if_icmp .ge 123, 3) := by decide +kernel
theorem d_Mod_markAll_10 : decode prog_9_method_17_code 10 = .ok (.iload_n 1, 1) := by decide +kernel
theorem d_Mod_markAll_11 : decode prog_9_method_17_code 11 = .ok (.ifCond .eq 119, 3) := by decide +kernel
theorem d_Mod_markAll_14 : decode prog_9_method_17_code 14 = .ok (.iconst 0, 1) := by decide +kernel
theorem d_Mod_markAll_15 : decode prog_9_method_17_code 15 = .ok (.istore_n 1, 1) := by decide +kernel
theorem d_Mod_markAll_16 : decode prog_9_method_17_code 16 = .ok (.iconst 0, 1) := by decide +kernel
theorem d_Mod_markAll_17 : decode prog_9_method_17_code 17 = .ok (.istore_n 3, 1) := by decide +kernel
theorem d_Mod_markAll_18 : decode prog_9_method_17_code 18 = .ok (.iload_n 3, 1) := by decide +kernel
theorem d_Mod_markAll_19 : decode prog_9_method_17_code 19 = .ok (.bipush 104, 2) := by decide +kernel
theorem d_Mod_markAll_21 : decode prog_9_method_17_code 21 = .ok (.if_icmp .ge 103, 3) := by decide +kernel
theorem d_Mod_markAll_24 : decode prog_9_method_17_code 24 = .ok (.aload_n 0, 1) := by decide +kernel
theorem d_Mod_markAll_25 : decode prog_9_method_17_code 25 = .ok (.getfield 38, 3) := by decide +kernel
theorem d_Mod_markAll_28 : decode prog_9_method_17_code 28 = .ok (.iload_n 3, 1) := by decide +kernel
theorem d_Mod_markAll_29 : decode prog_9_method_17_code 29 = .ok (.baload, 1) := by decide +kernel
theorem d_Mod_markAll_30 : decode prog_9_method_17_code 30 = .ok (.ifCond .eq 12, 3) := by decide +kernel
theorem d_Mod_markAll_33 : decode prog_9_method_17_code 33 = .ok (.aload_n 0, 1) := by decide +kernel
theorem d_Mod_markAll_34 : decode prog_9_method_17_code 34 = .ok (.getfield 32, 3) := by decide +kernel
theorem d_Mod_markAll_37 : decode prog_9_method_17_code 37 = .ok (.iload_n 3, 1) := by decide +kernel
theorem d_Mod_markAll_38 : decode prog_9_method_17_code 38 = .ok (.iaload, 1) := by decide +kernel
theorem d_Mod_markAll_39 : decode prog_9_method_17_code 39 = .ok (.goto 4, 3) := by decide +kernel
theorem d_Mod_markAll_42 : decode prog_9_method_17_code 42 = .ok (.iconst (-1), 1) := by decide +kernel
theorem d_Mod_markAll_43 : decode prog_9_method_17_code 43 = .ok (.istore 4, 2) := by decide +kernel
theorem d_Mod_markAll_45 : decode prog_9_method_17_code 45 = .ok (.aload_n 0, 1) := by decide +kernel
theorem d_Mod_markAll_46 : decode prog_9_method_17_code 46 = .ok (.getfield 38, 3) := by decide +kernel
theorem d_Mod_markAll_49 : decode prog_9_method_17_code 49 = .ok (.iload_n 3, 1) := by decide +kernel
theorem d_Mod_markAll_50 : decode prog_9_method_17_code 50 = .ok (.baload, 1) := by decide +kernel
theorem d_Mod_markAll_51 : decode prog_9_method_17_code 51 = .ok (.ifCond .eq 12, 3) := by decide +kernel
theorem d_Mod_markAll_54 : decode prog_9_method_17_code 54 = .ok (.aload_n 0, 1) := by decide +kernel
theorem d_Mod_markAll_55 : decode prog_9_method_17_code 55 = .ok (.getfield 35, 3) := by decide +kernel
theorem d_Mod_markAll_58 : decode prog_9_method_17_code 58 = .ok (.iload_n 3, 1) := by decide +kernel
theorem d_Mod_markAll_59 : decode prog_9_method_17_code 59 = .ok (.iaload, 1) := by decide +kernel
theorem d_Mod_markAll_60 : decode prog_9_method_17_code 60 = .ok (.goto 4, 3) := by decide +kernel
theorem d_Mod_markAll_63 : decode prog_9_method_17_code 63 = .ok (.iconst (-1), 1) := by decide +kernel
theorem d_Mod_markAll_64 : decode prog_9_method_17_code 64 = .ok (.istore 5, 2) := by decide +kernel
theorem d_Mod_markAll_66 : decode prog_9_method_17_code 66 = .ok (.iload_n 1, 1) := by decide +kernel
theorem d_Mod_markAll_67 : decode prog_9_method_17_code 67 = .ok (.ifCond .ne 33, 3) := by decide +kernel
theorem d_Mod_markAll_70 : decode prog_9_method_17_code 70 = .ok (.iload 4, 2) := by decide +kernel
theorem d_Mod_markAll_72 : decode prog_9_method_17_code 72 = .ok (.ifCond .lt 13, 3) := by decide +kernel
theorem d_Mod_markAll_75 : decode prog_9_method_17_code 75 = .ok (.aload_n 0, 1) := by decide +kernel
theorem d_Mod_markAll_76 : decode prog_9_method_17_code 76 = .ok (.getfield 38, 3) := by decide +kernel
theorem d_Mod_markAll_79 : decode prog_9_method_17_code 79 = .ok (.iload 4, 2) := by decide +kernel
theorem d_Mod_markAll_81 : decode prog_9_method_17_code 81 = .ok (.baload, 1) := by decide +kernel
theorem d_Mod_markAll_82 : decode prog_9_method_17_code 82 = .ok (.ifCond .eq 18, 3) := by decide +kernel
theorem d_Mod_markAll_85 : decode prog_9_method_17_code 85 = .ok (.iload 5, 2) := by decide +kernel
theorem d_Mod_markAll_87 : decode prog_9_method_17_code 87 = .ok (.ifCond .lt 17, 3) := by decide +kernel
theorem d_Mod_markAll_90 : decode prog_9_method_17_code 90 = .ok (.aload_n 0, 1) := by decide +kernel
theorem d_Mod_markAll_91 : decode prog_9_method_17_code 91 = .ok (.getfield 38, 3) := by decide +kernel
theorem d_Mod_markAll_94 : decode prog_9_method_17_code 94 = .ok (.iload 5, 2) := by decide +kernel
theorem d_Mod_markAll_96 : decode prog_9_method_17_code 96 = .ok (.baload, 1) := by decide +kernel
theorem d_Mod_markAll_97 : decode prog_9_method_17_code 97 = .ok (.ifCond .ne 7, 3) := by decide +kernel
theorem d_Mod_markAll_100 : decode prog_9_method_17_code 100 = .ok (.iconst 1, 1) := by decide +kernel
theorem d_Mod_markAll_101 : decode prog_9_method_17_code 101 = .ok (.goto 4, 3) := by decide +kernel
theorem d_Mod_markAll_104 : decode prog_9_method_17_code 104 = .ok (.iconst 0, 1) := by decide +kernel
theorem d_Mod_markAll_105 : decode prog_9_method_17_code 105 = .ok (.istore_n 1, 1) := by decide +kernel
theorem d_Mod_markAll_106 : decode prog_9_method_17_code 106 = .ok (.aload_n 0, 1) := by decide +kernel
theorem d_Mod_markAll_107 : decode prog_9_method_17_code 107 = .ok (.iload 4, 2) := by decide +kernel
theorem d_Mod_markAll_109 : decode prog_9_method_17_code 109 = .ok (.invokevirtual 140, 3) := by decide +kernel
theorem d_Mod_markAll_112 : decode prog_9_method_17_code 112 = .ok (.aload_n 0, 1) := by decide +kernel
theorem d_Mod_markAll_113 : decode prog_9_method_17_code 113 = .ok (.iload 5, 2) := by decide +kernel
theorem d_Mod_markAll_115 : decode prog_9_method_17_code 115 = .ok (.invokevirtual 140, 3) := by decide +kernel
theorem d_Mod_markAll_118 : decode prog_9_method_17_code 118 = .ok (.iinc 3 1, 3) := by decide +kernel
theorem d_Mod_markAll_121 : decode prog_9_method_17_code 121 = .ok (.goto (-103), 3) := by decide +kernel
theorem d_Mod_markAll_124 : decode prog_9_method_17_code 124 = .ok (.iinc 2 1, 3) := by decide +kernel
theorem d_Mod_markAll_127 : decode prog_9_method_17_code 127 = .ok (.goto (-123), 3) := by decide +kernel
theorem d_Mod_markAll_130 : decode prog_9_method_17_code 130 = .ok (.return_, 1) := by decide +kernel
theorem d_Mod_markLive_0 : decode prog_9_method_18_code 0 = .ok (.iconst 0, 1) := by decide +kernel
theorem d_Mod_markLive_1 : decode prog_9_method_18_code 1 = .ok (.istore_n 2, 1) := by decide +kernel
theorem d_Mod_markLive_2 : decode prog_9_method_18_code 2 = .ok (.iload_n 2, 1) := by decide +kernel
theorem d_Mod_markLive_3 : decode prog_9_method_18_code 3 = .ok (.bipush 104, 2) := by decide +kernel
theorem d_Mod_markLive_5 : decode prog_9_method_18_code 5 = .ok (.if_icmp .ge 16, 3) := by decide +kernel
theorem d_Mod_markLive_8 : decode prog_9_method_18_code 8 = .ok (.aload_n 0, 1) := by decide +kernel
theorem d_Mod_markLive_9 : decode prog_9_method_18_code 9 = .ok (.getfield 38, 3) := by decide +kernel
theorem d_Mod_markLive_12 : decode prog_9_method_18_code 12 = .ok (.iload_n 2, 1) := by decide +kernel
theorem d_Mod_markLive_13 : decode prog_9_method_18_code 13 = .ok (.iconst 0, 1) := by decide +kernel
theorem d_Mod_markLive_14 : decode prog_9_method_18_code 14 = .ok (.bastore, 1) := by decide +kernel
theorem d_Mod_markLive_15 : decode prog_9_method_18_code 15 = .ok (.iinc 2 1, 3) := by decide +kernel
theorem d_Mod_markLive_18 : decode prog_9_method_18_code 18 = .ok (.goto (-16), 3) := by decide +kernel
theorem d_Mod_markLive_21 : decode prog_9_method_18_code 21 = .ok (.iconst 2, 1) := by decide +kernel
theorem d_Mod_markLive_22 : decode prog_9_method_18_code 22 = .ok (.istore_n 2, 1) := by decide +kernel
theorem d_Mod_markLive_23 : decode prog_9_method_18_code 23 = .ok (.iload_n 2, 1) := by decide +kernel
theorem d_Mod_markLive_24 : decode prog_9_method_18_code 24 = .ok (.iconst 4, 1) := by decide +kernel
theorem d_Mod_markLive_25 : decode prog_9_method_18_code 25 = .ok (.if_icmp .ge 23, 3) := by decide +kernel
theorem d_Mod_markLive_28 : decode prog_9_method_18_code 28 = .ok (.aload_n 0, 1) := by decide +kernel
theorem d_Mod_markLive_29 : decode prog_9_method_18_code 29 = .ok (.aload_n 0, 1) := by decide +kernel
theorem d_Mod_markLive_30 : decode prog_9_method_18_code 30 = .ok (.getfield 77, 3) := by decide +kernel
theorem d_Mod_markLive_33 : decode prog_9_method_18_code 33 = .ok (.iconst 4, 1) := by decide +kernel
theorem d_Mod_markLive_34 : decode prog_9_method_18_code 34 = .ok (.iload_n 1, 1) := by decide +kernel
theorem d_Mod_markLive_35 : decode prog_9_method_18_code 35 = .ok (.imul, 1) := by decide +kernel
theorem d_Mod_markLive_36 : decode prog_9_method_18_code 36 = .ok (.iload_n 2, 1) := by decide +kernel
theorem d_Mod_markLive_37 : decode prog_9_method_18_code 37 = .ok (.iadd, 1) := by decide +kernel
theorem d_Mod_markLive_38 : decode prog_9_method_18_code 38 = .ok (.iaload, 1) := by decide +kernel
theorem d_Mod_markLive_39 : decode prog_9_method_18_code 39 = .ok (.invokevirtual 140, 3) := by decide +kernel
theorem d_Mod_markLive_42 : decode prog_9_method_18_code 42 = .ok (.iinc 2 1, 3) := by decide +kernel
theorem d_Mod_markLive_45 : decode prog_9_method_18_code 45 = .ok (.goto (-22), 3) := by decide +kernel
theorem d_Mod_markLive_48 : decode prog_9_method_18_code 48 = .ok (.iconst 0, 1) := by decide +kernel
theorem d_Mod_markLive_49 : decode prog_9_method_18_code 49 = .ok (.istore_n 2, 1) := by decide +kernel
theorem d_Mod_markLive_50 : decode prog_9_method_18_code 50 = .ok (.iload_n 2, 1) := by decide +kernel
theorem d_Mod_markLive_51 : decode prog_9_method_18_code 51 = .ok (.aload_n 0, 1) := by decide +kernel
theorem d_Mod_markLive_52 : decode prog_9_method_18_code 52 = .ok (.getfield 83, 3) := by decide +kernel
theorem d_Mod_markLive_55 : decode prog_9_method_18_code 55 = .ok (.iload_n 1, 1) := by decide +kernel
theorem d_Mod_markLive_56 : decode prog_9_method_18_code 56 = .ok (.iaload, 1) := by decide +kernel
theorem d_Mod_markLive_57 : decode prog_9_method_18_code 57 = .ok (.if_icmp .ge 23, 3) := by decide +kernel
theorem d_Mod_markLive_60 : decode prog_9_method_18_code 60 = .ok (.aload_n 0, 1) := by decide +kernel
theorem d_Mod_markLive_61 : decode prog_9_method_18_code 61 = .ok (.aload_n 0, 1) := by decide +kernel
theorem d_Mod_markLive_62 : decode prog_9_method_18_code 62 = .ok (.getfield 80, 3) := by decide +kernel
theorem d_Mod_markLive_65 : decode prog_9_method_18_code 65 = .ok (.iconst 4, 1) := by decide +kernel
theorem d_Mod_markLive_66 : decode prog_9_method_18_code 66 = .ok (.iload_n 1, 1) := by decide +kernel
theorem d_Mod_markLive_67 : decode prog_9_method_18_code 67 = .ok (.imul, 1) := by decide +kernel
theorem d_Mod_markLive_68 : decode prog_9_method_18_code 68 = .ok (.iload_n 2, 1) := by decide +kernel
theorem d_Mod_markLive_69 : decode prog_9_method_18_code 69 = .ok (.iadd, 1) := by decide +kernel
theorem d_Mod_markLive_70 : decode prog_9_method_18_code 70 = .ok (.iaload, 1) := by decide +kernel
theorem d_Mod_markLive_71 : decode prog_9_method_18_code 71 = .ok (.invokevirtual 140, 3) := by decide +kernel
theorem d_Mod_markLive_74 : decode prog_9_method_18_code 74 = .ok (.iinc 2 1, 3) := by decide +kernel
theorem d_Mod_markLive_77 : decode prog_9_method_18_code 77 = .ok (.goto (-27), 3) := by decide +kernel
theorem d_Mod_markLive_80 : decode prog_9_method_18_code 80 = .ok (.aload_n 0, 1) := by decide +kernel
theorem d_Mod_markLive_81 : decode prog_9_method_18_code 81 = .ok (.getfield 71, 3) := by decide +kernel
theorem d_Mod_markLive_84 : decode prog_9_method_18_code 84 = .ok (.iload_n 1, 1) := by decide +kernel
theorem d_Mod_markLive_85 : decode prog_9_method_18_code 85 = .ok (.iaload, 1) := by decide +kernel
theorem d_Mod_markLive_86 : decode prog_9_method_18_code 86 = .ok (.ifCond .ne 7, 3) := by decide +kernel
theorem d_Mod_markLive_89 : decode prog_9_method_18_code 89 = .ok (.iconst 1, 1) := by decide +kernel
theorem d_Mod_markLive_90 : decode prog_9_method_18_code 90 = .ok (.goto 24, 3) := by decide +kernel
theorem d_Mod_markLive_93 : decode prog_9_method_18_code 93 = .ok (.aload_n 0, 1) := by decide +kernel
theorem d_Mod_markLive_94 : decode prog_9_method_18_code 94 = .ok (.getfield 16, 3) := by decide +kernel
theorem d_Mod_markLive_97 : decode prog_9_method_18_code 97 = .ok (.bipush 24, 2) := by decide +kernel
theorem d_Mod_markLive_99 : decode prog_9_method_18_code 99 = .ok (.aload_n 0, 1) := by decide +kernel
theorem d_Mod_markLive_100 : decode prog_9_method_18_code 100 = .ok (.getfield 56, 3) := by decide +kernel
theorem d_Mod_markLive_103 : decode prog_9_method_18_code 103 = .ok (.iload_n 1, 1) := by decide +kernel
theorem d_Mod_markLive_104 : decode prog_9_method_18_code 104 = .ok (.iaload, 1) := by decide +kernel
theorem d_Mod_markLive_105 : decode prog_9_method_18_code 105 = .ok (.imul, 1) := by decide +kernel
theorem d_Mod_markLive_106 : decode prog_9_method_18_code 106 = .ok (.aload_n 0, 1) := by decide +kernel
theorem d_Mod_markLive_107 : decode prog_9_method_18_code 107 = .ok (.getfield 59, 3) := by decide +kernel
theorem d_Mod_markLive_110 : decode prog_9_method_18_code 110 = .ok (.iload_n 1, 1) := by decide +kernel
theorem d_Mod_markLive_111 : decode prog_9_method_18_code 111 = .ok (.iaload, 1) := by decide +kernel
theorem d_Mod_markLive_112 : decode prog_9_method_18_code 112 = .ok (.iadd, 1) := by decide +kernel
theorem d_Mod_markLive_113 : decode prog_9_method_18_code 113 = .ok (.iaload, 1) := by decide +kernel
theorem d_Mod_markLive_114 : decode prog_9_method_18_code 114 = .ok (.istore_n 2, 1) := by decide +kernel
theorem d_Mod_markLive_115 : decode prog_9_method_18_code 115 = .ok (.aload_n 0, 1) := by decide +kernel
theorem d_Mod_markLive_116 : decode prog_9_method_18_code 116 = .ok (.getfield 71, 3) := by decide +kernel
theorem d_Mod_markLive_119 : decode prog_9_method_18_code 119 = .ok (.iload_n 1, 1) := by decide +kernel
theorem d_Mod_markLive_120 : decode prog_9_method_18_code 120 = .ok (.iaload, 1) := by decide +kernel
theorem d_Mod_markLive_121 : decode prog_9_method_18_code 121 = .ok (.iconst 1, 1) := by decide +kernel
theorem d_Mod_markLive_122 : decode prog_9_method_18_code 122 = .ok (.isub, 1) := by decide +kernel
theorem d_Mod_markLive_123 : decode prog_9_method_18_code 123 = .ok (.istore_n 3, 1) := by decide +kernel
theorem d_Mod_markLive_124 : decode prog_9_method_18_code 124 = .ok (.iload_n 3, 1) := by decide +kernel
theorem d_Mod_markLive_125 : decode prog_9_method_18_code 125 = .ok (.ifCond .lt 35, 3) := by decide +kernel
theorem d_Mod_markLive_128 : decode prog_9_method_18_code 128 = .ok (.iload_n 2, 1) := by decide +kernel
theorem d_Mod_markLive_129 : decode prog_9_method_18_code 129 = .ok (.iconst 2, 1) := by decide +kernel
theorem d_Mod_markLive_130 : decode prog_9_method_18_code 130 = .ok (.irem, 1) := by decide +kernel
theorem d_Mod_markLive_131 : decode prog_9_method_18_code 131 = .ok (.iconst 1, 1) := by decide +kernel
theorem d_Mod_markLive_132 : decode prog_9_method_18_code 132 = .ok (.if_icmp .ne 18, 3) := by decide +kernel
theorem d_Mod_markLive_135 : decode prog_9_method_18_code 135 = .ok (.aload_n 0, 1) := by decide +kernel
theorem d_Mod_markLive_136 : decode prog_9_method_18_code 136 = .ok (.aload_n 0, 1) := by decide +kernel
theorem d_Mod_markLive_137 : decode prog_9_method_18_code 137 = .ok (.getfield 74, 3) := by decide +kernel
theorem d_Mod_markLive_140 : decode prog_9_method_18_code 140 = .ok (.bipush 6, 2) := by decide +kernel
theorem d_Mod_markLive_142 : decode prog_9_method_18_code 142 = .ok (.iload_n 1, 1) := by decide +kernel
theorem d_Mod_markLive_143 : decode prog_9_method_18_code 143 = .ok (.imul, 1) := by decide +kernel
theorem d_Mod_markLive_144 : decode prog_9_method_18_code 144 = .ok (.iload_n 3, 1) := by decide +kernel
theorem d_Mod_markLive_145 : decode prog_9_method_18_code 145 = .ok (.iadd, 1) := by decide +kernel
theorem d_Mod_markLive_146 : decode prog_9_method_18_code 146 = .ok (.iaload, 1) := by decide +kernel
theorem d_Mod_markLive_147 : decode prog_9_method_18_code 147 = .ok (.invokevirtual 140, 3) := by decide +kernel
theorem d_Mod_markLive_150 : decode prog_9_method_18_code 150 = .ok (.iload_n 2, 1) := by decide +kernel
theorem d_Mod_markLive_151 : decode prog_9_method_18_code 151 = .ok (.iconst 2, 1) := by decide +kernel
theorem d_Mod_markLive_152 : decode prog_9_method_18_code 152 = .ok (.idiv, 1) := by decide +kernel
theorem d_Mod_markLive_153 : decode prog_9_method_18_code 153 = .ok (.istore_n 2, 1) := by decide +kernel
theorem d_Mod_markLive_154 : decode prog_9_method_18_code 154 = .ok (.iinc 3 (-1), 3) := by decide +kernel
theorem d_Mod_markLive_157 : decode prog_9_method_18_code 157 = .ok (.goto (-33), 3) := by decide +kernel
theorem d_Mod_markLive_160 : decode prog_9_method_18_code 160 = .ok (.aload_n 0, 1) := by decide +kernel
theorem d_Mod_markLive_161 : decode prog_9_method_18_code 161 = .ok (.invokevirtual 144, 3) := by decide +kernel
theorem d_Mod_markLive_164 : decode prog_9_method_18_code 164 = .ok (.return_, 1) := by decide +kernel
theorem d_Mod_room_0 : decode prog_9_method_20_code 0 = .ok (.aload_n 0, 1) := by decide +kernel
theorem d_Mod_room_1 : decode prog_9_method_20_code 1 = .ok (.iload_n 1, 1) := by decide +kernel
theorem d_Mod_room_2 : decode prog_9_method_20_code 2 = .ok (.iconst 0, 1) := by decide +kernel
theorem d_Mod_room_3 : decode prog_9_method_20_code 3 = .ok (.invokevirtual 147, 3) := by decide +kernel
theorem d_Mod_room_6 : decode prog_9_method_20_code 6 = .ok (.iload_n 2, 1) := by decide +kernel
theorem d_Mod_room_7 : decode prog_9_method_20_code 7 = .ok (.iadd, 1) := by decide +kernel
theorem d_Mod_room_8 : decode prog_9_method_20_code 8 = .ok (.aload_n 0, 1) := by decide +kernel
theorem d_Mod_room_9 : decode prog_9_method_20_code 9 = .ok (.getfield 47, 3) := by decide +kernel
theorem d_Mod_room_12 : decode prog_9_method_20_code 12 = .ok (.iload_n 1, 1) := by decide +kernel
theorem d_Mod_room_13 : decode prog_9_method_20_code 13 = .ok (.iaload, 1) := by decide +kernel
theorem d_Mod_room_14 : decode prog_9_method_20_code 14 = .ok (.if_icmp .gt 5, 3) := by decide +kernel
theorem d_Mod_room_17 : decode prog_9_method_20_code 17 = .ok (.iconst 1, 1) := by decide +kernel
theorem d_Mod_room_18 : decode prog_9_method_20_code 18 = .ok (.ireturn, 1) := by decide +kernel
theorem d_Mod_room_19 : decode prog_9_method_20_code 19 = .ok (.aload_n 0, 1) := by decide +kernel
theorem d_Mod_room_20 : decode prog_9_method_20_code 20 = .ok (.iload_n 1, 1) := by decide +kernel
theorem d_Mod_room_21 : decode prog_9_method_20_code 21 = .ok (.invokevirtual 151, 3) := by decide +kernel
theorem d_Mod_room_24 : decode prog_9_method_20_code 24 = .ok (.aload_n 0, 1) := by decide +kernel
theorem d_Mod_room_25 : decode prog_9_method_20_code 25 = .ok (.getfield 65, 3) := by decide +kernel
theorem d_Mod_room_28 : decode prog_9_method_20_code 28 = .ok (.iload_n 1, 1) := by decide +kernel
theorem d_Mod_room_29 : decode prog_9_method_20_code 29 = .ok (.dup2, 1) := by decide +kernel
theorem d_Mod_room_30 : decode prog_9_method_20_code 30 = .ok (.iaload, 1) := by decide +kernel
theorem d_Mod_room_31 : decode prog_9_method_20_code 31 = .ok (.iconst 1, 1) := by decide +kernel
theorem d_Mod_room_32 : decode prog_9_method_20_code 32 = .ok (.iadd, 1) := by decide +kernel
theorem d_Mod_room_33 : decode prog_9_method_20_code 33 = .ok (.iastore, 1) := by decide +kernel
theorem d_Mod_room_34 : decode prog_9_method_20_code 34 = .ok (.bipush 24, 2) := by decide +kernel
theorem d_Mod_room_36 : decode prog_9_method_20_code 36 = .ok (.iload_n 1, 1) := by decide +kernel
theorem d_Mod_room_37 : decode prog_9_method_20_code 37 = .ok (.imul, 1) := by decide +kernel
theorem d_Mod_room_38 : decode prog_9_method_20_code 38 = .ok (.istore_n 3, 1) := by decide +kernel
theorem d_Mod_room_39 : decode prog_9_method_20_code 39 = .ok (.iload_n 3, 1) := by decide +kernel
theorem d_Mod_room_40 : decode prog_9_method_20_code 40 = .ok (.bipush 24, 2) := by decide +kernel
theorem d_Mod_room_42 : decode prog_9_method_20_code 42 = .ok (.iload_n 1, 1) := by decide +kernel
theorem d_Mod_room_43 : decode prog_9_method_20_code 43 = .ok (.imul, 1) := by decide +kernel
theorem d_Mod_room_44 : decode prog_9_method_20_code 44 = .ok (.bipush 24, 2) := by decide +kernel
theorem d_Mod_room_46 : decode prog_9_method_20_code 46 = .ok (.iadd, 1) := by decide +kernel
theorem d_Mod_room_47 : decode prog_9_method_20_code 47 = .ok (.if_icmp .ge 38, 3) := by decide +kernel
theorem d_Mod_room_50 : decode prog_9_method_20_code 50 = .ok (.aload_n 0, 1) := by decide +kernel
theorem d_Mod_room_51 : decode prog_9_method_20_code 51 = .ok (.getfield 26, 3) := by decide +kernel
theorem d_Mod_room_54 : decode prog_9_method_20_code 54 = .ok (.iload_n 3, 1) := by decide +kernel
theorem d_Mod_room_55 : decode prog_9_method_20_code 55 = .ok (.aload_n 0, 1) := by decide +kernel
theorem d_Mod_room_56 : decode prog_9_method_20_code 56 = .ok (.getfield 26, 3) := by decide +kernel
theorem d_Mod_room_59 : decode prog_9_method_20_code 59 = .ok (.iload_n 3, 1) := by decide +kernel
theorem d_Mod_room_60 : decode prog_9_method_20_code 60 = .ok (.baload, 1) := by decide +kernel
theorem d_Mod_room_61 : decode prog_9_method_20_code 61 = .ok (.ifCond .eq 16, 3) := by decide +kernel
theorem d_Mod_room_64 : decode prog_9_method_20_code 64 = .ok (.aload_n 0, 1) := by decide +kernel
theorem d_Mod_room_65 : decode prog_9_method_20_code 65 = .ok (.getfield 38, 3) := by decide +kernel
theorem d_Mod_room_68 : decode prog_9_method_20_code 68 = .ok (.iload_n 3, 1) := by decide +kernel
theorem d_Mod_room_69 : decode prog_9_method_20_code 69 = .ok (.baload, 1) := by decide +kernel
theorem d_Mod_room_70 : decode prog_9_method_20_code 70 = .ok (.ifCond .eq 7, 3) := by decide +kernel
theorem d_Mod_room_73 : decode prog_9_method_20_code 73 = .ok (.iconst 1, 1) := by decide +kernel
theorem d_Mod_room_74 : decode prog_9_method_20_code 74 = .ok (.goto 4, 3) := by decide +kernel
theorem d_Mod_room_77 : decode prog_9_method_20_code 77 = .ok (.iconst 0, 1) := by decide +kernel
theorem d_Mod_room_78 : decode prog_9_method_20_code 78 = .ok (.bastore, 1) := by decide +kernel
theorem d_Mod_room_79 : decode prog_9_method_20_code 79 = .ok (.iinc 3 1, 3) := by decide +kernel
theorem d_Mod_room_82 : decode prog_9_method_20_code 82 = .ok (.goto (-43), 3) := by decide +kernel
theorem d_Mod_room_85 : decode prog_9_method_20_code 85 = .ok (.aload_n 0, 1) := by decide +kernel
theorem d_Mod_room_86 : decode prog_9_method_20_code 86 = .ok (.iload_n 1, 1) := by decide +kernel
theorem d_Mod_room_87 : decode prog_9_method_20_code 87 = .ok (.iconst 0, 1) := by decide +kernel
theorem d_Mod_room_88 : decode prog_9_method_20_code 88 = .ok (.invokevirtual 147, 3) := by decide +kernel
theorem d_Mod_room_91 : decode prog_9_method_20_code 91 = .ok (.iload_n 2, 1) := by decide +kernel
theorem d_Mod_room_92 : decode prog_9_method_20_code 92 = .ok (.iadd, 1) := by decide +kernel
theorem d_Mod_room_93 : decode prog_9_method_20_code 93 = .ok (.aload_n 0, 1) := by decide +kernel
theorem d_Mod_room_94 : decode prog_9_method_20_code 94 = .ok (.getfield 47, 3) := by decide +kernel
theorem d_Mod_room_97 : decode prog_9_method_20_code 97 = .ok (.iload_n 1, 1) := by decide +kernel
theorem d_Mod_room_98 : decode prog_9_method_20_code 98 = .ok (.iaload, 1) := by decide +kernel
theorem d_Mod_room_99 : decode prog_9_method_20_code 99 = .ok (.if_icmp .gt 7, 3) := by decide +kernel
theorem d_Mod_room_102 : decode prog_9_method_20_code 102 = .ok (.iconst 1, 1) := by decide +kernel
theorem d_Mod_room_103 : decode prog_9_method_20_code 103 = .ok (.goto 4, 3) := by decide +kernel
theorem d_Mod_room_106 : decode prog_9_method_20_code 106 = .ok (.iconst 0, 1) := by decide +kernel
theorem d_Mod_room_107 : decode prog_9_method_20_code 107 = .ok (.ireturn, 1) := by decide +kernel
theorem d_Mod_value_0 : decode prog_9_method_31_code 0 = .ok (.aload_n 0, 1) := by decide +kernel
theorem d_Mod_value_1 : decode prog_9_method_31_code 1 = .ok (.getfield 74, 3) := by decide +kernel
theorem d_Mod_value_4 : decode prog_9_method_31_code 4 = .ok (.bipush 6, 2) := by decide +kernel
theorem d_Mod_value_6 : decode prog_9_method_31_code 6 = .ok (.iload_n 1, 1) := by decide +kernel
theorem d_Mod_value_7 : decode prog_9_method_31_code 7 = .ok (.imul, 1) := by decide +kernel
theorem d_Mod_value_8 : decode prog_9_method_31_code 8 = .ok (.aload_n 0, 1) := by decide +kernel
theorem d_Mod_value_9 : decode prog_9_method_31_code 9 = .ok (.getfield 71, 3) := by decide +kernel
theorem d_Mod_value_12 : decode prog_9_method_31_code 12 = .ok (.iload_n 1, 1) := by decide +kernel
theorem d_Mod_value_13 : decode prog_9_method_31_code 13 = .ok (.iaload, 1) := by decide +kernel
theorem d_Mod_value_14 : decode prog_9_method_31_code 14 = .ok (.iadd, 1) := by decide +kernel
theorem d_Mod_value_15 : decode prog_9_method_31_code 15 = .ok (.iconst 1, 1) := by decide +kernel
theorem d_Mod_value_16 : decode prog_9_method_31_code 16 = .ok (.isub, 1) := by decide +kernel
theorem d_Mod_value_17 : decode prog_9_method_31_code 17 = .ok (.iload_n 2, 1) := by decide +kernel
theorem d_Mod_value_18 : decode prog_9_method_31_code 18 = .ok (.isub, 1) := by decide +kernel
theorem d_Mod_value_19 : decode prog_9_method_31_code 19 = .ok (.iaload, 1) := by decide +kernel
theorem d_Mod_value_20 : decode prog_9_method_31_code 20 = .ok (.ireturn, 1) := by decide +kernel
theorem d_Mod_cellOp_0 : decode prog_9_method_34_code 0 = .ok (.iload_n 2, 1) := by decide +kernel
theorem d_Mod_cellOp_1 : decode prog_9_method_34_code 1 = .ok (.bipush 11, 2) := by decide +kernel
theorem d_Mod_cellOp_3 : decode prog_9_method_34_code 3 = .ok (.if_icmp .ne 38, 3) := by decide +kernel
theorem d_Mod_cellOp_6 : decode prog_9_method_34_code 6 = .ok (.aload_n 0, 1) := by decide +kernel
theorem d_Mod_cellOp_7 : decode prog_9_method_34_code 7 = .ok (.iload_n 1, 1) := by decide +kernel
theorem d_Mod_cellOp_8 : decode prog_9_method_34_code 8 = .ok (.iconst 1, 1) := by decide +kernel
theorem d_Mod_cellOp_9 : decode prog_9_method_34_code 9 = .ok (.invokevirtual 164, 3) := by decide +kernel
theorem d_Mod_cellOp_12 : decode prog_9_method_34_code 12 = .ok (.ifCond .ne 6, 3) := by decide +kernel
theorem d_Mod_cellOp_15 : decode prog_9_method_34_code 15 = .ok (.bipush 9, 2) := by decide +kernel
theorem d_Mod_cellOp_17 : decode prog_9_method_34_code 17 = .ok (.ireturn, 1) := by decide +kernel
theorem d_Mod_cellOp_18 : decode prog_9_method_34_code 18 = .ok (.aload_n 0, 1) := by decide +kernel
theorem d_Mod_cellOp_19 : decode prog_9_method_34_code 19 = .ok (.iload_n 1, 1) := by decide +kernel
theorem d_Mod_cellOp_20 : decode prog_9_method_34_code 20 = .ok (.aload_n 0, 1) := by decide +kernel
theorem d_Mod_cellOp_21 : decode prog_9_method_34_code 21 = .ok (.iload_n 1, 1) := by decide +kernel
theorem d_Mod_cellOp_22 : decode prog_9_method_34_code 22 = .ok (.iconst 0, 1) := by decide +kernel
theorem d_Mod_cellOp_23 : decode prog_9_method_34_code 23 = .ok (.invokevirtual 167, 3) := by decide +kernel
theorem d_Mod_cellOp_26 : decode prog_9_method_34_code 26 = .ok (.invokevirtual 154, 3) := by decide +kernel
theorem d_Mod_cellOp_29 : decode prog_9_method_34_code 29 = .ok (.istore 4, 2) := by decide +kernel
theorem d_Mod_cellOp_31 : decode prog_9_method_34_code 31 = .ok (.aload_n 0, 1) := by decide +kernel
theorem d_Mod_cellOp_32 : decode prog_9_method_34_code 32 = .ok (.iload_n 1, 1) := by decide +kernel
theorem d_Mod_cellOp_33 : decode prog_9_method_34_code 33 = .ok (.iconst 1, 1) := by decide +kernel
theorem d_Mod_cellOp_34 : decode prog_9_method_34_code 34 = .ok (.iload 4, 2) := by decide +kernel
theorem d_Mod_cellOp_36 : decode prog_9_method_34_code 36 = .ok (.invokevirtual 170, 3) := by decide +kernel
theorem d_Mod_cellOp_39 : decode prog_9_method_34_code 39 = .ok (.iconst 0, 1) := by decide +kernel
theorem d_Mod_cellOp_40 : decode prog_9_method_34_code 40 = .ok (.ireturn, 1) := by decide +kernel
theorem d_Mod_cellOp_41 : decode prog_9_method_34_code 41 = .ok (.aload_n 0, 1) := by decide +kernel
theorem d_Mod_cellOp_42 : decode prog_9_method_34_code 42 = .ok (.iload_n 1, 1) := by decide +kernel
theorem d_Mod_cellOp_43 : decode prog_9_method_34_code 43 = .ok (.iload_n 2, 1) := by decide +kernel
theorem d_Mod_cellOp_44 : decode prog_9_method_34_code 44 = .ok (.bipush 12, 2) := by decide +kernel
theorem d_Mod_cellOp_46 : decode prog_9_method_34_code 46 = .ok (.if_icmp .ne 7, 3) := by decide +kernel
theorem d_Mod_cellOp_49 : decode prog_9_method_34_code 49 = .ok (.iconst 0, 1) := by decide +kernel
theorem d_Mod_cellOp_50 : decode prog_9_method_34_code 50 = .ok (.goto 4, 3) := by decide +kernel
theorem d_Mod_cellOp_53 : decode prog_9_method_34_code 53 = .ok (.iconst 1, 1) := by decide +kernel
theorem d_Mod_cellOp_54 : decode prog_9_method_34_code 54 = .ok (.invokevirtual 167, 3) := by decide +kernel
theorem d_Mod_cellOp_57 : decode prog_9_method_34_code 57 = .ok (.istore 4, 2) := by decide +kernel
theorem d_Mod_cellOp_59 : decode prog_9_method_34_code 59 = .ok (.iload 4, 2) := by decide +kernel
theorem d_Mod_cellOp_61 : decode prog_9_method_34_code 61 = .ok (.ifCond .ge 6, 3) := by decide +kernel
theorem d_Mod_cellOp_64 : decode prog_9_method_34_code 64 = .ok (.bipush 7, 2) := by decide +kernel
theorem d_Mod_cellOp_66 : decode prog_9_method_34_code 66 = .ok (.ireturn, 1) := by decide +kernel
theorem d_Mod_cellOp_67 : decode prog_9_method_34_code 67 = .ok (.iload_n 2, 1) := by decide +kernel
theorem d_Mod_cellOp_68 : decode prog_9_method_34_code 68 = .ok (.bipush 12, 2) := by decide +kernel
theorem d_Mod_cellOp_70 : decode prog_9_method_34_code 70 = .ok (.if_icmp .ne 47, 3) := by decide +kernel
theorem d_Mod_cellOp_73 : decode prog_9_method_34_code 73 = .ok (.aload_n 0, 1) := by decide +kernel
theorem d_Mod_cellOp_74 : decode prog_9_method_34_code 74 = .ok (.iload_n 1, 1) := by decide +kernel
theorem d_Mod_cellOp_75 : decode prog_9_method_34_code 75 = .ok (.iconst 1, 1) := by decide +kernel
theorem d_Mod_cellOp_76 : decode prog_9_method_34_code 76 = .ok (.iload_n 3, 1) := by decide +kernel
theorem d_Mod_cellOp_77 : decode prog_9_method_34_code 77 = .ok (.ifCond .ne 13, 3) := by decide +kernel
theorem d_Mod_cellOp_80 : decode prog_9_method_34_code 80 = .ok (.aload_n 0, 1) := by decide +kernel
theorem d_Mod_cellOp_81 : decode prog_9_method_34_code 81 = .ok (.getfield 29, 3) := by decide +kernel
theorem d_Mod_cellOp_84 : decode prog_9_method_34_code 84 = .ok (.iload 4, 2) := by decide +kernel
theorem d_Mod_cellOp_86 : decode prog_9_method_34_code 86 = .ok (.iaload, 1) := by decide +kernel
theorem d_Mod_cellOp_87 : decode prog_9_method_34_code 87 = .ok (.goto 25, 3) := by decide +kernel
theorem d_Mod_cellOp_90 : decode prog_9_method_34_code 90 = .ok (.iload_n 3, 1) := by decide +kernel
theorem d_Mod_cellOp_91 : decode prog_9_method_34_code 91 = .ok (.iconst 1, 1) := by decide +kernel
theorem d_Mod_cellOp_92 : decode prog_9_method_34_code 92 = .ok (.if_icmp .ne 13, 3) := by decide +kernel
theorem d_Mod_cellOp_95 : decode prog_9_method_34_code 95 = .ok (.aload_n 0, 1) := by decide +kernel
theorem d_Mod_cellOp_96 : decode prog_9_method_34_code 96 = .ok (.getfield 32, 3) := by decide +kernel
theorem d_Mod_cellOp_99 : decode prog_9_method_34_code 99 = .ok (.iload 4, 2) := by decide +kernel
theorem d_Mod_cellOp_101 : decode prog_9_method_34_code 101 = .ok (.iaload, 1) := by decide +kernel
theorem d_Mod_cellOp_102 : decode prog_9_method_34_code 102 = .ok (.goto 10, 3) := by decide +kernel
theorem d_Mod_cellOp_105 : decode prog_9_method_34_code 105 = .ok (.aload_n 0, 1) := by decide +kernel
theorem d_Mod_cellOp_106 : decode prog_9_method_34_code 106 = .ok (.getfield 35, 3) := by decide +kernel
theorem d_Mod_cellOp_109 : decode prog_9_method_34_code 109 = .ok (.iload 4, 2) := by decide +kernel
theorem d_Mod_cellOp_111 : decode prog_9_method_34_code 111 = .ok (.iaload, 1) := by decide +kernel
theorem d_Mod_cellOp_112 : decode prog_9_method_34_code 112 = .ok (.invokevirtual 170, 3) := by decide +kernel
theorem d_Mod_cellOp_115 : decode prog_9_method_34_code 115 = .ok (.iconst 0, 1) := by decide +kernel
theorem d_Mod_cellOp_116 : decode prog_9_method_34_code 116 = .ok (.ireturn, 1) := by decide +kernel
theorem d_Mod_cellOp_117 : decode prog_9_method_34_code 117 = .ok (.iload 4, 2) := by decide +kernel
theorem d_Mod_cellOp_119 : decode prog_9_method_34_code 119 = .ok (.bipush 96, 2) := by decide +kernel
theorem d_Mod_cellOp_121 : decode prog_9_method_34_code 121 = .ok (.if_icmp .lt 6, 3) := by decide +kernel
theorem d_Mod_cellOp_124 : decode prog_9_method_34_code 124 = .ok (.bipush 8, 2) := by decide +kernel
theorem d_Mod_cellOp_126 : decode prog_9_method_34_code 126 = .ok (.ireturn, 1) := by decide +kernel
theorem d_Mod_cellOp_127 : decode prog_9_method_34_code 127 = .ok (.aload_n 0, 1) := by decide +kernel
theorem d_Mod_cellOp_128 : decode prog_9_method_34_code 128 = .ok (.iload_n 1, 1) := by decide +kernel
theorem d_Mod_cellOp_129 : decode prog_9_method_34_code 129 = .ok (.iconst 0, 1) := by decide +kernel
theorem d_Mod_cellOp_130 : decode prog_9_method_34_code 130 = .ok (.invokevirtual 167, 3) := by decide +kernel
theorem d_Mod_cellOp_133 : decode prog_9_method_34_code 133 = .ok (.istore 5, 2) := by decide +kernel
theorem d_Mod_cellOp_135 : decode prog_9_method_34_code 135 = .ok (.iload_n 3, 1) := by decide +kernel
theorem d_Mod_cellOp_136 : decode prog_9_method_34_code 136 = .ok (.ifCond .ne 15, 3) := by decide +kernel
theorem d_Mod_cellOp_139 : decode prog_9_method_34_code 139 = .ok (.aload_n 0, 1) := by decide +kernel
theorem d_Mod_cellOp_140 : decode prog_9_method_34_code 140 = .ok (.getfield 29, 3) := by decide +kernel
theorem d_Mod_cellOp_143 : decode prog_9_method_34_code 143 = .ok (.iload 4, 2) := by decide +kernel
theorem d_Mod_cellOp_145 : decode prog_9_method_34_code 145 = .ok (.iload 5, 2) := by decide +kernel
theorem d_Mod_cellOp_147 : decode prog_9_method_34_code 147 = .ok (.iastore, 1) := by decide +kernel
theorem d_Mod_cellOp_148 : decode prog_9_method_34_code 148 = .ok (.goto 29, 3) := by decide +kernel
theorem d_Mod_cellOp_151 : decode prog_9_method_34_code 151 = .ok (.iload_n 3, 1) := by decide +kernel
theorem d_Mod_cellOp_152 : decode prog_9_method_34_code 152 = .ok (.iconst 1, 1) := by decide +kernel
theorem d_Mod_cellOp_153 : decode prog_9_method_34_code 153 = .ok (.if_icmp .ne 15, 3) := by decide +kernel
theorem d_Mod_cellOp_156 : decode prog_9_method_34_code 156 = .ok (.aload_n 0, 1) := by decide +kernel
theorem d_Mod_cellOp_157 : decode prog_9_method_34_code 157 = .ok (.getfield 32, 3) := by decide +kernel
theorem d_Mod_cellOp_160 : decode prog_9_method_34_code 160 = .ok (.iload 4, 2) := by decide +kernel
theorem d_Mod_cellOp_162 : decode prog_9_method_34_code 162 = .ok (.iload 5, 2) := by decide +kernel
theorem d_Mod_cellOp_164 : decode prog_9_method_34_code 164 = .ok (.iastore, 1) := by decide +kernel
theorem d_Mod_cellOp_165 : decode prog_9_method_34_code 165 = .ok (.goto 12, 3) := by decide +kernel
theorem d_Mod_cellOp_168 : decode prog_9_method_34_code 168 = .ok (.aload_n 0, 1) := by decide +kernel
theorem d_Mod_cellOp_169 : decode prog_9_method_34_code 169 = .ok (.getfield 35, 3) := by decide +kernel
theorem d_Mod_cellOp_172 : decode prog_9_method_34_code 172 = .ok (.iload 4, 2) := by decide +kernel
theorem d_Mod_cellOp_174 : decode prog_9_method_34_code 174 = .ok (.iload 5, 2) := by decide +kernel
theorem d_Mod_cellOp_176 : decode prog_9_method_34_code 176 = .ok (.iastore, 1) := by decide +kernel
theorem d_Mod_cellOp_177 : decode prog_9_method_34_code 177 = .ok (.aload_n 0, 1) := by decide +kernel
theorem d_Mod_cellOp_178 : decode prog_9_method_34_code 178 = .ok (.getfield 71, 3) := by decide +kernel
theorem d_Mod_cellOp_181 : decode prog_9_method_34_code 181 = .ok (.iload_n 1, 1) := by decide +kernel
theorem d_Mod_cellOp_182 : decode prog_9_method_34_code 182 = .ok (.dup2, 1) := by decide +kernel
theorem d_Mod_cellOp_183 : decode prog_9_method_34_code 183 = .ok (.iaload, 1) := by decide +kernel
theorem d_Mod_cellOp_184 : decode prog_9_method_34_code 184 = .ok (.iconst 2, 1) := by decide +kernel
theorem d_Mod_cellOp_185 : decode prog_9_method_34_code 185 = .ok (.isub, 1) := by decide +kernel
theorem d_Mod_cellOp_186 : decode prog_9_method_34_code 186 = .ok (.iastore, 1) := by decide +kernel
theorem d_Mod_cellOp_187 : decode prog_9_method_34_code 187 = .ok (.iconst 0, 1) := by decide +kernel
theorem d_Mod_cellOp_188 : decode prog_9_method_34_code 188 = .ok (.ireturn, 1) := by decide +kernel
theorem d_Mod_result_0 : decode prog_9_method_33_code 0 = .ok (.iload_n 0, 1) := by decide +kernel
theorem d_Mod_result_1 : decode prog_9_method_33_code 1 = .ok (.iconst 2, 1) := by decide +kernel
theorem d_Mod_result_2 : decode prog_9_method_33_code 2 = .ok (.if_icmp .ne 9, 3) := by decide +kernel
theorem d_Mod_result_5 : decode prog_9_method_33_code 5 = .ok (.iload_n 1, 1) := by decide +kernel
theorem d_Mod_result_6 : decode prog_9_method_33_code 6 = .ok (.iload_n 2, 1) := by decide +kernel
theorem d_Mod_result_7 : decode prog_9_method_33_code 7 = .ok (.iadd, 1) := by decide +kernel
theorem d_Mod_result_8 : decode prog_9_method_33_code 8 = .ok (.goto 65, 3) := by decide +kernel
theorem d_Mod_result_11 : decode prog_9_method_33_code 11 = .ok (.iload_n 0, 1) := by decide +kernel
theorem d_Mod_result_12 : decode prog_9_method_33_code 12 = .ok (.iconst 3, 1) := by decide +kernel
theorem d_Mod_result_13 : decode prog_9_method_33_code 13 = .ok (.if_icmp .ne 9, 3) := by decide +kernel
theorem d_Mod_result_16 : decode prog_9_method_33_code 16 = .ok (.iload_n 1, 1) := by decide +kernel
theorem d_Mod_result_17 : decode prog_9_method_33_code 17 = .ok (.iload_n 2, 1) := by decide +kernel
theorem d_Mod_result_18 : decode prog_9_method_33_code 18 = .ok (.isub, 1) := by decide +kernel
theorem d_Mod_result_19 : decode prog_9_method_33_code 19 = .ok (.goto 54, 3) := by decide +kernel
theorem d_Mod_result_22 : decode prog_9_method_33_code 22 = .ok (.iload_n 0, 1) := by decide +kernel
theorem d_Mod_result_23 : decode prog_9_method_33_code 23 = .ok (.iconst 4, 1) := by decide +kernel
theorem d_Mod_result_24 : decode prog_9_method_33_code 24 = .ok (.if_icmp .ne 9, 3) := by decide +kernel
theorem d_Mod_result_27 : decode prog_9_method_33_code 27 = .ok (.iload_n 1, 1) := by decide +kernel
theorem d_Mod_result_28 : decode prog_9_method_33_code 28 = .ok (.iload_n 2, 1) := by decide +kernel
theorem d_Mod_result_29 : decode prog_9_method_33_code 29 = .ok (.imul, 1) := by decide +kernel
theorem d_Mod_result_30 : decode prog_9_method_33_code 30 = .ok (.goto 43, 3) := by decide +kernel
theorem d_Mod_result_33 : decode prog_9_method_33_code 33 = .ok (.iload_n 0, 1) := by decide +kernel
theorem d_Mod_result_34 : decode prog_9_method_33_code 34 = .ok (.iconst 5, 1) := by decide +kernel
theorem d_Mod_result_35 : decode prog_9_method_33_code 35 = .ok (.if_icmp .ne 9, 3) := by decide +kernel
theorem d_Mod_result_38 : decode prog_9_method_33_code 38 = .ok (.iload_n 1, 1) := by decide +kernel
theorem d_Mod_result_39 : decode prog_9_method_33_code 39 = .ok (.iload_n 2, 1) := by decide +kernel
theorem d_Mod_result_40 : decode prog_9_method_33_code 40 = .ok (.idiv, 1) := by decide +kernel
theorem d_Mod_result_41 : decode prog_9_method_33_code 41 = .ok (.goto 32, 3) := by decide +kernel
theorem d_Mod_result_44 : decode prog_9_method_33_code 44 = .ok (.iload_n 0, 1) := by decide +kernel
theorem d_Mod_result_45 : decode prog_9_method_33_code 45 = .ok (.bipush 6, 2) := by decide +kernel
theorem d_Mod_result_47 : decode prog_9_method_33_code 47 = .ok (.if_icmp .ne 16, 3) := by decide +kernel
theorem d_Mod_result_50 : decode prog_9_method_33_code 50 = .ok (.iload_n 1, 1) := by decide +kernel
theorem d_Mod_result_51 : decode prog_9_method_33_code 51 = .ok (.iload_n 2, 1) := by decide +kernel
theorem d_Mod_result_52 : decode prog_9_method_33_code 52 = .ok (.if_icmp .ge 7, 3) := by decide +kernel
theorem d_Mod_result_55 : decode prog_9_method_33_code 55 = .ok (.iconst 1, 1) := by decide +kernel
theorem d_Mod_result_56 : decode prog_9_method_33_code 56 = .ok (.goto 17, 3) := by decide +kernel
theorem d_Mod_result_59 : decode prog_9_method_33_code 59 = .ok (.iconst 0, 1) := by decide +kernel
theorem d_Mod_result_60 : decode prog_9_method_33_code 60 = .ok (.goto 13, 3) := by decide +kernel
theorem d_Mod_result_63 : decode prog_9_method_33_code 63 = .ok (.iload_n 1, 1) := by decide +kernel
theorem d_Mod_result_64 : decode prog_9_method_33_code 64 = .ok (.iload_n 2, 1) := by decide +kernel
theorem d_Mod_result_65 : decode prog_9_method_33_code 65 = .ok (.if_icmp .ne 7, 3) := by decide +kernel
theorem d_Mod_result_68 : decode prog_9_method_33_code 68 = .ok (.iconst 1, 1) := by decide +kernel
theorem d_Mod_result_69 : decode prog_9_method_33_code 69 = .ok (.goto 4, 3) := by decide +kernel
theorem d_Mod_result_72 : decode prog_9_method_33_code 72 = .ok (.iconst 0, 1) := by decide +kernel
theorem d_Mod_result_73 : decode prog_9_method_33_code 73 = .ok (.ireturn, 1) := by decide +kernel
theorem d_Mod_plain_0 : decode prog_9_method_41_code 0 = .ok (.iload_n 2, 1) := by decide +kernel
theorem d_Mod_plain_1 : decode prog_9_method_41_code 1 = .ok (.ifCond .ne 5, 3) := by decide +kernel
theorem d_Mod_plain_4 : decode prog_9_method_41_code 4 = .ok (.iconst 3, 1) := by decide +kernel
theorem d_Mod_plain_5 : decode prog_9_method_41_code 5 = .ok (.ireturn, 1) := by decide +kernel
theorem d_Mod_plain_6 : decode prog_9_method_41_code 6 = .ok (.iload_n 2, 1) := by decide +kernel
theorem d_Mod_plain_7 : decode prog_9_method_41_code 7 = .ok (.iconst 2, 1) := by decide +kernel
theorem d_Mod_plain_8 : decode prog_9_method_41_code 8 = .ok (.if_icmp .lt 9, 3) := by decide +kernel
theorem d_Mod_plain_11 : decode prog_9_method_41_code 11 = .ok (.iload_n 2, 1) := by decide +kernel
theorem d_Mod_plain_12 : decode prog_9_method_41_code 12 = .ok (.bipush 6, 2) := by decide +kernel
theorem d_Mod_plain_14 : decode prog_9_method_41_code 14 = .ok (.if_icmp .le 9, 3) := by decide +kernel
theorem d_Mod_plain_17 : decode prog_9_method_41_code 17 = .ok (.iload_n 2, 1) := by decide +kernel
theorem d_Mod_plain_18 : decode prog_9_method_41_code 18 = .ok (.bipush 14, 2) := by decide +kernel
theorem d_Mod_plain_20 : decode prog_9_method_41_code 20 = .ok (.if_icmp .ne 49, 3) := by decide +kernel
theorem d_Mod_plain_23 : decode prog_9_method_41_code 23 = .ok (.aload_n 0, 1) := by decide +kernel
theorem d_Mod_plain_24 : decode prog_9_method_41_code 24 = .ok (.iload_n 1, 1) := by decide +kernel
theorem d_Mod_plain_25 : decode prog_9_method_41_code 25 = .ok (.iconst 1, 1) := by decide +kernel
theorem d_Mod_plain_26 : decode prog_9_method_41_code 26 = .ok (.invokevirtual 167, 3) := by decide +kernel
theorem d_Mod_plain_29 : decode prog_9_method_41_code 29 = .ok (.istore 4, 2) := by decide +kernel
theorem d_Mod_plain_31 : decode prog_9_method_41_code 31 = .ok (.aload_n 0, 1) := by decide +kernel
theorem d_Mod_plain_32 : decode prog_9_method_41_code 32 = .ok (.iload_n 1, 1) := by decide +kernel
theorem d_Mod_plain_33 : decode prog_9_method_41_code 33 = .ok (.iconst 0, 1) := by decide +kernel
theorem d_Mod_plain_34 : decode prog_9_method_41_code 34 = .ok (.invokevirtual 167, 3) := by decide +kernel
theorem d_Mod_plain_37 : decode prog_9_method_41_code 37 = .ok (.istore 5, 2) := by decide +kernel
theorem d_Mod_plain_39 : decode prog_9_method_41_code 39 = .ok (.iload_n 2, 1) := by decide +kernel
theorem d_Mod_plain_40 : decode prog_9_method_41_code 40 = .ok (.iconst 5, 1) := by decide +kernel
theorem d_Mod_plain_41 : decode prog_9_method_41_code 41 = .ok (.if_icmp .ne 11, 3) := by decide +kernel
theorem d_Mod_plain_44 : decode prog_9_method_41_code 44 = .ok (.iload 5, 2) := by decide +kernel
theorem d_Mod_plain_46 : decode prog_9_method_41_code 46 = .ok (.ifCond .ne 6, 3) := by decide +kernel
theorem d_Mod_plain_49 : decode prog_9_method_41_code 49 = .ok (.bipush 6, 2) := by decide +kernel
theorem d_Mod_plain_51 : decode prog_9_method_41_code 51 = .ok (.ireturn, 1) := by decide +kernel
theorem d_Mod_plain_52 : decode prog_9_method_41_code 52 = .ok (.aload_n 0, 1) := by decide +kernel
theorem d_Mod_plain_53 : decode prog_9_method_41_code 53 = .ok (.iload_n 1, 1) := by decide +kernel
theorem d_Mod_plain_54 : decode prog_9_method_41_code 54 = .ok (.iconst 2, 1) := by decide +kernel
theorem d_Mod_plain_55 : decode prog_9_method_41_code 55 = .ok (.iload_n 2, 1) := by decide +kernel
theorem d_Mod_plain_56 : decode prog_9_method_41_code 56 = .ok (.iload 4, 2) := by decide +kernel
theorem d_Mod_plain_58 : decode prog_9_method_41_code 58 = .ok (.iload 5, 2) := by decide +kernel
theorem d_Mod_plain_60 : decode prog_9_method_41_code 60 = .ok (.invokestatic 205, 3) := by decide +kernel
theorem d_Mod_plain_63 : decode prog_9_method_41_code 63 = .ok (.invokevirtual 170, 3) := by decide +kernel
theorem d_Mod_plain_66 : decode prog_9_method_41_code 66 = .ok (.goto 149, 3) := by decide +kernel
theorem d_Mod_plain_69 : decode prog_9_method_41_code 69 = .ok (.iload_n 2, 1) := by decide +kernel
theorem d_Mod_plain_70 : decode prog_9_method_41_code 70 = .ok (.iconst 1, 1) := by decide +kernel
theorem d_Mod_plain_71 : decode prog_9_method_41_code 71 = .ok (.if_icmp .ne 13, 3) := by decide +kernel
theorem d_Mod_plain_74 : decode prog_9_method_41_code 74 = .ok (.aload_n 0, 1) := by decide +kernel
theorem d_Mod_plain_75 : decode prog_9_method_41_code 75 = .ok (.iload_n 1, 1) := by decide +kernel
theorem d_Mod_plain_76 : decode prog_9_method_41_code 76 = .ok (.iconst 0, 1) := by decide +kernel
theorem d_Mod_plain_77 : decode prog_9_method_41_code 77 = .ok (.iload_n 3, 1) := by decide +kernel
theorem d_Mod_plain_78 : decode prog_9_method_41_code 78 = .ok (.invokevirtual 170, 3) := by decide +kernel
theorem d_Mod_plain_81 : decode prog_9_method_41_code 81 = .ok (.goto 134, 3) := by decide +kernel
theorem d_Mod_plain_84 : decode prog_9_method_41_code 84 = .ok (.iload_n 2, 1) := by decide +kernel
theorem d_Mod_plain_85 : decode prog_9_method_41_code 85 = .ok (.bipush 7, 2) := by decide +kernel
theorem d_Mod_plain_87 : decode prog_9_method_41_code 87 = .ok (.if_icmp .ne 22, 3) := by decide +kernel
theorem d_Mod_plain_90 : decode prog_9_method_41_code 90 = .ok (.aload_n 0, 1) := by decide +kernel
theorem d_Mod_plain_91 : decode prog_9_method_41_code 91 = .ok (.iload_n 1, 1) := by decide +kernel
theorem d_Mod_plain_92 : decode prog_9_method_41_code 92 = .ok (.iconst 0, 1) := by decide +kernel
theorem d_Mod_plain_93 : decode prog_9_method_41_code 93 = .ok (.aload_n 0, 1) := by decide +kernel
theorem d_Mod_plain_94 : decode prog_9_method_41_code 94 = .ok (.getfield 77, 3) := by decide +kernel
theorem d_Mod_plain_97 : decode prog_9_method_41_code 97 = .ok (.iconst 4, 1) := by decide +kernel
theorem d_Mod_plain_98 : decode prog_9_method_41_code 98 = .ok (.iload_n 1, 1) := by decide +kernel
theorem d_Mod_plain_99 : decode prog_9_method_41_code 99 = .ok (.imul, 1) := by decide +kernel
theorem d_Mod_plain_100 : decode prog_9_method_41_code 100 = .ok (.iload_n 3, 1) := by decide +kernel
theorem d_Mod_plain_101 : decode prog_9_method_41_code 101 = .ok (.iadd, 1) := by decide +kernel
theorem d_Mod_plain_102 : decode prog_9_method_41_code 102 = .ok (.iaload, 1) := by decide +kernel
theorem d_Mod_plain_103 : decode prog_9_method_41_code 103 = .ok (.invokevirtual 170, 3) := by decide +kernel
theorem d_Mod_plain_106 : decode prog_9_method_41_code 106 = .ok (.goto 109, 3) := by decide +kernel
theorem d_Mod_plain_109 : decode prog_9_method_41_code 109 = .ok (.iload_n 2, 1) := by decide +kernel
theorem d_Mod_plain_110 : decode prog_9_method_41_code 110 = .ok (.bipush 9, 2) := by decide +kernel
theorem d_Mod_plain_112 : decode prog_9_method_41_code 112 = .ok (.if_icmp .ne 18, 3) := by decide +kernel
theorem d_Mod_plain_115 : decode prog_9_method_41_code 115 = .ok (.aload_n 0, 1) := by decide +kernel
theorem d_Mod_plain_116 : decode prog_9_method_41_code 116 = .ok (.iload_n 1, 1) := by decide +kernel
theorem d_Mod_plain_117 : decode prog_9_method_41_code 117 = .ok (.iconst 0, 1) := by decide +kernel
theorem d_Mod_plain_118 : decode prog_9_method_41_code 118 = .ok (.aload_n 0, 1) := by decide +kernel
theorem d_Mod_plain_119 : decode prog_9_method_41_code 119 = .ok (.iload_n 1, 1) := by decide +kernel
theorem d_Mod_plain_120 : decode prog_9_method_41_code 120 = .ok (.iconst 0, 1) := by decide +kernel
theorem d_Mod_plain_121 : decode prog_9_method_41_code 121 = .ok (.invokevirtual 167, 3) := by decide +kernel
theorem d_Mod_plain_124 : decode prog_9_method_41_code 124 = .ok (.invokevirtual 170, 3) := by decide +kernel
theorem d_Mod_plain_127 : decode prog_9_method_41_code 127 = .ok (.goto 88, 3) := by decide +kernel
theorem d_Mod_plain_130 : decode prog_9_method_41_code 130 = .ok (.iload_n 2, 1) := by decide +kernel
theorem d_Mod_plain_131 : decode prog_9_method_41_code 131 = .ok (.bipush 15, 2) := by decide +kernel
theorem d_Mod_plain_133 : decode prog_9_method_41_code 133 = .ok (.if_icmp .ne 13, 3) := by decide +kernel
theorem d_Mod_plain_136 : decode prog_9_method_41_code 136 = .ok (.aload_n 0, 1) := by decide +kernel
theorem d_Mod_plain_137 : decode prog_9_method_41_code 137 = .ok (.iload_n 1, 1) := by decide +kernel
theorem d_Mod_plain_138 : decode prog_9_method_41_code 138 = .ok (.iconst 0, 1) := by decide +kernel
theorem d_Mod_plain_139 : decode prog_9_method_41_code 139 = .ok (.iconst (-1), 1) := by decide +kernel
theorem d_Mod_plain_140 : decode prog_9_method_41_code 140 = .ok (.invokevirtual 170, 3) := by decide +kernel
theorem d_Mod_plain_143 : decode prog_9_method_41_code 143 = .ok (.goto 72, 3) := by decide +kernel
theorem d_Mod_plain_146 : decode prog_9_method_41_code 146 = .ok (.iload_n 2, 1) := by decide +kernel
theorem d_Mod_plain_147 : decode prog_9_method_41_code 147 = .ok (.bipush 16, 2) := by decide +kernel
theorem d_Mod_plain_149 : decode prog_9_method_41_code 149 = .ok (.if_icmp .ne 28, 3) := by decide +kernel
theorem d_Mod_plain_152 : decode prog_9_method_41_code 152 = .ok (.aload_n 0, 1) := by decide +kernel
theorem d_Mod_plain_153 : decode prog_9_method_41_code 153 = .ok (.iload_n 1, 1) := by decide +kernel
theorem d_Mod_plain_154 : decode prog_9_method_41_code 154 = .ok (.iconst 0, 1) := by decide +kernel
theorem d_Mod_plain_155 : decode prog_9_method_41_code 155 = .ok (.iload_n 3, 1) := by decide +kernel
theorem d_Mod_plain_156 : decode prog_9_method_41_code 156 = .ok (.aload_n 0, 1) := by decide +kernel
theorem d_Mod_plain_157 : decode prog_9_method_41_code 157 = .ok (.getfield 134, 3) := by decide +kernel
theorem d_Mod_plain_160 : decode prog_9_method_41_code 160 = .ok (.if_icmp .ge 10, 3) := by decide +kernel
theorem d_Mod_plain_163 : decode prog_9_method_41_code 163 = .ok (.bipush 96, 2) := by decide +kernel
theorem d_Mod_plain_165 : decode prog_9_method_41_code 165 = .ok (.iload_n 3, 1) := by decide +kernel
theorem d_Mod_plain_166 : decode prog_9_method_41_code 166 = .ok (.iadd, 1) := by decide +kernel
theorem d_Mod_plain_167 : decode prog_9_method_41_code 167 = .ok (.goto 4, 3) := by decide +kernel
theorem d_Mod_plain_170 : decode prog_9_method_41_code 170 = .ok (.iconst (-1), 1) := by decide +kernel
theorem d_Mod_plain_171 : decode prog_9_method_41_code 171 = .ok (.invokevirtual 170, 3) := by decide +kernel
theorem d_Mod_plain_174 : decode prog_9_method_41_code 174 = .ok (.goto 41, 3) := by decide +kernel
theorem d_Mod_plain_177 : decode prog_9_method_41_code 177 = .ok (.iload_n 2, 1) := by decide +kernel
theorem d_Mod_plain_178 : decode prog_9_method_41_code 178 = .ok (.bipush 17, 2) := by decide +kernel
theorem d_Mod_plain_180 : decode prog_9_method_41_code 180 = .ok (.if_icmp .eq 35, 3) := by decide +kernel
theorem d_Mod_plain_183 : decode prog_9_method_41_code 183 = .ok (.iload_n 2, 1) := by decide +kernel
theorem d_Mod_plain_184 : decode prog_9_method_41_code 184 = .ok (.bipush 8, 2) := by decide +kernel
theorem d_Mod_plain_186 : decode prog_9_method_41_code 186 = .ok (.if_icmp .ne 19, 3) := by decide +kernel
theorem d_Mod_plain_189 : decode prog_9_method_41_code 189 = .ok (.aload_n 0, 1) := by decide +kernel
theorem d_Mod_plain_190 : decode prog_9_method_41_code 190 = .ok (.getfield 77, 3) := by decide +kernel
theorem d_Mod_plain_193 : decode prog_9_method_41_code 193 = .ok (.iconst 4, 1) := by decide +kernel
theorem d_Mod_plain_194 : decode prog_9_method_41_code 194 = .ok (.iload_n 1, 1) := by decide +kernel
theorem d_Mod_plain_195 : decode prog_9_method_41_code 195 = .ok (.imul, 1) := by decide +kernel
theorem d_Mod_plain_196 : decode prog_9_method_41_code 196 = .ok (.iload_n 3, 1) := by decide +kernel
theorem d_Mod_plain_197 : decode prog_9_method_41_code 197 = .ok (.iadd, 1) := by decide +kernel
theorem d_Mod_plain_198 : decode prog_9_method_41_code 198 = .ok (.aload_n 0, 1) := by decide +kernel
theorem d_Mod_plain_199 : decode prog_9_method_41_code 199 = .ok (.iload_n 1, 1) := by decide +kernel
theorem d_Mod_plain_200 : decode prog_9_method_41_code 200 = .ok (.iconst 0, 1) := by decide +kernel
theorem d_Mod_plain_201 : decode prog_9_method_41_code 201 = .ok (.invokevirtual 167, 3) := by decide +kernel
theorem d_Mod_plain_204 : decode prog_9_method_41_code 204 = .ok (.iastore, 1) := by decide +kernel
theorem d_Mod_plain_205 : decode prog_9_method_41_code 205 = .ok (.aload_n 0, 1) := by decide +kernel
theorem d_Mod_plain_206 : decode prog_9_method_41_code 206 = .ok (.getfield 71, 3) := by decide +kernel
theorem d_Mod_plain_209 : decode prog_9_method_41_code 209 = .ok (.iload_n 1, 1) := by decide +kernel
theorem d_Mod_plain_210 : decode prog_9_method_41_code 210 = .ok (.dup2, 1) := by decide +kernel
theorem d_Mod_plain_211 : decode prog_9_method_41_code 211 = .ok (.iaload, 1) := by decide +kernel
theorem d_Mod_plain_212 : decode prog_9_method_41_code 212 = .ok (.iconst 1, 1) := by decide +kernel
theorem d_Mod_plain_213 : decode prog_9_method_41_code 213 = .ok (.isub, 1) := by decide +kernel
theorem d_Mod_plain_214 : decode prog_9_method_41_code 214 = .ok (.iastore, 1) := by decide +kernel
theorem d_Mod_plain_215 : decode prog_9_method_41_code 215 = .ok (.iconst 0, 1) := by decide +kernel
theorem d_Mod_plain_216 : decode prog_9_method_41_code 216 = .ok (.ireturn, 1) := by decide +kernel
theorem d_Mod_copied_0 : decode prog_9_method_23_code 0 = .ok (.iload_n 1, 1) := by decide +kernel
theorem d_Mod_copied_1 : decode prog_9_method_23_code 1 = .ok (.ifCond .lt 21, 3) := by decide +kernel
theorem d_Mod_copied_4 : decode prog_9_method_23_code 4 = .ok (.aload_n 0, 1) := by decide +kernel
theorem d_Mod_copied_5 : decode prog_9_method_23_code 5 = .ok (.getfield 41, 3) := by decide +kernel
theorem d_Mod_copied_8 : decode prog_9_method_23_code 8 = .ok (.iload_n 1, 1) := by decide +kernel
theorem d_Mod_copied_9 : decode prog_9_method_23_code 9 = .ok (.baload, 1) := by decide +kernel
theorem d_Mod_copied_10 : decode prog_9_method_23_code 10 = .ok (.ifCond .eq 12, 3) := by decide +kernel
theorem d_Mod_copied_13 : decode prog_9_method_23_code 13 = .ok (.aload_n 0, 1) := by decide +kernel
theorem d_Mod_copied_14 : decode prog_9_method_23_code 14 = .ok (.getfield 44, 3) := by decide +kernel
theorem d_Mod_copied_17 : decode prog_9_method_23_code 17 = .ok (.iload_n 1, 1) := by decide +kernel
theorem d_Mod_copied_18 : decode prog_9_method_23_code 18 = .ok (.iaload, 1) := by decide +kernel
theorem d_Mod_copied_19 : decode prog_9_method_23_code 19 = .ok (.goto 4, 3) := by decide +kernel
theorem d_Mod_copied_22 : decode prog_9_method_23_code 22 = .ok (.iload_n 1, 1) := by decide +kernel
theorem d_Mod_copied_23 : decode prog_9_method_23_code 23 = .ok (.ireturn, 1) := by decide +kernel
theorem d_Mod_copy_0 : decode prog_9_method_24_code 0 = .ok (.iconst 0, 1) := by decide +kernel
theorem d_Mod_copy_1 : decode prog_9_method_24_code 1 = .ok (.istore_n 3, 1) := by decide +kernel
theorem d_Mod_copy_2 : decode prog_9_method_24_code 2 = .ok (.iload_n 3, 1) := by decide +kernel
theorem d_Mod_copy_3 : decode prog_9_method_24_code 3 = .ok (.bipush 96, 2) := by decide +kernel
theorem d_Mod_copy_5 : decode prog_9_method_24_code 5 = .ok (.if_icmp .ge 35, 3) := by decide +kernel
theorem d_Mod_copy_8 : decode prog_9_method_24_code 8 = .ok (.aload_n 0, 1) := by decide +kernel
theorem d_Mod_copy_9 : decode prog_9_method_24_code 9 = .ok (.getfield 41, 3) := by decide +kernel
theorem d_Mod_copy_12 : decode prog_9_method_24_code 12 = .ok (.iload_n 3, 1) := by decide +kernel
theorem d_Mod_copy_13 : decode prog_9_method_24_code 13 = .ok (.baload, 1) := by decide +kernel
theorem d_Mod_copy_14 : decode prog_9_method_24_code 14 = .ok (.ifCond .eq 20, 3) := by decide +kernel
theorem d_Mod_copy_17 : decode prog_9_method_24_code 17 = .ok (.aload_n 0, 1) := by decide +kernel
theorem d_Mod_copy_18 : decode prog_9_method_24_code 18 = .ok (.getfield 44, 3) := by decide +kernel
theorem d_Mod_copy_21 : decode prog_9_method_24_code 21 = .ok (.iload_n 3, 1) := by decide +kernel
theorem d_Mod_copy_22 : decode prog_9_method_24_code 22 = .ok (.aload_n 0, 1) := by decide +kernel
theorem d_Mod_copy_23 : decode prog_9_method_24_code 23 = .ok (.iload_n 2, 1) := by decide +kernel
theorem d_Mod_copy_24 : decode prog_9_method_24_code 24 = .ok (.aload_n 0, 1) := by decide +kernel
theorem d_Mod_copy_25 : decode prog_9_method_24_code 25 = .ok (.getfield 29, 3) := by decide +kernel
theorem d_Mod_copy_28 : decode prog_9_method_24_code 28 = .ok (.iload_n 3, 1) := by decide +kernel
theorem d_Mod_copy_29 : decode prog_9_method_24_code 29 = .ok (.iaload, 1) := by decide +kernel
theorem d_Mod_copy_30 : decode prog_9_method_24_code 30 = .ok (.invokevirtual 154, 3) := by decide +kernel
theorem d_Mod_copy_33 : decode prog_9_method_24_code 33 = .ok (.iastore, 1) := by decide +kernel
theorem d_Mod_copy_34 : decode prog_9_method_24_code 34 = .ok (.iinc 3 1, 3) := by decide +kernel
theorem d_Mod_copy_37 : decode prog_9_method_24_code 37 = .ok (.goto (-35), 3) := by decide +kernel
theorem d_Mod_copy_40 : decode prog_9_method_24_code 40 = .ok (.iconst 0, 1) := by decide +kernel
theorem d_Mod_copy_41 : decode prog_9_method_24_code 41 = .ok (.istore_n 3, 1) := by decide +kernel
theorem d_Mod_copy_42 : decode prog_9_method_24_code 42 = .ok (.iload_n 3, 1) := by decide +kernel
theorem d_Mod_copy_43 : decode prog_9_method_24_code 43 = .ok (.bipush 96, 2) := by decide +kernel
theorem d_Mod_copy_45 : decode prog_9_method_24_code 45 = .ok (.if_icmp .ge 60, 3) := by decide +kernel
theorem d_Mod_copy_48 : decode prog_9_method_24_code 48 = .ok (.aload_n 0, 1) := by decide +kernel
theorem d_Mod_copy_49 : decode prog_9_method_24_code 49 = .ok (.getfield 41, 3) := by decide +kernel
theorem d_Mod_copy_52 : decode prog_9_method_24_code 52 = .ok (.iload_n 3, 1) := by decide +kernel
theorem d_Mod_copy_53 : decode prog_9_method_24_code 53 = .ok (.baload, 1) := by decide +kernel
theorem d_Mod_copy_54 : decode prog_9_method_24_code 54 = .ok (.ifCond .eq 45, 3) := by decide +kernel
theorem d_Mod_copy_57 : decode prog_9_method_24_code 57 = .ok (.aload_n 0, 1) := by decide +kernel
theorem d_Mod_copy_58 : decode prog_9_method_24_code 58 = .ok (.getfield 32, 3) := by decide +kernel
theorem d_Mod_copy_61 : decode prog_9_method_24_code 61 = .ok (.aload_n 0, 1) := by decide +kernel
theorem d_Mod_copy_62 : decode prog_9_method_24_code 62 = .ok (.getfield 44, 3) := by decide +kernel
theorem d_Mod_copy_65 : decode prog_9_method_24_code 65 = .ok (.iload_n 3, 1) := by decide +kernel
theorem d_Mod_copy_66 : decode prog_9_method_24_code 66 = .ok (.iaload, 1) := by decide +kernel
theorem d_Mod_copy_67 : decode prog_9_method_24_code 67 = .ok (.aload_n 0, 1) := by decide +kernel
theorem d_Mod_copy_68 : decode prog_9_method_24_code 68 = .ok (.aload_n 0, 1) := by decide +kernel
theorem d_Mod_copy_69 : decode prog_9_method_24_code 69 = .ok (.getfield 32, 3) := by decide +kernel
theorem d_Mod_copy_72 : decode prog_9_method_24_code 72 = .ok (.iload_n 3, 1) := by decide +kernel
theorem d_Mod_copy_73 : decode prog_9_method_24_code 73 = .ok (.iaload, 1) := by decide +kernel
theorem d_Mod_copy_74 : decode prog_9_method_24_code 74 = .ok (.invokevirtual 158, 3) := by decide +kernel
theorem d_Mod_copy_77 : decode prog_9_method_24_code 77 = .ok (.iastore, 1) := by decide +kernel
theorem d_Mod_copy_78 : decode prog_9_method_24_code 78 = .ok (.aload_n 0, 1) := by decide +kernel
theorem d_Mod_copy_79 : decode prog_9_method_24_code 79 = .ok (.getfield 35, 3) := by decide +kernel
theorem d_Mod_copy_82 : decode prog_9_method_24_code 82 = .ok (.aload_n 0, 1) := by decide +kernel
theorem d_Mod_copy_83 : decode prog_9_method_24_code 83 = .ok (.getfield 44, 3) := by decide +kernel
theorem d_Mod_copy_86 : decode prog_9_method_24_code 86 = .ok (.iload_n 3, 1) := by decide +kernel
theorem d_Mod_copy_87 : decode prog_9_method_24_code 87 = .ok (.iaload, 1) := by decide +kernel
theorem d_Mod_copy_88 : decode prog_9_method_24_code 88 = .ok (.aload_n 0, 1) := by decide +kernel
theorem d_Mod_copy_89 : decode prog_9_method_24_code 89 = .ok (.aload_n 0, 1) := by decide +kernel
theorem d_Mod_copy_90 : decode prog_9_method_24_code 90 = .ok (.getfield 35, 3) := by decide +kernel
theorem d_Mod_copy_93 : decode prog_9_method_24_code 93 = .ok (.iload_n 3, 1) := by decide +kernel
theorem d_Mod_copy_94 : decode prog_9_method_24_code 94 = .ok (.iaload, 1) := by decide +kernel
theorem d_Mod_copy_95 : decode prog_9_method_24_code 95 = .ok (.invokevirtual 158, 3) := by decide +kernel
theorem d_Mod_copy_98 : decode prog_9_method_24_code 98 = .ok (.iastore, 1) := by decide +kernel
theorem d_Mod_copy_99 : decode prog_9_method_24_code 99 = .ok (.iinc 3 1, 3) := by decide +kernel
theorem d_Mod_copy_102 : decode prog_9_method_24_code 102 = .ok (.goto (-60), 3) := by decide +kernel
theorem d_Mod_copy_105 : decode prog_9_method_24_code 105 = .ok (.aload_n 0, 1) := by decide +kernel
theorem d_Mod_copy_106 : decode prog_9_method_24_code 106 = .ok (.iload_n 1, 1) := by decide +kernel
theorem d_Mod_copy_107 : decode prog_9_method_24_code 107 = .ok (.invokevirtual 158, 3) := by decide +kernel
theorem d_Mod_copy_110 : decode prog_9_method_24_code 110 = .ok (.ireturn, 1) := by decide +kernel
theorem d_Mod_toCopy_0 : decode prog_9_method_22_code 0 = .ok (.iconst 0, 1) := by decide +kernel
theorem d_Mod_toCopy_1 : decode prog_9_method_22_code 1 = .ok (.istore_n 2, 1) := by decide +kernel
theorem d_Mod_toCopy_2 : decode prog_9_method_22_code 2 = .ok (.iload_n 2, 1) := by decide +kernel
theorem d_Mod_toCopy_3 : decode prog_9_method_22_code 3 = .ok (.bipush 104, 2) := by decide +kernel
theorem d_Mod_toCopy_5 : decode prog_9_method_22_code 5 = .ok (.if_icmp .ge 25, 3) := by decide +kernel
theorem d_Mod_toCopy_8 : decode prog_9_method_22_code 8 = .ok (.aload_n 0, 1) := by decide +kernel
theorem d_Mod_toCopy_9 : decode prog_9_method_22_code 9 = .ok (.getfield 38, 3) := by decide +kernel
theorem d_Mod_toCopy_12 : decode prog_9_method_22_code 12 = .ok (.iload_n 2, 1) := by decide +kernel
theorem d_Mod_toCopy_13 : decode prog_9_method_22_code 13 = .ok (.iload_n 2, 1) := by decide +kernel
theorem d_Mod_toCopy_14 : decode prog_9_method_22_code 14 = .ok (.iload_n 1, 1) := by decide +kernel
theorem d_Mod_toCopy_15 : decode prog_9_method_22_code 15 = .ok (.if_icmp .ne 7, 3) := by decide +kernel
theorem d_Mod_toCopy_18 : decode prog_9_method_22_code 18 = .ok (.iconst 1, 1) := by decide +kernel
theorem d_Mod_toCopy_19 : decode prog_9_method_22_code 19 = .ok (.goto 4, 3) := by decide +kernel
theorem d_Mod_toCopy_22 : decode prog_9_method_22_code 22 = .ok (.iconst 0, 1) := by decide +kernel
theorem d_Mod_toCopy_23 : decode prog_9_method_22_code 23 = .ok (.bastore, 1) := by decide +kernel
theorem d_Mod_toCopy_24 : decode prog_9_method_22_code 24 = .ok (.iinc 2 1, 3) := by decide +kernel
theorem d_Mod_toCopy_27 : decode prog_9_method_22_code 27 = .ok (.goto (-25), 3) := by decide +kernel
theorem d_Mod_toCopy_30 : decode prog_9_method_22_code 30 = .ok (.aload_n 0, 1) := by decide +kernel
theorem d_Mod_toCopy_31 : decode prog_9_method_22_code 31 = .ok (.invokevirtual 144, 3) := by decide +kernel
theorem d_Mod_toCopy_34 : decode prog_9_method_22_code 34 = .ok (.iconst 0, 1) := by decide +kernel
theorem d_Mod_toCopy_35 : decode prog_9_method_22_code 35 = .ok (.istore_n 2, 1) := by decide +kernel
theorem d_Mod_toCopy_36 : decode prog_9_method_22_code 36 = .ok (.iconst 0, 1) := by decide +kernel
theorem d_Mod_toCopy_37 : decode prog_9_method_22_code 37 = .ok (.istore_n 3, 1) := by decide +kernel
theorem d_Mod_toCopy_38 : decode prog_9_method_22_code 38 = .ok (.iload_n 3, 1) := by decide +kernel
theorem d_Mod_toCopy_39 : decode prog_9_method_22_code 39 = .ok (.bipush 104, 2) := by decide +kernel
theorem d_Mod_toCopy_41 : decode prog_9_method_22_code 41 = .ok (.if_icmp .ge 52, 3) := by decide +kernel
theorem d_Mod_toCopy_44 : decode prog_9_method_22_code 44 = .ok (.aload_n 0, 1) := by decide +kernel
theorem d_Mod_toCopy_45 : decode prog_9_method_22_code 45 = .ok (.getfield 41, 3) := by decide +kernel
theorem d_Mod_toCopy_48 : decode prog_9_method_22_code 48 = .ok (.iload_n 3, 1) := by decide +kernel
theorem d_Mod_toCopy_49 : decode prog_9_method_22_code 49 = .ok (.aload_n 0, 1) := by decide +kernel
theorem d_Mod_toCopy_50 : decode prog_9_method_22_code 50 = .ok (.getfield 38, 3) := by decide +kernel
theorem d_Mod_toCopy_53 : decode prog_9_method_22_code 53 = .ok (.iload_n 3, 1) := by decide +kernel
theorem d_Mod_toCopy_54 : decode prog_9_method_22_code 54 = .ok (.baload, 1) := by decide +kernel
theorem d_Mod_toCopy_55 : decode prog_9_method_22_code 55 = .ok (.ifCond .eq 13, 3) := by decide +kernel
theorem d_Mod_toCopy_58 : decode prog_9_method_22_code 58 = .ok (.iload_n 3, 1) := by decide +kernel
theorem d_Mod_toCopy_59 : decode prog_9_method_22_code 59 = .ok (.bipush 96, 2) := by decide +kernel
theorem d_Mod_toCopy_61 : decode prog_9_method_22_code 61 = .ok (.if_icmp .ge 7, 3) := by decide +kernel
theorem d_Mod_toCopy_64 : decode prog_9_method_22_code 64 = .ok (.iconst 1, 1) := by decide +kernel
theorem d_Mod_toCopy_65 : decode prog_9_method_22_code 65 = .ok (.goto 4, 3) := by decide +kernel
theorem d_Mod_toCopy_68 : decode prog_9_method_22_code 68 = .ok (.iconst 0, 1) := by decide +kernel
theorem d_Mod_toCopy_69 : decode prog_9_method_22_code 69 = .ok (.bastore, 1) := by decide +kernel
theorem d_Mod_toCopy_70 : decode prog_9_method_22_code 70 = .ok (.iload_n 2, 1) := by decide +kernel
theorem d_Mod_toCopy_71 : decode prog_9_method_22_code 71 = .ok (.aload_n 0, 1) := by decide +kernel
theorem d_Mod_toCopy_72 : decode prog_9_method_22_code 72 = .ok (.getfield 41, 3) := by decide +kernel
theorem d_Mod_toCopy_75 : decode prog_9_method_22_code 75 = .ok (.iload_n 3, 1) := by decide +kernel
theorem d_Mod_toCopy_76 : decode prog_9_method_22_code 76 = .ok (.baload, 1) := by decide +kernel
theorem d_Mod_toCopy_77 : decode prog_9_method_22_code 77 = .ok (.ifCond .eq 7, 3) := by decide +kernel
theorem d_Mod_toCopy_80 : decode prog_9_method_22_code 80 = .ok (.iconst 1, 1) := by decide +kernel
theorem d_Mod_toCopy_81 : decode prog_9_method_22_code 81 = .ok (.goto 4, 3) := by decide +kernel
theorem d_Mod_toCopy_84 : decode prog_9_method_22_code 84 = .ok (.iconst 0, 1) := by decide +kernel
theorem d_Mod_toCopy_85 : decode prog_9_method_22_code 85 = .ok (.iadd, 1) := by decide +kernel
theorem d_Mod_toCopy_86 : decode prog_9_method_22_code 86 = .ok (.istore_n 2, 1) := by decide +kernel
theorem d_Mod_toCopy_87 : decode prog_9_method_22_code 87 = .ok (.iinc 3 1, 3) := by decide +kernel
theorem d_Mod_toCopy_90 : decode prog_9_method_22_code 90 = .ok (.goto (-52), 3) := by decide +kernel
theorem d_Mod_toCopy_93 : decode prog_9_method_22_code 93 = .ok (.iload_n 2, 1) := by decide +kernel
theorem d_Mod_toCopy_94 : decode prog_9_method_22_code 94 = .ok (.ireturn, 1) := by decide +kernel
theorem d_Mod_send_0 : decode prog_9_method_35_code 0 = .ok (.aload_n 0, 1) := by decide +kernel
theorem d_Mod_send_1 : decode prog_9_method_35_code 1 = .ok (.getfield 98, 3) := by decide +kernel
theorem d_Mod_send_4 : decode prog_9_method_35_code 4 = .ok (.iconst 4, 1) := by decide +kernel
theorem d_Mod_send_5 : decode prog_9_method_35_code 5 = .ok (.iload_n 1, 1) := by decide +kernel
theorem d_Mod_send_6 : decode prog_9_method_35_code 6 = .ok (.imul, 1) := by decide +kernel
theorem d_Mod_send_7 : decode prog_9_method_35_code 7 = .ok (.iload_n 2, 1) := by decide +kernel
theorem d_Mod_send_8 : decode prog_9_method_35_code 8 = .ok (.iadd, 1) := by decide +kernel
theorem d_Mod_send_9 : decode prog_9_method_35_code 9 = .ok (.iaload, 1) := by decide +kernel
theorem d_Mod_send_10 : decode prog_9_method_35_code 10 = .ok (.iconst 2, 1) := by decide +kernel
theorem d_Mod_send_11 : decode prog_9_method_35_code 11 = .ok (.irem, 1) := by decide +kernel
theorem d_Mod_send_12 : decode prog_9_method_35_code 12 = .ok (.ifCond .ne 6, 3) := by decide +kernel
theorem d_Mod_send_15 : decode prog_9_method_35_code 15 = .ok (.bipush 10, 2) := by decide +kernel
theorem d_Mod_send_17 : decode prog_9_method_35_code 17 = .ok (.ireturn, 1) := by decide +kernel
theorem d_Mod_send_18 : decode prog_9_method_35_code 18 = .ok (.aload_n 0, 1) := by decide +kernel
theorem d_Mod_send_19 : decode prog_9_method_35_code 19 = .ok (.iload_n 1, 1) := by decide +kernel
theorem d_Mod_send_20 : decode prog_9_method_35_code 20 = .ok (.iconst 0, 1) := by decide +kernel
theorem d_Mod_send_21 : decode prog_9_method_35_code 21 = .ok (.invokevirtual 167, 3) := by decide +kernel
theorem d_Mod_send_24 : decode prog_9_method_35_code 24 = .ok (.istore_n 3, 1) := by decide +kernel
theorem d_Mod_send_25 : decode prog_9_method_35_code 25 = .ok (.aload_n 0, 1) := by decide +kernel
theorem d_Mod_send_26 : decode prog_9_method_35_code 26 = .ok (.iload_n 2, 1) := by decide +kernel
theorem d_Mod_send_27 : decode prog_9_method_35_code 27 = .ok (.invokevirtual 174, 3) := by decide +kernel
theorem d_Mod_send_30 : decode prog_9_method_35_code 30 = .ok (.ifCond .eq 17, 3) := by decide +kernel
theorem d_Mod_send_33 : decode prog_9_method_35_code 33 = .ok (.aload_n 0, 1) := by decide +kernel
theorem d_Mod_send_34 : decode prog_9_method_35_code 34 = .ok (.getfield 83, 3) := by decide +kernel
theorem d_Mod_send_37 : decode prog_9_method_35_code 37 = .ok (.iload_n 2, 1) := by decide +kernel
theorem d_Mod_send_38 : decode prog_9_method_35_code 38 = .ok (.iaload, 1) := by decide +kernel
theorem d_Mod_send_39 : decode prog_9_method_35_code 39 = .ok (.iconst 4, 1) := by decide +kernel
theorem d_Mod_send_40 : decode prog_9_method_35_code 40 = .ok (.if_icmp .ge 7, 3) := by decide +kernel
theorem d_Mod_send_43 : decode prog_9_method_35_code 43 = .ok (.iconst 1, 1) := by decide +kernel
theorem d_Mod_send_44 : decode prog_9_method_35_code 44 = .ok (.goto 4, 3) := by decide +kernel
theorem d_Mod_send_47 : decode prog_9_method_35_code 47 = .ok (.iconst 0, 1) := by decide +kernel
theorem d_Mod_send_48 : decode prog_9_method_35_code 48 = .ok (.istore 4, 2) := by decide +kernel
theorem d_Mod_send_50 : decode prog_9_method_35_code 50 = .ok (.aload_n 0, 1) := by decide +kernel
theorem d_Mod_send_51 : decode prog_9_method_35_code 51 = .ok (.iload_n 3, 1) := by decide +kernel
theorem d_Mod_send_52 : decode prog_9_method_35_code 52 = .ok (.invokevirtual 177, 3) := by decide +kernel
theorem d_Mod_send_55 : decode prog_9_method_35_code 55 = .ok (.istore 5, 2) := by decide +kernel
theorem d_Mod_send_57 : decode prog_9_method_35_code 57 = .ok (.iload 4, 2) := by decide +kernel
theorem d_Mod_send_59 : decode prog_9_method_35_code 59 = .ok (.ifCond .eq 12, 3) := by decide +kernel
theorem d_Mod_send_62 : decode prog_9_method_35_code 62 = .ok (.aload_n 0, 1) := by decide +kernel
theorem d_Mod_send_63 : decode prog_9_method_35_code 63 = .ok (.iload_n 2, 1) := by decide +kernel
theorem d_Mod_send_64 : decode prog_9_method_35_code 64 = .ok (.iload 5, 2) := by decide +kernel
theorem d_Mod_send_66 : decode prog_9_method_35_code 66 = .ok (.invokevirtual 164, 3) := by decide +kernel
theorem d_Mod_send_69 : decode prog_9_method_35_code 69 = .ok (.istore 4, 2) := by decide +kernel
theorem d_Mod_send_71 : decode prog_9_method_35_code 71 = .ok (.iload 4, 2) := by decide +kernel
theorem d_Mod_send_73 : decode prog_9_method_35_code 73 = .ok (.ifCond .eq 34, 3) := by decide +kernel
theorem d_Mod_send_76 : decode prog_9_method_35_code 76 = .ok (.aload_n 0, 1) := by decide +kernel
theorem d_Mod_send_77 : decode prog_9_method_35_code 77 = .ok (.getfield 80, 3) := by decide +kernel
theorem d_Mod_send_80 : decode prog_9_method_35_code 80 = .ok (.iconst 4, 1) := by decide +kernel
theorem d_Mod_send_81 : decode prog_9_method_35_code 81 = .ok (.iload_n 2, 1) := by decide +kernel
theorem d_Mod_send_82 : decode prog_9_method_35_code 82 = .ok (.imul, 1) := by decide +kernel
theorem d_Mod_send_83 : decode prog_9_method_35_code 83 = .ok (.aload_n 0, 1) := by decide +kernel
theorem d_Mod_send_84 : decode prog_9_method_35_code 84 = .ok (.getfield 83, 3) := by decide +kernel
theorem d_Mod_send_87 : decode prog_9_method_35_code 87 = .ok (.iload_n 2, 1) := by decide +kernel
theorem d_Mod_send_88 : decode prog_9_method_35_code 88 = .ok (.iaload, 1) := by decide +kernel
theorem d_Mod_send_89 : decode prog_9_method_35_code 89 = .ok (.iadd, 1) := by decide +kernel
theorem d_Mod_send_90 : decode prog_9_method_35_code 90 = .ok (.aload_n 0, 1) := by decide +kernel
theorem d_Mod_send_91 : decode prog_9_method_35_code 91 = .ok (.iload_n 3, 1) := by decide +kernel
theorem d_Mod_send_92 : decode prog_9_method_35_code 92 = .ok (.iload_n 2, 1) := by decide +kernel
theorem d_Mod_send_93 : decode prog_9_method_35_code 93 = .ok (.invokevirtual 180, 3) := by decide +kernel
theorem d_Mod_send_96 : decode prog_9_method_35_code 96 = .ok (.iastore, 1) := by decide +kernel
theorem d_Mod_send_97 : decode prog_9_method_35_code 97 = .ok (.aload_n 0, 1) := by decide +kernel
theorem d_Mod_send_98 : decode prog_9_method_35_code 98 = .ok (.getfield 83, 3) := by decide +kernel
theorem d_Mod_send_101 : decode prog_9_method_35_code 101 = .ok (.iload_n 2, 1) := by decide +kernel
theorem d_Mod_send_102 : decode prog_9_method_35_code 102 = .ok (.dup2, 1) := by decide +kernel
theorem d_Mod_send_103 : decode prog_9_method_35_code 103 = .ok (.iaload, 1) := by decide +kernel
theorem d_Mod_send_104 : decode prog_9_method_35_code 104 = .ok (.iconst 1, 1) := by decide +kernel
theorem d_Mod_send_105 : decode prog_9_method_35_code 105 = .ok (.iadd, 1) := by decide +kernel
theorem d_Mod_send_106 : decode prog_9_method_35_code 106 = .ok (.iastore, 1) := by decide +kernel
theorem d_Mod_send_107 : decode prog_9_method_35_code 107 = .ok (.aload_n 0, 1) := by decide +kernel
theorem d_Mod_send_108 : decode prog_9_method_35_code 108 = .ok (.iload_n 1, 1) := by decide +kernel
theorem d_Mod_send_109 : decode prog_9_method_35_code 109 = .ok (.iconst 1, 1) := by decide +kernel
theorem d_Mod_send_110 : decode prog_9_method_35_code 110 = .ok (.iload 4, 2) := by decide +kernel
theorem d_Mod_send_112 : decode prog_9_method_35_code 112 = .ok (.ifCond .eq 7, 3) := by decide +kernel
theorem d_Mod_send_115 : decode prog_9_method_35_code 115 = .ok (.iconst 1, 1) := by decide +kernel
theorem d_Mod_send_116 : decode prog_9_method_35_code 116 = .ok (.goto 4, 3) := by decide +kernel
theorem d_Mod_send_119 : decode prog_9_method_35_code 119 = .ok (.iconst 0, 1) := by decide +kernel
