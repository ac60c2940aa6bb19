theorem d_Host_isProgram_0 : decode prog_1_method_22_code 0 = .ok (.iload_n 0, 1) := by decide +kernel
theorem d_Host_isProgram_1 : decode prog_1_method_22_code 1 = .ok (.ifCond .lt 12, 3) := by decide +kernel
theorem d_Host_isProgram_4 : decode prog_1_method_22_code 4 = .ok (.iload_n 0, 1) := by decide +kernel
theorem d_Host_isProgram_5 : decode prog_1_method_22_code 5 = .ok (.iconst 4, 1) := by decide +kernel
theorem d_Host_isProgram_6 : decode prog_1_method_22_code 6 = .ok (.if_icmp .ge 7, 3) := by decide +kernel
theorem d_Host_isProgram_9 : decode prog_1_method_22_code 9 = .ok (.iconst 1, 1) := by decide +kernel
theorem d_Host_isProgram_10 : decode prog_1_method_22_code 10 = .ok (.goto 4, 3) := by decide +kernel
theorem d_Host_isProgram_13 : decode prog_1_method_22_code 13 = .ok (.iconst 0, 1) := by decide +kernel
theorem d_Host_isProgram_14 : decode prog_1_method_22_code 14 = .ok (.ireturn, 1) := by decide +kernel
theorem d_Ins_isOne_0 : decode prog_3_method_2_code 0 = .ok (.iload_n 0, 1) := by decide +kernel
theorem d_Ins_isOne_1 : decode prog_3_method_2_code 1 = .ok (.ifCond .lt 9, 3) := by decide +kernel
theorem d_Ins_isOne_4 : decode prog_3_method_2_code 4 = .ok (.iload_n 0, 1) := by decide +kernel
theorem d_Ins_isOne_5 : decode prog_3_method_2_code 5 = .ok (.bipush 24, 2) := by decide +kernel
theorem d_Ins_isOne_7 : decode prog_3_method_2_code 7 = .ok (.if_icmp .le 5, 3) := by decide +kernel
theorem d_Ins_isOne_10 : decode prog_3_method_2_code 10 = .ok (.iconst 0, 1) := by decide +kernel
theorem d_Ins_isOne_11 : decode prog_3_method_2_code 11 = .ok (.ireturn, 1) := by decide +kernel
theorem d_Ins_isOne_12 : decode prog_3_method_2_code 12 = .ok (.iload_n 0, 1) := by decide +kernel
theorem d_Ins_isOne_13 : decode prog_3_method_2_code 13 = .ok (.iconst 1, 1) := by decide +kernel
theorem d_Ins_isOne_14 : decode prog_3_method_2_code 14 = .ok (.if_icmp .eq 16, 3) := by decide +kernel
theorem d_Ins_isOne_17 : decode prog_3_method_2_code 17 = .ok (.iload_n 1, 1) := by decide +kernel
theorem d_Ins_isOne_18 : decode prog_3_method_2_code 18 = .ok (.ifCond .lt 16, 3) := by decide +kernel
theorem d_Ins_isOne_21 : decode prog_3_method_2_code 21 = .ok (.iload_n 1, 1) := by decide +kernel
theorem d_Ins_isOne_22 : decode prog_3_method_2_code 22 = .ok (.getstatic 9, 3) := by decide +kernel
theorem d_Ins_isOne_25 : decode prog_3_method_2_code 25 = .ok (.iload_n 0, 1) := by decide +kernel
theorem d_Ins_isOne_26 : decode prog_3_method_2_code 26 = .ok (.iaload, 1) := by decide +kernel
theorem d_Ins_isOne_27 : decode prog_3_method_2_code 27 = .ok (.if_icmp .gt 7, 3) := by decide +kernel
theorem d_Ins_isOne_30 : decode prog_3_method_2_code 30 = .ok (.iconst 1, 1) := by decide +kernel
theorem d_Ins_isOne_31 : decode prog_3_method_2_code 31 = .ok (.goto 4, 3) := by decide +kernel
theorem d_Ins_isOne_34 : decode prog_3_method_2_code 34 = .ok (.iconst 0, 1) := by decide +kernel
theorem d_Ins_isOne_35 : decode prog_3_method_2_code 35 = .ok (.ireturn, 1) := by decide +kernel
theorem d_Prog_append_0 : decode prog_5_method_2_code 0 = .ok (.aload_n 0, 1) := by decide +kernel
theorem d_Prog_append_1 : decode prog_5_method_2_code 1 = .ok (.getfield 31, 3) := by decide +kernel
theorem d_Prog_append_4 : decode prog_5_method_2_code 4 = .ok (.ifCond .ne 12, 3) := by decide +kernel
theorem d_Prog_append_7 : decode prog_5_method_2_code 7 = .ok (.aload_n 0, 1) := by decide +kernel
theorem d_Prog_append_8 : decode prog_5_method_2_code 8 = .ok (.getfield 28, 3) := by decide +kernel
theorem d_Prog_append_11 : decode prog_5_method_2_code 11 = .ok (.bipush 24, 2) := by decide +kernel
theorem d_Prog_append_13 : decode prog_5_method_2_code 13 = .ok (.if_icmp .lt 5, 3) := by decide +kernel
theorem d_Prog_append_16 : decode prog_5_method_2_code 16 = .ok (.iconst (-1), 1) := by decide +kernel
theorem d_Prog_append_17 : decode prog_5_method_2_code 17 = .ok (.ireturn, 1) := by decide +kernel
theorem d_Prog_append_18 : decode prog_5_method_2_code 18 = .ok (.aload_n 0, 1) := by decide +kernel
theorem d_Prog_append_19 : decode prog_5_method_2_code 19 = .ok (.getfield 9, 3) := by decide +kernel
theorem d_Prog_append_22 : decode prog_5_method_2_code 22 = .ok (.aload_n 0, 1) := by decide +kernel
theorem d_Prog_append_23 : decode prog_5_method_2_code 23 = .ok (.getfield 28, 3) := by decide +kernel
theorem d_Prog_append_26 : decode prog_5_method_2_code 26 = .ok (.iload_n 1, 1) := by decide +kernel
theorem d_Prog_append_27 : decode prog_5_method_2_code 27 = .ok (.iastore, 1) := by decide +kernel
theorem d_Prog_append_28 : decode prog_5_method_2_code 28 = .ok (.aload_n 0, 1) := by decide +kernel
theorem d_Prog_append_29 : decode prog_5_method_2_code 29 = .ok (.getfield 15, 3) := by decide +kernel
theorem d_Prog_append_32 : decode prog_5_method_2_code 32 = .ok (.aload_n 0, 1) := by decide +kernel
theorem d_Prog_append_33 : decode prog_5_method_2_code 33 = .ok (.getfield 28, 3) := by decide +kernel
theorem d_Prog_append_36 : decode prog_5_method_2_code 36 = .ok (.iload_n 2, 1) := by decide +kernel
theorem d_Prog_append_37 : decode prog_5_method_2_code 37 = .ok (.iastore, 1) := by decide +kernel
theorem d_Prog_append_38 : decode prog_5_method_2_code 38 = .ok (.aload_n 0, 1) := by decide +kernel
theorem d_Prog_append_39 : decode prog_5_method_2_code 39 = .ok (.dup, 1) := by decide +kernel
theorem d_Prog_append_40 : decode prog_5_method_2_code 40 = .ok (.getfield 28, 3) := by decide +kernel
theorem d_Prog_append_43 : decode prog_5_method_2_code 43 = .ok (.iconst 1, 1) := by decide +kernel
theorem d_Prog_append_44 : decode prog_5_method_2_code 44 = .ok (.iadd, 1) := by decide +kernel
theorem d_Prog_append_45 : decode prog_5_method_2_code 45 = .ok (.putfield 28, 3) := by decide +kernel
theorem d_Prog_append_48 : decode prog_5_method_2_code 48 = .ok (.aload_n 0, 1) := by decide +kernel
theorem d_Prog_append_49 : decode prog_5_method_2_code 49 = .ok (.getfield 28, 3) := by decide +kernel
theorem d_Prog_append_52 : decode prog_5_method_2_code 52 = .ok (.iconst 1, 1) := by decide +kernel
theorem d_Prog_append_53 : decode prog_5_method_2_code 53 = .ok (.isub, 1) := by decide +kernel
theorem d_Prog_append_54 : decode prog_5_method_2_code 54 = .ok (.ireturn, 1) := by decide +kernel
theorem d_Host_code_0 : decode prog_1_method_2_code 0 = .ok (.iload_n 1, 1) := by decide +kernel
theorem d_Host_code_1 : decode prog_1_method_2_code 1 = .ok (.invokestatic 42, 3) := by decide +kernel
theorem d_Host_code_4 : decode prog_1_method_2_code 4 = .ok (.ifCond .eq 25, 3) := by decide +kernel
theorem d_Host_code_7 : decode prog_1_method_2_code 7 = .ok (.iload_n 2, 1) := by decide +kernel
theorem d_Host_code_8 : decode prog_1_method_2_code 8 = .ok (.iload_n 3, 1) := by decide +kernel
theorem d_Host_code_9 : decode prog_1_method_2_code 9 = .ok (.invokestatic 46, 3) := by decide +kernel
theorem d_Host_code_12 : decode prog_1_method_2_code 12 = .ok (.ifCond .eq 17, 3) := by decide +kernel
theorem d_Host_code_15 : decode prog_1_method_2_code 15 = .ok (.aload_n 0, 1) := by decide +kernel
theorem d_Host_code_16 : decode prog_1_method_2_code 16 = .ok (.getfield 11, 3) := by decide +kernel
theorem d_Host_code_19 : decode prog_1_method_2_code 19 = .ok (.iload_n 1, 1) := by decide +kernel
theorem d_Host_code_20 : decode prog_1_method_2_code 20 = .ok (.aaload, 1) := by decide +kernel
theorem d_Host_code_21 : decode prog_1_method_2_code 21 = .ok (.iload_n 2, 1) := by decide +kernel
theorem d_Host_code_22 : decode prog_1_method_2_code 22 = .ok (.iload_n 3, 1) := by decide +kernel
theorem d_Host_code_23 : decode prog_1_method_2_code 23 = .ok (.invokevirtual 52, 3) := by decide +kernel
theorem d_Host_code_26 : decode prog_1_method_2_code 26 = .ok (.goto 4, 3) := by decide +kernel
theorem d_Host_code_29 : decode prog_1_method_2_code 29 = .ok (.iconst (-1), 1) := by decide +kernel
theorem d_Host_code_30 : decode prog_1_method_2_code 30 = .ok (.ireturn, 1) := by decide +kernel
theorem d_Prog_empty_0 : decode prog_5_method_3_code 0 = .ok (.aload_n 0, 1) := by decide +kernel
theorem d_Prog_empty_1 : decode prog_5_method_3_code 1 = .ok (.getfield 31, 3) := by decide +kernel
theorem d_Prog_empty_4 : decode prog_5_method_3_code 4 = .ok (.ifCond .eq 5, 3) := by decide +kernel
theorem d_Prog_empty_7 : decode prog_5_method_3_code 7 = .ok (.iconst 0, 1) := by decide +kernel
theorem d_Prog_empty_8 : decode prog_5_method_3_code 8 = .ok (.ireturn, 1) := by decide +kernel
theorem d_Prog_empty_9 : decode prog_5_method_3_code 9 = .ok (.aload_n 0, 1) := by decide +kernel
theorem d_Prog_empty_10 : decode prog_5_method_3_code 10 = .ok (.iconst 0, 1) := by decide +kernel
theorem d_Prog_empty_11 : decode prog_5_method_3_code 11 = .ok (.putfield 28, 3) := by decide +kernel
theorem d_Prog_empty_14 : decode prog_5_method_3_code 14 = .ok (.iconst 1, 1) := by decide +kernel
theorem d_Prog_empty_15 : decode prog_5_method_3_code 15 = .ok (.ireturn, 1) := by decide +kernel
theorem d_Host_clear_0 : decode prog_1_method_3_code 0 = .ok (.iload_n 1, 1) := by decide +kernel
theorem d_Host_clear_1 : decode prog_1_method_3_code 1 = .ok (.invokestatic 42, 3) := by decide +kernel
theorem d_Host_clear_4 : decode prog_1_method_3_code 4 = .ok (.ifCond .eq 19, 3) := by decide +kernel
theorem d_Host_clear_7 : decode prog_1_method_3_code 7 = .ok (.aload_n 0, 1) := by decide +kernel
theorem d_Host_clear_8 : decode prog_1_method_3_code 8 = .ok (.getfield 11, 3) := by decide +kernel
theorem d_Host_clear_11 : decode prog_1_method_3_code 11 = .ok (.iload_n 1, 1) := by decide +kernel
theorem d_Host_clear_12 : decode prog_1_method_3_code 12 = .ok (.aaload, 1) := by decide +kernel
theorem d_Host_clear_13 : decode prog_1_method_3_code 13 = .ok (.invokevirtual 55, 3) := by decide +kernel
theorem d_Host_clear_16 : decode prog_1_method_3_code 16 = .ok (.ifCond .eq 7, 3) := by decide +kernel
theorem d_Host_clear_19 : decode prog_1_method_3_code 19 = .ok (.iconst 1, 1) := by decide +kernel
theorem d_Host_clear_20 : decode prog_1_method_3_code 20 = .ok (.goto 4, 3) := by decide +kernel
theorem d_Host_clear_23 : decode prog_1_method_3_code 23 = .ok (.iconst 0, 1) := by decide +kernel
theorem d_Host_clear_24 : decode prog_1_method_3_code 24 = .ok (.ireturn, 1) := by decide +kernel
theorem d_Ins_countOf_0 : decode prog_3_method_7_code 0 = .ok (.iload_n 0, 1) := by decide +kernel
theorem d_Ins_countOf_1 : decode prog_3_method_7_code 1 = .ok (.iconst 4, 1) := by decide +kernel
theorem d_Ins_countOf_2 : decode prog_3_method_7_code 2 = .ok (.if_icmp .lt 7, 3) := by decide +kernel
theorem d_Ins_countOf_5 : decode prog_3_method_7_code 5 = .ok (.iconst 2, 1) := by decide +kernel
theorem d_Ins_countOf_6 : decode prog_3_method_7_code 6 = .ok (.goto 13, 3) := by decide +kernel
theorem d_Ins_countOf_9 : decode prog_3_method_7_code 9 = .ok (.iload_n 0, 1) := by decide +kernel
theorem d_Ins_countOf_10 : decode prog_3_method_7_code 10 = .ok (.iconst 2, 1) := by decide +kernel
theorem d_Ins_countOf_11 : decode prog_3_method_7_code 11 = .ok (.if_icmp .lt 7, 3) := by decide +kernel
theorem d_Ins_countOf_14 : decode prog_3_method_7_code 14 = .ok (.iconst 1, 1) := by decide +kernel
theorem d_Ins_countOf_15 : decode prog_3_method_7_code 15 = .ok (.goto 4, 3) := by decide +kernel
theorem d_Ins_countOf_18 : decode prog_3_method_7_code 18 = .ok (.iconst 0, 1) := by decide +kernel
theorem d_Ins_countOf_19 : decode prog_3_method_7_code 19 = .ok (.ireturn, 1) := by decide +kernel
theorem d_Ins_join_0 : decode prog_3_method_8_code 0 = .ok (.iload_n 0, 1) := by decide +kernel
theorem d_Ins_join_1 : decode prog_3_method_8_code 1 = .ok (.iconst 1, 1) := by decide +kernel
theorem d_Ins_join_2 : decode prog_3_method_8_code 2 = .ok (.isub, 1) := by decide +kernel
theorem d_Ins_join_3 : decode prog_3_method_8_code 3 = .ok (.iload_n 1, 1) := by decide +kernel
theorem d_Ins_join_4 : decode prog_3_method_8_code 4 = .ok (.invokestatic 19, 3) := by decide +kernel
theorem d_Ins_join_7 : decode prog_3_method_8_code 7 = .ok (.ishl, 1) := by decide +kernel
theorem d_Ins_join_8 : decode prog_3_method_8_code 8 = .ok (.iload_n 1, 1) := by decide +kernel
theorem d_Ins_join_9 : decode prog_3_method_8_code 9 = .ok (.iadd, 1) := by decide +kernel
theorem d_Ins_join_10 : decode prog_3_method_8_code 10 = .ok (.ireturn, 1) := by decide +kernel
theorem d_Ins_typeOfLocal_0 : decode prog_3_method_6_code 0 = .ok (.iload_n 0, 1) := by decide +kernel
theorem d_Ins_typeOfLocal_1 : decode prog_3_method_6_code 1 = .ok (.iconst 2, 1) := by decide +kernel
theorem d_Ins_typeOfLocal_2 : decode prog_3_method_6_code 2 = .ok (.if_icmp .ge 7, 3) := by decide +kernel
theorem d_Ins_typeOfLocal_5 : decode prog_3_method_6_code 5 = .ok (.iconst 2, 1) := by decide +kernel
theorem d_Ins_typeOfLocal_6 : decode prog_3_method_6_code 6 = .ok (.goto 4, 3) := by decide +kernel
theorem d_Ins_typeOfLocal_9 : decode prog_3_method_6_code 9 = .ok (.iconst 3, 1) := by decide +kernel
theorem d_Ins_typeOfLocal_10 : decode prog_3_method_6_code 10 = .ok (.ireturn, 1) := by decide +kernel
theorem d_Ins_puts_0 : decode prog_3_method_5_code 0 = .ok (.iload_n 0, 1) := by decide +kernel
theorem d_Ins_puts_1 : decode prog_3_method_5_code 1 = .ok (.lookupswitch 62 #[(7, 35), (9, 40), (12, 52)], 35) := by decide +kernel
theorem d_Ins_puts_36 : decode prog_3_method_5_code 36 = .ok (.iload_n 1, 1) := by decide +kernel
theorem d_Ins_puts_37 : decode prog_3_method_5_code 37 = .ok (.invokestatic 30, 3) := by decide +kernel
theorem d_Ins_puts_40 : decode prog_3_method_5_code 40 = .ok (.ireturn, 1) := by decide +kernel
theorem d_Ins_puts_41 : decode prog_3_method_5_code 41 = .ok (.iload_n 2, 1) := by decide +kernel
theorem d_Ins_puts_42 : decode prog_3_method_5_code 42 = .ok (.iconst 2, 1) := by decide +kernel
theorem d_Ins_puts_43 : decode prog_3_method_5_code 43 = .ok (.if_icmp .ne 7, 3) := by decide +kernel
theorem d_Ins_puts_46 : decode prog_3_method_5_code 46 = .ok (.iconst 4, 1) := by decide +kernel
theorem d_Ins_puts_47 : decode prog_3_method_5_code 47 = .ok (.goto 5, 3) := by decide +kernel
theorem d_Ins_puts_50 : decode prog_3_method_5_code 50 = .ok (.bipush 7, 2) := by decide +kernel
theorem d_Ins_puts_52 : decode prog_3_method_5_code 52 = .ok (.ireturn, 1) := by decide +kernel
theorem d_Ins_puts_53 : decode prog_3_method_5_code 53 = .ok (.iload_n 1, 1) := by decide +kernel
theorem d_Ins_puts_54 : decode prog_3_method_5_code 54 = .ok (.ifCond .ne 7, 3) := by decide +kernel
theorem d_Ins_puts_57 : decode prog_3_method_5_code 57 = .ok (.iconst 2, 1) := by decide +kernel
theorem d_Ins_puts_58 : decode prog_3_method_5_code 58 = .ok (.goto 4, 3) := by decide +kernel
theorem d_Ins_puts_61 : decode prog_3_method_5_code 61 = .ok (.iconst 3, 1) := by decide +kernel
theorem d_Ins_puts_62 : decode prog_3_method_5_code 62 = .ok (.ireturn, 1) := by decide +kernel
theorem d_Ins_puts_63 : decode prog_3_method_5_code 63 = .ok (.getstatic 36, 3) := by decide +kernel
theorem d_Ins_puts_66 : decode prog_3_method_5_code 66 = .ok (.iload_n 0, 1) := by decide +kernel
theorem d_Ins_puts_67 : decode prog_3_method_5_code 67 = .ok (.iaload, 1) := by decide +kernel
theorem d_Ins_puts_68 : decode prog_3_method_5_code 68 = .ok (.ireturn, 1) := by decide +kernel
theorem d_Ins_takes_0 : decode prog_3_method_4_code 0 = .ok (.iload_n 0, 1) := by decide +kernel
theorem d_Ins_takes_1 : decode prog_3_method_4_code 1 = .ok (.tableswitch 58 8 13 #[39, 44, 44, 58, 58, 46], 39) := by decide +kernel
theorem d_Ins_takes_40 : decode prog_3_method_4_code 40 = .ok (.iload_n 1, 1) := by decide +kernel
theorem d_Ins_takes_41 : decode prog_3_method_4_code 41 = .ok (.invokestatic 30, 3) := by decide +kernel
theorem d_Ins_takes_44 : decode prog_3_method_4_code 44 = .ok (.ireturn, 1) := by decide +kernel
theorem d_Ins_takes_45 : decode prog_3_method_4_code 45 = .ok (.iload_n 2, 1) := by decide +kernel
theorem d_Ins_takes_46 : decode prog_3_method_4_code 46 = .ok (.ireturn, 1) := by decide +kernel
theorem d_Ins_takes_47 : decode prog_3_method_4_code 47 = .ok (.iload_n 1, 1) := by decide +kernel
theorem d_Ins_takes_48 : decode prog_3_method_4_code 48 = .ok (.ifCond .ne 8, 3) := by decide +kernel
theorem d_Ins_takes_51 : decode prog_3_method_4_code 51 = .ok (.bipush 6, 2) := by decide +kernel
theorem d_Ins_takes_53 : decode prog_3_method_4_code 53 = .ok (.goto 5, 3) := by decide +kernel
theorem d_Ins_takes_56 : decode prog_3_method_4_code 56 = .ok (.bipush 7, 2) := by decide +kernel
theorem d_Ins_takes_58 : decode prog_3_method_4_code 58 = .ok (.ireturn, 1) := by decide +kernel
theorem d_Ins_takes_59 : decode prog_3_method_4_code 59 = .ok (.getstatic 33, 3) := by decide +kernel
theorem d_Ins_takes_62 : decode prog_3_method_4_code 62 = .ok (.iload_n 0, 1) := by decide +kernel
theorem d_Ins_takes_63 : decode prog_3_method_4_code 63 = .ok (.iaload, 1) := by decide +kernel
theorem d_Ins_takes_64 : decode prog_3_method_4_code 64 = .ok (.ireturn, 1) := by decide +kernel
theorem d_Ins_shapeAfter_0 : decode prog_3_method_3_code 0 = .ok (.iload_n 2, 1) := by decide +kernel
theorem d_Ins_shapeAfter_1 : decode prog_3_method_3_code 1 = .ok (.iconst 1, 1) := by decide +kernel
theorem d_Ins_shapeAfter_2 : decode prog_3_method_3_code 2 = .ok (.iand, 1) := by decide +kernel
theorem d_Ins_shapeAfter_3 : decode prog_3_method_3_code 3 = .ok (.iconst 1, 1) := by decide +kernel
theorem d_Ins_shapeAfter_4 : decode prog_3_method_3_code 4 = .ok (.if_icmp .ne 7, 3) := by decide +kernel
theorem d_Ins_shapeAfter_7 : decode prog_3_method_3_code 7 = .ok (.iconst 3, 1) := by decide +kernel
theorem d_Ins_shapeAfter_8 : decode prog_3_method_3_code 8 = .ok (.goto 4, 3) := by decide +kernel
theorem d_Ins_shapeAfter_11 : decode prog_3_method_3_code 11 = .ok (.iconst 2, 1) := by decide +kernel
theorem d_Ins_shapeAfter_12 : decode prog_3_method_3_code 12 = .ok (.istore_n 3, 1) := by decide +kernel
theorem d_Ins_shapeAfter_13 : decode prog_3_method_3_code 13 = .ok (.iload_n 0, 1) := by decide +kernel
theorem d_Ins_shapeAfter_14 : decode prog_3_method_3_code 14 = .ok (.iload_n 1, 1) := by decide +kernel
theorem d_Ins_shapeAfter_15 : decode prog_3_method_3_code 15 = .ok (.iload_n 3, 1) := by decide +kernel
theorem d_Ins_shapeAfter_16 : decode prog_3_method_3_code 16 = .ok (.invokestatic 15, 3) := by decide +kernel
theorem d_Ins_shapeAfter_19 : decode prog_3_method_3_code 19 = .ok (.istore 4, 2) := by decide +kernel
theorem d_Ins_shapeAfter_21 : decode prog_3_method_3_code 21 = .ok (.iload_n 2, 1) := by decide +kernel
theorem d_Ins_shapeAfter_22 : decode prog_3_method_3_code 22 = .ok (.iload 4, 2) := by decide +kernel
theorem d_Ins_shapeAfter_24 : decode prog_3_method_3_code 24 = .ok (.invokestatic 19, 3) := by decide +kernel
theorem d_Ins_shapeAfter_27 : decode prog_3_method_3_code 27 = .ok (.ishr, 1) := by decide +kernel
theorem d_Ins_shapeAfter_28 : decode prog_3_method_3_code 28 = .ok (.istore 5, 2) := by decide +kernel
theorem d_Ins_shapeAfter_30 : decode prog_3_method_3_code 30 = .ok (.iload 5, 2) := by decide +kernel
theorem d_Ins_shapeAfter_32 : decode prog_3_method_3_code 32 = .ok (.ifCond .eq 14, 3) := by decide +kernel
theorem d_Ins_shapeAfter_35 : decode prog_3_method_3_code 35 = .ok (.iload 5, 2) := by decide +kernel
theorem d_Ins_shapeAfter_37 : decode prog_3_method_3_code 37 = .ok (.iload 4, 2) := by decide +kernel
theorem d_Ins_shapeAfter_39 : decode prog_3_method_3_code 39 = .ok (.invokestatic 23, 3) := by decide +kernel
theorem d_Ins_shapeAfter_42 : decode prog_3_method_3_code 42 = .ok (.iload_n 2, 1) := by decide +kernel
theorem d_Ins_shapeAfter_43 : decode prog_3_method_3_code 43 = .ok (.if_icmp .eq 5, 3) := by decide +kernel
theorem d_Ins_shapeAfter_46 : decode prog_3_method_3_code 46 = .ok (.iconst 0, 1) := by decide +kernel
theorem d_Ins_shapeAfter_47 : decode prog_3_method_3_code 47 = .ok (.ireturn, 1) := by decide +kernel
theorem d_Ins_shapeAfter_48 : decode prog_3_method_3_code 48 = .ok (.iload 5, 2) := by decide +kernel
theorem d_Ins_shapeAfter_50 : decode prog_3_method_3_code 50 = .ok (.iload_n 0, 1) := by decide +kernel
theorem d_Ins_shapeAfter_51 : decode prog_3_method_3_code 51 = .ok (.iload_n 1, 1) := by decide +kernel
theorem d_Ins_shapeAfter_52 : decode prog_3_method_3_code 52 = .ok (.iload_n 3, 1) := by decide +kernel
theorem d_Ins_shapeAfter_53 : decode prog_3_method_3_code 53 = .ok (.invokestatic 27, 3) := by decide +kernel
theorem d_Ins_shapeAfter_56 : decode prog_3_method_3_code 56 = .ok (.invokestatic 23, 3) := by decide +kernel
theorem d_Ins_shapeAfter_59 : decode prog_3_method_3_code 59 = .ok (.istore 6, 2) := by decide +kernel
theorem d_Ins_shapeAfter_61 : decode prog_3_method_3_code 61 = .ok (.iload 6, 2) := by decide +kernel
theorem d_Ins_shapeAfter_63 : decode prog_3_method_3_code 63 = .ok (.bipush 127, 2) := by decide +kernel
theorem d_Ins_shapeAfter_65 : decode prog_3_method_3_code 65 = .ok (.if_icmp .le 7, 3) := by decide +kernel
theorem d_Ins_shapeAfter_68 : decode prog_3_method_3_code 68 = .ok (.iconst 0, 1) := by decide +kernel
theorem d_Ins_shapeAfter_69 : decode prog_3_method_3_code 69 = .ok (.goto 5, 3) := by decide +kernel
theorem d_Ins_shapeAfter_72 : decode prog_3_method_3_code 72 = .ok (.iload 6, 2) := by decide +kernel
theorem d_Ins_shapeAfter_74 : decode prog_3_method_3_code 74 = .ok (.ireturn, 1) := by decide +kernel
theorem d_Prog_has_0 : decode prog_5_method_8_code 0 = .ok (.iload_n 1, 1) := by decide +kernel
theorem d_Prog_has_1 : decode prog_5_method_8_code 1 = .ok (.ifCond .lt 15, 3) := by decide +kernel
theorem d_Prog_has_4 : decode prog_5_method_8_code 4 = .ok (.iload_n 1, 1) := by decide +kernel
theorem d_Prog_has_5 : decode prog_5_method_8_code 5 = .ok (.aload_n 0, 1) := by decide +kernel
theorem d_Prog_has_6 : decode prog_5_method_8_code 6 = .ok (.getfield 28, 3) := by decide +kernel
theorem d_Prog_has_9 : decode prog_5_method_8_code 9 = .ok (.if_icmp .ge 7, 3) := by decide +kernel
theorem d_Prog_has_12 : decode prog_5_method_8_code 12 = .ok (.iconst 1, 1) := by decide +kernel
theorem d_Prog_has_13 : decode prog_5_method_8_code 13 = .ok (.goto 4, 3) := by decide +kernel
theorem d_Prog_has_16 : decode prog_5_method_8_code 16 = .ok (.iconst 0, 1) := by decide +kernel
theorem d_Prog_has_17 : decode prog_5_method_8_code 17 = .ok (.ireturn, 1) := by decide +kernel
theorem d_Prog_reach_0 : decode prog_5_method_11_code 0 = .ok (.aload_n 0, 1) := by decide +kernel
theorem d_Prog_reach_1 : decode prog_5_method_11_code 1 = .ok (.iload_n 1, 1) := by decide +kernel
theorem d_Prog_reach_2 : decode prog_5_method_11_code 2 = .ok (.invokevirtual 39, 3) := by decide +kernel
theorem d_Prog_reach_5 : decode prog_5_method_11_code 5 = .ok (.ifCond .ne 5, 3) := by decide +kernel
theorem d_Prog_reach_8 : decode prog_5_method_11_code 8 = .ok (.iconst 0, 1) := by decide +kernel
theorem d_Prog_reach_9 : decode prog_5_method_11_code 9 = .ok (.ireturn, 1) := by decide +kernel
theorem d_Prog_reach_10 : decode prog_5_method_11_code 10 = .ok (.aload_n 0, 1) := by decide +kernel
theorem d_Prog_reach_11 : decode prog_5_method_11_code 11 = .ok (.getfield 18, 3) := by decide +kernel
theorem d_Prog_reach_14 : decode prog_5_method_11_code 14 = .ok (.iload_n 1, 1) := by decide +kernel
theorem d_Prog_reach_15 : decode prog_5_method_11_code 15 = .ok (.iaload, 1) := by decide +kernel
theorem d_Prog_reach_16 : decode prog_5_method_11_code 16 = .ok (.ifCond .ne 30, 3) := by decide +kernel
theorem d_Prog_reach_19 : decode prog_5_method_11_code 19 = .ok (.aload_n 0, 1) := by decide +kernel
theorem d_Prog_reach_20 : decode prog_5_method_11_code 20 = .ok (.getfield 18, 3) := by decide +kernel
theorem d_Prog_reach_23 : decode prog_5_method_11_code 23 = .ok (.iload_n 1, 1) := by decide +kernel
theorem d_Prog_reach_24 : decode prog_5_method_11_code 24 = .ok (.iload_n 2, 1) := by decide +kernel
theorem d_Prog_reach_25 : decode prog_5_method_11_code 25 = .ok (.iastore, 1) := by decide +kernel
theorem d_Prog_reach_26 : decode prog_5_method_11_code 26 = .ok (.aload_n 0, 1) := by decide +kernel
theorem d_Prog_reach_27 : decode prog_5_method_11_code 27 = .ok (.getfield 21, 3) := by decide +kernel
theorem d_Prog_reach_30 : decode prog_5_method_11_code 30 = .ok (.aload_n 0, 1) := by decide +kernel
theorem d_Prog_reach_31 : decode prog_5_method_11_code 31 = .ok (.getfield 24, 3) := by decide +kernel
theorem d_Prog_reach_34 : decode prog_5_method_11_code 34 = .ok (.iload_n 1, 1) := by decide +kernel
theorem d_Prog_reach_35 : decode prog_5_method_11_code 35 = .ok (.iastore, 1) := by decide +kernel
theorem d_Prog_reach_36 : decode prog_5_method_11_code 36 = .ok (.aload_n 0, 1) := by decide +kernel
theorem d_Prog_reach_37 : decode prog_5_method_11_code 37 = .ok (.dup, 1) := by decide +kernel
theorem d_Prog_reach_38 : decode prog_5_method_11_code 38 = .ok (.getfield 24, 3) := by decide +kernel
theorem d_Prog_reach_41 : decode prog_5_method_11_code 41 = .ok (.iconst 1, 1) := by decide +kernel
theorem d_Prog_reach_42 : decode prog_5_method_11_code 42 = .ok (.iadd, 1) := by decide +kernel
theorem d_Prog_reach_43 : decode prog_5_method_11_code 43 = .ok (.putfield 24, 3) := by decide +kernel
theorem d_Prog_reach_46 : decode prog_5_method_11_code 46 = .ok (.aload_n 0, 1) := by decide +kernel
theorem d_Prog_reach_47 : decode prog_5_method_11_code 47 = .ok (.getfield 18, 3) := by decide +kernel
theorem d_Prog_reach_50 : decode prog_5_method_11_code 50 = .ok (.iload_n 1, 1) := by decide +kernel
theorem d_Prog_reach_51 : decode prog_5_method_11_code 51 = .ok (.iaload, 1) := by decide +kernel
theorem d_Prog_reach_52 : decode prog_5_method_11_code 52 = .ok (.iload_n 2, 1) := by decide +kernel
theorem d_Prog_reach_53 : decode prog_5_method_11_code 53 = .ok (.if_icmp .ne 7, 3) := by decide +kernel
theorem d_Prog_reach_56 : decode prog_5_method_11_code 56 = .ok (.iconst 1, 1) := by decide +kernel
theorem d_Prog_reach_57 : decode prog_5_method_11_code 57 = .ok (.goto 4, 3) := by decide +kernel
theorem d_Prog_reach_60 : decode prog_5_method_11_code 60 = .ok (.iconst 0, 1) := by decide +kernel
theorem d_Prog_reach_61 : decode prog_5_method_11_code 61 = .ok (.ireturn, 1) := by decide +kernel
theorem d_Prog_goOnFrom_0 : decode prog_5_method_10_code 0 = .ok (.aload_n 0, 1) := by decide +kernel
theorem d_Prog_goOnFrom_1 : decode prog_5_method_10_code 1 = .ok (.getfield 9, 3) := by decide +kernel
theorem d_Prog_goOnFrom_4 : decode prog_5_method_10_code 4 = .ok (.iload_n 1, 1) := by decide +kernel
theorem d_Prog_goOnFrom_5 : decode prog_5_method_10_code 5 = .ok (.iaload, 1) := by decide +kernel
theorem d_Prog_goOnFrom_6 : decode prog_5_method_10_code 6 = .ok (.istore_n 2, 1) := by decide +kernel
theorem d_Prog_goOnFrom_7 : decode prog_5_method_10_code 7 = .ok (.aload_n 0, 1) := by decide +kernel
theorem d_Prog_goOnFrom_8 : decode prog_5_method_10_code 8 = .ok (.getfield 15, 3) := by decide +kernel
theorem d_Prog_goOnFrom_11 : decode prog_5_method_10_code 11 = .ok (.iload_n 1, 1) := by decide +kernel
theorem d_Prog_goOnFrom_12 : decode prog_5_method_10_code 12 = .ok (.iaload, 1) := by decide +kernel
theorem d_Prog_goOnFrom_13 : decode prog_5_method_10_code 13 = .ok (.istore_n 3, 1) := by decide +kernel
theorem d_Prog_goOnFrom_14 : decode prog_5_method_10_code 14 = .ok (.iload_n 2, 1) := by decide +kernel
theorem d_Prog_goOnFrom_15 : decode prog_5_method_10_code 15 = .ok (.iload_n 3, 1) := by decide +kernel
theorem d_Prog_goOnFrom_16 : decode prog_5_method_10_code 16 = .ok (.aload_n 0, 1) := by decide +kernel
theorem d_Prog_goOnFrom_17 : decode prog_5_method_10_code 17 = .ok (.getfield 18, 3) := by decide +kernel
theorem d_Prog_goOnFrom_20 : decode prog_5_method_10_code 20 = .ok (.iload_n 1, 1) := by decide +kernel
theorem d_Prog_goOnFrom_21 : decode prog_5_method_10_code 21 = .ok (.iaload, 1) := by decide +kernel
theorem d_Prog_goOnFrom_22 : decode prog_5_method_10_code 22 = .ok (.invokestatic 58, 3) := by decide +kernel
theorem d_Prog_goOnFrom_25 : decode prog_5_method_10_code 25 = .ok (.istore 4, 2) := by decide +kernel
theorem d_Prog_goOnFrom_27 : decode prog_5_method_10_code 27 = .ok (.iload 4, 2) := by decide +kernel
theorem d_Prog_goOnFrom_29 : decode prog_5_method_10_code 29 = .ok (.ifCond .ne 5, 3) := by decide +kernel
theorem d_Prog_goOnFrom_32 : decode prog_5_method_10_code 32 = .ok (.iconst 0, 1) := by decide +kernel
theorem d_Prog_goOnFrom_33 : decode prog_5_method_10_code 33 = .ok (.ireturn, 1) := by decide +kernel
theorem d_Prog_goOnFrom_34 : decode prog_5_method_10_code 34 = .ok (.iload_n 2, 1) := by decide +kernel
theorem d_Prog_goOnFrom_35 : decode prog_5_method_10_code 35 = .ok (.lookupswitch 71 #[(0, 33), (17, 35), (18, 43)], 33) := by decide +kernel
theorem d_Prog_goOnFrom_68 : decode prog_5_method_10_code 68 = .ok (.iconst 1, 1) := by decide +kernel
theorem d_Prog_goOnFrom_69 : decode prog_5_method_10_code 69 = .ok (.ireturn, 1) := by decide +kernel
theorem d_Prog_goOnFrom_70 : decode prog_5_method_10_code 70 = .ok (.aload_n 0, 1) := by decide +kernel
theorem d_Prog_goOnFrom_71 : decode prog_5_method_10_code 71 = .ok (.iload_n 3, 1) := by decide +kernel
theorem d_Prog_goOnFrom_72 : decode prog_5_method_10_code 72 = .ok (.iload 4, 2) := by decide +kernel
theorem d_Prog_goOnFrom_74 : decode prog_5_method_10_code 74 = .ok (.invokevirtual 51, 3) := by decide +kernel
theorem d_Prog_goOnFrom_77 : decode prog_5_method_10_code 77 = .ok (.ireturn, 1) := by decide +kernel
theorem d_Prog_goOnFrom_78 : decode prog_5_method_10_code 78 = .ok (.aload_n 0, 1) := by decide +kernel
theorem d_Prog_goOnFrom_79 : decode prog_5_method_10_code 79 = .ok (.iload_n 3, 1) := by decide +kernel
theorem d_Prog_goOnFrom_80 : decode prog_5_method_10_code 80 = .ok (.iload 4, 2) := by decide +kernel
theorem d_Prog_goOnFrom_82 : decode prog_5_method_10_code 82 = .ok (.invokevirtual 51, 3) := by decide +kernel
theorem d_Prog_goOnFrom_85 : decode prog_5_method_10_code 85 = .ok (.ifCond .eq 19, 3) := by decide +kernel
theorem d_Prog_goOnFrom_88 : decode prog_5_method_10_code 88 = .ok (.aload_n 0, 1) := by decide +kernel
theorem d_Prog_goOnFrom_89 : decode prog_5_method_10_code 89 = .ok (.iload_n 1, 1) := by decide +kernel
theorem d_Prog_goOnFrom_90 : decode prog_5_method_10_code 90 = .ok (.iconst 1, 1) := by decide +kernel
theorem d_Prog_goOnFrom_91 : decode prog_5_method_10_code 91 = .ok (.iadd, 1) := by decide +kernel
theorem d_Prog_goOnFrom_92 : decode prog_5_method_10_code 92 = .ok (.iload 4, 2) := by decide +kernel
theorem d_Prog_goOnFrom_94 : decode prog_5_method_10_code 94 = .ok (.invokevirtual 51, 3) := by decide +kernel
theorem d_Prog_goOnFrom_97 : decode prog_5_method_10_code 97 = .ok (.ifCond .eq 7, 3) := by decide +kernel
theorem d_Prog_goOnFrom_100 : decode prog_5_method_10_code 100 = .ok (.iconst 1, 1) := by decide +kernel
theorem d_Prog_goOnFrom_101 : decode prog_5_method_10_code 101 = .ok (.goto 4, 3) := by decide +kernel
theorem d_Prog_goOnFrom_104 : decode prog_5_method_10_code 104 = .ok (.iconst 0, 1) := by decide +kernel
theorem d_Prog_goOnFrom_105 : decode prog_5_method_10_code 105 = .ok (.ireturn, 1) := by decide +kernel
theorem d_Prog_goOnFrom_106 : decode prog_5_method_10_code 106 = .ok (.aload_n 0, 1) := by decide +kernel
theorem d_Prog_goOnFrom_107 : decode prog_5_method_10_code 107 = .ok (.iload_n 1, 1) := by decide +kernel
theorem d_Prog_goOnFrom_108 : decode prog_5_method_10_code 108 = .ok (.iconst 1, 1) := by decide +kernel
theorem d_Prog_goOnFrom_109 : decode prog_5_method_10_code 109 = .ok (.iadd, 1) := by decide +kernel
theorem d_Prog_goOnFrom_110 : decode prog_5_method_10_code 110 = .ok (.iload 4, 2) := by decide +kernel
theorem d_Prog_goOnFrom_112 : decode prog_5_method_10_code 112 = .ok (.invokevirtual 51, 3) := by decide +kernel
theorem d_Prog_goOnFrom_115 : decode prog_5_method_10_code 115 = .ok (.ireturn, 1) := by decide +kernel
theorem d_JA_fill_0 : decode prog_13_method_103_code 0 = .ok (.iconst 0, 1) := by decide +kernel
theorem d_JA_fill_1 : decode prog_13_method_103_code 1 = .ok (.istore_n 2, 1) := by decide +kernel
theorem d_JA_fill_2 : decode prog_13_method_103_code 2 = .ok (.aload_n 0, 1) := by decide +kernel
theorem d_JA_fill_3 : decode prog_13_method_103_code 3 = .ok (.arraylength, 1) := by decide +kernel
theorem d_JA_fill_4 : decode prog_13_method_103_code 4 = .ok (.istore_n 3, 1) := by decide +kernel
theorem d_JA_fill_5 : decode prog_13_method_103_code 5 = .ok (.iload_n 2, 1) := by decide +kernel
theorem d_JA_fill_6 : decode prog_13_method_103_code 6 = .ok (.iload_n 3, 1) := by decide +kernel
theorem d_JA_fill_7 : decode prog_13_method_103_code 7 = .ok (.if_icmp .ge 13, 3) := by decide +kernel
theorem d_JA_fill_10 : decode prog_13_method_103_code 10 = .ok (.aload_n 0, 1) := by decide +kernel
theorem d_JA_fill_11 : decode prog_13_method_103_code 11 = .ok (.iload_n 2, 1) := by decide +kernel
theorem d_JA_fill_12 : decode prog_13_method_103_code 12 = .ok (.iload_n 1, 1) := by decide +kernel
theorem d_JA_fill_13 : decode prog_13_method_103_code 13 = .ok (.iastore, 1) := by decide +kernel
theorem d_JA_fill_14 : decode prog_13_method_103_code 14 = .ok (.iinc 2 1, 3) := by decide +kernel
theorem d_JA_fill_17 : decode prog_13_method_103_code 17 = .ok (.goto (-12), 3) := by decide +kernel
theorem d_JA_fill_20 : decode prog_13_method_103_code 20 = .ok (.return_, 1) := by decide +kernel
theorem d_Prog_isSound_0 : decode prog_5_method_9_code 0 = .ok (.aload_n 0, 1) := by decide +kernel
theorem d_Prog_isSound_1 : decode prog_5_method_9_code 1 = .ok (.getfield 18, 3) := by decide +kernel
theorem d_Prog_isSound_4 : decode prog_5_method_9_code 4 = .ok (.iconst 0, 1) := by decide +kernel
theorem d_Prog_isSound_5 : decode prog_5_method_9_code 5 = .ok (.invokestatic 43, 3) := by decide +kernel
theorem d_Prog_isSound_8 : decode prog_5_method_9_code 8 = .ok (.aload_n 0, 1) := by decide +kernel
theorem d_Prog_isSound_9 : decode prog_5_method_9_code 9 = .ok (.iconst 0, 1) := by decide +kernel
theorem d_Prog_isSound_10 : decode prog_5_method_9_code 10 = .ok (.putfield 24, 3) := by decide +kernel
theorem d_Prog_isSound_13 : decode prog_5_method_9_code 13 = .ok (.aload_n 0, 1) := by decide +kernel
theorem d_Prog_isSound_14 : decode prog_5_method_9_code 14 = .ok (.iconst 0, 1) := by decide +kernel
theorem d_Prog_isSound_15 : decode prog_5_method_9_code 15 = .ok (.iconst 1, 1) := by decide +kernel
theorem d_Prog_isSound_16 : decode prog_5_method_9_code 16 = .ok (.invokevirtual 51, 3) := by decide +kernel
theorem d_Prog_isSound_19 : decode prog_5_method_9_code 19 = .ok (.istore_n 1, 1) := by decide +kernel
theorem d_Prog_isSound_20 : decode prog_5_method_9_code 20 = .ok (.iconst 0, 1) := by decide +kernel
theorem d_Prog_isSound_21 : decode prog_5_method_9_code 21 = .ok (.istore_n 2, 1) := by decide +kernel
theorem d_Prog_isSound_22 : decode prog_5_method_9_code 22 = .ok (.iload_n 1, 1) := by decide +kernel
theorem d_Prog_isSound_23 : decode prog_5_method_9_code 23 = .ok (.ifCond .eq 34, 3) := by decide +kernel
theorem d_Prog_isSound_26 : decode prog_5_method_9_code 26 = .ok (.iload_n 2, 1) := by decide +kernel
theorem d_Prog_isSound_27 : decode prog_5_method_9_code 27 = .ok (.aload_n 0, 1) := by decide +kernel
theorem d_Prog_isSound_28 : decode prog_5_method_9_code 28 = .ok (.getfield 24, 3) := by decide +kernel
theorem d_Prog_isSound_31 : decode prog_5_method_9_code 31 = .ok (.if_icmp .ge 26, 3) := by decide +kernel
theorem d_Prog_isSound_34 : decode prog_5_method_9_code 34 = .ok (.iload_n 2, 1) := by decide +kernel
theorem d_Prog_isSound_35 : decode prog_5_method_9_code 35 = .ok (.bipush 24, 2) := by decide +kernel
theorem d_Prog_isSound_37 : decode prog_5_method_9_code 37 = .ok (.if_icmp .ge 20, 3) := by decide +kernel
theorem d_Prog_isSound_40 : decode prog_5_method_9_code 40 = .ok (.aload_n 0, 1) := by decide +kernel
theorem d_Prog_isSound_41 : decode prog_5_method_9_code 41 = .ok (.aload_n 0, 1) := by decide +kernel
theorem d_Prog_isSound_42 : decode prog_5_method_9_code 42 = .ok (.getfield 21, 3) := by decide +kernel
theorem d_Prog_isSound_45 : decode prog_5_method_9_code 45 = .ok (.iload_n 2, 1) := by decide +kernel
theorem d_Prog_isSound_46 : decode prog_5_method_9_code 46 = .ok (.iaload, 1) := by decide +kernel
theorem d_Prog_isSound_47 : decode prog_5_method_9_code 47 = .ok (.invokevirtual 55, 3) := by decide +kernel
theorem d_Prog_isSound_50 : decode prog_5_method_9_code 50 = .ok (.istore_n 1, 1) := by decide +kernel
theorem d_Prog_isSound_51 : decode prog_5_method_9_code 51 = .ok (.iinc 2 1, 3) := by decide +kernel
theorem d_Prog_isSound_54 : decode prog_5_method_9_code 54 = .ok (.goto (-32), 3) := by decide +kernel
theorem d_Prog_isSound_57 : decode prog_5_method_9_code 57 = .ok (.iload_n 1, 1) := by decide +kernel
theorem d_Prog_isSound_58 : decode prog_5_method_9_code 58 = .ok (.ireturn, 1) := by decide +kernel
theorem d_Prog_close_0 : decode prog_5_method_4_code 0 = .ok (.aload_n 0, 1) := by decide +kernel
theorem d_Prog_close_1 : decode prog_5_method_4_code 1 = .ok (.getfield 31, 3) := by decide +kernel
theorem d_Prog_close_4 : decode prog_5_method_4_code 4 = .ok (.ifCond .eq 5, 3) := by decide +kernel
theorem d_Prog_close_7 : decode prog_5_method_4_code 7 = .ok (.iconst 0, 1) := by decide +kernel
theorem d_Prog_close_8 : decode prog_5_method_4_code 8 = .ok (.ireturn, 1) := by decide +kernel
theorem d_Prog_close_9 : decode prog_5_method_4_code 9 = .ok (.aload_n 0, 1) := by decide +kernel
theorem d_Prog_close_10 : decode prog_5_method_4_code 10 = .ok (.aload_n 0, 1) := by decide +kernel
theorem d_Prog_close_11 : decode prog_5_method_4_code 11 = .ok (.invokevirtual 35, 3) := by decide +kernel
theorem d_Prog_close_14 : decode prog_5_method_4_code 14 = .ok (.putfield 31, 3) := by decide +kernel
theorem d_Prog_close_17 : decode prog_5_method_4_code 17 = .ok (.aload_n 0, 1) := by decide +kernel
theorem d_Prog_close_18 : decode prog_5_method_4_code 18 = .ok (.getfield 31, 3) := by decide +kernel
theorem d_Prog_close_21 : decode prog_5_method_4_code 21 = .ok (.ireturn, 1) := by decide +kernel
theorem d_Host_seal_0 : decode prog_1_method_4_code 0 = .ok (.iload_n 1, 1) := by decide +kernel
theorem d_Host_seal_1 : decode prog_1_method_4_code 1 = .ok (.invokestatic 42, 3) := by decide +kernel
theorem d_Host_seal_4 : decode prog_1_method_4_code 4 = .ok (.ifCond .eq 19, 3) := by decide +kernel
theorem d_Host_seal_7 : decode prog_1_method_4_code 7 = .ok (.aload_n 0, 1) := by decide +kernel
theorem d_Host_seal_8 : decode prog_1_method_4_code 8 = .ok (.getfield 11, 3) := by decide +kernel
theorem d_Host_seal_11 : decode prog_1_method_4_code 11 = .ok (.iload_n 1, 1) := by decide +kernel
theorem d_Host_seal_12 : decode prog_1_method_4_code 12 = .ok (.aaload, 1) := by decide +kernel
theorem d_Host_seal_13 : decode prog_1_method_4_code 13 = .ok (.invokevirtual 59, 3) := by decide +kernel
theorem d_Host_seal_16 : decode prog_1_method_4_code 16 = .ok (.ifCond .eq 7, 3) := by decide +kernel
theorem d_Host_seal_19 : decode prog_1_method_4_code 19 = .ok (.iconst 1, 1) := by decide +kernel
theorem d_Host_seal_20 : decode prog_1_method_4_code 20 = .ok (.goto 4, 3) := by decide +kernel
theorem d_Host_seal_23 : decode prog_1_method_4_code 23 = .ok (.iconst 0, 1) := by decide +kernel
theorem d_Host_seal_24 : decode prog_1_method_4_code 24 = .ok (.ireturn, 1) := by decide +kernel
theorem d_Prog_shapeAt_0 : decode prog_5_method_5_code 0 = .ok (.aload_n 0, 1) := by decide +kernel
theorem d_Prog_shapeAt_1 : decode prog_5_method_5_code 1 = .ok (.getfield 31, 3) := by decide +kernel
theorem d_Prog_shapeAt_4 : decode prog_5_method_5_code 4 = .ok (.ifCond .eq 20, 3) := by decide +kernel
theorem d_Prog_shapeAt_7 : decode prog_5_method_5_code 7 = .ok (.aload_n 0, 1) := by decide +kernel
theorem d_Prog_shapeAt_8 : decode prog_5_method_5_code 8 = .ok (.iload_n 1, 1) := by decide +kernel
theorem d_Prog_shapeAt_9 : decode prog_5_method_5_code 9 = .ok (.invokevirtual 39, 3) := by decide +kernel
theorem d_Prog_shapeAt_12 : decode prog_5_method_5_code 12 = .ok (.ifCond .eq 12, 3) := by decide +kernel
theorem d_Prog_shapeAt_15 : decode prog_5_method_5_code 15 = .ok (.aload_n 0, 1) := by decide +kernel
theorem d_Prog_shapeAt_16 : decode prog_5_method_5_code 16 = .ok (.getfield 18, 3) := by decide +kernel
theorem d_Prog_shapeAt_19 : decode prog_5_method_5_code 19 = .ok (.iload_n 1, 1) := by decide +kernel
theorem d_Prog_shapeAt_20 : decode prog_5_method_5_code 20 = .ok (.iaload, 1) := by decide +kernel
theorem d_Prog_shapeAt_21 : decode prog_5_method_5_code 21 = .ok (.goto 4, 3) := by decide +kernel
theorem d_Prog_shapeAt_24 : decode prog_5_method_5_code 24 = .ok (.iconst (-1), 1) := by decide +kernel
theorem d_Prog_shapeAt_25 : decode prog_5_method_5_code 25 = .ok (.ireturn, 1) := by decide +kernel
theorem d_Host_shape_0 : decode prog_1_method_5_code 0 = .ok (.iload_n 1, 1) := by decide +kernel
theorem d_Host_shape_1 : decode prog_1_method_5_code 1 = .ok (.invokestatic 42, 3) := by decide +kernel
theorem d_Host_shape_4 : decode prog_1_method_5_code 4 = .ok (.ifCond .eq 16, 3) := by decide +kernel
theorem d_Host_shape_7 : decode prog_1_method_5_code 7 = .ok (.aload_n 0, 1) := by decide +kernel
theorem d_Host_shape_8 : decode prog_1_method_5_code 8 = .ok (.getfield 11, 3) := by decide +kernel
theorem d_Host_shape_11 : decode prog_1_method_5_code 11 = .ok (.iload_n 1, 1) := by decide +kernel
theorem d_Host_shape_12 : decode prog_1_method_5_code 12 = .ok (.aaload, 1) := by decide +kernel
theorem d_Host_shape_13 : decode prog_1_method_5_code 13 = .ok (.iload_n 2, 1) := by decide +kernel
theorem d_Host_shape_14 : decode prog_1_method_5_code 14 = .ok (.invokevirtual 62, 3) := by decide +kernel
theorem d_Host_shape_17 : decode prog_1_method_5_code 17 = .ok (.goto 4, 3) := by decide +kernel
theorem d_Host_shape_20 : decode prog_1_method_5_code 20 = .ok (.iconst (-1), 1) := by decide +kernel
theorem d_Host_shape_21 : decode prog_1_method_5_code 21 = .ok (.ireturn, 1) := by decide +kernel
theorem d_Host_isSharedOrNone_0 : decode prog_1_method_24_code 0 = .ok (.iload_n 1, 1) := by decide +kernel
theorem d_Host_isSharedOrNone_1 : decode prog_1_method_24_code 1 = .ok (.iconst (-1), 1) := by decide +kernel
theorem d_Host_isSharedOrNone_2 : decode prog_1_method_24_code 2 = .ok (.if_icmp .lt 15, 3) := by decide +kernel
theorem d_Host_isSharedOrNone_5 : decode prog_1_method_24_code 5 = .ok (.iload_n 1, 1) := by decide +kernel
theorem d_Host_isSharedOrNone_6 : decode prog_1_method_24_code 6 = .ok (.aload_n 0, 1) := by decide +kernel
theorem d_Host_isSharedOrNone_7 : decode prog_1_method_24_code 7 = .ok (.getfield 21, 3) := by decide +kernel
theorem d_Host_isSharedOrNone_10 : decode prog_1_method_24_code 10 = .ok (.if_icmp .ge 7, 3) := by decide +kernel
theorem d_Host_isSharedOrNone_13 : decode prog_1_method_24_code 13 = .ok (.iconst 1, 1) := by decide +kernel
theorem d_Host_isSharedOrNone_14 : decode prog_1_method_24_code 14 = .ok (.goto 4, 3) := by decide +kernel
theorem d_Host_isSharedOrNone_17 : decode prog_1_method_24_code 17 = .ok (.iconst 0, 1) := by decide +kernel
theorem d_Host_isSharedOrNone_18 : decode prog_1_method_24_code 18 = .ok (.ireturn, 1) := by decide +kernel
theorem d_Host_sharedReference_0 : decode prog_1_method_25_code 0 = .ok (.iconst 1, 1) := by decide +kernel
theorem d_Host_sharedReference_1 : decode prog_1_method_25_code 1 = .ok (.iload_n 0, 1) := by decide +kernel
theorem d_Host_sharedReference_2 : decode prog_1_method_25_code 2 = .ok (.iadd, 1) := by decide +kernel
theorem d_Host_sharedReference_3 : decode prog_1_method_25_code 3 = .ok (.ireturn, 1) := by decide +kernel
theorem d_Heap_fill_0 : decode prog_2_method_3_code 0 = .ok (.aload_n 0, 1) := by decide +kernel
theorem d_Heap_fill_1 : decode prog_2_method_3_code 1 = .ok (.getfield 9, 3) := by decide +kernel
theorem d_Heap_fill_4 : decode prog_2_method_3_code 4 = .ok (.iload_n 1, 1) := by decide +kernel
theorem d_Heap_fill_5 : decode prog_2_method_3_code 5 = .ok (.iload_n 2, 1) := by decide +kernel
theorem d_Heap_fill_6 : decode prog_2_method_3_code 6 = .ok (.iastore, 1) := by decide +kernel
theorem d_Heap_fill_7 : decode prog_2_method_3_code 7 = .ok (.aload_n 0, 1) := by decide +kernel
theorem d_Heap_fill_8 : decode prog_2_method_3_code 8 = .ok (.getfield 15, 3) := by decide +kernel
theorem d_Heap_fill_11 : decode prog_2_method_3_code 11 = .ok (.iload_n 1, 1) := by decide +kernel
theorem d_Heap_fill_12 : decode prog_2_method_3_code 12 = .ok (.iload_n 3, 1) := by decide +kernel
theorem d_Heap_fill_13 : decode prog_2_method_3_code 13 = .ok (.iastore, 1) := by decide +kernel
theorem d_Heap_fill_14 : decode prog_2_method_3_code 14 = .ok (.aload_n 0, 1) := by decide +kernel
theorem d_Heap_fill_15 : decode prog_2_method_3_code 15 = .ok (.getfield 18, 3) := by decide +kernel
theorem d_Heap_fill_18 : decode prog_2_method_3_code 18 = .ok (.iload_n 1, 1) := by decide +kernel
theorem d_Heap_fill_19 : decode prog_2_method_3_code 19 = .ok (.iload 4, 2) := by decide +kernel
theorem d_Heap_fill_21 : decode prog_2_method_3_code 21 = .ok (.iastore, 1) := by decide +kernel
theorem d_Heap_fill_22 : decode prog_2_method_3_code 22 = .ok (.return_, 1) := by decide +kernel
theorem d_Host_share_0 : decode prog_1_method_6_code 0 = .ok (.aload_n 0, 1) := by decide +kernel
theorem d_Host_share_1 : decode prog_1_method_6_code 1 = .ok (.getfield 21, 3) := by decide +kernel
theorem d_Host_share_4 : decode prog_1_method_6_code 4 = .ok (.bipush 8, 2) := by decide +kernel
theorem d_Host_share_6 : decode prog_1_method_6_code 6 = .ok (.if_icmp .ge 19, 3) := by decide +kernel
theorem d_Host_share_9 : decode prog_1_method_6_code 9 = .ok (.aload_n 0, 1) := by decide +kernel
theorem d_Host_share_10 : decode prog_1_method_6_code 10 = .ok (.iload_n 2, 1) := by decide +kernel
theorem d_Host_share_11 : decode prog_1_method_6_code 11 = .ok (.invokevirtual 66, 3) := by decide +kernel
theorem d_Host_share_14 : decode prog_1_method_6_code 14 = .ok (.ifCond .eq 11, 3) := by decide +kernel
theorem d_Host_share_17 : decode prog_1_method_6_code 17 = .ok (.aload_n 0, 1) := by decide +kernel
theorem d_Host_share_18 : decode prog_1_method_6_code 18 = .ok (.iload_n 3, 1) := by decide +kernel
theorem d_Host_share_19 : decode prog_1_method_6_code 19 = .ok (.invokevirtual 66, 3) := by decide +kernel
theorem d_Host_share_22 : decode prog_1_method_6_code 22 = .ok (.ifCond .ne 5, 3) := by decide +kernel
theorem d_Host_share_25 : decode prog_1_method_6_code 25 = .ok (.iconst (-1), 1) := by decide +kernel
theorem d_Host_share_26 : decode prog_1_method_6_code 26 = .ok (.ireturn, 1) := by decide +kernel
theorem d_Host_share_27 : decode prog_1_method_6_code 27 = .ok (.aload_n 0, 1) := by decide +kernel
theorem d_Host_share_28 : decode prog_1_method_6_code 28 = .ok (.getfield 21, 3) := by decide +kernel
theorem d_Host_share_31 : decode prog_1_method_6_code 31 = .ok (.istore 4, 2) := by decide +kernel
theorem d_Host_share_33 : decode prog_1_method_6_code 33 = .ok (.iconst 0, 1) := by decide +kernel
theorem d_Host_share_34 : decode prog_1_method_6_code 34 = .ok (.istore 5, 2) := by decide +kernel
theorem d_Host_share_36 : decode prog_1_method_6_code 36 = .ok (.iload 5, 2) := by decide +kernel
theorem d_Host_share_38 : decode prog_1_method_6_code 38 = .ok (.iconst 4, 1) := by decide +kernel
theorem d_Host_share_39 : decode prog_1_method_6_code 39 = .ok (.if_icmp .ge 36, 3) := by decide +kernel
theorem d_Host_share_42 : decode prog_1_method_6_code 42 = .ok (.aload_n 0, 1) := by decide +kernel
theorem d_Host_share_43 : decode prog_1_method_6_code 43 = .ok (.getfield 17, 3) := by decide +kernel
theorem d_Host_share_46 : decode prog_1_method_6_code 46 = .ok (.iload 5, 2) := by decide +kernel
theorem d_Host_share_48 : decode prog_1_method_6_code 48 = .ok (.aaload, 1) := by decide +kernel
theorem d_Host_share_49 : decode prog_1_method_6_code 49 = .ok (.getfield 69, 3) := by decide +kernel
theorem d_Host_share_52 : decode prog_1_method_6_code 52 = .ok (.iload 4, 2) := by decide +kernel
theorem d_Host_share_54 : decode prog_1_method_6_code 54 = .ok (.invokestatic 73, 3) := by decide +kernel
theorem d_Host_share_57 : decode prog_1_method_6_code 57 = .ok (.iload_n 1, 1) := by decide +kernel
theorem d_Host_share_58 : decode prog_1_method_6_code 58 = .ok (.iload_n 2, 1) := by decide +kernel
theorem d_Host_share_59 : decode prog_1_method_6_code 59 = .ok (.invokestatic 73, 3) := by decide +kernel
theorem d_Host_share_62 : decode prog_1_method_6_code 62 = .ok (.iload_n 3, 1) := by decide +kernel
theorem d_Host_share_63 : decode prog_1_method_6_code 63 = .ok (.invokestatic 73, 3) := by decide +kernel
theorem d_Host_share_66 : decode prog_1_method_6_code 66 = .ok (.invokevirtual 76, 3) := by decide +kernel
theorem d_Host_share_69 : decode prog_1_method_6_code 69 = .ok (.iinc 5 1, 3) := by decide +kernel
theorem d_Host_share_72 : decode prog_1_method_6_code 72 = .ok (.goto (-36), 3) := by decide +kernel
theorem d_Host_share_75 : decode prog_1_method_6_code 75 = .ok (.aload_n 0, 1) := by decide +kernel
theorem d_Host_share_76 : decode prog_1_method_6_code 76 = .ok (.dup, 1) := by decide +kernel
theorem d_Host_share_77 : decode prog_1_method_6_code 77 = .ok (.getfield 21, 3) := by decide +kernel
theorem d_Host_share_80 : decode prog_1_method_6_code 80 = .ok (.iconst 1, 1) := by decide +kernel
theorem d_Host_share_81 : decode prog_1_method_6_code 81 = .ok (.iadd, 1) := by decide +kernel
theorem d_Host_share_82 : decode prog_1_method_6_code 82 = .ok (.putfield 21, 3) := by decide +kernel
theorem d_Host_share_85 : decode prog_1_method_6_code 85 = .ok (.iload 4, 2) := by decide +kernel
theorem d_Host_share_87 : decode prog_1_method_6_code 87 = .ok (.ireturn, 1) := by decide +kernel
theorem d_Host_isTenant_0 : decode prog_1_method_23_code 0 = .ok (.iload_n 0, 1) := by decide +kernel
theorem d_Host_isTenant_1 : decode prog_1_method_23_code 1 = .ok (.ifCond .lt 12, 3) := by decide +kernel
theorem d_Host_isTenant_4 : decode prog_1_method_23_code 4 = .ok (.iload_n 0, 1) := by decide +kernel
theorem d_Host_isTenant_5 : decode prog_1_method_23_code 5 = .ok (.iconst 4, 1) := by decide +kernel
theorem d_Host_isTenant_6 : decode prog_1_method_23_code 6 = .ok (.if_icmp .ge 7, 3) := by decide +kernel
theorem d_Host_isTenant_9 : decode prog_1_method_23_code 9 = .ok (.iconst 1, 1) := by decide +kernel
theorem d_Host_isTenant_10 : decode prog_1_method_23_code 10 = .ok (.goto 4, 3) := by decide +kernel
theorem d_Host_isTenant_13 : decode prog_1_method_23_code 13 = .ok (.iconst 0, 1) := by decide +kernel
theorem d_Host_isTenant_14 : decode prog_1_method_23_code 14 = .ok (.ireturn, 1) := by decide +kernel
theorem d_Host_reservedCells_0 : decode prog_1_method_26_code 0 = .ok (.iconst 0, 1) := by decide +kernel
theorem d_Host_reservedCells_1 : decode prog_1_method_26_code 1 = .ok (.istore_n 1, 1) := by decide +kernel
theorem d_Host_reservedCells_2 : decode prog_1_method_26_code 2 = .ok (.iconst 0, 1) := by decide +kernel
theorem d_Host_reservedCells_3 : decode prog_1_method_26_code 3 = .ok (.istore_n 2, 1) := by decide +kernel
theorem d_Host_reservedCells_4 : decode prog_1_method_26_code 4 = .ok (.iload_n 2, 1) := by decide +kernel
theorem d_Host_reservedCells_5 : decode prog_1_method_26_code 5 = .ok (.iconst 4, 1) := by decide +kernel
theorem d_Host_reservedCells_6 : decode prog_1_method_26_code 6 = .ok (.if_icmp .ge 24, 3) := by decide +kernel
theorem d_Host_reservedCells_9 : decode prog_1_method_26_code 9 = .ok (.iload_n 1, 1) := by decide +kernel
theorem d_Host_reservedCells_10 : decode prog_1_method_26_code 10 = .ok (.aload_n 0, 1) := by decide +kernel
theorem d_Host_reservedCells_11 : decode prog_1_method_26_code 11 = .ok (.getfield 17, 3) := by decide +kernel
theorem d_Host_reservedCells_14 : decode prog_1_method_26_code 14 = .ok (.iload_n 2, 1) := by decide +kernel
theorem d_Host_reservedCells_15 : decode prog_1_method_26_code 15 = .ok (.aaload, 1) := by decide +kernel
theorem d_Host_reservedCells_16 : decode prog_1_method_26_code 16 = .ok (.getfield 69, 3) := by decide +kernel
theorem d_Host_reservedCells_19 : decode prog_1_method_26_code 19 = .ok (.getfield 92, 3) := by decide +kernel
theorem d_Host_reservedCells_22 : decode prog_1_method_26_code 22 = .ok (.iadd, 1) := by decide +kernel
theorem d_Host_reservedCells_23 : decode prog_1_method_26_code 23 = .ok (.istore_n 1, 1) := by decide +kernel
theorem d_Host_reservedCells_24 : decode prog_1_method_26_code 24 = .ok (.iinc 2 1, 3) := by decide +kernel
theorem d_Host_reservedCells_27 : decode prog_1_method_26_code 27 = .ok (.goto (-23), 3) := by decide +kernel
theorem d_Host_reservedCells_30 : decode prog_1_method_26_code 30 = .ok (.iload_n 1, 1) := by decide +kernel
theorem d_Host_reservedCells_31 : decode prog_1_method_26_code 31 = .ok (.ireturn, 1) := by decide +kernel
theorem d_Ten_isReserved_0 : decode prog_7_method_2_code 0 = .ok (.aload_n 0, 1) := by decide +kernel
theorem d_Ten_isReserved_1 : decode prog_7_method_2_code 1 = .ok (.getfield 57, 3) := by decide +kernel
theorem d_Ten_isReserved_4 : decode prog_7_method_2_code 4 = .ok (.ifCond .le 7, 3) := by decide +kernel
theorem d_Ten_isReserved_7 : decode prog_7_method_2_code 7 = .ok (.iconst 1, 1) := by decide +kernel
theorem d_Ten_isReserved_8 : decode prog_7_method_2_code 8 = .ok (.goto 4, 3) := by decide +kernel
theorem d_Ten_isReserved_11 : decode prog_7_method_2_code 11 = .ok (.iconst 0, 1) := by decide +kernel
theorem d_Ten_isReserved_12 : decode prog_7_method_2_code 12 = .ok (.ireturn, 1) := by decide +kernel
theorem d_Host_reserve_0 : decode prog_1_method_7_code 0 = .ok (.iload_n 1, 1) := by decide +kernel
theorem d_Host_reserve_1 : decode prog_1_method_7_code 1 = .ok (.invokestatic 82, 3) := by decide +kernel
theorem d_Host_reserve_4 : decode prog_1_method_7_code 4 = .ok (.ifCond .eq 30, 3) := by decide +kernel
theorem d_Host_reserve_7 : decode prog_1_method_7_code 7 = .ok (.iload_n 2, 1) := by decide +kernel
theorem d_Host_reserve_8 : decode prog_1_method_7_code 8 = .ok (.iconst 1, 1) := by decide +kernel
theorem d_Host_reserve_9 : decode prog_1_method_7_code 9 = .ok (.if_icmp .lt 25, 3) := by decide +kernel
theorem d_Host_reserve_12 : decode prog_1_method_7_code 12 = .ok (.iload_n 2, 1) := by decide +kernel
theorem d_Host_reserve_13 : decode prog_1_method_7_code 13 = .ok (.bipush 24, 2) := by decide +kernel
theorem d_Host_reserve_15 : decode prog_1_method_7_code 15 = .ok (.if_icmp .gt 19, 3) := by decide +kernel
theorem d_Host_reserve_18 : decode prog_1_method_7_code 18 = .ok (.iload_n 3, 1) := by decide +kernel
theorem d_Host_reserve_19 : decode prog_1_method_7_code 19 = .ok (.iconst 1, 1) := by decide +kernel
theorem d_Host_reserve_20 : decode prog_1_method_7_code 20 = .ok (.if_icmp .lt 14, 3) := by decide +kernel
theorem d_Host_reserve_23 : decode prog_1_method_7_code 23 = .ok (.iload_n 3, 1) := by decide +kernel
theorem d_Host_reserve_24 : decode prog_1_method_7_code 24 = .ok (.sipush 3000, 3) := by decide +kernel
theorem d_Host_reserve_27 : decode prog_1_method_7_code 27 = .ok (.if_icmp .gt 7, 3) := by decide +kernel
theorem d_Host_reserve_30 : decode prog_1_method_7_code 30 = .ok (.iconst 1, 1) := by decide +kernel
theorem d_Host_reserve_31 : decode prog_1_method_7_code 31 = .ok (.goto 4, 3) := by decide +kernel
theorem d_Host_reserve_34 : decode prog_1_method_7_code 34 = .ok (.iconst 0, 1) := by decide +kernel
theorem d_Host_reserve_35 : decode prog_1_method_7_code 35 = .ok (.istore 4, 2) := by decide +kernel
theorem d_Host_reserve_37 : decode prog_1_method_7_code 37 = .ok (.iload 4, 2) := by decide +kernel
theorem d_Host_reserve_39 : decode prog_1_method_7_code 39 = .ok (.ifCond .eq 26, 3) := by decide +kernel
theorem d_Host_reserve_42 : decode prog_1_method_7_code 42 = .ok (.aload_n 0, 1) := by decide +kernel
theorem d_Host_reserve_43 : decode prog_1_method_7_code 43 = .ok (.getfield 17, 3) := by decide +kernel
theorem d_Host_reserve_46 : decode prog_1_method_7_code 46 = .ok (.iload_n 1, 1) := by decide +kernel
theorem d_Host_reserve_47 : decode prog_1_method_7_code 47 = .ok (.aaload, 1) := by decide +kernel
theorem d_Host_reserve_48 : decode prog_1_method_7_code 48 = .ok (.invokevirtual 85, 3) := by decide +kernel
theorem d_Host_reserve_51 : decode prog_1_method_7_code 51 = .ok (.ifCond .ne 14, 3) := by decide +kernel
theorem d_Host_reserve_54 : decode prog_1_method_7_code 54 = .ok (.aload_n 0, 1) := by decide +kernel
theorem d_Host_reserve_55 : decode prog_1_method_7_code 55 = .ok (.invokevirtual 88, 3) := by decide +kernel
theorem d_Host_reserve_58 : decode prog_1_method_7_code 58 = .ok (.iload_n 2, 1) := by decide +kernel
theorem d_Host_reserve_59 : decode prog_1_method_7_code 59 = .ok (.iadd, 1) := by decide +kernel
theorem d_Host_reserve_60 : decode prog_1_method_7_code 60 = .ok (.bipush 48, 2) := by decide +kernel
theorem d_Host_reserve_62 : decode prog_1_method_7_code 62 = .ok (.if_icmp .le 5, 3) := by decide +kernel
theorem d_Host_reserve_65 : decode prog_1_method_7_code 65 = .ok (.iconst 0, 1) := by decide +kernel
theorem d_Host_reserve_66 : decode prog_1_method_7_code 66 = .ok (.ireturn, 1) := by decide +kernel
theorem d_Host_reserve_67 : decode prog_1_method_7_code 67 = .ok (.aload_n 0, 1) := by decide +kernel
theorem d_Host_reserve_68 : decode prog_1_method_7_code 68 = .ok (.getfield 17, 3) := by decide +kernel
theorem d_Host_reserve_71 : decode prog_1_method_7_code 71 = .ok (.iload_n 1, 1) := by decide +kernel
theorem d_Host_reserve_72 : decode prog_1_method_7_code 72 = .ok (.aaload, 1) := by decide +kernel
theorem d_Host_reserve_73 : decode prog_1_method_7_code 73 = .ok (.getfield 69, 3) := by decide +kernel
theorem d_Host_reserve_76 : decode prog_1_method_7_code 76 = .ok (.iload_n 2, 1) := by decide +kernel
theorem d_Host_reserve_77 : decode prog_1_method_7_code 77 = .ok (.putfield 92, 3) := by decide +kernel
theorem d_Host_reserve_80 : decode prog_1_method_7_code 80 = .ok (.aload_n 0, 1) := by decide +kernel
theorem d_Host_reserve_81 : decode prog_1_method_7_code 81 = .ok (.getfield 17, 3) := by decide +kernel
theorem d_Host_reserve_84 : decode prog_1_method_7_code 84 = .ok (.iload_n 1, 1) := by decide +kernel
theorem d_Host_reserve_85 : decode prog_1_method_7_code 85 = .ok (.aaload, 1) := by decide +kernel
theorem d_Host_reserve_86 : decode prog_1_method_7_code 86 = .ok (.iload_n 3, 1) := by decide +kernel
theorem d_Host_reserve_87 : decode prog_1_method_7_code 87 = .ok (.putfield 95, 3) := by decide +kernel
theorem d_Host_reserve_90 : decode prog_1_method_7_code 90 = .ok (.iconst 1, 1) := by decide +kernel
theorem d_Host_reserve_91 : decode prog_1_method_7_code 91 = .ok (.ireturn, 1) := by decide +kernel
theorem d_Host_permit_0 : decode prog_1_method_8_code 0 = .ok (.iload_n 1, 1) := by decide +kernel
theorem d_Host_permit_1 : decode prog_1_method_8_code 1 = .ok (.invokestatic 82, 3) := by decide +kernel
theorem d_Host_permit_4 : decode prog_1_method_8_code 4 = .ok (.ifCond .eq 20, 3) := by decide +kernel
theorem d_Host_permit_7 : decode prog_1_method_8_code 7 = .ok (.iload_n 2, 1) := by decide +kernel
theorem d_Host_permit_8 : decode prog_1_method_8_code 8 = .ok (.invokestatic 82, 3) := by decide +kernel
theorem d_Host_permit_11 : decode prog_1_method_8_code 11 = .ok (.ifCond .eq 13, 3) := by decide +kernel
theorem d_Host_permit_14 : decode prog_1_method_8_code 14 = .ok (.iload_n 3, 1) := by decide +kernel
theorem d_Host_permit_15 : decode prog_1_method_8_code 15 = .ok (.ifCond .lt 9, 3) := by decide +kernel
theorem d_Host_permit_18 : decode prog_1_method_8_code 18 = .ok (.iload_n 3, 1) := by decide +kernel
theorem d_Host_permit_19 : decode prog_1_method_8_code 19 = .ok (.bipush 7, 2) := by decide +kernel
theorem d_Host_permit_21 : decode prog_1_method_8_code 21 = .ok (.if_icmp .le 5, 3) := by decide +kernel
theorem d_Host_permit_24 : decode prog_1_method_8_code 24 = .ok (.iconst 0, 1) := by decide +kernel
theorem d_Host_permit_25 : decode prog_1_method_8_code 25 = .ok (.ireturn, 1) := by decide +kernel
theorem d_Host_permit_26 : decode prog_1_method_8_code 26 = .ok (.aload_n 0, 1) := by decide +kernel
theorem d_Host_permit_27 : decode prog_1_method_8_code 27 = .ok (.getfield 17, 3) := by decide +kernel
theorem d_Host_permit_30 : decode prog_1_method_8_code 30 = .ok (.iload_n 1, 1) := by decide +kernel
theorem d_Host_permit_31 : decode prog_1_method_8_code 31 = .ok (.aaload, 1) := by decide +kernel
theorem d_Host_permit_32 : decode prog_1_method_8_code 32 = .ok (.getfield 98, 3) := by decide +kernel
theorem d_Host_permit_35 : decode prog_1_method_8_code 35 = .ok (.iload_n 2, 1) := by decide +kernel
theorem d_Host_permit_36 : decode prog_1_method_8_code 36 = .ok (.iload_n 3, 1) := by decide +kernel
theorem d_Host_permit_37 : decode prog_1_method_8_code 37 = .ok (.iastore, 1) := by decide +kernel
theorem d_Host_permit_38 : decode prog_1_method_8_code 38 = .ok (.iconst 1, 1) := by decide +kernel
theorem d_Host_permit_39 : decode prog_1_method_8_code 39 = .ok (.ireturn, 1) := by decide +kernel
theorem d_Host_begin_0 : decode prog_1_method_27_code 0 = .ok (.aload_n 1, 1) := by decide +kernel
theorem d_Host_begin_1 : decode prog_1_method_27_code 1 = .ok (.getfield 122, 3) := by decide +kernel
theorem d_Host_begin_4 : decode prog_1_method_27_code 4 = .ok (.ifCond .ne 29, 3) := by decide +kernel
theorem d_Host_begin_7 : decode prog_1_method_27_code 7 = .ok (.aload_n 1, 1) := by decide +kernel
theorem d_Host_begin_8 : decode prog_1_method_27_code 8 = .ok (.invokevirtual 85, 3) := by decide +kernel
theorem d_Host_begin_11 : decode prog_1_method_27_code 11 = .ok (.ifCond .eq 22, 3) := by decide +kernel
theorem d_Host_begin_14 : decode prog_1_method_27_code 14 = .ok (.iload_n 2, 1) := by decide +kernel
theorem d_Host_begin_15 : decode prog_1_method_27_code 15 = .ok (.invokestatic 42, 3) := by decide +kernel
theorem d_Host_begin_18 : decode prog_1_method_27_code 18 = .ok (.ifCond .eq 15, 3) := by decide +kernel
theorem d_Host_begin_21 : decode prog_1_method_27_code 21 = .ok (.aload_n 0, 1) := by decide +kernel
theorem d_Host_begin_22 : decode prog_1_method_27_code 22 = .ok (.getfield 11, 3) := by decide +kernel
theorem d_Host_begin_25 : decode prog_1_method_27_code 25 = .ok (.iload_n 2, 1) := by decide +kernel
theorem d_Host_begin_26 : decode prog_1_method_27_code 26 = .ok (.aaload, 1) := by decide +kernel
theorem d_Host_begin_27 : decode prog_1_method_27_code 27 = .ok (.getfield 172, 3) := by decide +kernel
theorem d_Host_begin_30 : decode prog_1_method_27_code 30 = .ok (.ifCond .ne 5, 3) := by decide +kernel
theorem d_Host_begin_33 : decode prog_1_method_27_code 33 = .ok (.iconst 0, 1) := by decide +kernel
theorem d_Host_begin_34 : decode prog_1_method_27_code 34 = .ok (.ireturn, 1) := by decide +kernel
theorem d_Host_begin_35 : decode prog_1_method_27_code 35 = .ok (.aload_n 1, 1) := by decide +kernel
theorem d_Host_begin_36 : decode prog_1_method_27_code 36 = .ok (.iload_n 2, 1) := by decide +kernel
theorem d_Host_begin_37 : decode prog_1_method_27_code 37 = .ok (.putfield 176, 3) := by decide +kernel
theorem d_Host_begin_40 : decode prog_1_method_27_code 40 = .ok (.aload_n 1, 1) := by decide +kernel
theorem d_Host_begin_41 : decode prog_1_method_27_code 41 = .ok (.iconst 1, 1) := by decide +kernel
theorem d_Host_begin_42 : decode prog_1_method_27_code 42 = .ok (.putfield 122, 3) := by decide +kernel
theorem d_Host_begin_45 : decode prog_1_method_27_code 45 = .ok (.iconst 1, 1) := by decide +kernel
theorem d_Host_begin_46 : decode prog_1_method_27_code 46 = .ok (.ireturn, 1) := by decide +kernel
theorem d_Host_launch_0 : decode prog_1_method_9_code 0 = .ok (.iload_n 1, 1) := by decide +kernel
theorem d_Host_launch_1 : decode prog_1_method_9_code 1 = .ok (.invokestatic 82, 3) := by decide +kernel
theorem d_Host_launch_4 : decode prog_1_method_9_code 4 = .ok (.ifCond .eq 21, 3) := by decide +kernel
theorem d_Host_launch_7 : decode prog_1_method_9_code 7 = .ok (.aload_n 0, 1) := by decide +kernel
theorem d_Host_launch_8 : decode prog_1_method_9_code 8 = .ok (.aload_n 0, 1) := by decide +kernel
theorem d_Host_launch_9 : decode prog_1_method_9_code 9 = .ok (.getfield 17, 3) := by decide +kernel
theorem d_Host_launch_12 : decode prog_1_method_9_code 12 = .ok (.iload_n 1, 1) := by decide +kernel
theorem d_Host_launch_13 : decode prog_1_method_9_code 13 = .ok (.aaload, 1) := by decide +kernel
theorem d_Host_launch_14 : decode prog_1_method_9_code 14 = .ok (.iload_n 2, 1) := by decide +kernel
theorem d_Host_launch_15 : decode prog_1_method_9_code 15 = .ok (.invokevirtual 102, 3) := by decide +kernel
theorem d_Host_launch_18 : decode prog_1_method_9_code 18 = .ok (.ifCond .eq 7, 3) := by decide +kernel
theorem d_Host_launch_21 : decode prog_1_method_9_code 21 = .ok (.iconst 1, 1) := by decide +kernel
theorem d_Host_launch_22 : decode prog_1_method_9_code 22 = .ok (.goto 4, 3) := by decide +kernel
theorem d_Host_launch_25 : decode prog_1_method_9_code 25 = .ok (.iconst 0, 1) := by decide +kernel
theorem d_Host_launch_26 : decode prog_1_method_9_code 26 = .ok (.ireturn, 1) := by decide +kernel
theorem d_Line_isFull_0 : decode prog_4_method_2_code 0 = .ok (.aload_n 0, 1) := by decide +kernel
theorem d_Line_isFull_1 : decode prog_4_method_2_code 1 = .ok (.getfield 7, 3) := by decide +kernel
theorem d_Line_isFull_4 : decode prog_4_method_2_code 4 = .ok (.aload_n 0, 1) := by decide +kernel
theorem d_Line_isFull_5 : decode prog_4_method_2_code 5 = .ok (.getfield 13, 3) := by decide +kernel
theorem d_Line_isFull_8 : decode prog_4_method_2_code 8 = .ok (.arraylength, 1) := by decide +kernel
theorem d_Line_isFull_9 : decode prog_4_method_2_code 9 = .ok (.if_icmp .lt 7, 3) := by decide +kernel
theorem d_Line_isFull_12 : decode prog_4_method_2_code 12 = .ok (.iconst 1, 1) := by decide +kernel
theorem d_Line_isFull_13 : decode prog_4_method_2_code 13 = .ok (.goto 4, 3) := by decide +kernel
theorem d_Line_isFull_16 : decode prog_4_method_2_code 16 = .ok (.iconst 0, 1) := by decide +kernel
theorem d_Line_isFull_17 : decode prog_4_method_2_code 17 = .ok (.ireturn, 1) := by decide +kernel
theorem d_Line_add_0 : decode prog_4_method_3_code 0 = .ok (.aload_n 0, 1) := by decide +kernel
theorem d_Line_add_1 : decode prog_4_method_3_code 1 = .ok (.invokevirtual 17, 3) := by decide +kernel
theorem d_Line_add_4 : decode prog_4_method_3_code 4 = .ok (.ifCond .eq 5, 3) := by decide +kernel
theorem d_Line_add_7 : decode prog_4_method_3_code 7 = .ok (.iconst 0, 1) := by decide +kernel
theorem d_Line_add_8 : decode prog_4_method_3_code 8 = .ok (.ireturn, 1) := by decide +kernel
theorem d_Line_add_9 : decode prog_4_method_3_code 9 = .ok (.aload_n 0, 1) := by decide +kernel
theorem d_Line_add_10 : decode prog_4_method_3_code 10 = .ok (.getfield 13, 3) := by decide +kernel
theorem d_Line_add_13 : decode prog_4_method_3_code 13 = .ok (.aload_n 0, 1) := by decide +kernel
theorem d_Line_add_14 : decode prog_4_method_3_code 14 = .ok (.getfield 7, 3) := by decide +kernel
theorem d_Line_add_17 : decode prog_4_method_3_code 17 = .ok (.iload_n 1, 1) := by decide +kernel
theorem d_Line_add_18 : decode prog_4_method_3_code 18 = .ok (.iastore, 1) := by decide +kernel
theorem d_Line_add_19 : decode prog_4_method_3_code 19 = .ok (.aload_n 0, 1) := by decide +kernel
theorem d_Line_add_20 : decode prog_4_method_3_code 20 = .ok (.dup, 1) := by decide +kernel
theorem d_Line_add_21 : decode prog_4_method_3_code 21 = .ok (.getfield 7, 3) := by decide +kernel
theorem d_Line_add_24 : decode prog_4_method_3_code 24 = .ok (.iconst 1, 1) := by decide +kernel
theorem d_Line_add_25 : decode prog_4_method_3_code 25 = .ok (.iadd, 1) := by decide +kernel
theorem d_Line_add_26 : decode prog_4_method_3_code 26 = .ok (.putfield 7, 3) := by decide +kernel
theorem d_Line_add_29 : decode prog_4_method_3_code 29 = .ok (.iconst 1, 1) := by decide +kernel
theorem d_Line_add_30 : decode prog_4_method_3_code 30 = .ok (.ireturn, 1) := by decide +kernel
theorem d_Host_feed_0 : decode prog_1_method_10_code 0 = .ok (.iload_n 1, 1) := by decide +kernel
theorem d_Host_feed_1 : decode prog_1_method_10_code 1 = .ok (.invokestatic 82, 3) := by decide +kernel
theorem d_Host_feed_4 : decode prog_1_method_10_code 4 = .ok (.ifCond .eq 23, 3) := by decide +kernel
theorem d_Host_feed_7 : decode prog_1_method_10_code 7 = .ok (.aload_n 0, 1) := by decide +kernel
theorem d_Host_feed_8 : decode prog_1_method_10_code 8 = .ok (.getfield 17, 3) := by decide +kernel
theorem d_Host_feed_11 : decode prog_1_method_10_code 11 = .ok (.iload_n 1, 1) := by decide +kernel
theorem d_Host_feed_12 : decode prog_1_method_10_code 12 = .ok (.aaload, 1) := by decide +kernel
theorem d_Host_feed_13 : decode prog_1_method_10_code 13 = .ok (.getfield 106, 3) := by decide +kernel
theorem d_Host_feed_16 : decode prog_1_method_10_code 16 = .ok (.iload_n 2, 1) := by decide +kernel
theorem d_Host_feed_17 : decode prog_1_method_10_code 17 = .ok (.invokevirtual 110, 3) := by decide +kernel
theorem d_Host_feed_20 : decode prog_1_method_10_code 20 = .ok (.ifCond .eq 7, 3) := by decide +kernel
theorem d_Host_feed_23 : decode prog_1_method_10_code 23 = .ok (.iconst 1, 1) := by decide +kernel
theorem d_Host_feed_24 : decode prog_1_method_10_code 24 = .ok (.goto 4, 3) := by decide +kernel
theorem d_Host_feed_27 : decode prog_1_method_10_code 27 = .ok (.iconst 0, 1) := by decide +kernel
theorem d_Host_feed_28 : decode prog_1_method_10_code 28 = .ok (.ireturn, 1) := by decide +kernel
theorem d_Stk_put_0 : decode prog_6_method_2_code 0 = .ok (.aload_n 0, 1) := by decide +kernel
theorem d_Stk_put_1 : decode prog_6_method_2_code 1 = .ok (.getfield 19, 3) := by decide +kernel
theorem d_Stk_put_4 : decode prog_6_method_2_code 4 = .ok (.bipush 6, 2) := by decide +kernel
theorem d_Stk_put_6 : decode prog_6_method_2_code 6 = .ok (.if_icmp .ge 33, 3) := by decide +kernel
theorem d_Stk_put_9 : decode prog_6_method_2_code 9 = .ok (.aload_n 0, 1) := by decide +kernel
theorem d_Stk_put_10 : decode prog_6_method_2_code 10 = .ok (.getfield 9, 3) := by decide +kernel
theorem d_Stk_put_13 : decode prog_6_method_2_code 13 = .ok (.aload_n 0, 1) := by decide +kernel
theorem d_Stk_put_14 : decode prog_6_method_2_code 14 = .ok (.getfield 19, 3) := by decide +kernel
theorem d_Stk_put_17 : decode prog_6_method_2_code 17 = .ok (.iload_n 1, 1) := by decide +kernel
theorem d_Stk_put_18 : decode prog_6_method_2_code 18 = .ok (.iastore, 1) := by decide +kernel
theorem d_Stk_put_19 : decode prog_6_method_2_code 19 = .ok (.aload_n 0, 1) := by decide +kernel
theorem d_Stk_put_20 : decode prog_6_method_2_code 20 = .ok (.getfield 15, 3) := by decide +kernel
theorem d_Stk_put_23 : decode prog_6_method_2_code 23 = .ok (.aload_n 0, 1) := by decide +kernel
theorem d_Stk_put_24 : decode prog_6_method_2_code 24 = .ok (.getfield 19, 3) := by decide +kernel
theorem d_Stk_put_27 : decode prog_6_method_2_code 27 = .ok (.iload_n 2, 1) := by decide +kernel
theorem d_Stk_put_28 : decode prog_6_method_2_code 28 = .ok (.bastore, 1) := by decide +kernel
theorem d_Stk_put_29 : decode prog_6_method_2_code 29 = .ok (.aload_n 0, 1) := by decide +kernel
theorem d_Stk_put_30 : decode prog_6_method_2_code 30 = .ok (.dup, 1) := by decide +kernel
theorem d_Stk_put_31 : decode prog_6_method_2_code 31 = .ok (.getfield 19, 3) := by decide +kernel
theorem d_Stk_put_34 : decode prog_6_method_2_code 34 = .ok (.iconst 1, 1) := by decide +kernel
theorem d_Stk_put_35 : decode prog_6_method_2_code 35 = .ok (.iadd, 1) := by decide +kernel
theorem d_Stk_put_36 : decode prog_6_method_2_code 36 = .ok (.putfield 19, 3) := by decide +kernel
theorem d_Stk_put_39 : decode prog_6_method_2_code 39 = .ok (.return_, 1) := by decide +kernel
theorem d_Stk_putNumber_0 : decode prog_6_method_3_code 0 = .ok (.aload_n 0, 1) := by decide +kernel
theorem d_Stk_putNumber_1 : decode prog_6_method_3_code 1 = .ok (.iload_n 1, 1) := by decide +kernel
theorem d_Stk_putNumber_2 : decode prog_6_method_3_code 2 = .ok (.iconst 0, 1) := by decide +kernel
theorem d_Stk_putNumber_3 : decode prog_6_method_3_code 3 = .ok (.invokevirtual 23, 3) := by decide +kernel
theorem d_Stk_putNumber_6 : decode prog_6_method_3_code 6 = .ok (.return_, 1) := by decide +kernel
theorem d_Stk_putTruth_0 : decode prog_6_method_4_code 0 = .ok (.aload_n 0, 1) := by decide +kernel
theorem d_Stk_putTruth_1 : decode prog_6_method_4_code 1 = .ok (.iload_n 1, 1) := by decide +kernel
theorem d_Stk_putTruth_2 : decode prog_6_method_4_code 2 = .ok (.ifCond .eq 7, 3) := by decide +kernel
theorem d_Stk_putTruth_5 : decode prog_6_method_4_code 5 = .ok (.iconst 1, 1) := by decide +kernel
theorem d_Stk_putTruth_6 : decode prog_6_method_4_code 6 = .ok (.goto 4, 3) := by decide +kernel
theorem d_Stk_putTruth_9 : decode prog_6_method_4_code 9 = .ok (.iconst 0, 1) := by decide +kernel
theorem d_Stk_putTruth_10 : decode prog_6_method_4_code 10 = .ok (.iconst 0, 1) := by decide +kernel
theorem d_Stk_putTruth_11 : decode prog_6_method_4_code 11 = .ok (.invokevirtual 23, 3) := by decide +kernel
theorem d_Stk_putTruth_14 : decode prog_6_method_4_code 14 = .ok (.return_, 1) := by decide +kernel
theorem d_Stk_top_0 : decode prog_6_method_7_code 0 = .ok (.aload_n 0, 1) := by decide +kernel
theorem d_Stk_top_1 : decode prog_6_method_7_code 1 = .ok (.getfield 19, 3) := by decide +kernel
theorem d_Stk_top_4 : decode prog_6_method_7_code 4 = .ok (.ifCond .le 17, 3) := by decide +kernel
theorem d_Stk_top_7 : decode prog_6_method_7_code 7 = .ok (.aload_n 0, 1) := by decide +kernel
theorem d_Stk_top_8 : decode prog_6_method_7_code 8 = .ok (.getfield 9, 3) := by decide +kernel
theorem d_Stk_top_11 : decode prog_6_method_7_code 11 = .ok (.aload_n 0, 1) := by decide +kernel
theorem d_Stk_top_12 : decode prog_6_method_7_code 12 = .ok (.getfield 19, 3) := by decide +kernel
theorem d_Stk_top_15 : decode prog_6_method_7_code 15 = .ok (.iconst 1, 1) := by decide +kernel
theorem d_Stk_top_16 : decode prog_6_method_7_code 16 = .ok (.isub, 1) := by decide +kernel
theorem d_Stk_top_17 : decode prog_6_method_7_code 17 = .ok (.iaload, 1) := by decide +kernel
theorem d_Stk_top_18 : decode prog_6_method_7_code 18 = .ok (.goto 4, 3) := by decide +kernel
theorem d_Stk_top_21 : decode prog_6_method_7_code 21 = .ok (.iconst 0, 1) := by decide +kernel
theorem d_Stk_top_22 : decode prog_6_method_7_code 22 = .ok (.ireturn, 1) := by decide +kernel
theorem d_Stk_take_0 : decode prog_6_method_8_code 0 = .ok (.aload_n 0, 1) := by decide +kernel
theorem d_Stk_take_1 : decode prog_6_method_8_code 1 = .ok (.invokevirtual 27, 3) := by decide +kernel
theorem d_Stk_take_4 : decode prog_6_method_8_code 4 = .ok (.istore_n 1, 1) := by decide +kernel
theorem d_Stk_take_5 : decode prog_6_method_8_code 5 = .ok (.aload_n 0, 1) := by decide +kernel
theorem d_Stk_take_6 : decode prog_6_method_8_code 6 = .ok (.iconst 0, 1) := by decide +kernel
theorem d_Stk_take_7 : decode prog_6_method_8_code 7 = .ok (.aload_n 0, 1) := by decide +kernel
theorem d_Stk_take_8 : decode prog_6_method_8_code 8 = .ok (.getfield 19, 3) := by decide +kernel
theorem d_Stk_take_11 : decode prog_6_method_8_code 11 = .ok (.iconst 1, 1) := by decide +kernel
theorem d_Stk_take_12 : decode prog_6_method_8_code 12 = .ok (.isub, 1) := by decide +kernel
theorem d_Stk_take_13 : decode prog_6_method_8_code 13 = .ok (.invokestatic 31, 3) := by decide +kernel
theorem d_Stk_take_16 : decode prog_6_method_8_code 16 = .ok (.putfield 19, 3) := by decide +kernel
theorem d_Stk_take_19 : decode prog_6_method_8_code 19 = .ok (.iload_n 1, 1) := by decide +kernel
theorem d_Stk_take_20 : decode prog_6_method_8_code 20 = .ok (.ireturn, 1) := by decide +kernel
theorem d_Host_calculate_0 : decode prog_1_method_32_code 0 = .ok (.aload_n 0, 1) := by decide +kernel
theorem d_Host_calculate_1 : decode prog_1_method_32_code 1 = .ok (.invokevirtual 226, 3) := by decide +kernel
theorem d_Host_calculate_4 : decode prog_1_method_32_code 4 = .ok (.istore_n 2, 1) := by decide +kernel
theorem d_Host_calculate_5 : decode prog_1_method_32_code 5 = .ok (.aload_n 0, 1) := by decide +kernel
theorem d_Host_calculate_6 : decode prog_1_method_32_code 6 = .ok (.invokevirtual 226, 3) := by decide +kernel
theorem d_Host_calculate_9 : decode prog_1_method_32_code 9 = .ok (.istore_n 3, 1) := by decide +kernel
theorem d_Host_calculate_10 : decode prog_1_method_32_code 10 = .ok (.iload_n 1, 1) := by decide +kernel
theorem d_Host_calculate_11 : decode prog_1_method_32_code 11 = .ok (.tableswitch 55 2 4 #[25, 35, 45], 25) := by decide +kernel
theorem d_Host_calculate_36 : decode prog_1_method_32_code 36 = .ok (.aload_n 0, 1) := by decide +kernel
theorem d_Host_calculate_37 : decode prog_1_method_32_code 37 = .ok (.iload_n 3, 1) := by decide +kernel
theorem d_Host_calculate_38 : decode prog_1_method_32_code 38 = .ok (.iload_n 2, 1) := by decide +kernel
theorem d_Host_calculate_39 : decode prog_1_method_32_code 39 = .ok (.iadd, 1) := by decide +kernel
theorem d_Host_calculate_40 : decode prog_1_method_32_code 40 = .ok (.invokevirtual 209, 3) := by decide +kernel
theorem d_Host_calculate_43 : decode prog_1_method_32_code 43 = .ok (.goto 37, 3) := by decide +kernel
theorem d_Host_calculate_46 : decode prog_1_method_32_code 46 = .ok (.aload_n 0, 1) := by decide +kernel
theorem d_Host_calculate_47 : decode prog_1_method_32_code 47 = .ok (.iload_n 3, 1) := by decide +kernel
theorem d_Host_calculate_48 : decode prog_1_method_32_code 48 = .ok (.iload_n 2, 1) := by decide +kernel
theorem d_Host_calculate_49 : decode prog_1_method_32_code 49 = .ok (.isub, 1) := by decide +kernel
theorem d_Host_calculate_50 : decode prog_1_method_32_code 50 = .ok (.invokevirtual 209, 3) := by decide +kernel
theorem d_Host_calculate_53 : decode prog_1_method_32_code 53 = .ok (.goto 27, 3) := by decide +kernel
theorem d_Host_calculate_56 : decode prog_1_method_32_code 56 = .ok (.aload_n 0, 1) := by decide +kernel
theorem d_Host_calculate_57 : decode prog_1_method_32_code 57 = .ok (.iload_n 3, 1) := by decide +kernel
theorem d_Host_calculate_58 : decode prog_1_method_32_code 58 = .ok (.iload_n 2, 1) := by decide +kernel
theorem d_Host_calculate_59 : decode prog_1_method_32_code 59 = .ok (.imul, 1) := by decide +kernel
theorem d_Host_calculate_60 : decode prog_1_method_32_code 60 = .ok (.invokevirtual 209, 3) := by decide +kernel
theorem d_Host_calculate_63 : decode prog_1_method_32_code 63 = .ok (.goto 17, 3) := by decide +kernel
theorem d_Host_calculate_66 : decode prog_1_method_32_code 66 = .ok (.aload_n 0, 1) := by decide +kernel
theorem d_Host_calculate_67 : decode prog_1_method_32_code 67 = .ok (.iload_n 3, 1) := by decide +kernel
theorem d_Host_calculate_68 : decode prog_1_method_32_code 68 = .ok (.iload_n 2, 1) := by decide +kernel
theorem d_Host_calculate_69 : decode prog_1_method_32_code 69 = .ok (.if_icmp .ge 7, 3) := by decide +kernel
theorem d_Host_calculate_72 : decode prog_1_method_32_code 72 = .ok (.iconst 1, 1) := by decide +kernel
theorem d_Host_calculate_73 : decode prog_1_method_32_code 73 = .ok (.goto 4, 3) := by decide +kernel
theorem d_Host_calculate_76 : decode prog_1_method_32_code 76 = .ok (.iconst 0, 1) := by decide +kernel
theorem d_Host_calculate_77 : decode prog_1_method_32_code 77 = .ok (.invokevirtual 266, 3) := by decide +kernel
theorem d_Host_calculate_80 : decode prog_1_method_32_code 80 = .ok (.return_, 1) := by decide +kernel
theorem d_Host_compare_0 : decode prog_1_method_37_code 0 = .ok (.aload_n 0, 1) := by decide +kernel
theorem d_Host_compare_1 : decode prog_1_method_37_code 1 = .ok (.invokevirtual 226, 3) := by decide +kernel
theorem d_Host_compare_4 : decode prog_1_method_37_code 4 = .ok (.istore_n 1, 1) := by decide +kernel
theorem d_Host_compare_5 : decode prog_1_method_37_code 5 = .ok (.aload_n 0, 1) := by decide +kernel
theorem d_Host_compare_6 : decode prog_1_method_37_code 6 = .ok (.invokevirtual 226, 3) := by decide +kernel
theorem d_Host_compare_9 : decode prog_1_method_37_code 9 = .ok (.istore_n 2, 1) := by decide +kernel
theorem d_Host_compare_10 : decode prog_1_method_37_code 10 = .ok (.aload_n 0, 1) := by decide +kernel
theorem d_Host_compare_11 : decode prog_1_method_37_code 11 = .ok (.iload_n 2, 1) := by decide +kernel
theorem d_Host_compare_12 : decode prog_1_method_37_code 12 = .ok (.iload_n 1, 1) := by decide +kernel
theorem d_Host_compare_13 : decode prog_1_method_37_code 13 = .ok (.if_icmp .ne 7, 3) := by decide +kernel
theorem d_Host_compare_16 : decode prog_1_method_37_code 16 = .ok (.iconst 1, 1) := by decide +kernel
theorem d_Host_compare_17 : decode prog_1_method_37_code 17 = .ok (.goto 4, 3) := by decide +kernel
theorem d_Host_compare_20 : decode prog_1_method_37_code 20 = .ok (.iconst 0, 1) := by decide +kernel
theorem d_Host_compare_21 : decode prog_1_method_37_code 21 = .ok (.invokevirtual 266, 3) := by decide +kernel
theorem d_Host_compare_24 : decode prog_1_method_37_code 24 = .ok (.return_, 1) := by decide +kernel
theorem d_Line_drop_0 : decode prog_4_method_6_code 0 = .ok (.aload_n 0, 1) := by decide +kernel
theorem d_Line_drop_1 : decode prog_4_method_6_code 1 = .ok (.iconst 0, 1) := by decide +kernel
theorem d_Line_drop_2 : decode prog_4_method_6_code 2 = .ok (.putfield 7, 3) := by decide +kernel
theorem d_Line_drop_5 : decode prog_4_method_6_code 5 = .ok (.return_, 1) := by decide +kernel
theorem d_Stk_drop_0 : decode prog_6_method_9_code 0 = .ok (.aload_n 0, 1) := by decide +kernel
theorem d_Stk_drop_1 : decode prog_6_method_9_code 1 = .ok (.iconst 0, 1) := by decide +kernel
theorem d_Stk_drop_2 : decode prog_6_method_9_code 2 = .ok (.putfield 19, 3) := by decide +kernel
theorem d_Stk_drop_5 : decode prog_6_method_9_code 5 = .ok (.return_, 1) := by decide +kernel
theorem d_Ten_dropAll_0 : decode prog_7_method_7_code 0 = .ok (.aload_n 0, 1) := by decide +kernel
theorem d_Ten_dropAll_1 : decode prog_7_method_7_code 1 = .ok (.getfield 12, 3) := by decide +kernel
theorem d_Ten_dropAll_4 : decode prog_7_method_7_code 4 = .ok (.lconst 0, 1) := by decide +kernel
theorem d_Ten_dropAll_5 : decode prog_7_method_7_code 5 = .ok (.putfield 92, 3) := by decide +kernel
theorem d_Ten_dropAll_8 : decode prog_7_method_7_code 8 = .ok (.aload_n 0, 1) := by decide +kernel
theorem d_Ten_dropAll_9 : decode prog_7_method_7_code 9 = .ok (.getfield 21, 3) := by decide +kernel
theorem d_Ten_dropAll_12 : decode prog_7_method_7_code 12 = .ok (.invokevirtual 96, 3) := by decide +kernel
theorem d_Ten_dropAll_15 : decode prog_7_method_7_code 15 = .ok (.aload_n 0, 1) := by decide +kernel
theorem d_Ten_dropAll_16 : decode prog_7_method_7_code 16 = .ok (.getfield 34, 3) := by decide +kernel
theorem d_Ten_dropAll_19 : decode prog_7_method_7_code 19 = .ok (.invokevirtual 99, 3) := by decide +kernel
theorem d_Ten_dropAll_22 : decode prog_7_method_7_code 22 = .ok (.aload_n 0, 1) := by decide +kernel
theorem d_Ten_dropAll_23 : decode prog_7_method_7_code 23 = .ok (.getfield 25, 3) := by decide +kernel
theorem d_Ten_dropAll_26 : decode prog_7_method_7_code 26 = .ok (.iconst 0, 1) := by decide +kernel
theorem d_Ten_dropAll_27 : decode prog_7_method_7_code 27 = .ok (.invokestatic 100, 3) := by decide +kernel
theorem d_Ten_dropAll_30 : decode prog_7_method_7_code 30 = .ok (.return_, 1) := by decide +kernel
theorem d_Host_end_0 : decode prog_1_method_28_code 0 = .ok (.aload_n 1, 1) := by decide +kernel
theorem d_Host_end_1 : decode prog_1_method_28_code 1 = .ok (.iload_n 2, 1) := by decide +kernel
theorem d_Host_end_2 : decode prog_1_method_28_code 2 = .ok (.putfield 122, 3) := by decide +kernel
theorem d_Host_end_5 : decode prog_1_method_28_code 5 = .ok (.aload_n 1, 1) := by decide +kernel
theorem d_Host_end_6 : decode prog_1_method_28_code 6 = .ok (.aload_n 0, 1) := by decide +kernel
theorem d_Host_end_7 : decode prog_1_method_28_code 7 = .ok (.getfield 25, 3) := by decide +kernel
theorem d_Host_end_10 : decode prog_1_method_28_code 10 = .ok (.putfield 145, 3) := by decide +kernel
theorem d_Host_end_13 : decode prog_1_method_28_code 13 = .ok (.aload_n 1, 1) := by decide +kernel
theorem d_Host_end_14 : decode prog_1_method_28_code 14 = .ok (.invokevirtual 179, 3) := by decide +kernel
theorem d_Host_end_17 : decode prog_1_method_28_code 17 = .ok (.return_, 1) := by decide +kernel
theorem d_Host_divide_0 : decode prog_1_method_33_code 0 = .ok (.aload_n 1, 1) := by decide +kernel
theorem d_Host_divide_1 : decode prog_1_method_33_code 1 = .ok (.getfield 205, 3) := by decide +kernel
theorem d_Host_divide_4 : decode prog_1_method_33_code 4 = .ok (.invokevirtual 226, 3) := by decide +kernel
theorem d_Host_divide_7 : decode prog_1_method_33_code 7 = .ok (.istore_n 2, 1) := by decide +kernel
theorem d_Host_divide_8 : decode prog_1_method_33_code 8 = .ok (.aload_n 1, 1) := by decide +kernel
theorem d_Host_divide_9 : decode prog_1_method_33_code 9 = .ok (.getfield 205, 3) := by decide +kernel
theorem d_Host_divide_12 : decode prog_1_method_33_code 12 = .ok (.invokevirtual 226, 3) := by decide +kernel
theorem d_Host_divide_15 : decode prog_1_method_33_code 15 = .ok (.istore_n 3, 1) := by decide +kernel
theorem d_Host_divide_16 : decode prog_1_method_33_code 16 = .ok (.iload_n 2, 1) := by decide +kernel
theorem d_Host_divide_17 : decode prog_1_method_33_code 17 = .ok (.ifCond .ne 13, 3) := by decide +kernel
theorem d_Host_divide_20 : decode prog_1_method_33_code 20 = .ok (.aload_n 0, 1) := by decide +kernel
theorem d_Host_divide_21 : decode prog_1_method_33_code 21 = .ok (.aload_n 1, 1) := by decide +kernel
theorem d_Host_divide_22 : decode prog_1_method_33_code 22 = .ok (.bipush 6, 2) := by decide +kernel
theorem d_Host_divide_24 : decode prog_1_method_33_code 24 = .ok (.invokevirtual 185, 3) := by decide +kernel
theorem d_Host_divide_27 : decode prog_1_method_33_code 27 = .ok (.goto 13, 3) := by decide +kernel
theorem d_Host_divide_30 : decode prog_1_method_33_code 30 = .ok (.aload_n 1, 1) := by decide +kernel
theorem d_Host_divide_31 : decode prog_1_method_33_code 31 = .ok (.getfield 205, 3) := by decide +kernel
theorem d_Host_divide_34 : decode prog_1_method_33_code 34 = .ok (.iload_n 3, 1) := by decide +kernel
theorem d_Host_divide_35 : decode prog_1_method_33_code 35 = .ok (.iload_n 2, 1) := by decide +kernel
theorem d_Host_divide_36 : decode prog_1_method_33_code 36 = .ok (.idiv, 1) := by decide +kernel
theorem d_Host_divide_37 : decode prog_1_method_33_code 37 = .ok (.invokevirtual 209, 3) := by decide +kernel
theorem d_Host_divide_40 : decode prog_1_method_33_code 40 = .ok (.return_, 1) := by decide +kernel
theorem d_Heap_rowOf_0 : decode prog_2_method_2_code 0 = .ok (.iload_n 1, 1) := by decide +kernel
theorem d_Heap_rowOf_1 : decode prog_2_method_2_code 1 = .ok (.ifCond .ne 10, 3) := by decide +kernel
theorem d_Heap_rowOf_4 : decode prog_2_method_2_code 4 = .ok (.aload_n 0, 1) := by decide +kernel
theorem d_Heap_rowOf_5 : decode prog_2_method_2_code 5 = .ok (.getfield 9, 3) := by decide +kernel
theorem d_Heap_rowOf_8 : decode prog_2_method_2_code 8 = .ok (.goto 19, 3) := by decide +kernel
theorem d_Heap_rowOf_11 : decode prog_2_method_2_code 11 = .ok (.iload_n 1, 1) := by decide +kernel
theorem d_Heap_rowOf_12 : decode prog_2_method_2_code 12 = .ok (.iconst 1, 1) := by decide +kernel
theorem d_Heap_rowOf_13 : decode prog_2_method_2_code 13 = .ok (.if_icmp .ne 10, 3) := by decide +kernel
theorem d_Heap_rowOf_16 : decode prog_2_method_2_code 16 = .ok (.aload_n 0, 1) := by decide +kernel
theorem d_Heap_rowOf_17 : decode prog_2_method_2_code 17 = .ok (.getfield 15, 3) := by decide +kernel
theorem d_Heap_rowOf_20 : decode prog_2_method_2_code 20 = .ok (.goto 7, 3) := by decide +kernel
theorem d_Heap_rowOf_23 : decode prog_2_method_2_code 23 = .ok (.aload_n 0, 1) := by decide +kernel
theorem d_Heap_rowOf_24 : decode prog_2_method_2_code 24 = .ok (.getfield 18, 3) := by decide +kernel
theorem d_Heap_rowOf_27 : decode prog_2_method_2_code 27 = .ok (.areturn, 1) := by decide +kernel
theorem d_Host_getPart_0 : decode prog_1_method_35_code 0 = .ok (.aload_n 1, 1) := by decide +kernel
theorem d_Host_getPart_1 : decode prog_1_method_35_code 1 = .ok (.getfield 205, 3) := by decide +kernel
theorem d_Host_getPart_4 : decode prog_1_method_35_code 4 = .ok (.invokevirtual 226, 3) := by decide +kernel
theorem d_Host_getPart_7 : decode prog_1_method_35_code 7 = .ok (.istore_n 3, 1) := by decide +kernel
theorem d_Host_getPart_8 : decode prog_1_method_35_code 8 = .ok (.iload_n 3, 1) := by decide +kernel
theorem d_Host_getPart_9 : decode prog_1_method_35_code 9 = .ok (.ifCond .ne 13, 3) := by decide +kernel
theorem d_Host_getPart_12 : decode prog_1_method_35_code 12 = .ok (.aload_n 0, 1) := by decide +kernel
theorem d_Host_getPart_13 : decode prog_1_method_35_code 13 = .ok (.aload_n 1, 1) := by decide +kernel
theorem d_Host_getPart_14 : decode prog_1_method_35_code 14 = .ok (.bipush 7, 2) := by decide +kernel
theorem d_Host_getPart_16 : decode prog_1_method_35_code 16 = .ok (.invokevirtual 185, 3) := by decide +kernel
theorem d_Host_getPart_19 : decode prog_1_method_35_code 19 = .ok (.goto 29, 3) := by decide +kernel
theorem d_Host_getPart_22 : decode prog_1_method_35_code 22 = .ok (.aload_n 1, 1) := by decide +kernel
theorem d_Host_getPart_23 : decode prog_1_method_35_code 23 = .ok (.getfield 205, 3) := by decide +kernel
theorem d_Host_getPart_26 : decode prog_1_method_35_code 26 = .ok (.aload_n 1, 1) := by decide +kernel
theorem d_Host_getPart_27 : decode prog_1_method_35_code 27 = .ok (.getfield 69, 3) := by decide +kernel
theorem d_Host_getPart_30 : decode prog_1_method_35_code 30 = .ok (.iload_n 2, 1) := by decide +kernel
theorem d_Host_getPart_31 : decode prog_1_method_35_code 31 = .ok (.invokevirtual 276, 3) := by decide +kernel
theorem d_Host_getPart_34 : decode prog_1_method_35_code 34 = .ok (.iload_n 3, 1) := by decide +kernel
theorem d_Host_getPart_35 : decode prog_1_method_35_code 35 = .ok (.iaload, 1) := by decide +kernel
theorem d_Host_getPart_36 : decode prog_1_method_35_code 36 = .ok (.iload_n 2, 1) := by decide +kernel
theorem d_Host_getPart_37 : decode prog_1_method_35_code 37 = .ok (.ifCond .eq 7, 3) := by decide +kernel
theorem d_Host_getPart_40 : decode prog_1_method_35_code 40 = .ok (.iconst 1, 1) := by decide +kernel
theorem d_Host_getPart_41 : decode prog_1_method_35_code 41 = .ok (.goto 4, 3) := by decide +kernel
theorem d_Host_getPart_44 : decode prog_1_method_35_code 44 = .ok (.iconst 0, 1) := by decide +kernel
theorem d_Host_getPart_45 : decode prog_1_method_35_code 45 = .ok (.invokevirtual 222, 3) := by decide +kernel
theorem d_Host_getPart_48 : decode prog_1_method_35_code 48 = .ok (.return_, 1) := by decide +kernel
theorem d_Host_jumpIfZero_0 : decode prog_1_method_38_code 0 = .ok (.aload_n 0, 1) := by decide +kernel
theorem d_Host_jumpIfZero_1 : decode prog_1_method_38_code 1 = .ok (.getfield 205, 3) := by decide +kernel
theorem d_Host_jumpIfZero_4 : decode prog_1_method_38_code 4 = .ok (.invokevirtual 226, 3) := by decide +kernel
theorem d_Host_jumpIfZero_7 : decode prog_1_method_38_code 7 = .ok (.ifCond .ne 8, 3) := by decide +kernel
theorem d_Host_jumpIfZero_10 : decode prog_1_method_38_code 10 = .ok (.aload_n 0, 1) := by decide +kernel
theorem d_Host_jumpIfZero_11 : decode prog_1_method_38_code 11 = .ok (.iload_n 1, 1) := by decide +kernel
theorem d_Host_jumpIfZero_12 : decode prog_1_method_38_code 12 = .ok (.putfield 196, 3) := by decide +kernel
theorem d_Host_jumpIfZero_15 : decode prog_1_method_38_code 15 = .ok (.return_, 1) := by decide +kernel
theorem d_Heap_isIn_0 : decode prog_2_method_9_code 0 = .ok (.lload_n 0, 1) := by decide +kernel
theorem d_Heap_isIn_1 : decode prog_2_method_9_code 1 = .ok (.iload_n 2, 1) := by decide +kernel
