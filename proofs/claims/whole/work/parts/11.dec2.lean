theorem d_Host_live_1 : decode prog_1_method_15_code 1 = .ok (.invokestatic 82, 3) := by decide +kernel
theorem d_Host_live_4 : decode prog_1_method_15_code 4 = .ok (.ifCond .eq 18, 3) := by decide +kernel
theorem d_Host_live_7 : decode prog_1_method_15_code 7 = .ok (.aload_n 0, 1) := by decide +kernel
theorem d_Host_live_8 : decode prog_1_method_15_code 8 = .ok (.getfield 17, 3) := by decide +kernel
theorem d_Host_live_11 : decode prog_1_method_15_code 11 = .ok (.iload_n 1, 1) := by decide +kernel
theorem d_Host_live_12 : decode prog_1_method_15_code 12 = .ok (.aaload, 1) := by decide +kernel
theorem d_Host_live_13 : decode prog_1_method_15_code 13 = .ok (.invokevirtual 138, 3) := by decide +kernel
theorem d_Host_live_16 : decode prog_1_method_15_code 16 = .ok (.invokestatic 132, 3) := by decide +kernel
theorem d_Host_live_19 : decode prog_1_method_15_code 19 = .ok (.goto 4, 3) := by decide +kernel
theorem d_Host_live_22 : decode prog_1_method_15_code 22 = .ok (.iconst (-1), 1) := by decide +kernel
theorem d_Host_live_23 : decode prog_1_method_15_code 23 = .ok (.ireturn, 1) := by decide +kernel
theorem d_Host_collections_0 : decode prog_1_method_16_code 0 = .ok (.iload_n 1, 1) := by decide +kernel
theorem d_Host_collections_1 : decode prog_1_method_16_code 1 = .ok (.invokestatic 82, 3) := by decide +kernel
theorem d_Host_collections_4 : decode prog_1_method_16_code 4 = .ok (.ifCond .eq 18, 3) := by decide +kernel
theorem d_Host_collections_7 : decode prog_1_method_16_code 7 = .ok (.aload_n 0, 1) := by decide +kernel
theorem d_Host_collections_8 : decode prog_1_method_16_code 8 = .ok (.getfield 17, 3) := by decide +kernel
theorem d_Host_collections_11 : decode prog_1_method_16_code 11 = .ok (.iload_n 1, 1) := by decide +kernel
theorem d_Host_collections_12 : decode prog_1_method_16_code 12 = .ok (.aaload, 1) := by decide +kernel
theorem d_Host_collections_13 : decode prog_1_method_16_code 13 = .ok (.getfield 69, 3) := by decide +kernel
theorem d_Host_collections_16 : decode prog_1_method_16_code 16 = .ok (.getfield 142, 3) := by decide +kernel
theorem d_Host_collections_19 : decode prog_1_method_16_code 19 = .ok (.goto 4, 3) := by decide +kernel
theorem d_Host_collections_22 : decode prog_1_method_16_code 22 = .ok (.iconst (-1), 1) := by decide +kernel
theorem d_Host_collections_23 : decode prog_1_method_16_code 23 = .ok (.ireturn, 1) := by decide +kernel
theorem d_Host_ended_0 : decode prog_1_method_17_code 0 = .ok (.iload_n 1, 1) := by decide +kernel
theorem d_Host_ended_1 : decode prog_1_method_17_code 1 = .ok (.invokestatic 82, 3) := by decide +kernel
theorem d_Host_ended_4 : decode prog_1_method_17_code 4 = .ok (.ifCond .eq 15, 3) := by decide +kernel
theorem d_Host_ended_7 : decode prog_1_method_17_code 7 = .ok (.aload_n 0, 1) := by decide +kernel
theorem d_Host_ended_8 : decode prog_1_method_17_code 8 = .ok (.getfield 17, 3) := by decide +kernel
theorem d_Host_ended_11 : decode prog_1_method_17_code 11 = .ok (.iload_n 1, 1) := by decide +kernel
theorem d_Host_ended_12 : decode prog_1_method_17_code 12 = .ok (.aaload, 1) := by decide +kernel
theorem d_Host_ended_13 : decode prog_1_method_17_code 13 = .ok (.getfield 145, 3) := by decide +kernel
theorem d_Host_ended_16 : decode prog_1_method_17_code 16 = .ok (.goto 4, 3) := by decide +kernel
theorem d_Host_ended_19 : decode prog_1_method_17_code 19 = .ok (.iconst (-1), 1) := by decide +kernel
theorem d_Host_ended_20 : decode prog_1_method_17_code 20 = .ok (.ireturn, 1) := by decide +kernel
theorem d_Host_messages_0 : decode prog_1_method_18_code 0 = .ok (.iload_n 1, 1) := by decide +kernel
theorem d_Host_messages_1 : decode prog_1_method_18_code 1 = .ok (.invokestatic 82, 3) := by decide +kernel
theorem d_Host_messages_4 : decode prog_1_method_18_code 4 = .ok (.ifCond .eq 18, 3) := by decide +kernel
theorem d_Host_messages_7 : decode prog_1_method_18_code 7 = .ok (.aload_n 0, 1) := by decide +kernel
theorem d_Host_messages_8 : decode prog_1_method_18_code 8 = .ok (.getfield 17, 3) := by decide +kernel
theorem d_Host_messages_11 : decode prog_1_method_18_code 11 = .ok (.iload_n 1, 1) := by decide +kernel
theorem d_Host_messages_12 : decode prog_1_method_18_code 12 = .ok (.aaload, 1) := by decide +kernel
theorem d_Host_messages_13 : decode prog_1_method_18_code 13 = .ok (.getfield 148, 3) := by decide +kernel
theorem d_Host_messages_16 : decode prog_1_method_18_code 16 = .ok (.getfield 151, 3) := by decide +kernel
theorem d_Host_messages_19 : decode prog_1_method_18_code 19 = .ok (.goto 4, 3) := by decide +kernel
theorem d_Host_messages_22 : decode prog_1_method_18_code 22 = .ok (.iconst (-1), 1) := by decide +kernel
theorem d_Host_messages_23 : decode prog_1_method_18_code 23 = .ok (.ireturn, 1) := by decide +kernel
theorem d_Host_output_0 : decode prog_1_method_19_code 0 = .ok (.iload_n 1, 1) := by decide +kernel
theorem d_Host_output_1 : decode prog_1_method_19_code 1 = .ok (.invokestatic 82, 3) := by decide +kernel
theorem d_Host_output_4 : decode prog_1_method_19_code 4 = .ok (.ifCond .ne 5, 3) := by decide +kernel
theorem d_Host_output_7 : decode prog_1_method_19_code 7 = .ok (.iconst 0, 1) := by decide +kernel
theorem d_Host_output_8 : decode prog_1_method_19_code 8 = .ok (.ireturn, 1) := by decide +kernel
theorem d_Host_output_9 : decode prog_1_method_19_code 9 = .ok (.iload_n 2, 1) := by decide +kernel
theorem d_Host_output_10 : decode prog_1_method_19_code 10 = .ok (.iconst (-1), 1) := by decide +kernel
theorem d_Host_output_11 : decode prog_1_method_19_code 11 = .ok (.if_icmp .ne 18, 3) := by decide +kernel
theorem d_Host_output_14 : decode prog_1_method_19_code 14 = .ok (.aload_n 0, 1) := by decide +kernel
theorem d_Host_output_15 : decode prog_1_method_19_code 15 = .ok (.getfield 17, 3) := by decide +kernel
theorem d_Host_output_18 : decode prog_1_method_19_code 18 = .ok (.iload_n 1, 1) := by decide +kernel
theorem d_Host_output_19 : decode prog_1_method_19_code 19 = .ok (.aaload, 1) := by decide +kernel
theorem d_Host_output_20 : decode prog_1_method_19_code 20 = .ok (.getfield 154, 3) := by decide +kernel
theorem d_Host_output_23 : decode prog_1_method_19_code 23 = .ok (.getfield 151, 3) := by decide +kernel
theorem d_Host_output_26 : decode prog_1_method_19_code 26 = .ok (.goto 16, 3) := by decide +kernel
theorem d_Host_output_29 : decode prog_1_method_19_code 29 = .ok (.aload_n 0, 1) := by decide +kernel
theorem d_Host_output_30 : decode prog_1_method_19_code 30 = .ok (.getfield 17, 3) := by decide +kernel
theorem d_Host_output_33 : decode prog_1_method_19_code 33 = .ok (.iload_n 1, 1) := by decide +kernel
theorem d_Host_output_34 : decode prog_1_method_19_code 34 = .ok (.aaload, 1) := by decide +kernel
theorem d_Host_output_35 : decode prog_1_method_19_code 35 = .ok (.getfield 154, 3) := by decide +kernel
theorem d_Host_output_38 : decode prog_1_method_19_code 38 = .ok (.iload_n 2, 1) := by decide +kernel
theorem d_Host_output_39 : decode prog_1_method_19_code 39 = .ok (.invokevirtual 157, 3) := by decide +kernel
theorem d_Host_output_42 : decode prog_1_method_19_code 42 = .ok (.ireturn, 1) := by decide +kernel
theorem d_Host_local_0 : decode prog_1_method_20_code 0 = .ok (.iload_n 1, 1) := by decide +kernel
theorem d_Host_local_1 : decode prog_1_method_20_code 1 = .ok (.invokestatic 82, 3) := by decide +kernel
theorem d_Host_local_4 : decode prog_1_method_20_code 4 = .ok (.ifCond .eq 26, 3) := by decide +kernel
theorem d_Host_local_7 : decode prog_1_method_20_code 7 = .ok (.iload_n 2, 1) := by decide +kernel
theorem d_Host_local_8 : decode prog_1_method_20_code 8 = .ok (.ifCond .lt 22, 3) := by decide +kernel
theorem d_Host_local_11 : decode prog_1_method_20_code 11 = .ok (.iload_n 2, 1) := by decide +kernel
theorem d_Host_local_12 : decode prog_1_method_20_code 12 = .ok (.iconst 2, 1) := by decide +kernel
theorem d_Host_local_13 : decode prog_1_method_20_code 13 = .ok (.if_icmp .ge 17, 3) := by decide +kernel
theorem d_Host_local_16 : decode prog_1_method_20_code 16 = .ok (.aload_n 0, 1) := by decide +kernel
theorem d_Host_local_17 : decode prog_1_method_20_code 17 = .ok (.getfield 17, 3) := by decide +kernel
theorem d_Host_local_20 : decode prog_1_method_20_code 20 = .ok (.iload_n 1, 1) := by decide +kernel
theorem d_Host_local_21 : decode prog_1_method_20_code 21 = .ok (.aaload, 1) := by decide +kernel
theorem d_Host_local_22 : decode prog_1_method_20_code 22 = .ok (.getfield 160, 3) := by decide +kernel
theorem d_Host_local_25 : decode prog_1_method_20_code 25 = .ok (.iload_n 2, 1) := by decide +kernel
theorem d_Host_local_26 : decode prog_1_method_20_code 26 = .ok (.iaload, 1) := by decide +kernel
theorem d_Host_local_27 : decode prog_1_method_20_code 27 = .ok (.goto 4, 3) := by decide +kernel
theorem d_Host_local_30 : decode prog_1_method_20_code 30 = .ok (.iconst 0, 1) := by decide +kernel
theorem d_Host_local_31 : decode prog_1_method_20_code 31 = .ok (.ireturn, 1) := by decide +kernel
theorem d_Host_look_0 : decode prog_1_method_21_code 0 = .ok (.iload_n 1, 1) := by decide +kernel
theorem d_Host_look_1 : decode prog_1_method_21_code 1 = .ok (.invokestatic 82, 3) := by decide +kernel
theorem d_Host_look_4 : decode prog_1_method_21_code 4 = .ok (.ifCond .eq 13, 3) := by decide +kernel
theorem d_Host_look_7 : decode prog_1_method_21_code 7 = .ok (.iload_n 3, 1) := by decide +kernel
theorem d_Host_look_8 : decode prog_1_method_21_code 8 = .ok (.ifCond .lt 9, 3) := by decide +kernel
theorem d_Host_look_11 : decode prog_1_method_21_code 11 = .ok (.iload_n 3, 1) := by decide +kernel
theorem d_Host_look_12 : decode prog_1_method_21_code 12 = .ok (.bipush 30, 2) := by decide +kernel
theorem d_Host_look_14 : decode prog_1_method_21_code 14 = .ok (.if_icmp .le 5, 3) := by decide +kernel
theorem d_Host_look_17 : decode prog_1_method_21_code 17 = .ok (.iconst 0, 1) := by decide +kernel
theorem d_Host_look_18 : decode prog_1_method_21_code 18 = .ok (.ireturn, 1) := by decide +kernel
theorem d_Host_look_19 : decode prog_1_method_21_code 19 = .ok (.aload_n 0, 1) := by decide +kernel
theorem d_Host_look_20 : decode prog_1_method_21_code 20 = .ok (.getfield 17, 3) := by decide +kernel
theorem d_Host_look_23 : decode prog_1_method_21_code 23 = .ok (.iload_n 1, 1) := by decide +kernel
theorem d_Host_look_24 : decode prog_1_method_21_code 24 = .ok (.aaload, 1) := by decide +kernel
theorem d_Host_look_25 : decode prog_1_method_21_code 25 = .ok (.getfield 69, 3) := by decide +kernel
theorem d_Host_look_28 : decode prog_1_method_21_code 28 = .ok (.astore 4, 2) := by decide +kernel
theorem d_Host_look_30 : decode prog_1_method_21_code 30 = .ok (.aload_n 0, 1) := by decide +kernel
theorem d_Host_look_31 : decode prog_1_method_21_code 31 = .ok (.getfield 17, 3) := by decide +kernel
theorem d_Host_look_34 : decode prog_1_method_21_code 34 = .ok (.iload_n 1, 1) := by decide +kernel
theorem d_Host_look_35 : decode prog_1_method_21_code 35 = .ok (.aaload, 1) := by decide +kernel
theorem d_Host_look_36 : decode prog_1_method_21_code 36 = .ok (.getfield 160, 3) := by decide +kernel
theorem d_Host_look_39 : decode prog_1_method_21_code 39 = .ok (.iconst 2, 1) := by decide +kernel
theorem d_Host_look_40 : decode prog_1_method_21_code 40 = .ok (.iaload, 1) := by decide +kernel
theorem d_Host_look_41 : decode prog_1_method_21_code 41 = .ok (.istore 5, 2) := by decide +kernel
theorem d_Host_look_43 : decode prog_1_method_21_code 43 = .ok (.iconst 0, 1) := by decide +kernel
theorem d_Host_look_44 : decode prog_1_method_21_code 44 = .ok (.istore 6, 2) := by decide +kernel
theorem d_Host_look_46 : decode prog_1_method_21_code 46 = .ok (.iload 6, 2) := by decide +kernel
theorem d_Host_look_48 : decode prog_1_method_21_code 48 = .ok (.iload_n 3, 1) := by decide +kernel
theorem d_Host_look_49 : decode prog_1_method_21_code 49 = .ok (.if_icmp .ge 57, 3) := by decide +kernel
theorem d_Host_look_52 : decode prog_1_method_21_code 52 = .ok (.iload 5, 2) := by decide +kernel
theorem d_Host_look_54 : decode prog_1_method_21_code 54 = .ok (.ifCond .eq 52, 3) := by decide +kernel
theorem d_Host_look_57 : decode prog_1_method_21_code 57 = .ok (.iload_n 2, 1) := by decide +kernel
theorem d_Host_look_58 : decode prog_1_method_21_code 58 = .ok (.iload 6, 2) := by decide +kernel
theorem d_Host_look_60 : decode prog_1_method_21_code 60 = .ok (.ishr, 1) := by decide +kernel
theorem d_Host_look_61 : decode prog_1_method_21_code 61 = .ok (.iconst 1, 1) := by decide +kernel
theorem d_Host_look_62 : decode prog_1_method_21_code 62 = .ok (.iand, 1) := by decide +kernel
theorem d_Host_look_63 : decode prog_1_method_21_code 63 = .ok (.iconst 1, 1) := by decide +kernel
theorem d_Host_look_64 : decode prog_1_method_21_code 64 = .ok (.if_icmp .ne 7, 3) := by decide +kernel
theorem d_Host_look_67 : decode prog_1_method_21_code 67 = .ok (.iconst 1, 1) := by decide +kernel
theorem d_Host_look_68 : decode prog_1_method_21_code 68 = .ok (.goto 4, 3) := by decide +kernel
theorem d_Host_look_71 : decode prog_1_method_21_code 71 = .ok (.iconst 0, 1) := by decide +kernel
theorem d_Host_look_72 : decode prog_1_method_21_code 72 = .ok (.istore 7, 2) := by decide +kernel
theorem d_Host_look_74 : decode prog_1_method_21_code 74 = .ok (.iload 7, 2) := by decide +kernel
theorem d_Host_look_76 : decode prog_1_method_21_code 76 = .ok (.ifCond .eq 14, 3) := by decide +kernel
theorem d_Host_look_79 : decode prog_1_method_21_code 79 = .ok (.aload 4, 2) := by decide +kernel
theorem d_Host_look_81 : decode prog_1_method_21_code 81 = .ok (.getfield 163, 3) := by decide +kernel
theorem d_Host_look_84 : decode prog_1_method_21_code 84 = .ok (.iload 5, 2) := by decide +kernel
theorem d_Host_look_86 : decode prog_1_method_21_code 86 = .ok (.iaload, 1) := by decide +kernel
theorem d_Host_look_87 : decode prog_1_method_21_code 87 = .ok (.goto 11, 3) := by decide +kernel
theorem d_Host_look_90 : decode prog_1_method_21_code 90 = .ok (.aload 4, 2) := by decide +kernel
theorem d_Host_look_92 : decode prog_1_method_21_code 92 = .ok (.getfield 166, 3) := by decide +kernel
theorem d_Host_look_95 : decode prog_1_method_21_code 95 = .ok (.iload 5, 2) := by decide +kernel
theorem d_Host_look_97 : decode prog_1_method_21_code 97 = .ok (.iaload, 1) := by decide +kernel
theorem d_Host_look_98 : decode prog_1_method_21_code 98 = .ok (.istore 5, 2) := by decide +kernel
theorem d_Host_look_100 : decode prog_1_method_21_code 100 = .ok (.iinc 6 1, 3) := by decide +kernel
theorem d_Host_look_103 : decode prog_1_method_21_code 103 = .ok (.goto (-57), 3) := by decide +kernel
theorem d_Host_look_106 : decode prog_1_method_21_code 106 = .ok (.iload 5, 2) := by decide +kernel
theorem d_Host_look_108 : decode prog_1_method_21_code 108 = .ok (.ifCond .ne 7, 3) := by decide +kernel
theorem d_Host_look_111 : decode prog_1_method_21_code 111 = .ok (.iconst 0, 1) := by decide +kernel
theorem d_Host_look_112 : decode prog_1_method_21_code 112 = .ok (.goto 11, 3) := by decide +kernel
theorem d_Host_look_115 : decode prog_1_method_21_code 115 = .ok (.aload 4, 2) := by decide +kernel
theorem d_Host_look_117 : decode prog_1_method_21_code 117 = .ok (.getfield 169, 3) := by decide +kernel
theorem d_Host_look_120 : decode prog_1_method_21_code 120 = .ok (.iload 5, 2) := by decide +kernel
theorem d_Host_look_122 : decode prog_1_method_21_code 122 = .ok (.iaload, 1) := by decide +kernel
theorem d_Host_look_123 : decode prog_1_method_21_code 123 = .ok (.ireturn, 1) := by decide +kernel
theorem d_Law_cell_0 : decode method_2_code 0 = .ok (.iload_n 1, 1) := by decide +kernel
theorem d_Law_cell_1 : decode method_2_code 1 = .ok (.aload_n 0, 1) := by decide +kernel
theorem d_Law_cell_2 : decode method_2_code 2 = .ok (.arraylength, 1) := by decide +kernel
theorem d_Law_cell_3 : decode method_2_code 3 = .ok (.if_icmp .ge 9, 3) := by decide +kernel
theorem d_Law_cell_6 : decode method_2_code 6 = .ok (.aload_n 0, 1) := by decide +kernel
theorem d_Law_cell_7 : decode method_2_code 7 = .ok (.iload_n 1, 1) := by decide +kernel
theorem d_Law_cell_8 : decode method_2_code 8 = .ok (.iaload, 1) := by decide +kernel
theorem d_Law_cell_9 : decode method_2_code 9 = .ok (.goto 4, 3) := by decide +kernel
theorem d_Law_cell_12 : decode method_2_code 12 = .ok (.iconst 0, 1) := by decide +kernel
theorem d_Law_cell_13 : decode method_2_code 13 = .ok (.ireturn, 1) := by decide +kernel
theorem d_Mod_four_0 : decode prog_9_method_2_code 0 = .ok (.iload_n 0, 1) := by decide +kernel
theorem d_Mod_four_1 : decode prog_9_method_2_code 1 = .ok (.ifCond .lt 12, 3) := by decide +kernel
theorem d_Mod_four_4 : decode prog_9_method_2_code 4 = .ok (.iload_n 0, 1) := by decide +kernel
theorem d_Mod_four_5 : decode prog_9_method_2_code 5 = .ok (.iconst 3, 1) := by decide +kernel
theorem d_Mod_four_6 : decode prog_9_method_2_code 6 = .ok (.if_icmp .gt 7, 3) := by decide +kernel
theorem d_Mod_four_9 : decode prog_9_method_2_code 9 = .ok (.iconst 1, 1) := by decide +kernel
theorem d_Mod_four_10 : decode prog_9_method_2_code 10 = .ok (.goto 4, 3) := by decide +kernel
theorem d_Mod_four_13 : decode prog_9_method_2_code 13 = .ok (.iconst 0, 1) := by decide +kernel
theorem d_Mod_four_14 : decode prog_9_method_2_code 14 = .ok (.ireturn, 1) := by decide +kernel
theorem d_Mod_greatest_0 : decode prog_9_method_3_code 0 = .ok (.iload_n 0, 1) := by decide +kernel
theorem d_Mod_greatest_1 : decode prog_9_method_3_code 1 = .ok (.tableswitch 123 1 24 #[111, 123, 123, 123, 123, 123, 113, 113, 123, 123, 123, 115, 115, 123, 123, 117, 120, 120, 123, 123, 113, 123, 113, 113], 111) := by decide +kernel
theorem d_Mod_greatest_112 : decode prog_9_method_3_code 112 = .ok (.iconst (-1), 1) := by decide +kernel
theorem d_Mod_greatest_113 : decode prog_9_method_3_code 113 = .ok (.ireturn, 1) := by decide +kernel
theorem d_Mod_greatest_114 : decode prog_9_method_3_code 114 = .ok (.iconst 3, 1) := by decide +kernel
theorem d_Mod_greatest_115 : decode prog_9_method_3_code 115 = .ok (.ireturn, 1) := by decide +kernel
theorem d_Mod_greatest_116 : decode prog_9_method_3_code 116 = .ok (.iconst 2, 1) := by decide +kernel
theorem d_Mod_greatest_117 : decode prog_9_method_3_code 117 = .ok (.ireturn, 1) := by decide +kernel
theorem d_Mod_greatest_118 : decode prog_9_method_3_code 118 = .ok (.bipush 7, 2) := by decide +kernel
theorem d_Mod_greatest_120 : decode prog_9_method_3_code 120 = .ok (.ireturn, 1) := by decide +kernel
theorem d_Mod_greatest_121 : decode prog_9_method_3_code 121 = .ok (.bipush 23, 2) := by decide +kernel
theorem d_Mod_greatest_123 : decode prog_9_method_3_code 123 = .ok (.ireturn, 1) := by decide +kernel
theorem d_Mod_greatest_124 : decode prog_9_method_3_code 124 = .ok (.iconst 0, 1) := by decide +kernel
theorem d_Mod_greatest_125 : decode prog_9_method_3_code 125 = .ok (.ireturn, 1) := by decide +kernel
theorem d_Mod_code_0 : decode prog_9_method_4_code 0 = .ok (.iload_n 1, 1) := by decide +kernel
theorem d_Mod_code_1 : decode prog_9_method_4_code 1 = .ok (.invokestatic 105, 3) := by decide +kernel
theorem d_Mod_code_4 : decode prog_9_method_4_code 4 = .ok (.ifCond .eq 33, 3) := by decide +kernel
theorem d_Mod_code_7 : decode prog_9_method_4_code 7 = .ok (.aload_n 0, 1) := by decide +kernel
theorem d_Mod_code_8 : decode prog_9_method_4_code 8 = .ok (.getfield 22, 3) := by decide +kernel
theorem d_Mod_code_11 : decode prog_9_method_4_code 11 = .ok (.iload_n 1, 1) := by decide +kernel
theorem d_Mod_code_12 : decode prog_9_method_4_code 12 = .ok (.baload, 1) := by decide +kernel
theorem d_Mod_code_13 : decode prog_9_method_4_code 13 = .ok (.ifCond .ne 24, 3) := by decide +kernel
theorem d_Mod_code_16 : decode prog_9_method_4_code 16 = .ok (.aload_n 0, 1) := by decide +kernel
theorem d_Mod_code_17 : decode prog_9_method_4_code 17 = .ok (.getfield 19, 3) := by decide +kernel
theorem d_Mod_code_20 : decode prog_9_method_4_code 20 = .ok (.iload_n 1, 1) := by decide +kernel
theorem d_Mod_code_21 : decode prog_9_method_4_code 21 = .ok (.iaload, 1) := by decide +kernel
theorem d_Mod_code_22 : decode prog_9_method_4_code 22 = .ok (.bipush 24, 2) := by decide +kernel
theorem d_Mod_code_24 : decode prog_9_method_4_code 24 = .ok (.if_icmp .eq 13, 3) := by decide +kernel
theorem d_Mod_code_27 : decode prog_9_method_4_code 27 = .ok (.iload_n 2, 1) := by decide +kernel
theorem d_Mod_code_28 : decode prog_9_method_4_code 28 = .ok (.ifCond .lt 9, 3) := by decide +kernel
theorem d_Mod_code_31 : decode prog_9_method_4_code 31 = .ok (.iload_n 2, 1) := by decide +kernel
theorem d_Mod_code_32 : decode prog_9_method_4_code 32 = .ok (.bipush 24, 2) := by decide +kernel
theorem d_Mod_code_34 : decode prog_9_method_4_code 34 = .ok (.if_icmp .le 5, 3) := by decide +kernel
theorem d_Mod_code_37 : decode prog_9_method_4_code 37 = .ok (.iconst (-1), 1) := by decide +kernel
theorem d_Mod_code_38 : decode prog_9_method_4_code 38 = .ok (.ireturn, 1) := by decide +kernel
theorem d_Mod_code_39 : decode prog_9_method_4_code 39 = .ok (.iload_n 2, 1) := by decide +kernel
theorem d_Mod_code_40 : decode prog_9_method_4_code 40 = .ok (.invokestatic 109, 3) := by decide +kernel
theorem d_Mod_code_43 : decode prog_9_method_4_code 43 = .ok (.istore 4, 2) := by decide +kernel
theorem d_Mod_code_45 : decode prog_9_method_4_code 45 = .ok (.iload 4, 2) := by decide +kernel
theorem d_Mod_code_47 : decode prog_9_method_4_code 47 = .ok (.ifCond .lt 15, 3) := by decide +kernel
theorem d_Mod_code_50 : decode prog_9_method_4_code 50 = .ok (.iload_n 3, 1) := by decide +kernel
theorem d_Mod_code_51 : decode prog_9_method_4_code 51 = .ok (.ifCond .lt 9, 3) := by decide +kernel
theorem d_Mod_code_54 : decode prog_9_method_4_code 54 = .ok (.iload_n 3, 1) := by decide +kernel
theorem d_Mod_code_55 : decode prog_9_method_4_code 55 = .ok (.iload 4, 2) := by decide +kernel
theorem d_Mod_code_57 : decode prog_9_method_4_code 57 = .ok (.if_icmp .le 5, 3) := by decide +kernel
theorem d_Mod_code_60 : decode prog_9_method_4_code 60 = .ok (.iconst (-1), 1) := by decide +kernel
theorem d_Mod_code_61 : decode prog_9_method_4_code 61 = .ok (.ireturn, 1) := by decide +kernel
theorem d_Mod_code_62 : decode prog_9_method_4_code 62 = .ok (.aload_n 0, 1) := by decide +kernel
theorem d_Mod_code_63 : decode prog_9_method_4_code 63 = .ok (.getfield 7, 3) := by decide +kernel
theorem d_Mod_code_66 : decode prog_9_method_4_code 66 = .ok (.bipush 24, 2) := by decide +kernel
theorem d_Mod_code_68 : decode prog_9_method_4_code 68 = .ok (.iload_n 1, 1) := by decide +kernel
theorem d_Mod_code_69 : decode prog_9_method_4_code 69 = .ok (.imul, 1) := by decide +kernel
theorem d_Mod_code_70 : decode prog_9_method_4_code 70 = .ok (.aload_n 0, 1) := by decide +kernel
theorem d_Mod_code_71 : decode prog_9_method_4_code 71 = .ok (.getfield 19, 3) := by decide +kernel
theorem d_Mod_code_74 : decode prog_9_method_4_code 74 = .ok (.iload_n 1, 1) := by decide +kernel
theorem d_Mod_code_75 : decode prog_9_method_4_code 75 = .ok (.iaload, 1) := by decide +kernel
theorem d_Mod_code_76 : decode prog_9_method_4_code 76 = .ok (.iadd, 1) := by decide +kernel
theorem d_Mod_code_77 : decode prog_9_method_4_code 77 = .ok (.iload_n 2, 1) := by decide +kernel
theorem d_Mod_code_78 : decode prog_9_method_4_code 78 = .ok (.iastore, 1) := by decide +kernel
theorem d_Mod_code_79 : decode prog_9_method_4_code 79 = .ok (.aload_n 0, 1) := by decide +kernel
theorem d_Mod_code_80 : decode prog_9_method_4_code 80 = .ok (.getfield 13, 3) := by decide +kernel
theorem d_Mod_code_83 : decode prog_9_method_4_code 83 = .ok (.bipush 24, 2) := by decide +kernel
theorem d_Mod_code_85 : decode prog_9_method_4_code 85 = .ok (.iload_n 1, 1) := by decide +kernel
theorem d_Mod_code_86 : decode prog_9_method_4_code 86 = .ok (.imul, 1) := by decide +kernel
theorem d_Mod_code_87 : decode prog_9_method_4_code 87 = .ok (.aload_n 0, 1) := by decide +kernel
theorem d_Mod_code_88 : decode prog_9_method_4_code 88 = .ok (.getfield 19, 3) := by decide +kernel
theorem d_Mod_code_91 : decode prog_9_method_4_code 91 = .ok (.iload_n 1, 1) := by decide +kernel
theorem d_Mod_code_92 : decode prog_9_method_4_code 92 = .ok (.iaload, 1) := by decide +kernel
theorem d_Mod_code_93 : decode prog_9_method_4_code 93 = .ok (.iadd, 1) := by decide +kernel
theorem d_Mod_code_94 : decode prog_9_method_4_code 94 = .ok (.iload_n 3, 1) := by decide +kernel
theorem d_Mod_code_95 : decode prog_9_method_4_code 95 = .ok (.iastore, 1) := by decide +kernel
theorem d_Mod_code_96 : decode prog_9_method_4_code 96 = .ok (.aload_n 0, 1) := by decide +kernel
theorem d_Mod_code_97 : decode prog_9_method_4_code 97 = .ok (.getfield 19, 3) := by decide +kernel
theorem d_Mod_code_100 : decode prog_9_method_4_code 100 = .ok (.iload_n 1, 1) := by decide +kernel
theorem d_Mod_code_101 : decode prog_9_method_4_code 101 = .ok (.dup2, 1) := by decide +kernel
theorem d_Mod_code_102 : decode prog_9_method_4_code 102 = .ok (.iaload, 1) := by decide +kernel
theorem d_Mod_code_103 : decode prog_9_method_4_code 103 = .ok (.iconst 1, 1) := by decide +kernel
theorem d_Mod_code_104 : decode prog_9_method_4_code 104 = .ok (.iadd, 1) := by decide +kernel
theorem d_Mod_code_105 : decode prog_9_method_4_code 105 = .ok (.iastore, 1) := by decide +kernel
theorem d_Mod_code_106 : decode prog_9_method_4_code 106 = .ok (.aload_n 0, 1) := by decide +kernel
theorem d_Mod_code_107 : decode prog_9_method_4_code 107 = .ok (.getfield 19, 3) := by decide +kernel
theorem d_Mod_code_110 : decode prog_9_method_4_code 110 = .ok (.iload_n 1, 1) := by decide +kernel
theorem d_Mod_code_111 : decode prog_9_method_4_code 111 = .ok (.iaload, 1) := by decide +kernel
theorem d_Mod_code_112 : decode prog_9_method_4_code 112 = .ok (.iconst 1, 1) := by decide +kernel
theorem d_Mod_code_113 : decode prog_9_method_4_code 113 = .ok (.isub, 1) := by decide +kernel
theorem d_Mod_code_114 : decode prog_9_method_4_code 114 = .ok (.ireturn, 1) := by decide +kernel
theorem d_Mod_clear_0 : decode prog_9_method_5_code 0 = .ok (.iload_n 1, 1) := by decide +kernel
theorem d_Mod_clear_1 : decode prog_9_method_5_code 1 = .ok (.invokestatic 105, 3) := by decide +kernel
theorem d_Mod_clear_4 : decode prog_9_method_5_code 4 = .ok (.ifCond .eq 12, 3) := by decide +kernel
theorem d_Mod_clear_7 : decode prog_9_method_5_code 7 = .ok (.aload_n 0, 1) := by decide +kernel
theorem d_Mod_clear_8 : decode prog_9_method_5_code 8 = .ok (.getfield 22, 3) := by decide +kernel
theorem d_Mod_clear_11 : decode prog_9_method_5_code 11 = .ok (.iload_n 1, 1) := by decide +kernel
theorem d_Mod_clear_12 : decode prog_9_method_5_code 12 = .ok (.baload, 1) := by decide +kernel
theorem d_Mod_clear_13 : decode prog_9_method_5_code 13 = .ok (.ifCond .eq 5, 3) := by decide +kernel
theorem d_Mod_clear_16 : decode prog_9_method_5_code 16 = .ok (.iconst 0, 1) := by decide +kernel
theorem d_Mod_clear_17 : decode prog_9_method_5_code 17 = .ok (.ireturn, 1) := by decide +kernel
theorem d_Mod_clear_18 : decode prog_9_method_5_code 18 = .ok (.aload_n 0, 1) := by decide +kernel
theorem d_Mod_clear_19 : decode prog_9_method_5_code 19 = .ok (.getfield 19, 3) := by decide +kernel
theorem d_Mod_clear_22 : decode prog_9_method_5_code 22 = .ok (.iload_n 1, 1) := by decide +kernel
theorem d_Mod_clear_23 : decode prog_9_method_5_code 23 = .ok (.iconst 0, 1) := by decide +kernel
theorem d_Mod_clear_24 : decode prog_9_method_5_code 24 = .ok (.iastore, 1) := by decide +kernel
theorem d_Mod_clear_25 : decode prog_9_method_5_code 25 = .ok (.iconst 1, 1) := by decide +kernel
theorem d_Mod_clear_26 : decode prog_9_method_5_code 26 = .ok (.ireturn, 1) := by decide +kernel
theorem d_Mod_puts_0 : decode prog_9_method_7_code 0 = .ok (.iload_n 0, 1) := by decide +kernel
theorem d_Mod_puts_1 : decode prog_9_method_7_code 1 = .ok (.iconst 2, 1) := by decide +kernel
theorem d_Mod_puts_2 : decode prog_9_method_7_code 2 = .ok (.if_icmp .lt 11, 3) := by decide +kernel
theorem d_Mod_puts_5 : decode prog_9_method_7_code 5 = .ok (.iload_n 0, 1) := by decide +kernel
theorem d_Mod_puts_6 : decode prog_9_method_7_code 6 = .ok (.bipush 6, 2) := by decide +kernel
theorem d_Mod_puts_8 : decode prog_9_method_7_code 8 = .ok (.if_icmp .gt 5, 3) := by decide +kernel
theorem d_Mod_puts_11 : decode prog_9_method_7_code 11 = .ok (.iconst 2, 1) := by decide +kernel
theorem d_Mod_puts_12 : decode prog_9_method_7_code 12 = .ok (.ireturn, 1) := by decide +kernel
theorem d_Mod_puts_13 : decode prog_9_method_7_code 13 = .ok (.iload_n 0, 1) := by decide +kernel
theorem d_Mod_puts_14 : decode prog_9_method_7_code 14 = .ok (.tableswitch 146 1 24 #[142, 146, 146, 146, 146, 146, 110, 146, 121, 146, 144, 132, 146, 142, 144, 144, 146, 146, 146, 142, 142, 144, 142, 142], 110) := by decide +kernel
theorem d_Mod_puts_124 : decode prog_9_method_7_code 124 = .ok (.iload_n 1, 1) := by decide +kernel
theorem d_Mod_puts_125 : decode prog_9_method_7_code 125 = .ok (.iconst 2, 1) := by decide +kernel
theorem d_Mod_puts_126 : decode prog_9_method_7_code 126 = .ok (.if_icmp .ge 7, 3) := by decide +kernel
theorem d_Mod_puts_129 : decode prog_9_method_7_code 129 = .ok (.iconst 2, 1) := by decide +kernel
theorem d_Mod_puts_130 : decode prog_9_method_7_code 130 = .ok (.goto 4, 3) := by decide +kernel
theorem d_Mod_puts_133 : decode prog_9_method_7_code 133 = .ok (.iconst 3, 1) := by decide +kernel
theorem d_Mod_puts_134 : decode prog_9_method_7_code 134 = .ok (.ireturn, 1) := by decide +kernel
theorem d_Mod_puts_135 : decode prog_9_method_7_code 135 = .ok (.iload_n 2, 1) := by decide +kernel
theorem d_Mod_puts_136 : decode prog_9_method_7_code 136 = .ok (.ifCond .ne 7, 3) := by decide +kernel
theorem d_Mod_puts_139 : decode prog_9_method_7_code 139 = .ok (.iconst 4, 1) := by decide +kernel
theorem d_Mod_puts_140 : decode prog_9_method_7_code 140 = .ok (.goto 5, 3) := by decide +kernel
theorem d_Mod_puts_143 : decode prog_9_method_7_code 143 = .ok (.bipush 7, 2) := by decide +kernel
theorem d_Mod_puts_145 : decode prog_9_method_7_code 145 = .ok (.ireturn, 1) := by decide +kernel
theorem d_Mod_puts_146 : decode prog_9_method_7_code 146 = .ok (.iload_n 1, 1) := by decide +kernel
theorem d_Mod_puts_147 : decode prog_9_method_7_code 147 = .ok (.ifCond .ne 7, 3) := by decide +kernel
theorem d_Mod_puts_150 : decode prog_9_method_7_code 150 = .ok (.iconst 2, 1) := by decide +kernel
theorem d_Mod_puts_151 : decode prog_9_method_7_code 151 = .ok (.goto 4, 3) := by decide +kernel
theorem d_Mod_puts_154 : decode prog_9_method_7_code 154 = .ok (.iconst 3, 1) := by decide +kernel
theorem d_Mod_puts_155 : decode prog_9_method_7_code 155 = .ok (.ireturn, 1) := by decide +kernel
theorem d_Mod_puts_156 : decode prog_9_method_7_code 156 = .ok (.iconst 2, 1) := by decide +kernel
theorem d_Mod_puts_157 : decode prog_9_method_7_code 157 = .ok (.ireturn, 1) := by decide +kernel
theorem d_Mod_puts_158 : decode prog_9_method_7_code 158 = .ok (.iconst 3, 1) := by decide +kernel
theorem d_Mod_puts_159 : decode prog_9_method_7_code 159 = .ok (.ireturn, 1) := by decide +kernel
theorem d_Mod_puts_160 : decode prog_9_method_7_code 160 = .ok (.iconst 1, 1) := by decide +kernel
theorem d_Mod_puts_161 : decode prog_9_method_7_code 161 = .ok (.ireturn, 1) := by decide +kernel
theorem d_Mod_size_0 : decode prog_9_method_8_code 0 = .ok (.iconst 0, 1) := by decide +kernel
theorem d_Mod_size_1 : decode prog_9_method_8_code 1 = .ok (.istore_n 1, 1) := by decide +kernel
theorem d_Mod_size_2 : decode prog_9_method_8_code 2 = .ok (.iload_n 0, 1) := by decide +kernel
theorem d_Mod_size_3 : decode prog_9_method_8_code 3 = .ok (.istore_n 2, 1) := by decide +kernel
theorem d_Mod_size_4 : decode prog_9_method_8_code 4 = .ok (.iload_n 2, 1) := by decide +kernel
theorem d_Mod_size_5 : decode prog_9_method_8_code 5 = .ok (.iconst 1, 1) := by decide +kernel
theorem d_Mod_size_6 : decode prog_9_method_8_code 6 = .ok (.if_icmp .le 13, 3) := by decide +kernel
theorem d_Mod_size_9 : decode prog_9_method_8_code 9 = .ok (.iinc 1 1, 3) := by decide +kernel
theorem d_Mod_size_12 : decode prog_9_method_8_code 12 = .ok (.iload_n 2, 1) := by decide +kernel
theorem d_Mod_size_13 : decode prog_9_method_8_code 13 = .ok (.iconst 2, 1) := by decide +kernel
theorem d_Mod_size_14 : decode prog_9_method_8_code 14 = .ok (.idiv, 1) := by decide +kernel
theorem d_Mod_size_15 : decode prog_9_method_8_code 15 = .ok (.istore_n 2, 1) := by decide +kernel
theorem d_Mod_size_16 : decode prog_9_method_8_code 16 = .ok (.goto (-12), 3) := by decide +kernel
theorem d_Mod_size_19 : decode prog_9_method_8_code 19 = .ok (.iload_n 1, 1) := by decide +kernel
theorem d_Mod_size_20 : decode prog_9_method_8_code 20 = .ok (.ireturn, 1) := by decide +kernel
theorem d_Mod_takes_0 : decode prog_9_method_6_code 0 = .ok (.iload_n 0, 1) := by decide +kernel
theorem d_Mod_takes_1 : decode prog_9_method_6_code 1 = .ok (.iconst 2, 1) := by decide +kernel
theorem d_Mod_takes_2 : decode prog_9_method_6_code 2 = .ok (.if_icmp .lt 11, 3) := by decide +kernel
theorem d_Mod_takes_5 : decode prog_9_method_6_code 5 = .ok (.iload_n 0, 1) := by decide +kernel
theorem d_Mod_takes_6 : decode prog_9_method_6_code 6 = .ok (.bipush 6, 2) := by decide +kernel
theorem d_Mod_takes_8 : decode prog_9_method_6_code 8 = .ok (.if_icmp .gt 5, 3) := by decide +kernel
theorem d_Mod_takes_11 : decode prog_9_method_6_code 11 = .ok (.iconst 4, 1) := by decide +kernel
theorem d_Mod_takes_12 : decode prog_9_method_6_code 12 = .ok (.ireturn, 1) := by decide +kernel
theorem d_Mod_takes_13 : decode prog_9_method_6_code 13 = .ok (.iload_n 0, 1) := by decide +kernel
theorem d_Mod_takes_14 : decode prog_9_method_6_code 14 = .ok (.tableswitch 112 8 23 #[78, 89, 89, 93, 95, 97, 109, 112, 112, 112, 93, 93, 112, 95, 112, 93], 78) := by decide +kernel
theorem d_Mod_takes_92 : decode prog_9_method_6_code 92 = .ok (.iload_n 1, 1) := by decide +kernel
theorem d_Mod_takes_93 : decode prog_9_method_6_code 93 = .ok (.iconst 2, 1) := by decide +kernel
theorem d_Mod_takes_94 : decode prog_9_method_6_code 94 = .ok (.if_icmp .ge 7, 3) := by decide +kernel
theorem d_Mod_takes_97 : decode prog_9_method_6_code 97 = .ok (.iconst 2, 1) := by decide +kernel
theorem d_Mod_takes_98 : decode prog_9_method_6_code 98 = .ok (.goto 4, 3) := by decide +kernel
theorem d_Mod_takes_101 : decode prog_9_method_6_code 101 = .ok (.iconst 3, 1) := by decide +kernel
theorem d_Mod_takes_102 : decode prog_9_method_6_code 102 = .ok (.ireturn, 1) := by decide +kernel
theorem d_Mod_takes_103 : decode prog_9_method_6_code 103 = .ok (.iconst 2, 1) := by decide +kernel
theorem d_Mod_takes_104 : decode prog_9_method_6_code 104 = .ok (.iload_n 2, 1) := by decide +kernel
theorem d_Mod_takes_105 : decode prog_9_method_6_code 105 = .ok (.iadd, 1) := by decide +kernel
theorem d_Mod_takes_106 : decode prog_9_method_6_code 106 = .ok (.ireturn, 1) := by decide +kernel
theorem d_Mod_takes_107 : decode prog_9_method_6_code 107 = .ok (.iconst 2, 1) := by decide +kernel
theorem d_Mod_takes_108 : decode prog_9_method_6_code 108 = .ok (.ireturn, 1) := by decide +kernel
theorem d_Mod_takes_109 : decode prog_9_method_6_code 109 = .ok (.iconst 3, 1) := by decide +kernel
theorem d_Mod_takes_110 : decode prog_9_method_6_code 110 = .ok (.ireturn, 1) := by decide +kernel
theorem d_Mod_takes_111 : decode prog_9_method_6_code 111 = .ok (.iload_n 1, 1) := by decide +kernel
theorem d_Mod_takes_112 : decode prog_9_method_6_code 112 = .ok (.ifCond .ne 8, 3) := by decide +kernel
theorem d_Mod_takes_115 : decode prog_9_method_6_code 115 = .ok (.bipush 6, 2) := by decide +kernel
theorem d_Mod_takes_117 : decode prog_9_method_6_code 117 = .ok (.goto 5, 3) := by decide +kernel
theorem d_Mod_takes_120 : decode prog_9_method_6_code 120 = .ok (.bipush 7, 2) := by decide +kernel
theorem d_Mod_takes_122 : decode prog_9_method_6_code 122 = .ok (.ireturn, 1) := by decide +kernel
theorem d_Mod_takes_123 : decode prog_9_method_6_code 123 = .ok (.bipush 7, 2) := by decide +kernel
theorem d_Mod_takes_125 : decode prog_9_method_6_code 125 = .ok (.ireturn, 1) := by decide +kernel
theorem d_Mod_takes_126 : decode prog_9_method_6_code 126 = .ok (.iconst 1, 1) := by decide +kernel
theorem d_Mod_takes_127 : decode prog_9_method_6_code 127 = .ok (.ireturn, 1) := by decide +kernel
theorem d_Mod_leaves_0 : decode prog_9_method_9_code 0 = .ok (.iload_n 0, 1) := by decide +kernel
theorem d_Mod_leaves_1 : decode prog_9_method_9_code 1 = .ok (.iload_n 1, 1) := by decide +kernel
theorem d_Mod_leaves_2 : decode prog_9_method_9_code 2 = .ok (.iload_n 2, 1) := by decide +kernel
theorem d_Mod_leaves_3 : decode prog_9_method_9_code 3 = .ok (.iconst 1, 1) := by decide +kernel
theorem d_Mod_leaves_4 : decode prog_9_method_9_code 4 = .ok (.iand, 1) := by decide +kernel
theorem d_Mod_leaves_5 : decode prog_9_method_9_code 5 = .ok (.invokestatic 113, 3) := by decide +kernel
theorem d_Mod_leaves_8 : decode prog_9_method_9_code 8 = .ok (.istore_n 3, 1) := by decide +kernel
theorem d_Mod_leaves_9 : decode prog_9_method_9_code 9 = .ok (.iload_n 0, 1) := by decide +kernel
theorem d_Mod_leaves_10 : decode prog_9_method_9_code 10 = .ok (.iload_n 1, 1) := by decide +kernel
theorem d_Mod_leaves_11 : decode prog_9_method_9_code 11 = .ok (.iload_n 2, 1) := by decide +kernel
theorem d_Mod_leaves_12 : decode prog_9_method_9_code 12 = .ok (.iconst 1, 1) := by decide +kernel
theorem d_Mod_leaves_13 : decode prog_9_method_9_code 13 = .ok (.iand, 1) := by decide +kernel
theorem d_Mod_leaves_14 : decode prog_9_method_9_code 14 = .ok (.invokestatic 117, 3) := by decide +kernel
theorem d_Mod_leaves_17 : decode prog_9_method_9_code 17 = .ok (.istore 4, 2) := by decide +kernel
theorem d_Mod_leaves_19 : decode prog_9_method_9_code 19 = .ok (.iconst 1, 1) := by decide +kernel
theorem d_Mod_leaves_20 : decode prog_9_method_9_code 20 = .ok (.iload_n 3, 1) := by decide +kernel
theorem d_Mod_leaves_21 : decode prog_9_method_9_code 21 = .ok (.invokestatic 120, 3) := by decide +kernel
theorem d_Mod_leaves_24 : decode prog_9_method_9_code 24 = .ok (.ishl, 1) := by decide +kernel
theorem d_Mod_leaves_25 : decode prog_9_method_9_code 25 = .ok (.istore 5, 2) := by decide +kernel
theorem d_Mod_leaves_27 : decode prog_9_method_9_code 27 = .ok (.iload_n 2, 1) := by decide +kernel
theorem d_Mod_leaves_28 : decode prog_9_method_9_code 28 = .ok (.iload 5, 2) := by decide +kernel
theorem d_Mod_leaves_30 : decode prog_9_method_9_code 30 = .ok (.idiv, 1) := by decide +kernel
theorem d_Mod_leaves_31 : decode prog_9_method_9_code 31 = .ok (.ifCond .eq 14, 3) := by decide +kernel
theorem d_Mod_leaves_34 : decode prog_9_method_9_code 34 = .ok (.iload_n 2, 1) := by decide +kernel
theorem d_Mod_leaves_35 : decode prog_9_method_9_code 35 = .ok (.iload 5, 2) := by decide +kernel
theorem d_Mod_leaves_37 : decode prog_9_method_9_code 37 = .ok (.irem, 1) := by decide +kernel
theorem d_Mod_leaves_38 : decode prog_9_method_9_code 38 = .ok (.iload_n 3, 1) := by decide +kernel
theorem d_Mod_leaves_39 : decode prog_9_method_9_code 39 = .ok (.iload 5, 2) := by decide +kernel
theorem d_Mod_leaves_41 : decode prog_9_method_9_code 41 = .ok (.irem, 1) := by decide +kernel
theorem d_Mod_leaves_42 : decode prog_9_method_9_code 42 = .ok (.if_icmp .eq 5, 3) := by decide +kernel
theorem d_Mod_leaves_45 : decode prog_9_method_9_code 45 = .ok (.iconst 0, 1) := by decide +kernel
theorem d_Mod_leaves_46 : decode prog_9_method_9_code 46 = .ok (.ireturn, 1) := by decide +kernel
theorem d_Mod_leaves_47 : decode prog_9_method_9_code 47 = .ok (.iconst 1, 1) := by decide +kernel
theorem d_Mod_leaves_48 : decode prog_9_method_9_code 48 = .ok (.iload 4, 2) := by decide +kernel
theorem d_Mod_leaves_50 : decode prog_9_method_9_code 50 = .ok (.invokestatic 120, 3) := by decide +kernel
theorem d_Mod_leaves_53 : decode prog_9_method_9_code 53 = .ok (.ishl, 1) := by decide +kernel
theorem d_Mod_leaves_54 : decode prog_9_method_9_code 54 = .ok (.istore 6, 2) := by decide +kernel
theorem d_Mod_leaves_56 : decode prog_9_method_9_code 56 = .ok (.iload_n 2, 1) := by decide +kernel
theorem d_Mod_leaves_57 : decode prog_9_method_9_code 57 = .ok (.iload 5, 2) := by decide +kernel
theorem d_Mod_leaves_59 : decode prog_9_method_9_code 59 = .ok (.idiv, 1) := by decide +kernel
theorem d_Mod_leaves_60 : decode prog_9_method_9_code 60 = .ok (.iload 6, 2) := by decide +kernel
theorem d_Mod_leaves_62 : decode prog_9_method_9_code 62 = .ok (.imul, 1) := by decide +kernel
theorem d_Mod_leaves_63 : decode prog_9_method_9_code 63 = .ok (.iload 4, 2) := by decide +kernel
theorem d_Mod_leaves_65 : decode prog_9_method_9_code 65 = .ok (.iload 6, 2) := by decide +kernel
theorem d_Mod_leaves_67 : decode prog_9_method_9_code 67 = .ok (.irem, 1) := by decide +kernel
theorem d_Mod_leaves_68 : decode prog_9_method_9_code 68 = .ok (.iadd, 1) := by decide +kernel
theorem d_Mod_leaves_69 : decode prog_9_method_9_code 69 = .ok (.istore 7, 2) := by decide +kernel
theorem d_Mod_leaves_71 : decode prog_9_method_9_code 71 = .ok (.iload 7, 2) := by decide +kernel
theorem d_Mod_leaves_73 : decode prog_9_method_9_code 73 = .ok (.invokestatic 120, 3) := by decide +kernel
theorem d_Mod_leaves_76 : decode prog_9_method_9_code 76 = .ok (.bipush 6, 2) := by decide +kernel
theorem d_Mod_leaves_78 : decode prog_9_method_9_code 78 = .ok (.if_icmp .le 7, 3) := by decide +kernel
theorem d_Mod_leaves_81 : decode prog_9_method_9_code 81 = .ok (.iconst 0, 1) := by decide +kernel
theorem d_Mod_leaves_82 : decode prog_9_method_9_code 82 = .ok (.goto 5, 3) := by decide +kernel
theorem d_Mod_leaves_85 : decode prog_9_method_9_code 85 = .ok (.iload 7, 2) := by decide +kernel
theorem d_Mod_leaves_87 : decode prog_9_method_9_code 87 = .ok (.ireturn, 1) := by decide +kernel
theorem d_Mod_reach_0 : decode prog_9_method_10_code 0 = .ok (.iload_n 2, 1) := by decide +kernel
theorem d_Mod_reach_1 : decode prog_9_method_10_code 1 = .ok (.aload_n 0, 1) := by decide +kernel
theorem d_Mod_reach_2 : decode prog_9_method_10_code 2 = .ok (.getfield 19, 3) := by decide +kernel
theorem d_Mod_reach_5 : decode prog_9_method_10_code 5 = .ok (.iload_n 1, 1) := by decide +kernel
theorem d_Mod_reach_6 : decode prog_9_method_10_code 6 = .ok (.iaload, 1) := by decide +kernel
theorem d_Mod_reach_7 : decode prog_9_method_10_code 7 = .ok (.if_icmp .lt 5, 3) := by decide +kernel
theorem d_Mod_reach_10 : decode prog_9_method_10_code 10 = .ok (.iconst 0, 1) := by decide +kernel
theorem d_Mod_reach_11 : decode prog_9_method_10_code 11 = .ok (.ireturn, 1) := by decide +kernel
theorem d_Mod_reach_12 : decode prog_9_method_10_code 12 = .ok (.bipush 24, 2) := by decide +kernel
theorem d_Mod_reach_14 : decode prog_9_method_10_code 14 = .ok (.iload_n 1, 1) := by decide +kernel
theorem d_Mod_reach_15 : decode prog_9_method_10_code 15 = .ok (.imul, 1) := by decide +kernel
theorem d_Mod_reach_16 : decode prog_9_method_10_code 16 = .ok (.iload_n 2, 1) := by decide +kernel
theorem d_Mod_reach_17 : decode prog_9_method_10_code 17 = .ok (.iadd, 1) := by decide +kernel
theorem d_Mod_reach_18 : decode prog_9_method_10_code 18 = .ok (.istore 4, 2) := by decide +kernel
theorem d_Mod_reach_20 : decode prog_9_method_10_code 20 = .ok (.aload_n 0, 1) := by decide +kernel
theorem d_Mod_reach_21 : decode prog_9_method_10_code 21 = .ok (.getfield 16, 3) := by decide +kernel
theorem d_Mod_reach_24 : decode prog_9_method_10_code 24 = .ok (.iload 4, 2) := by decide +kernel
theorem d_Mod_reach_26 : decode prog_9_method_10_code 26 = .ok (.iaload, 1) := by decide +kernel
theorem d_Mod_reach_27 : decode prog_9_method_10_code 27 = .ok (.ifCond .eq 16, 3) := by decide +kernel
theorem d_Mod_reach_30 : decode prog_9_method_10_code 30 = .ok (.aload_n 0, 1) := by decide +kernel
theorem d_Mod_reach_31 : decode prog_9_method_10_code 31 = .ok (.getfield 16, 3) := by decide +kernel
theorem d_Mod_reach_34 : decode prog_9_method_10_code 34 = .ok (.iload 4, 2) := by decide +kernel
theorem d_Mod_reach_36 : decode prog_9_method_10_code 36 = .ok (.iaload, 1) := by decide +kernel
theorem d_Mod_reach_37 : decode prog_9_method_10_code 37 = .ok (.iload_n 3, 1) := by decide +kernel
theorem d_Mod_reach_38 : decode prog_9_method_10_code 38 = .ok (.if_icmp .eq 5, 3) := by decide +kernel
theorem d_Mod_reach_41 : decode prog_9_method_10_code 41 = .ok (.iconst 0, 1) := by decide +kernel
theorem d_Mod_reach_42 : decode prog_9_method_10_code 42 = .ok (.ireturn, 1) := by decide +kernel
theorem d_Mod_reach_43 : decode prog_9_method_10_code 43 = .ok (.aload_n 0, 1) := by decide +kernel
theorem d_Mod_reach_44 : decode prog_9_method_10_code 44 = .ok (.getfield 16, 3) := by decide +kernel
theorem d_Mod_reach_47 : decode prog_9_method_10_code 47 = .ok (.iload 4, 2) := by decide +kernel
theorem d_Mod_reach_49 : decode prog_9_method_10_code 49 = .ok (.iload_n 3, 1) := by decide +kernel
theorem d_Mod_reach_50 : decode prog_9_method_10_code 50 = .ok (.iastore, 1) := by decide +kernel
theorem d_Mod_reach_51 : decode prog_9_method_10_code 51 = .ok (.iconst 1, 1) := by decide +kernel
theorem d_Mod_reach_52 : decode prog_9_method_10_code 52 = .ok (.ireturn, 1) := by decide +kernel
theorem d_Mod_flows_0 : decode prog_9_method_11_code 0 = .ok (.bipush 24, 2) := by decide +kernel
theorem d_Mod_flows_2 : decode prog_9_method_11_code 2 = .ok (.iload_n 1, 1) := by decide +kernel
theorem d_Mod_flows_3 : decode prog_9_method_11_code 3 = .ok (.imul, 1) := by decide +kernel
theorem d_Mod_flows_4 : decode prog_9_method_11_code 4 = .ok (.iload_n 2, 1) := by decide +kernel
theorem d_Mod_flows_5 : decode prog_9_method_11_code 5 = .ok (.iadd, 1) := by decide +kernel
theorem d_Mod_flows_6 : decode prog_9_method_11_code 6 = .ok (.istore_n 3, 1) := by decide +kernel
theorem d_Mod_flows_7 : decode prog_9_method_11_code 7 = .ok (.aload_n 0, 1) := by decide +kernel
theorem d_Mod_flows_8 : decode prog_9_method_11_code 8 = .ok (.getfield 7, 3) := by decide +kernel
theorem d_Mod_flows_11 : decode prog_9_method_11_code 11 = .ok (.iload_n 3, 1) := by decide +kernel
theorem d_Mod_flows_12 : decode prog_9_method_11_code 12 = .ok (.iaload, 1) := by decide +kernel
theorem d_Mod_flows_13 : decode prog_9_method_11_code 13 = .ok (.istore 4, 2) := by decide +kernel
theorem d_Mod_flows_15 : decode prog_9_method_11_code 15 = .ok (.aload_n 0, 1) := by decide +kernel
theorem d_Mod_flows_16 : decode prog_9_method_11_code 16 = .ok (.getfield 16, 3) := by decide +kernel
theorem d_Mod_flows_19 : decode prog_9_method_11_code 19 = .ok (.iload_n 3, 1) := by decide +kernel
theorem d_Mod_flows_20 : decode prog_9_method_11_code 20 = .ok (.iaload, 1) := by decide +kernel
theorem d_Mod_flows_21 : decode prog_9_method_11_code 21 = .ok (.ifCond .ne 5, 3) := by decide +kernel
theorem d_Mod_flows_24 : decode prog_9_method_11_code 24 = .ok (.iconst 1, 1) := by decide +kernel
theorem d_Mod_flows_25 : decode prog_9_method_11_code 25 = .ok (.ireturn, 1) := by decide +kernel
theorem d_Mod_flows_26 : decode prog_9_method_11_code 26 = .ok (.iload 4, 2) := by decide +kernel
theorem d_Mod_flows_28 : decode prog_9_method_11_code 28 = .ok (.aload_n 0, 1) := by decide +kernel
theorem d_Mod_flows_29 : decode prog_9_method_11_code 29 = .ok (.getfield 13, 3) := by decide +kernel
theorem d_Mod_flows_32 : decode prog_9_method_11_code 32 = .ok (.iload_n 3, 1) := by decide +kernel
theorem d_Mod_flows_33 : decode prog_9_method_11_code 33 = .ok (.iaload, 1) := by decide +kernel
theorem d_Mod_flows_34 : decode prog_9_method_11_code 34 = .ok (.aload_n 0, 1) := by decide +kernel
theorem d_Mod_flows_35 : decode prog_9_method_11_code 35 = .ok (.getfield 16, 3) := by decide +kernel
theorem d_Mod_flows_38 : decode prog_9_method_11_code 38 = .ok (.iload_n 3, 1) := by decide +kernel
theorem d_Mod_flows_39 : decode prog_9_method_11_code 39 = .ok (.iaload, 1) := by decide +kernel
theorem d_Mod_flows_40 : decode prog_9_method_11_code 40 = .ok (.invokestatic 123, 3) := by decide +kernel
theorem d_Mod_flows_43 : decode prog_9_method_11_code 43 = .ok (.istore 5, 2) := by decide +kernel
theorem d_Mod_flows_45 : decode prog_9_method_11_code 45 = .ok (.iload 5, 2) := by decide +kernel
theorem d_Mod_flows_47 : decode prog_9_method_11_code 47 = .ok (.ifCond .ne 5, 3) := by decide +kernel
theorem d_Mod_flows_50 : decode prog_9_method_11_code 50 = .ok (.iconst 0, 1) := by decide +kernel
theorem d_Mod_flows_51 : decode prog_9_method_11_code 51 = .ok (.ireturn, 1) := by decide +kernel
theorem d_Mod_flows_52 : decode prog_9_method_11_code 52 = .ok (.iload 4, 2) := by decide +kernel
theorem d_Mod_flows_54 : decode prog_9_method_11_code 54 = .ok (.bipush 17, 2) := by decide +kernel
theorem d_Mod_flows_56 : decode prog_9_method_11_code 56 = .ok (.if_icmp .eq 10, 3) := by decide +kernel
theorem d_Mod_flows_59 : decode prog_9_method_11_code 59 = .ok (.iload 4, 2) := by decide +kernel
theorem d_Mod_flows_61 : decode prog_9_method_11_code 61 = .ok (.bipush 18, 2) := by decide +kernel
theorem d_Mod_flows_63 : decode prog_9_method_11_code 63 = .ok (.if_icmp .ne 19, 3) := by decide +kernel
theorem d_Mod_flows_66 : decode prog_9_method_11_code 66 = .ok (.aload_n 0, 1) := by decide +kernel
theorem d_Mod_flows_67 : decode prog_9_method_11_code 67 = .ok (.iload_n 1, 1) := by decide +kernel
theorem d_Mod_flows_68 : decode prog_9_method_11_code 68 = .ok (.aload_n 0, 1) := by decide +kernel
theorem d_Mod_flows_69 : decode prog_9_method_11_code 69 = .ok (.getfield 13, 3) := by decide +kernel
theorem d_Mod_flows_72 : decode prog_9_method_11_code 72 = .ok (.iload_n 3, 1) := by decide +kernel
theorem d_Mod_flows_73 : decode prog_9_method_11_code 73 = .ok (.iaload, 1) := by decide +kernel
theorem d_Mod_flows_74 : decode prog_9_method_11_code 74 = .ok (.iload 5, 2) := by decide +kernel
theorem d_Mod_flows_76 : decode prog_9_method_11_code 76 = .ok (.invokevirtual 126, 3) := by decide +kernel
theorem d_Mod_flows_79 : decode prog_9_method_11_code 79 = .ok (.ifCond .eq 7, 3) := by decide +kernel
theorem d_Mod_flows_82 : decode prog_9_method_11_code 82 = .ok (.iconst 1, 1) := by decide +kernel
theorem d_Mod_flows_83 : decode prog_9_method_11_code 83 = .ok (.goto 4, 3) := by decide +kernel
theorem d_Mod_flows_86 : decode prog_9_method_11_code 86 = .ok (.iconst 0, 1) := by decide +kernel
theorem d_Mod_flows_87 : decode prog_9_method_11_code 87 = .ok (.istore 6, 2) := by decide +kernel
theorem d_Mod_flows_89 : decode prog_9_method_11_code 89 = .ok (.iload 6, 2) := by decide +kernel
theorem d_Mod_flows_91 : decode prog_9_method_11_code 91 = .ok (.ifCond .eq 32, 3) := by decide +kernel
theorem d_Mod_flows_94 : decode prog_9_method_11_code 94 = .ok (.iload 4, 2) := by decide +kernel
theorem d_Mod_flows_96 : decode prog_9_method_11_code 96 = .ok (.ifCond .eq 23, 3) := by decide +kernel
theorem d_Mod_flows_99 : decode prog_9_method_11_code 99 = .ok (.iload 4, 2) := by decide +kernel
theorem d_Mod_flows_101 : decode prog_9_method_11_code 101 = .ok (.bipush 17, 2) := by decide +kernel
theorem d_Mod_flows_103 : decode prog_9_method_11_code 103 = .ok (.if_icmp .eq 16, 3) := by decide +kernel
theorem d_Mod_flows_106 : decode prog_9_method_11_code 106 = .ok (.aload_n 0, 1) := by decide +kernel
theorem d_Mod_flows_107 : decode prog_9_method_11_code 107 = .ok (.iload_n 1, 1) := by decide +kernel
theorem d_Mod_flows_108 : decode prog_9_method_11_code 108 = .ok (.iload_n 2, 1) := by decide +kernel
theorem d_Mod_flows_109 : decode prog_9_method_11_code 109 = .ok (.iconst 1, 1) := by decide +kernel
theorem d_Mod_flows_110 : decode prog_9_method_11_code 110 = .ok (.iadd, 1) := by decide +kernel
theorem d_Mod_flows_111 : decode prog_9_method_11_code 111 = .ok (.iload 5, 2) := by decide +kernel
theorem d_Mod_flows_113 : decode prog_9_method_11_code 113 = .ok (.invokevirtual 126, 3) := by decide +kernel
theorem d_Mod_flows_116 : decode prog_9_method_11_code 116 = .ok (.ifCond .eq 7, 3) := by decide +kernel
theorem d_Mod_flows_119 : decode prog_9_method_11_code 119 = .ok (.iconst 1, 1) := by decide +kernel
theorem d_Mod_flows_120 : decode prog_9_method_11_code 120 = .ok (.goto 4, 3) := by decide +kernel
theorem d_Mod_flows_123 : decode prog_9_method_11_code 123 = .ok (.iconst 0, 1) := by decide +kernel
theorem d_Mod_flows_124 : decode prog_9_method_11_code 124 = .ok (.ireturn, 1) := by decide +kernel
theorem d_Mod_seal_0 : decode prog_9_method_12_code 0 = .ok (.iload_n 1, 1) := by decide +kernel
theorem d_Mod_seal_1 : decode prog_9_method_12_code 1 = .ok (.invokestatic 105, 3) := by decide +kernel
theorem d_Mod_seal_4 : decode prog_9_method_12_code 4 = .ok (.ifCond .eq 21, 3) := by decide +kernel
theorem d_Mod_seal_7 : decode prog_9_method_12_code 7 = .ok (.aload_n 0, 1) := by decide +kernel
theorem d_Mod_seal_8 : decode prog_9_method_12_code 8 = .ok (.getfield 22, 3) := by decide +kernel
theorem d_Mod_seal_11 : decode prog_9_method_12_code 11 = .ok (.iload_n 1, 1) := by decide +kernel
theorem d_Mod_seal_12 : decode prog_9_method_12_code 12 = .ok (.baload, 1) := by decide +kernel
theorem d_Mod_seal_13 : decode prog_9_method_12_code 13 = .ok (.ifCond .ne 12, 3) := by decide +kernel
theorem d_Mod_seal_16 : decode prog_9_method_12_code 16 = .ok (.aload_n 0, 1) := by decide +kernel
theorem d_Mod_seal_17 : decode prog_9_method_12_code 17 = .ok (.getfield 19, 3) := by decide +kernel
theorem d_Mod_seal_20 : decode prog_9_method_12_code 20 = .ok (.iload_n 1, 1) := by decide +kernel
theorem d_Mod_seal_21 : decode prog_9_method_12_code 21 = .ok (.iaload, 1) := by decide +kernel
theorem d_Mod_seal_22 : decode prog_9_method_12_code 22 = .ok (.ifCond .ne 5, 3) := by decide +kernel
theorem d_Mod_seal_25 : decode prog_9_method_12_code 25 = .ok (.iconst 0, 1) := by decide +kernel
theorem d_Mod_seal_26 : decode prog_9_method_12_code 26 = .ok (.ireturn, 1) := by decide +kernel
theorem d_Mod_seal_27 : decode prog_9_method_12_code 27 = .ok (.iconst 0, 1) := by decide +kernel
theorem d_Mod_seal_28 : decode prog_9_method_12_code 28 = .ok (.istore_n 2, 1) := by decide +kernel
theorem d_Mod_seal_29 : decode prog_9_method_12_code 29 = .ok (.iload_n 2, 1) := by decide +kernel
theorem d_Mod_seal_30 : decode prog_9_method_12_code 30 = .ok (.bipush 24, 2) := by decide +kernel
theorem d_Mod_seal_32 : decode prog_9_method_12_code 32 = .ok (.if_icmp .ge 21, 3) := by decide +kernel
theorem d_Mod_seal_35 : decode prog_9_method_12_code 35 = .ok (.aload_n 0, 1) := by decide +kernel
theorem d_Mod_seal_36 : decode prog_9_method_12_code 36 = .ok (.getfield 16, 3) := by decide +kernel
theorem d_Mod_seal_39 : decode prog_9_method_12_code 39 = .ok (.bipush 24, 2) := by decide +kernel
theorem d_Mod_seal_41 : decode prog_9_method_12_code 41 = .ok (.iload_n 1, 1) := by decide +kernel
theorem d_Mod_seal_42 : decode prog_9_method_12_code 42 = .ok (.imul, 1) := by decide +kernel
theorem d_Mod_seal_43 : decode prog_9_method_12_code 43 = .ok (.iload_n 2, 1) := by decide +kernel
theorem d_Mod_seal_44 : decode prog_9_method_12_code 44 = .ok (.iadd, 1) := by decide +kernel
theorem d_Mod_seal_45 : decode prog_9_method_12_code 45 = .ok (.iconst 0, 1) := by decide +kernel
theorem d_Mod_seal_46 : decode prog_9_method_12_code 46 = .ok (.iastore, 1) := by decide +kernel
theorem d_Mod_seal_47 : decode prog_9_method_12_code 47 = .ok (.iinc 2 1, 3) := by decide +kernel
theorem d_Mod_seal_50 : decode prog_9_method_12_code 50 = .ok (.goto (-21), 3) := by decide +kernel
theorem d_Mod_seal_53 : decode prog_9_method_12_code 53 = .ok (.aload_n 0, 1) := by decide +kernel
theorem d_Mod_seal_54 : decode prog_9_method_12_code 54 = .ok (.getfield 16, 3) := by decide +kernel
theorem d_Mod_seal_57 : decode prog_9_method_12_code 57 = .ok (.bipush 24, 2) := by decide +kernel
theorem d_Mod_seal_59 : decode prog_9_method_12_code 59 = .ok (.iload_n 1, 1) := by decide +kernel
theorem d_Mod_seal_60 : decode prog_9_method_12_code 60 = .ok (.imul, 1) := by decide +kernel
theorem d_Mod_seal_61 : decode prog_9_method_12_code 61 = .ok (.iconst 1, 1) := by decide +kernel
theorem d_Mod_seal_62 : decode prog_9_method_12_code 62 = .ok (.iastore, 1) := by decide +kernel
theorem d_Mod_seal_63 : decode prog_9_method_12_code 63 = .ok (.iconst 1, 1) := by decide +kernel
theorem d_Mod_seal_64 : decode prog_9_method_12_code 64 = .ok (.istore_n 2, 1) := by decide +kernel
theorem d_Mod_seal_65 : decode prog_9_method_12_code 65 = .ok (.iconst 0, 1) := by decide +kernel
theorem d_Mod_seal_66 : decode prog_9_method_12_code 66 = .ok (.istore_n 3, 1) := by decide +kernel
theorem d_Mod_seal_67 : decode prog_9_method_12_code 67 = .ok (.iload_n 3, 1) := by decide +kernel
theorem d_Mod_seal_68 : decode prog_9_method_12_code 68 = .ok (.bipush 25, 2) := by decide +kernel
theorem d_Mod_seal_70 : decode prog_9_method_12_code 70 = .ok (.if_icmp .ge 49, 3) := by decide +kernel
theorem d_Mod_seal_73 : decode prog_9_method_12_code 73 = .ok (.iconst 0, 1) := by decide +kernel
theorem d_Mod_seal_74 : decode prog_9_method_12_code 74 = .ok (.istore 4, 2) := by decide +kernel
theorem d_Mod_seal_76 : decode prog_9_method_12_code 76 = .ok (.iload 4, 2) := by decide +kernel
theorem d_Mod_seal_78 : decode prog_9_method_12_code 78 = .ok (.aload_n 0, 1) := by decide +kernel
theorem d_Mod_seal_79 : decode prog_9_method_12_code 79 = .ok (.getfield 19, 3) := by decide +kernel
theorem d_Mod_seal_82 : decode prog_9_method_12_code 82 = .ok (.iload_n 1, 1) := by decide +kernel
theorem d_Mod_seal_83 : decode prog_9_method_12_code 83 = .ok (.iaload, 1) := by decide +kernel
theorem d_Mod_seal_84 : decode prog_9_method_12_code 84 = .ok (.if_icmp .ge 29, 3) := by decide +kernel
theorem d_Mod_seal_87 : decode prog_9_method_12_code 87 = .ok (.iload_n 2, 1) := by decide +kernel
theorem d_Mod_seal_88 : decode prog_9_method_12_code 88 = .ok (.ifCond .eq 17, 3) := by decide +kernel
theorem d_Mod_seal_91 : decode prog_9_method_12_code 91 = .ok (.aload_n 0, 1) := by decide +kernel
theorem d_Mod_seal_92 : decode prog_9_method_12_code 92 = .ok (.iload_n 1, 1) := by decide +kernel
theorem d_Mod_seal_93 : decode prog_9_method_12_code 93 = .ok (.iload 4, 2) := by decide +kernel
theorem d_Mod_seal_95 : decode prog_9_method_12_code 95 = .ok (.invokevirtual 130, 3) := by decide +kernel
theorem d_Mod_seal_98 : decode prog_9_method_12_code 98 = .ok (.ifCond .eq 7, 3) := by decide +kernel
theorem d_Mod_seal_101 : decode prog_9_method_12_code 101 = .ok (.iconst 1, 1) := by decide +kernel
theorem d_Mod_seal_102 : decode prog_9_method_12_code 102 = .ok (.goto 4, 3) := by decide +kernel
theorem d_Mod_seal_105 : decode prog_9_method_12_code 105 = .ok (.iconst 0, 1) := by decide +kernel
theorem d_Mod_seal_106 : decode prog_9_method_12_code 106 = .ok (.istore_n 2, 1) := by decide +kernel
theorem d_Mod_seal_107 : decode prog_9_method_12_code 107 = .ok (.iinc 4 1, 3) := by decide +kernel
theorem d_Mod_seal_110 : decode prog_9_method_12_code 110 = .ok (.goto (-34), 3) := by decide +kernel
theorem d_Mod_seal_113 : decode prog_9_method_12_code 113 = .ok (.iinc 3 1, 3) := by decide +kernel
theorem d_Mod_seal_116 : decode prog_9_method_12_code 116 = .ok (.goto (-49), 3) := by decide +kernel
theorem d_Mod_seal_119 : decode prog_9_method_12_code 119 = .ok (.aload_n 0, 1) := by decide +kernel
theorem d_Mod_seal_120 : decode prog_9_method_12_code 120 = .ok (.getfield 22, 3) := by decide +kernel
theorem d_Mod_seal_123 : decode prog_9_method_12_code 123 = .ok (.iload_n 1, 1) := by decide +kernel
theorem d_Mod_seal_124 : decode prog_9_method_12_code 124 = .ok (.iload_n 2, 1) := by decide +kernel
theorem d_Mod_seal_125 : decode prog_9_method_12_code 125 = .ok (.bastore, 1) := by decide +kernel
theorem d_Mod_seal_126 : decode prog_9_method_12_code 126 = .ok (.iload_n 2, 1) := by decide +kernel
theorem d_Mod_seal_127 : decode prog_9_method_12_code 127 = .ok (.ireturn, 1) := by decide +kernel
theorem d_Mod_shape_0 : decode prog_9_method_13_code 0 = .ok (.iload_n 1, 1) := by decide +kernel
theorem d_Mod_shape_1 : decode prog_9_method_13_code 1 = .ok (.invokestatic 105, 3) := by decide +kernel
theorem d_Mod_shape_4 : decode prog_9_method_13_code 4 = .ok (.ifCond .eq 26, 3) := by decide +kernel
theorem d_Mod_shape_7 : decode prog_9_method_13_code 7 = .ok (.aload_n 0, 1) := by decide +kernel
theorem d_Mod_shape_8 : decode prog_9_method_13_code 8 = .ok (.getfield 22, 3) := by decide +kernel
theorem d_Mod_shape_11 : decode prog_9_method_13_code 11 = .ok (.iload_n 1, 1) := by decide +kernel
theorem d_Mod_shape_12 : decode prog_9_method_13_code 12 = .ok (.baload, 1) := by decide +kernel
theorem d_Mod_shape_13 : decode prog_9_method_13_code 13 = .ok (.ifCond .eq 17, 3) := by decide +kernel
theorem d_Mod_shape_16 : decode prog_9_method_13_code 16 = .ok (.iload_n 2, 1) := by decide +kernel
theorem d_Mod_shape_17 : decode prog_9_method_13_code 17 = .ok (.ifCond .lt 13, 3) := by decide +kernel
theorem d_Mod_shape_20 : decode prog_9_method_13_code 20 = .ok (.iload_n 2, 1) := by decide +kernel
theorem d_Mod_shape_21 : decode prog_9_method_13_code 21 = .ok (.aload_n 0, 1) := by decide +kernel
theorem d_Mod_shape_22 : decode prog_9_method_13_code 22 = .ok (.getfield 19, 3) := by decide +kernel
theorem d_Mod_shape_25 : decode prog_9_method_13_code 25 = .ok (.iload_n 1, 1) := by decide +kernel
theorem d_Mod_shape_26 : decode prog_9_method_13_code 26 = .ok (.iaload, 1) := by decide +kernel
theorem d_Mod_shape_27 : decode prog_9_method_13_code 27 = .ok (.if_icmp .lt 7, 3) := by decide +kernel
theorem d_Mod_shape_30 : decode prog_9_method_13_code 30 = .ok (.iconst (-1), 1) := by decide +kernel
theorem d_Mod_shape_31 : decode prog_9_method_13_code 31 = .ok (.goto 14, 3) := by decide +kernel
theorem d_Mod_shape_34 : decode prog_9_method_13_code 34 = .ok (.aload_n 0, 1) := by decide +kernel
theorem d_Mod_shape_35 : decode prog_9_method_13_code 35 = .ok (.getfield 16, 3) := by decide +kernel
theorem d_Mod_shape_38 : decode prog_9_method_13_code 38 = .ok (.bipush 24, 2) := by decide +kernel
theorem d_Mod_shape_40 : decode prog_9_method_13_code 40 = .ok (.iload_n 1, 1) := by decide +kernel
theorem d_Mod_shape_41 : decode prog_9_method_13_code 41 = .ok (.imul, 1) := by decide +kernel
theorem d_Mod_shape_42 : decode prog_9_method_13_code 42 = .ok (.iload_n 2, 1) := by decide +kernel
theorem d_Mod_shape_43 : decode prog_9_method_13_code 43 = .ok (.iadd, 1) := by decide +kernel
theorem d_Mod_shape_44 : decode prog_9_method_13_code 44 = .ok (.iaload, 1) := by decide +kernel
theorem d_Mod_shape_45 : decode prog_9_method_13_code 45 = .ok (.ireturn, 1) := by decide +kernel
theorem d_Mod_isShared_0 : decode prog_9_method_14_code 0 = .ok (.iload_n 1, 1) := by decide +kernel
theorem d_Mod_isShared_1 : decode prog_9_method_14_code 1 = .ok (.ifCond .lt 15, 3) := by decide +kernel
theorem d_Mod_isShared_4 : decode prog_9_method_14_code 4 = .ok (.iload_n 1, 1) := by decide +kernel
theorem d_Mod_isShared_5 : decode prog_9_method_14_code 5 = .ok (.aload_n 0, 1) := by decide +kernel
theorem d_Mod_isShared_6 : decode prog_9_method_14_code 6 = .ok (.getfield 134, 3) := by decide +kernel
theorem d_Mod_isShared_9 : decode prog_9_method_14_code 9 = .ok (.if_icmp .ge 7, 3) := by decide +kernel
theorem d_Mod_isShared_12 : decode prog_9_method_14_code 12 = .ok (.iconst 1, 1) := by decide +kernel
theorem d_Mod_isShared_13 : decode prog_9_method_14_code 13 = .ok (.goto 4, 3) := by decide +kernel
theorem d_Mod_isShared_16 : decode prog_9_method_14_code 16 = .ok (.iconst 0, 1) := by decide +kernel
theorem d_Mod_isShared_17 : decode prog_9_method_14_code 17 = .ok (.ireturn, 1) := by decide +kernel
theorem d_Mod_share_0 : decode prog_9_method_15_code 0 = .ok (.aload_n 0, 1) := by decide +kernel
theorem d_Mod_share_1 : decode prog_9_method_15_code 1 = .ok (.getfield 134, 3) := by decide +kernel
theorem d_Mod_share_4 : decode prog_9_method_15_code 4 = .ok (.bipush 8, 2) := by decide +kernel
theorem d_Mod_share_6 : decode prog_9_method_15_code 6 = .ok (.if_icmp .eq 29, 3) := by decide +kernel
theorem d_Mod_share_9 : decode prog_9_method_15_code 9 = .ok (.iload_n 2, 1) := by decide +kernel
theorem d_Mod_share_10 : decode prog_9_method_15_code 10 = .ok (.iconst (-1), 1) := by decide +kernel
theorem d_Mod_share_11 : decode prog_9_method_15_code 11 = .ok (.if_icmp .eq 11, 3) := by decide +kernel
theorem d_Mod_share_14 : decode prog_9_method_15_code 14 = .ok (.aload_n 0, 1) := by decide +kernel
theorem d_Mod_share_15 : decode prog_9_method_15_code 15 = .ok (.iload_n 2, 1) := by decide +kernel
theorem d_Mod_share_16 : decode prog_9_method_15_code 16 = .ok (.invokevirtual 137, 3) := by decide +kernel
theorem d_Mod_share_19 : decode prog_9_method_15_code 19 = .ok (.ifCond .eq 16, 3) := by decide +kernel
theorem d_Mod_share_22 : decode prog_9_method_15_code 22 = .ok (.iload_n 3, 1) := by decide +kernel
theorem d_Mod_share_23 : decode prog_9_method_15_code 23 = .ok (.iconst (-1), 1) := by decide +kernel
theorem d_Mod_share_24 : decode prog_9_method_15_code 24 = .ok (.if_icmp .eq 13, 3) := by decide +kernel
theorem d_Mod_share_27 : decode prog_9_method_15_code 27 = .ok (.aload_n 0, 1) := by decide +kernel
theorem d_Mod_share_28 : decode prog_9_method_15_code 28 = .ok (.iload_n 3, 1) := by decide +kernel
theorem d_Mod_share_29 : decode prog_9_method_15_code 29 = .ok (.invokevirtual 137, 3) := by decide +kernel
theorem d_Mod_share_32 : decode prog_9_method_15_code 32 = .ok (.ifCond .ne 5, 3) := by decide +kernel
theorem d_Mod_share_35 : decode prog_9_method_15_code 35 = .ok (.iconst (-1), 1) := by decide +kernel
theorem d_Mod_share_36 : decode prog_9_method_15_code 36 = .ok (.ireturn, 1) := by decide +kernel
theorem d_Mod_share_37 : decode prog_9_method_15_code 37 = .ok (.aload_n 0, 1) := by decide +kernel
theorem d_Mod_share_38 : decode prog_9_method_15_code 38 = .ok (.getfield 29, 3) := by decide +kernel
theorem d_Mod_share_41 : decode prog_9_method_15_code 41 = .ok (.bipush 96, 2) := by decide +kernel
theorem d_Mod_share_43 : decode prog_9_method_15_code 43 = .ok (.aload_n 0, 1) := by decide +kernel
theorem d_Mod_share_44 : decode prog_9_method_15_code 44 = .ok (.getfield 134, 3) := by decide +kernel
theorem d_Mod_share_47 : decode prog_9_method_15_code 47 = .ok (.iadd, 1) := by decide +kernel
theorem d_Mod_share_48 : decode prog_9_method_15_code 48 = .ok (.iload_n 1, 1) := by decide +kernel
theorem d_Mod_share_49 : decode prog_9_method_15_code 49 = .ok (.iastore, 1) := by decide +kernel
theorem d_Mod_share_50 : decode prog_9_method_15_code 50 = .ok (.aload_n 0, 1) := by decide +kernel
theorem d_Mod_share_51 : decode prog_9_method_15_code 51 = .ok (.getfield 32, 3) := by decide +kernel
theorem d_Mod_share_54 : decode prog_9_method_15_code 54 = .ok (.bipush 96, 2) := by decide +kernel
theorem d_Mod_share_56 : decode prog_9_method_15_code 56 = .ok (.aload_n 0, 1) := by decide +kernel
theorem d_Mod_share_57 : decode prog_9_method_15_code 57 = .ok (.getfield 134, 3) := by decide +kernel
theorem d_Mod_share_60 : decode prog_9_method_15_code 60 = .ok (.iadd, 1) := by decide +kernel
theorem d_Mod_share_61 : decode prog_9_method_15_code 61 = .ok (.iload_n 2, 1) := by decide +kernel
theorem d_Mod_share_62 : decode prog_9_method_15_code 62 = .ok (.iconst (-1), 1) := by decide +kernel
theorem d_Mod_share_63 : decode prog_9_method_15_code 63 = .ok (.if_icmp .ne 7, 3) := by decide +kernel
theorem d_Mod_share_66 : decode prog_9_method_15_code 66 = .ok (.iconst (-1), 1) := by decide +kernel
theorem d_Mod_share_67 : decode prog_9_method_15_code 67 = .ok (.goto 7, 3) := by decide +kernel
theorem d_Mod_share_70 : decode prog_9_method_15_code 70 = .ok (.bipush 96, 2) := by decide +kernel
theorem d_Mod_share_72 : decode prog_9_method_15_code 72 = .ok (.iload_n 2, 1) := by decide +kernel
theorem d_Mod_share_73 : decode prog_9_method_15_code 73 = .ok (.iadd, 1) := by decide +kernel
theorem d_Mod_share_74 : decode prog_9_method_15_code 74 = .ok (.iastore, 1) := by decide +kernel
theorem d_Mod_share_75 : decode prog_9_method_15_code 75 = .ok (.aload_n 0, 1) := by decide +kernel
theorem d_Mod_share_76 : decode prog_9_method_15_code 76 = .ok (.getfield 35, 3) := by decide +kernel
theorem d_Mod_share_79 : decode prog_9_method_15_code 79 = .ok (.bipush 96, 2) := by decide +kernel
theorem d_Mod_share_81 : decode prog_9_method_15_code 81 = .ok (.aload_n 0, 1) := by decide +kernel
theorem d_Mod_share_82 : decode prog_9_method_15_code 82 = .ok (.getfield 134, 3) := by decide +kernel
theorem d_Mod_share_85 : decode prog_9_method_15_code 85 = .ok (.iadd, 1) := by decide +kernel
theorem d_Mod_share_86 : decode prog_9_method_15_code 86 = .ok (.iload_n 3, 1) := by decide +kernel
theorem d_Mod_share_87 : decode prog_9_method_15_code 87 = .ok (.iconst (-1), 1) := by decide +kernel
theorem d_Mod_share_88 : decode prog_9_method_15_code 88 = .ok (.if_icmp .ne 7, 3) := by decide +kernel
theorem d_Mod_share_91 : decode prog_9_method_15_code 91 = .ok (.iconst (-1), 1) := by decide +kernel
theorem d_Mod_share_92 : decode prog_9_method_15_code 92 = .ok (.goto 7, 3) := by decide +kernel
theorem d_Mod_share_95 : decode prog_9_method_15_code 95 = .ok (.bipush 96, 2) := by decide +kernel
theorem d_Mod_share_97 : decode prog_9_method_15_code 97 = .ok (.iload_n 3, 1) := by decide +kernel
theorem d_Mod_share_98 : decode prog_9_method_15_code 98 = .ok (.iadd, 1) := by decide +kernel
theorem d_Mod_share_99 : decode prog_9_method_15_code 99 = .ok (.iastore, 1) := by decide +kernel
theorem d_Mod_share_100 : decode prog_9_method_15_code 100 = .ok (.aload_n 0, 1) := by decide +kernel
theorem d_Mod_share_101 : decode prog_9_method_15_code 101 = .ok (.dup, 1) := by decide +kernel
theorem d_Mod_share_102 : decode prog_9_method_15_code 102 = .ok (.getfield 134, 3) := by decide +kernel
theorem d_Mod_share_105 : decode prog_9_method_15_code 105 = .ok (.iconst 1, 1) := by decide +kernel
theorem d_Mod_share_106 : decode prog_9_method_15_code 106 = .ok (.iadd, 1) := by decide +kernel
theorem d_Mod_share_107 : decode prog_9_method_15_code 107 = .ok (.putfield 134, 3) := by decide +kernel
theorem d_Mod_share_110 : decode prog_9_method_15_code 110 = .ok (.aload_n 0, 1) := by decide +kernel
theorem d_Mod_share_111 : decode prog_9_method_15_code 111 = .ok (.getfield 134, 3) := by decide +kernel
theorem d_Mod_share_114 : decode prog_9_method_15_code 114 = .ok (.iconst 1, 1) := by decide +kernel
theorem d_Mod_share_115 : decode prog_9_method_15_code 115 = .ok (.isub, 1) := by decide +kernel
theorem d_Mod_share_116 : decode prog_9_method_15_code 116 = .ok (.ireturn, 1) := by decide +kernel
theorem d_Mod_reserve_0 : decode prog_9_method_25_code 0 = .ok (.iload_n 1, 1) := by decide +kernel
theorem d_Mod_reserve_1 : decode prog_9_method_25_code 1 = .ok (.invokestatic 105, 3) := by decide +kernel
theorem d_Mod_reserve_4 : decode prog_9_method_25_code 4 = .ok (.ifCond .eq 35, 3) := by decide +kernel
theorem d_Mod_reserve_7 : decode prog_9_method_25_code 7 = .ok (.iload_n 2, 1) := by decide +kernel
theorem d_Mod_reserve_8 : decode prog_9_method_25_code 8 = .ok (.iconst 1, 1) := by decide +kernel
theorem d_Mod_reserve_9 : decode prog_9_method_25_code 9 = .ok (.if_icmp .lt 30, 3) := by decide +kernel
theorem d_Mod_reserve_12 : decode prog_9_method_25_code 12 = .ok (.iload_n 2, 1) := by decide +kernel
theorem d_Mod_reserve_13 : decode prog_9_method_25_code 13 = .ok (.bipush 24, 2) := by decide +kernel
theorem d_Mod_reserve_15 : decode prog_9_method_25_code 15 = .ok (.if_icmp .gt 24, 3) := by decide +kernel
theorem d_Mod_reserve_18 : decode prog_9_method_25_code 18 = .ok (.iload_n 3, 1) := by decide +kernel
theorem d_Mod_reserve_19 : decode prog_9_method_25_code 19 = .ok (.iconst 1, 1) := by decide +kernel
theorem d_Mod_reserve_20 : decode prog_9_method_25_code 20 = .ok (.if_icmp .lt 19, 3) := by decide +kernel
theorem d_Mod_reserve_23 : decode prog_9_method_25_code 23 = .ok (.iload_n 3, 1) := by decide +kernel
theorem d_Mod_reserve_24 : decode prog_9_method_25_code 24 = .ok (.sipush 3000, 3) := by decide +kernel
theorem d_Mod_reserve_27 : decode prog_9_method_25_code 27 = .ok (.if_icmp .gt 12, 3) := by decide +kernel
theorem d_Mod_reserve_30 : decode prog_9_method_25_code 30 = .ok (.aload_n 0, 1) := by decide +kernel
theorem d_Mod_reserve_31 : decode prog_9_method_25_code 31 = .ok (.getfield 47, 3) := by decide +kernel
theorem d_Mod_reserve_34 : decode prog_9_method_25_code 34 = .ok (.iload_n 1, 1) := by decide +kernel
theorem d_Mod_reserve_35 : decode prog_9_method_25_code 35 = .ok (.iaload, 1) := by decide +kernel
theorem d_Mod_reserve_36 : decode prog_9_method_25_code 36 = .ok (.ifCond .le 5, 3) := by decide +kernel
theorem d_Mod_reserve_39 : decode prog_9_method_25_code 39 = .ok (.iconst 0, 1) := by decide +kernel
theorem d_Mod_reserve_40 : decode prog_9_method_25_code 40 = .ok (.ireturn, 1) := by decide +kernel
theorem d_Mod_reserve_41 : decode prog_9_method_25_code 41 = .ok (.aload_n 0, 1) := by decide +kernel
theorem d_Mod_reserve_42 : decode prog_9_method_25_code 42 = .ok (.getfield 47, 3) := by decide +kernel
theorem d_Mod_reserve_45 : decode prog_9_method_25_code 45 = .ok (.iconst 0, 1) := by decide +kernel
theorem d_Mod_reserve_46 : decode prog_9_method_25_code 46 = .ok (.iaload, 1) := by decide +kernel
theorem d_Mod_reserve_47 : decode prog_9_method_25_code 47 = .ok (.aload_n 0, 1) := by decide +kernel
theorem d_Mod_reserve_48 : decode prog_9_method_25_code 48 = .ok (.getfield 47, 3) := by decide +kernel
theorem d_Mod_reserve_51 : decode prog_9_method_25_code 51 = .ok (.iconst 1, 1) := by decide +kernel
theorem d_Mod_reserve_52 : decode prog_9_method_25_code 52 = .ok (.iaload, 1) := by decide +kernel
theorem d_Mod_reserve_53 : decode prog_9_method_25_code 53 = .ok (.iadd, 1) := by decide +kernel
theorem d_Mod_reserve_54 : decode prog_9_method_25_code 54 = .ok (.aload_n 0, 1) := by decide +kernel
theorem d_Mod_reserve_55 : decode prog_9_method_25_code 55 = .ok (.getfield 47, 3) := by decide +kernel
theorem d_Mod_reserve_58 : decode prog_9_method_25_code 58 = .ok (.iconst 2, 1) := by decide +kernel
theorem d_Mod_reserve_59 : decode prog_9_method_25_code 59 = .ok (.iaload, 1) := by decide +kernel
theorem d_Mod_reserve_60 : decode prog_9_method_25_code 60 = .ok (.iadd, 1) := by decide +kernel
theorem d_Mod_reserve_61 : decode prog_9_method_25_code 61 = .ok (.aload_n 0, 1) := by decide +kernel
theorem d_Mod_reserve_62 : decode prog_9_method_25_code 62 = .ok (.getfield 47, 3) := by decide +kernel
theorem d_Mod_reserve_65 : decode prog_9_method_25_code 65 = .ok (.iconst 3, 1) := by decide +kernel
theorem d_Mod_reserve_66 : decode prog_9_method_25_code 66 = .ok (.iaload, 1) := by decide +kernel
theorem d_Mod_reserve_67 : decode prog_9_method_25_code 67 = .ok (.iadd, 1) := by decide +kernel
theorem d_Mod_reserve_68 : decode prog_9_method_25_code 68 = .ok (.iload_n 2, 1) := by decide +kernel
theorem d_Mod_reserve_69 : decode prog_9_method_25_code 69 = .ok (.iadd, 1) := by decide +kernel
theorem d_Mod_reserve_70 : decode prog_9_method_25_code 70 = .ok (.bipush 48, 2) := by decide +kernel
theorem d_Mod_reserve_72 : decode prog_9_method_25_code 72 = .ok (.if_icmp .le 5, 3) := by decide +kernel
theorem d_Mod_reserve_75 : decode prog_9_method_25_code 75 = .ok (.iconst 0, 1) := by decide +kernel
theorem d_Mod_reserve_76 : decode prog_9_method_25_code 76 = .ok (.ireturn, 1) := by decide +kernel
theorem d_Mod_reserve_77 : decode prog_9_method_25_code 77 = .ok (.aload_n 0, 1) := by decide +kernel
theorem d_Mod_reserve_78 : decode prog_9_method_25_code 78 = .ok (.getfield 47, 3) := by decide +kernel
theorem d_Mod_reserve_81 : decode prog_9_method_25_code 81 = .ok (.iload_n 1, 1) := by decide +kernel
theorem d_Mod_reserve_82 : decode prog_9_method_25_code 82 = .ok (.iload_n 2, 1) := by decide +kernel
theorem d_Mod_reserve_83 : decode prog_9_method_25_code 83 = .ok (.iastore, 1) := by decide +kernel
theorem d_Mod_reserve_84 : decode prog_9_method_25_code 84 = .ok (.aload_n 0, 1) := by decide +kernel
theorem d_Mod_reserve_85 : decode prog_9_method_25_code 85 = .ok (.getfield 50, 3) := by decide +kernel
theorem d_Mod_reserve_88 : decode prog_9_method_25_code 88 = .ok (.iload_n 1, 1) := by decide +kernel
theorem d_Mod_reserve_89 : decode prog_9_method_25_code 89 = .ok (.iload_n 3, 1) := by decide +kernel
theorem d_Mod_reserve_90 : decode prog_9_method_25_code 90 = .ok (.iastore, 1) := by decide +kernel
theorem d_Mod_reserve_91 : decode prog_9_method_25_code 91 = .ok (.iconst 1, 1) := by decide +kernel
theorem d_Mod_reserve_92 : decode prog_9_method_25_code 92 = .ok (.ireturn, 1) := by decide +kernel
theorem d_Mod_permit_0 : decode prog_9_method_26_code 0 = .ok (.iload_n 1, 1) := by decide +kernel
theorem d_Mod_permit_1 : decode prog_9_method_26_code 1 = .ok (.invokestatic 105, 3) := by decide +kernel
theorem d_Mod_permit_4 : decode prog_9_method_26_code 4 = .ok (.ifCond .eq 20, 3) := by decide +kernel
theorem d_Mod_permit_7 : decode prog_9_method_26_code 7 = .ok (.iload_n 2, 1) := by decide +kernel
theorem d_Mod_permit_8 : decode prog_9_method_26_code 8 = .ok (.invokestatic 105, 3) := by decide +kernel
theorem d_Mod_permit_11 : decode prog_9_method_26_code 11 = .ok (.ifCond .eq 13, 3) := by decide +kernel
theorem d_Mod_permit_14 : decode prog_9_method_26_code 14 = .ok (.iload_n 3, 1) := by decide +kernel
theorem d_Mod_permit_15 : decode prog_9_method_26_code 15 = .ok (.ifCond .lt 9, 3) := by decide +kernel
theorem d_Mod_permit_18 : decode prog_9_method_26_code 18 = .ok (.iload_n 3, 1) := by decide +kernel
theorem d_Mod_permit_19 : decode prog_9_method_26_code 19 = .ok (.bipush 7, 2) := by decide +kernel
theorem d_Mod_permit_21 : decode prog_9_method_26_code 21 = .ok (.if_icmp .le 5, 3) := by decide +kernel
theorem d_Mod_permit_24 : decode prog_9_method_26_code 24 = .ok (.iconst 0, 1) := by decide +kernel
theorem d_Mod_permit_25 : decode prog_9_method_26_code 25 = .ok (.ireturn, 1) := by decide +kernel
theorem d_Mod_permit_26 : decode prog_9_method_26_code 26 = .ok (.aload_n 0, 1) := by decide +kernel
theorem d_Mod_permit_27 : decode prog_9_method_26_code 27 = .ok (.getfield 98, 3) := by decide +kernel
theorem d_Mod_permit_30 : decode prog_9_method_26_code 30 = .ok (.iconst 4, 1) := by decide +kernel
theorem d_Mod_permit_31 : decode prog_9_method_26_code 31 = .ok (.iload_n 1, 1) := by decide +kernel
theorem d_Mod_permit_32 : decode prog_9_method_26_code 32 = .ok (.imul, 1) := by decide +kernel
theorem d_Mod_permit_33 : decode prog_9_method_26_code 33 = .ok (.iload_n 2, 1) := by decide +kernel
theorem d_Mod_permit_34 : decode prog_9_method_26_code 34 = .ok (.iadd, 1) := by decide +kernel
theorem d_Mod_permit_35 : decode prog_9_method_26_code 35 = .ok (.iload_n 3, 1) := by decide +kernel
theorem d_Mod_permit_36 : decode prog_9_method_26_code 36 = .ok (.iastore, 1) := by decide +kernel
theorem d_Mod_permit_37 : decode prog_9_method_26_code 37 = .ok (.iconst 1, 1) := by decide +kernel
theorem d_Mod_permit_38 : decode prog_9_method_26_code 38 = .ok (.ireturn, 1) := by decide +kernel
theorem d_Mod_launch_0 : decode prog_9_method_27_code 0 = .ok (.iload_n 1, 1) := by decide +kernel
theorem d_Mod_launch_1 : decode prog_9_method_27_code 1 = .ok (.invokestatic 105, 3) := by decide +kernel
theorem d_Mod_launch_4 : decode prog_9_method_27_code 4 = .ok (.ifCond .eq 37, 3) := by decide +kernel
theorem d_Mod_launch_7 : decode prog_9_method_27_code 7 = .ok (.iload_n 2, 1) := by decide +kernel
theorem d_Mod_launch_8 : decode prog_9_method_27_code 8 = .ok (.invokestatic 105, 3) := by decide +kernel
theorem d_Mod_launch_11 : decode prog_9_method_27_code 11 = .ok (.ifCond .eq 30, 3) := by decide +kernel
theorem d_Mod_launch_14 : decode prog_9_method_27_code 14 = .ok (.aload_n 0, 1) := by decide +kernel
theorem d_Mod_launch_15 : decode prog_9_method_27_code 15 = .ok (.getfield 53, 3) := by decide +kernel
theorem d_Mod_launch_18 : decode prog_9_method_27_code 18 = .ok (.iload_n 1, 1) := by decide +kernel
theorem d_Mod_launch_19 : decode prog_9_method_27_code 19 = .ok (.iaload, 1) := by decide +kernel
theorem d_Mod_launch_20 : decode prog_9_method_27_code 20 = .ok (.ifCond .ne 21, 3) := by decide +kernel
theorem d_Mod_launch_23 : decode prog_9_method_27_code 23 = .ok (.aload_n 0, 1) := by decide +kernel
theorem d_Mod_launch_24 : decode prog_9_method_27_code 24 = .ok (.getfield 47, 3) := by decide +kernel
theorem d_Mod_launch_27 : decode prog_9_method_27_code 27 = .ok (.iload_n 1, 1) := by decide +kernel
theorem d_Mod_launch_28 : decode prog_9_method_27_code 28 = .ok (.iaload, 1) := by decide +kernel
theorem d_Mod_launch_29 : decode prog_9_method_27_code 29 = .ok (.ifCond .eq 12, 3) := by decide +kernel
theorem d_Mod_launch_32 : decode prog_9_method_27_code 32 = .ok (.aload_n 0, 1) := by decide +kernel
theorem d_Mod_launch_33 : decode prog_9_method_27_code 33 = .ok (.getfield 22, 3) := by decide +kernel
theorem d_Mod_launch_36 : decode prog_9_method_27_code 36 = .ok (.iload_n 2, 1) := by decide +kernel
theorem d_Mod_launch_37 : decode prog_9_method_27_code 37 = .ok (.baload, 1) := by decide +kernel
theorem d_Mod_launch_38 : decode prog_9_method_27_code 38 = .ok (.ifCond .ne 5, 3) := by decide +kernel
theorem d_Mod_launch_41 : decode prog_9_method_27_code 41 = .ok (.iconst 0, 1) := by decide +kernel
theorem d_Mod_launch_42 : decode prog_9_method_27_code 42 = .ok (.ireturn, 1) := by decide +kernel
theorem d_Mod_launch_43 : decode prog_9_method_27_code 43 = .ok (.aload_n 0, 1) := by decide +kernel
theorem d_Mod_launch_44 : decode prog_9_method_27_code 44 = .ok (.getfield 53, 3) := by decide +kernel
theorem d_Mod_launch_47 : decode prog_9_method_27_code 47 = .ok (.iload_n 1, 1) := by decide +kernel
theorem d_Mod_launch_48 : decode prog_9_method_27_code 48 = .ok (.iconst 1, 1) := by decide +kernel
theorem d_Mod_launch_49 : decode prog_9_method_27_code 49 = .ok (.iastore, 1) := by decide +kernel
theorem d_Mod_launch_50 : decode prog_9_method_27_code 50 = .ok (.aload_n 0, 1) := by decide +kernel
theorem d_Mod_launch_51 : decode prog_9_method_27_code 51 = .ok (.getfield 56, 3) := by decide +kernel
theorem d_Mod_launch_54 : decode prog_9_method_27_code 54 = .ok (.iload_n 1, 1) := by decide +kernel
theorem d_Mod_launch_55 : decode prog_9_method_27_code 55 = .ok (.iload_n 2, 1) := by decide +kernel
theorem d_Mod_launch_56 : decode prog_9_method_27_code 56 = .ok (.iastore, 1) := by decide +kernel
theorem d_Mod_launch_57 : decode prog_9_method_27_code 57 = .ok (.aload_n 0, 1) := by decide +kernel
theorem d_Mod_launch_58 : decode prog_9_method_27_code 58 = .ok (.getfield 59, 3) := by decide +kernel
theorem d_Mod_launch_61 : decode prog_9_method_27_code 61 = .ok (.iload_n 1, 1) := by decide +kernel
theorem d_Mod_launch_62 : decode prog_9_method_27_code 62 = .ok (.iconst 0, 1) := by decide +kernel
theorem d_Mod_launch_63 : decode prog_9_method_27_code 63 = .ok (.iastore, 1) := by decide +kernel
theorem d_Mod_launch_64 : decode prog_9_method_27_code 64 = .ok (.iconst 1, 1) := by decide +kernel
theorem d_Mod_launch_65 : decode prog_9_method_27_code 65 = .ok (.ireturn, 1) := by decide +kernel
theorem d_Mod_feed_0 : decode prog_9_method_28_code 0 = .ok (.iload_n 1, 1) := by decide +kernel
theorem d_Mod_feed_1 : decode prog_9_method_28_code 1 = .ok (.invokestatic 105, 3) := by decide +kernel
theorem d_Mod_feed_4 : decode prog_9_method_28_code 4 = .ok (.ifCond .eq 14, 3) := by decide +kernel
theorem d_Mod_feed_7 : decode prog_9_method_28_code 7 = .ok (.aload_n 0, 1) := by decide +kernel
theorem d_Mod_feed_8 : decode prog_9_method_28_code 8 = .ok (.getfield 89, 3) := by decide +kernel
theorem d_Mod_feed_11 : decode prog_9_method_28_code 11 = .ok (.iload_n 1, 1) := by decide +kernel
theorem d_Mod_feed_12 : decode prog_9_method_28_code 12 = .ok (.iaload, 1) := by decide +kernel
theorem d_Mod_feed_13 : decode prog_9_method_28_code 13 = .ok (.bipush 8, 2) := by decide +kernel
theorem d_Mod_feed_15 : decode prog_9_method_28_code 15 = .ok (.if_icmp .ne 5, 3) := by decide +kernel
theorem d_Mod_feed_18 : decode prog_9_method_28_code 18 = .ok (.iconst 0, 1) := by decide +kernel
theorem d_Mod_feed_19 : decode prog_9_method_28_code 19 = .ok (.ireturn, 1) := by decide +kernel
theorem d_Mod_feed_20 : decode prog_9_method_28_code 20 = .ok (.aload_n 0, 1) := by decide +kernel
theorem d_Mod_feed_21 : decode prog_9_method_28_code 21 = .ok (.getfield 86, 3) := by decide +kernel
theorem d_Mod_feed_24 : decode prog_9_method_28_code 24 = .ok (.bipush 8, 2) := by decide +kernel
theorem d_Mod_feed_26 : decode prog_9_method_28_code 26 = .ok (.iload_n 1, 1) := by decide +kernel
theorem d_Mod_feed_27 : decode prog_9_method_28_code 27 = .ok (.imul, 1) := by decide +kernel
theorem d_Mod_feed_28 : decode prog_9_method_28_code 28 = .ok (.aload_n 0, 1) := by decide +kernel
theorem d_Mod_feed_29 : decode prog_9_method_28_code 29 = .ok (.getfield 89, 3) := by decide +kernel
theorem d_Mod_feed_32 : decode prog_9_method_28_code 32 = .ok (.iload_n 1, 1) := by decide +kernel
theorem d_Mod_feed_33 : decode prog_9_method_28_code 33 = .ok (.iaload, 1) := by decide +kernel
theorem d_Mod_feed_34 : decode prog_9_method_28_code 34 = .ok (.iadd, 1) := by decide +kernel
theorem d_Mod_feed_35 : decode prog_9_method_28_code 35 = .ok (.iload_n 2, 1) := by decide +kernel
theorem d_Mod_feed_36 : decode prog_9_method_28_code 36 = .ok (.iastore, 1) := by decide +kernel
theorem d_Mod_feed_37 : decode prog_9_method_28_code 37 = .ok (.aload_n 0, 1) := by decide +kernel
theorem d_Mod_feed_38 : decode prog_9_method_28_code 38 = .ok (.getfield 89, 3) := by decide +kernel
theorem d_Mod_feed_41 : decode prog_9_method_28_code 41 = .ok (.iload_n 1, 1) := by decide +kernel
theorem d_Mod_feed_42 : decode prog_9_method_28_code 42 = .ok (.dup2, 1) := by decide +kernel
theorem d_Mod_feed_43 : decode prog_9_method_28_code 43 = .ok (.iaload, 1) := by decide +kernel
theorem d_Mod_feed_44 : decode prog_9_method_28_code 44 = .ok (.iconst 1, 1) := by decide +kernel
theorem d_Mod_feed_45 : decode prog_9_method_28_code 45 = .ok (.iadd, 1) := by decide +kernel
theorem d_Mod_feed_46 : decode prog_9_method_28_code 46 = .ok (.iastore, 1) := by decide +kernel
theorem d_Mod_feed_47 : decode prog_9_method_28_code 47 = .ok (.iconst 1, 1) := by decide +kernel
theorem d_Mod_feed_48 : decode prog_9_method_28_code 48 = .ok (.ireturn, 1) := by decide +kernel
theorem d_Mod_alive_0 : decode prog_9_method_29_code 0 = .ok (.aload_n 0, 1) := by decide +kernel
theorem d_Mod_alive_1 : decode prog_9_method_29_code 1 = .ok (.getfield 53, 3) := by decide +kernel
theorem d_Mod_alive_4 : decode prog_9_method_29_code 4 = .ok (.iload_n 1, 1) := by decide +kernel
theorem d_Mod_alive_5 : decode prog_9_method_29_code 5 = .ok (.iaload, 1) := by decide +kernel
theorem d_Mod_alive_6 : decode prog_9_method_29_code 6 = .ok (.iconst 1, 1) := by decide +kernel
theorem d_Mod_alive_7 : decode prog_9_method_29_code 7 = .ok (.if_icmp .eq 13, 3) := by decide +kernel
theorem d_Mod_alive_10 : decode prog_9_method_29_code 10 = .ok (.aload_n 0, 1) := by decide +kernel
theorem d_Mod_alive_11 : decode prog_9_method_29_code 11 = .ok (.getfield 53, 3) := by decide +kernel
theorem d_Mod_alive_14 : decode prog_9_method_29_code 14 = .ok (.iload_n 1, 1) := by decide +kernel
theorem d_Mod_alive_15 : decode prog_9_method_29_code 15 = .ok (.iaload, 1) := by decide +kernel
theorem d_Mod_alive_16 : decode prog_9_method_29_code 16 = .ok (.iconst 2, 1) := by decide +kernel
theorem d_Mod_alive_17 : decode prog_9_method_29_code 17 = .ok (.if_icmp .ne 7, 3) := by decide +kernel
theorem d_Mod_alive_20 : decode prog_9_method_29_code 20 = .ok (.iconst 1, 1) := by decide +kernel
theorem d_Mod_alive_21 : decode prog_9_method_29_code 21 = .ok (.goto 4, 3) := by decide +kernel
theorem d_Mod_alive_24 : decode prog_9_method_29_code 24 = .ok (.iconst 0, 1) := by decide +kernel
theorem d_Mod_alive_25 : decode prog_9_method_29_code 25 = .ok (.ireturn, 1) := by decide +kernel
theorem d_Mod_end_0 : decode prog_9_method_30_code 0 = .ok (.aload_n 0, 1) := by decide +kernel
theorem d_Mod_end_1 : decode prog_9_method_30_code 1 = .ok (.getfield 53, 3) := by decide +kernel
theorem d_Mod_end_4 : decode prog_9_method_30_code 4 = .ok (.iload_n 1, 1) := by decide +kernel
theorem d_Mod_end_5 : decode prog_9_method_30_code 5 = .ok (.iload_n 2, 1) := by decide +kernel
theorem d_Mod_end_6 : decode prog_9_method_30_code 6 = .ok (.iastore, 1) := by decide +kernel
theorem d_Mod_end_7 : decode prog_9_method_30_code 7 = .ok (.aload_n 0, 1) := by decide +kernel
theorem d_Mod_end_8 : decode prog_9_method_30_code 8 = .ok (.getfield 68, 3) := by decide +kernel
theorem d_Mod_end_11 : decode prog_9_method_30_code 11 = .ok (.iload_n 1, 1) := by decide +kernel
theorem d_Mod_end_12 : decode prog_9_method_30_code 12 = .ok (.aload_n 0, 1) := by decide +kernel
theorem d_Mod_end_13 : decode prog_9_method_30_code 13 = .ok (.getfield 161, 3) := by decide +kernel
theorem d_Mod_end_16 : decode prog_9_method_30_code 16 = .ok (.iastore, 1) := by decide +kernel
theorem d_Mod_end_17 : decode prog_9_method_30_code 17 = .ok (.aload_n 0, 1) := by decide +kernel
theorem d_Mod_end_18 : decode prog_9_method_30_code 18 = .ok (.getfield 71, 3) := by decide +kernel
theorem d_Mod_end_21 : decode prog_9_method_30_code 21 = .ok (.iload_n 1, 1) := by decide +kernel
theorem d_Mod_end_22 : decode prog_9_method_30_code 22 = .ok (.iconst 0, 1) := by decide +kernel
theorem d_Mod_end_23 : decode prog_9_method_30_code 23 = .ok (.iastore, 1) := by decide +kernel
theorem d_Mod_end_24 : decode prog_9_method_30_code 24 = .ok (.aload_n 0, 1) := by decide +kernel
theorem d_Mod_end_25 : decode prog_9_method_30_code 25 = .ok (.getfield 83, 3) := by decide +kernel
theorem d_Mod_end_28 : decode prog_9_method_30_code 28 = .ok (.iload_n 1, 1) := by decide +kernel
theorem d_Mod_end_29 : decode prog_9_method_30_code 29 = .ok (.iconst 0, 1) := by decide +kernel
theorem d_Mod_end_30 : decode prog_9_method_30_code 30 = .ok (.iastore, 1) := by decide +kernel
theorem d_Mod_end_31 : decode prog_9_method_30_code 31 = .ok (.iconst 0, 1) := by decide +kernel
theorem d_Mod_end_32 : decode prog_9_method_30_code 32 = .ok (.istore_n 3, 1) := by decide +kernel
theorem d_Mod_end_33 : decode prog_9_method_30_code 33 = .ok (.iload_n 3, 1) := by decide +kernel
theorem d_Mod_end_34 : decode prog_9_method_30_code 34 = .ok (.iconst 4, 1) := by decide +kernel
theorem d_Mod_end_35 : decode prog_9_method_30_code 35 = .ok (.if_icmp .ge 29, 3) := by decide +kernel
theorem d_Mod_end_38 : decode prog_9_method_30_code 38 = .ok (.aload_n 0, 1) := by decide +kernel
theorem d_Mod_end_39 : decode prog_9_method_30_code 39 = .ok (.getfield 77, 3) := by decide +kernel
