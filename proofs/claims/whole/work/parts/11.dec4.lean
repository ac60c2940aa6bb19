theorem d_Mod_send_120 : decode prog_9_method_35_code 120 = .ok (.invokevirtual 170, 3) := by decide +kernel
theorem d_Mod_send_123 : decode prog_9_method_35_code 123 = .ok (.iconst 0, 1) := by decide +kernel
theorem d_Mod_send_124 : decode prog_9_method_35_code 124 = .ok (.ireturn, 1) := by decide +kernel
theorem d_Mod_shiftInput_0 : decode prog_9_method_39_code 0 = .ok (.bipush 8, 2) := by decide +kernel
theorem d_Mod_shiftInput_2 : decode prog_9_method_39_code 2 = .ok (.iload_n 1, 1) := by decide +kernel
theorem d_Mod_shiftInput_3 : decode prog_9_method_39_code 3 = .ok (.imul, 1) := by decide +kernel
theorem d_Mod_shiftInput_4 : decode prog_9_method_39_code 4 = .ok (.istore_n 2, 1) := by decide +kernel
theorem d_Mod_shiftInput_5 : decode prog_9_method_39_code 5 = .ok (.iload_n 2, 1) := by decide +kernel
theorem d_Mod_shiftInput_6 : decode prog_9_method_39_code 6 = .ok (.bipush 8, 2) := by decide +kernel
theorem d_Mod_shiftInput_8 : decode prog_9_method_39_code 8 = .ok (.iload_n 1, 1) := by decide +kernel
theorem d_Mod_shiftInput_9 : decode prog_9_method_39_code 9 = .ok (.imul, 1) := by decide +kernel
theorem d_Mod_shiftInput_10 : decode prog_9_method_39_code 10 = .ok (.bipush 7, 2) := by decide +kernel
theorem d_Mod_shiftInput_12 : decode prog_9_method_39_code 12 = .ok (.iadd, 1) := by decide +kernel
theorem d_Mod_shiftInput_13 : decode prog_9_method_39_code 13 = .ok (.if_icmp .ge 23, 3) := by decide +kernel
theorem d_Mod_shiftInput_16 : decode prog_9_method_39_code 16 = .ok (.aload_n 0, 1) := by decide +kernel
theorem d_Mod_shiftInput_17 : decode prog_9_method_39_code 17 = .ok (.getfield 86, 3) := by decide +kernel
theorem d_Mod_shiftInput_20 : decode prog_9_method_39_code 20 = .ok (.iload_n 2, 1) := by decide +kernel
theorem d_Mod_shiftInput_21 : decode prog_9_method_39_code 21 = .ok (.aload_n 0, 1) := by decide +kernel
theorem d_Mod_shiftInput_22 : decode prog_9_method_39_code 22 = .ok (.getfield 86, 3) := by decide +kernel
theorem d_Mod_shiftInput_25 : decode prog_9_method_39_code 25 = .ok (.iload_n 2, 1) := by decide +kernel
theorem d_Mod_shiftInput_26 : decode prog_9_method_39_code 26 = .ok (.iconst 1, 1) := by decide +kernel
theorem d_Mod_shiftInput_27 : decode prog_9_method_39_code 27 = .ok (.iadd, 1) := by decide +kernel
theorem d_Mod_shiftInput_28 : decode prog_9_method_39_code 28 = .ok (.iaload, 1) := by decide +kernel
theorem d_Mod_shiftInput_29 : decode prog_9_method_39_code 29 = .ok (.iastore, 1) := by decide +kernel
theorem d_Mod_shiftInput_30 : decode prog_9_method_39_code 30 = .ok (.iinc 2 1, 3) := by decide +kernel
theorem d_Mod_shiftInput_33 : decode prog_9_method_39_code 33 = .ok (.goto (-28), 3) := by decide +kernel
theorem d_Mod_shiftInput_36 : decode prog_9_method_39_code 36 = .ok (.aload_n 0, 1) := by decide +kernel
theorem d_Mod_shiftInput_37 : decode prog_9_method_39_code 37 = .ok (.getfield 89, 3) := by decide +kernel
theorem d_Mod_shiftInput_40 : decode prog_9_method_39_code 40 = .ok (.iload_n 1, 1) := by decide +kernel
theorem d_Mod_shiftInput_41 : decode prog_9_method_39_code 41 = .ok (.dup2, 1) := by decide +kernel
theorem d_Mod_shiftInput_42 : decode prog_9_method_39_code 42 = .ok (.iaload, 1) := by decide +kernel
theorem d_Mod_shiftInput_43 : decode prog_9_method_39_code 43 = .ok (.iconst 1, 1) := by decide +kernel
theorem d_Mod_shiftInput_44 : decode prog_9_method_39_code 44 = .ok (.isub, 1) := by decide +kernel
theorem d_Mod_shiftInput_45 : decode prog_9_method_39_code 45 = .ok (.iastore, 1) := by decide +kernel
theorem d_Mod_shiftInput_46 : decode prog_9_method_39_code 46 = .ok (.return_, 1) := by decide +kernel
theorem d_Mod_shiftMail_0 : decode prog_9_method_38_code 0 = .ok (.iconst 4, 1) := by decide +kernel
theorem d_Mod_shiftMail_1 : decode prog_9_method_38_code 1 = .ok (.iload_n 1, 1) := by decide +kernel
theorem d_Mod_shiftMail_2 : decode prog_9_method_38_code 2 = .ok (.imul, 1) := by decide +kernel
theorem d_Mod_shiftMail_3 : decode prog_9_method_38_code 3 = .ok (.istore_n 2, 1) := by decide +kernel
theorem d_Mod_shiftMail_4 : decode prog_9_method_38_code 4 = .ok (.iload_n 2, 1) := by decide +kernel
theorem d_Mod_shiftMail_5 : decode prog_9_method_38_code 5 = .ok (.iconst 4, 1) := by decide +kernel
theorem d_Mod_shiftMail_6 : decode prog_9_method_38_code 6 = .ok (.iload_n 1, 1) := by decide +kernel
theorem d_Mod_shiftMail_7 : decode prog_9_method_38_code 7 = .ok (.imul, 1) := by decide +kernel
theorem d_Mod_shiftMail_8 : decode prog_9_method_38_code 8 = .ok (.iconst 3, 1) := by decide +kernel
theorem d_Mod_shiftMail_9 : decode prog_9_method_38_code 9 = .ok (.iadd, 1) := by decide +kernel
theorem d_Mod_shiftMail_10 : decode prog_9_method_38_code 10 = .ok (.if_icmp .ge 23, 3) := by decide +kernel
theorem d_Mod_shiftMail_13 : decode prog_9_method_38_code 13 = .ok (.aload_n 0, 1) := by decide +kernel
theorem d_Mod_shiftMail_14 : decode prog_9_method_38_code 14 = .ok (.getfield 80, 3) := by decide +kernel
theorem d_Mod_shiftMail_17 : decode prog_9_method_38_code 17 = .ok (.iload_n 2, 1) := by decide +kernel
theorem d_Mod_shiftMail_18 : decode prog_9_method_38_code 18 = .ok (.aload_n 0, 1) := by decide +kernel
theorem d_Mod_shiftMail_19 : decode prog_9_method_38_code 19 = .ok (.getfield 80, 3) := by decide +kernel
theorem d_Mod_shiftMail_22 : decode prog_9_method_38_code 22 = .ok (.iload_n 2, 1) := by decide +kernel
theorem d_Mod_shiftMail_23 : decode prog_9_method_38_code 23 = .ok (.iconst 1, 1) := by decide +kernel
theorem d_Mod_shiftMail_24 : decode prog_9_method_38_code 24 = .ok (.iadd, 1) := by decide +kernel
theorem d_Mod_shiftMail_25 : decode prog_9_method_38_code 25 = .ok (.iaload, 1) := by decide +kernel
theorem d_Mod_shiftMail_26 : decode prog_9_method_38_code 26 = .ok (.iastore, 1) := by decide +kernel
theorem d_Mod_shiftMail_27 : decode prog_9_method_38_code 27 = .ok (.iinc 2 1, 3) := by decide +kernel
theorem d_Mod_shiftMail_30 : decode prog_9_method_38_code 30 = .ok (.goto (-26), 3) := by decide +kernel
theorem d_Mod_shiftMail_33 : decode prog_9_method_38_code 33 = .ok (.aload_n 0, 1) := by decide +kernel
theorem d_Mod_shiftMail_34 : decode prog_9_method_38_code 34 = .ok (.getfield 83, 3) := by decide +kernel
theorem d_Mod_shiftMail_37 : decode prog_9_method_38_code 37 = .ok (.iload_n 1, 1) := by decide +kernel
theorem d_Mod_shiftMail_38 : decode prog_9_method_38_code 38 = .ok (.dup2, 1) := by decide +kernel
theorem d_Mod_shiftMail_39 : decode prog_9_method_38_code 39 = .ok (.iaload, 1) := by decide +kernel
theorem d_Mod_shiftMail_40 : decode prog_9_method_38_code 40 = .ok (.iconst 1, 1) := by decide +kernel
theorem d_Mod_shiftMail_41 : decode prog_9_method_38_code 41 = .ok (.isub, 1) := by decide +kernel
theorem d_Mod_shiftMail_42 : decode prog_9_method_38_code 42 = .ok (.iastore, 1) := by decide +kernel
theorem d_Mod_shiftMail_43 : decode prog_9_method_38_code 43 = .ok (.return_, 1) := by decide +kernel
theorem d_Mod_start_0 : decode prog_9_method_36_code 0 = .ok (.aload_n 0, 1) := by decide +kernel
theorem d_Mod_start_1 : decode prog_9_method_36_code 1 = .ok (.getfield 98, 3) := by decide +kernel
theorem d_Mod_start_4 : decode prog_9_method_36_code 4 = .ok (.iconst 4, 1) := by decide +kernel
theorem d_Mod_start_5 : decode prog_9_method_36_code 5 = .ok (.iload_n 1, 1) := by decide +kernel
theorem d_Mod_start_6 : decode prog_9_method_36_code 6 = .ok (.imul, 1) := by decide +kernel
theorem d_Mod_start_7 : decode prog_9_method_36_code 7 = .ok (.iload_n 2, 1) := by decide +kernel
theorem d_Mod_start_8 : decode prog_9_method_36_code 8 = .ok (.iadd, 1) := by decide +kernel
theorem d_Mod_start_9 : decode prog_9_method_36_code 9 = .ok (.iaload, 1) := by decide +kernel
theorem d_Mod_start_10 : decode prog_9_method_36_code 10 = .ok (.iconst 2, 1) := by decide +kernel
theorem d_Mod_start_11 : decode prog_9_method_36_code 11 = .ok (.idiv, 1) := by decide +kernel
theorem d_Mod_start_12 : decode prog_9_method_36_code 12 = .ok (.iconst 2, 1) := by decide +kernel
theorem d_Mod_start_13 : decode prog_9_method_36_code 13 = .ok (.irem, 1) := by decide +kernel
theorem d_Mod_start_14 : decode prog_9_method_36_code 14 = .ok (.ifCond .ne 6, 3) := by decide +kernel
theorem d_Mod_start_17 : decode prog_9_method_36_code 17 = .ok (.bipush 10, 2) := by decide +kernel
theorem d_Mod_start_19 : decode prog_9_method_36_code 19 = .ok (.ireturn, 1) := by decide +kernel
theorem d_Mod_start_20 : decode prog_9_method_36_code 20 = .ok (.aload_n 0, 1) := by decide +kernel
theorem d_Mod_start_21 : decode prog_9_method_36_code 21 = .ok (.iload_n 1, 1) := by decide +kernel
theorem d_Mod_start_22 : decode prog_9_method_36_code 22 = .ok (.iconst 0, 1) := by decide +kernel
theorem d_Mod_start_23 : decode prog_9_method_36_code 23 = .ok (.invokevirtual 167, 3) := by decide +kernel
theorem d_Mod_start_26 : decode prog_9_method_36_code 26 = .ok (.istore_n 3, 1) := by decide +kernel
theorem d_Mod_start_27 : decode prog_9_method_36_code 27 = .ok (.aload_n 0, 1) := by decide +kernel
theorem d_Mod_start_28 : decode prog_9_method_36_code 28 = .ok (.iload_n 2, 1) := by decide +kernel
theorem d_Mod_start_29 : decode prog_9_method_36_code 29 = .ok (.iload_n 3, 1) := by decide +kernel
theorem d_Mod_start_30 : decode prog_9_method_36_code 30 = .ok (.invokevirtual 183, 3) := by decide +kernel
theorem d_Mod_start_33 : decode prog_9_method_36_code 33 = .ok (.istore 4, 2) := by decide +kernel
theorem d_Mod_start_35 : decode prog_9_method_36_code 35 = .ok (.aload_n 0, 1) := by decide +kernel
theorem d_Mod_start_36 : decode prog_9_method_36_code 36 = .ok (.iload_n 1, 1) := by decide +kernel
theorem d_Mod_start_37 : decode prog_9_method_36_code 37 = .ok (.iconst 1, 1) := by decide +kernel
theorem d_Mod_start_38 : decode prog_9_method_36_code 38 = .ok (.iload 4, 2) := by decide +kernel
theorem d_Mod_start_40 : decode prog_9_method_36_code 40 = .ok (.ifCond .eq 7, 3) := by decide +kernel
theorem d_Mod_start_43 : decode prog_9_method_36_code 43 = .ok (.iconst 1, 1) := by decide +kernel
theorem d_Mod_start_44 : decode prog_9_method_36_code 44 = .ok (.goto 4, 3) := by decide +kernel
theorem d_Mod_start_47 : decode prog_9_method_36_code 47 = .ok (.iconst 0, 1) := by decide +kernel
theorem d_Mod_start_48 : decode prog_9_method_36_code 48 = .ok (.invokevirtual 170, 3) := by decide +kernel
theorem d_Mod_start_51 : decode prog_9_method_36_code 51 = .ok (.iconst 0, 1) := by decide +kernel
theorem d_Mod_start_52 : decode prog_9_method_36_code 52 = .ok (.ireturn, 1) := by decide +kernel
theorem d_Mod_stop_0 : decode prog_9_method_37_code 0 = .ok (.aload_n 0, 1) := by decide +kernel
theorem d_Mod_stop_1 : decode prog_9_method_37_code 1 = .ok (.getfield 98, 3) := by decide +kernel
theorem d_Mod_stop_4 : decode prog_9_method_37_code 4 = .ok (.iconst 4, 1) := by decide +kernel
theorem d_Mod_stop_5 : decode prog_9_method_37_code 5 = .ok (.iload_n 1, 1) := by decide +kernel
theorem d_Mod_stop_6 : decode prog_9_method_37_code 6 = .ok (.imul, 1) := by decide +kernel
theorem d_Mod_stop_7 : decode prog_9_method_37_code 7 = .ok (.iload_n 2, 1) := by decide +kernel
theorem d_Mod_stop_8 : decode prog_9_method_37_code 8 = .ok (.iadd, 1) := by decide +kernel
theorem d_Mod_stop_9 : decode prog_9_method_37_code 9 = .ok (.iaload, 1) := by decide +kernel
theorem d_Mod_stop_10 : decode prog_9_method_37_code 10 = .ok (.iconst 4, 1) := by decide +kernel
theorem d_Mod_stop_11 : decode prog_9_method_37_code 11 = .ok (.if_icmp .ge 6, 3) := by decide +kernel
theorem d_Mod_stop_14 : decode prog_9_method_37_code 14 = .ok (.bipush 10, 2) := by decide +kernel
theorem d_Mod_stop_16 : decode prog_9_method_37_code 16 = .ok (.ireturn, 1) := by decide +kernel
theorem d_Mod_stop_17 : decode prog_9_method_37_code 17 = .ok (.aload_n 0, 1) := by decide +kernel
theorem d_Mod_stop_18 : decode prog_9_method_37_code 18 = .ok (.iload_n 2, 1) := by decide +kernel
theorem d_Mod_stop_19 : decode prog_9_method_37_code 19 = .ok (.invokevirtual 174, 3) := by decide +kernel
theorem d_Mod_stop_22 : decode prog_9_method_37_code 22 = .ok (.istore_n 3, 1) := by decide +kernel
theorem d_Mod_stop_23 : decode prog_9_method_37_code 23 = .ok (.iload_n 3, 1) := by decide +kernel
theorem d_Mod_stop_24 : decode prog_9_method_37_code 24 = .ok (.ifCond .eq 9, 3) := by decide +kernel
theorem d_Mod_stop_27 : decode prog_9_method_37_code 27 = .ok (.aload_n 0, 1) := by decide +kernel
theorem d_Mod_stop_28 : decode prog_9_method_37_code 28 = .ok (.iload_n 2, 1) := by decide +kernel
theorem d_Mod_stop_29 : decode prog_9_method_37_code 29 = .ok (.iconst 4, 1) := by decide +kernel
theorem d_Mod_stop_30 : decode prog_9_method_37_code 30 = .ok (.invokevirtual 186, 3) := by decide +kernel
theorem d_Mod_stop_33 : decode prog_9_method_37_code 33 = .ok (.aload_n 0, 1) := by decide +kernel
theorem d_Mod_stop_34 : decode prog_9_method_37_code 34 = .ok (.iload_n 1, 1) := by decide +kernel
theorem d_Mod_stop_35 : decode prog_9_method_37_code 35 = .ok (.invokevirtual 174, 3) := by decide +kernel
theorem d_Mod_stop_38 : decode prog_9_method_37_code 38 = .ok (.ifCond .eq 18, 3) := by decide +kernel
theorem d_Mod_stop_41 : decode prog_9_method_37_code 41 = .ok (.aload_n 0, 1) := by decide +kernel
theorem d_Mod_stop_42 : decode prog_9_method_37_code 42 = .ok (.iload_n 1, 1) := by decide +kernel
theorem d_Mod_stop_43 : decode prog_9_method_37_code 43 = .ok (.iconst 0, 1) := by decide +kernel
theorem d_Mod_stop_44 : decode prog_9_method_37_code 44 = .ok (.iload_n 3, 1) := by decide +kernel
theorem d_Mod_stop_45 : decode prog_9_method_37_code 45 = .ok (.ifCond .eq 7, 3) := by decide +kernel
theorem d_Mod_stop_48 : decode prog_9_method_37_code 48 = .ok (.iconst 1, 1) := by decide +kernel
theorem d_Mod_stop_49 : decode prog_9_method_37_code 49 = .ok (.goto 4, 3) := by decide +kernel
theorem d_Mod_stop_52 : decode prog_9_method_37_code 52 = .ok (.iconst 0, 1) := by decide +kernel
theorem d_Mod_stop_53 : decode prog_9_method_37_code 53 = .ok (.invokevirtual 170, 3) := by decide +kernel
theorem d_Mod_stop_56 : decode prog_9_method_37_code 56 = .ok (.iconst 0, 1) := by decide +kernel
theorem d_Mod_stop_57 : decode prog_9_method_37_code 57 = .ok (.ireturn, 1) := by decide +kernel
theorem d_Mod_traffic_0 : decode prog_9_method_40_code 0 = .ok (.iload_n 2, 1) := by decide +kernel
theorem d_Mod_traffic_1 : decode prog_9_method_40_code 1 = .ok (.bipush 21, 2) := by decide +kernel
theorem d_Mod_traffic_3 : decode prog_9_method_40_code 3 = .ok (.if_icmp .ne 10, 3) := by decide +kernel
theorem d_Mod_traffic_6 : decode prog_9_method_40_code 6 = .ok (.aload_n 0, 1) := by decide +kernel
theorem d_Mod_traffic_7 : decode prog_9_method_40_code 7 = .ok (.iload_n 1, 1) := by decide +kernel
theorem d_Mod_traffic_8 : decode prog_9_method_40_code 8 = .ok (.iload_n 3, 1) := by decide +kernel
theorem d_Mod_traffic_9 : decode prog_9_method_40_code 9 = .ok (.invokevirtual 190, 3) := by decide +kernel
theorem d_Mod_traffic_12 : decode prog_9_method_40_code 12 = .ok (.ireturn, 1) := by decide +kernel
theorem d_Mod_traffic_13 : decode prog_9_method_40_code 13 = .ok (.iload_n 2, 1) := by decide +kernel
theorem d_Mod_traffic_14 : decode prog_9_method_40_code 14 = .ok (.bipush 23, 2) := by decide +kernel
theorem d_Mod_traffic_16 : decode prog_9_method_40_code 16 = .ok (.if_icmp .ne 10, 3) := by decide +kernel
theorem d_Mod_traffic_19 : decode prog_9_method_40_code 19 = .ok (.aload_n 0, 1) := by decide +kernel
theorem d_Mod_traffic_20 : decode prog_9_method_40_code 20 = .ok (.iload_n 1, 1) := by decide +kernel
theorem d_Mod_traffic_21 : decode prog_9_method_40_code 21 = .ok (.iload_n 3, 1) := by decide +kernel
theorem d_Mod_traffic_22 : decode prog_9_method_40_code 22 = .ok (.invokevirtual 193, 3) := by decide +kernel
theorem d_Mod_traffic_25 : decode prog_9_method_40_code 25 = .ok (.ireturn, 1) := by decide +kernel
theorem d_Mod_traffic_26 : decode prog_9_method_40_code 26 = .ok (.iload_n 2, 1) := by decide +kernel
theorem d_Mod_traffic_27 : decode prog_9_method_40_code 27 = .ok (.bipush 24, 2) := by decide +kernel
theorem d_Mod_traffic_29 : decode prog_9_method_40_code 29 = .ok (.if_icmp .ne 10, 3) := by decide +kernel
theorem d_Mod_traffic_32 : decode prog_9_method_40_code 32 = .ok (.aload_n 0, 1) := by decide +kernel
theorem d_Mod_traffic_33 : decode prog_9_method_40_code 33 = .ok (.iload_n 1, 1) := by decide +kernel
theorem d_Mod_traffic_34 : decode prog_9_method_40_code 34 = .ok (.iload_n 3, 1) := by decide +kernel
theorem d_Mod_traffic_35 : decode prog_9_method_40_code 35 = .ok (.invokevirtual 196, 3) := by decide +kernel
theorem d_Mod_traffic_38 : decode prog_9_method_40_code 38 = .ok (.ireturn, 1) := by decide +kernel
theorem d_Mod_traffic_39 : decode prog_9_method_40_code 39 = .ok (.iload_n 2, 1) := by decide +kernel
theorem d_Mod_traffic_40 : decode prog_9_method_40_code 40 = .ok (.bipush 22, 2) := by decide +kernel
theorem d_Mod_traffic_42 : decode prog_9_method_40_code 42 = .ok (.if_icmp .ne 25, 3) := by decide +kernel
theorem d_Mod_traffic_45 : decode prog_9_method_40_code 45 = .ok (.aload_n 0, 1) := by decide +kernel
theorem d_Mod_traffic_46 : decode prog_9_method_40_code 46 = .ok (.iload_n 1, 1) := by decide +kernel
theorem d_Mod_traffic_47 : decode prog_9_method_40_code 47 = .ok (.iconst 0, 1) := by decide +kernel
theorem d_Mod_traffic_48 : decode prog_9_method_40_code 48 = .ok (.aload_n 0, 1) := by decide +kernel
theorem d_Mod_traffic_49 : decode prog_9_method_40_code 49 = .ok (.getfield 80, 3) := by decide +kernel
theorem d_Mod_traffic_52 : decode prog_9_method_40_code 52 = .ok (.iconst 4, 1) := by decide +kernel
theorem d_Mod_traffic_53 : decode prog_9_method_40_code 53 = .ok (.iload_n 1, 1) := by decide +kernel
theorem d_Mod_traffic_54 : decode prog_9_method_40_code 54 = .ok (.imul, 1) := by decide +kernel
theorem d_Mod_traffic_55 : decode prog_9_method_40_code 55 = .ok (.iaload, 1) := by decide +kernel
theorem d_Mod_traffic_56 : decode prog_9_method_40_code 56 = .ok (.invokevirtual 170, 3) := by decide +kernel
theorem d_Mod_traffic_59 : decode prog_9_method_40_code 59 = .ok (.aload_n 0, 1) := by decide +kernel
theorem d_Mod_traffic_60 : decode prog_9_method_40_code 60 = .ok (.iload_n 1, 1) := by decide +kernel
theorem d_Mod_traffic_61 : decode prog_9_method_40_code 61 = .ok (.invokevirtual 199, 3) := by decide +kernel
theorem d_Mod_traffic_64 : decode prog_9_method_40_code 64 = .ok (.goto 110, 3) := by decide +kernel
theorem d_Mod_traffic_67 : decode prog_9_method_40_code 67 = .ok (.iload_n 2, 1) := by decide +kernel
theorem d_Mod_traffic_68 : decode prog_9_method_40_code 68 = .ok (.bipush 20, 2) := by decide +kernel
theorem d_Mod_traffic_70 : decode prog_9_method_40_code 70 = .ok (.if_icmp .ne 48, 3) := by decide +kernel
theorem d_Mod_traffic_73 : decode prog_9_method_40_code 73 = .ok (.aload_n 0, 1) := by decide +kernel
theorem d_Mod_traffic_74 : decode prog_9_method_40_code 74 = .ok (.iload_n 1, 1) := by decide +kernel
theorem d_Mod_traffic_75 : decode prog_9_method_40_code 75 = .ok (.iconst 0, 1) := by decide +kernel
theorem d_Mod_traffic_76 : decode prog_9_method_40_code 76 = .ok (.aload_n 0, 1) := by decide +kernel
theorem d_Mod_traffic_77 : decode prog_9_method_40_code 77 = .ok (.getfield 89, 3) := by decide +kernel
theorem d_Mod_traffic_80 : decode prog_9_method_40_code 80 = .ok (.iload_n 1, 1) := by decide +kernel
theorem d_Mod_traffic_81 : decode prog_9_method_40_code 81 = .ok (.iaload, 1) := by decide +kernel
theorem d_Mod_traffic_82 : decode prog_9_method_40_code 82 = .ok (.ifCond .le 15, 3) := by decide +kernel
theorem d_Mod_traffic_85 : decode prog_9_method_40_code 85 = .ok (.aload_n 0, 1) := by decide +kernel
theorem d_Mod_traffic_86 : decode prog_9_method_40_code 86 = .ok (.getfield 86, 3) := by decide +kernel
theorem d_Mod_traffic_89 : decode prog_9_method_40_code 89 = .ok (.bipush 8, 2) := by decide +kernel
theorem d_Mod_traffic_91 : decode prog_9_method_40_code 91 = .ok (.iload_n 1, 1) := by decide +kernel
theorem d_Mod_traffic_92 : decode prog_9_method_40_code 92 = .ok (.imul, 1) := by decide +kernel
theorem d_Mod_traffic_93 : decode prog_9_method_40_code 93 = .ok (.iaload, 1) := by decide +kernel
theorem d_Mod_traffic_94 : decode prog_9_method_40_code 94 = .ok (.goto 4, 3) := by decide +kernel
theorem d_Mod_traffic_97 : decode prog_9_method_40_code 97 = .ok (.iconst 0, 1) := by decide +kernel
theorem d_Mod_traffic_98 : decode prog_9_method_40_code 98 = .ok (.invokevirtual 170, 3) := by decide +kernel
theorem d_Mod_traffic_101 : decode prog_9_method_40_code 101 = .ok (.aload_n 0, 1) := by decide +kernel
theorem d_Mod_traffic_102 : decode prog_9_method_40_code 102 = .ok (.getfield 89, 3) := by decide +kernel
theorem d_Mod_traffic_105 : decode prog_9_method_40_code 105 = .ok (.iload_n 1, 1) := by decide +kernel
theorem d_Mod_traffic_106 : decode prog_9_method_40_code 106 = .ok (.iaload, 1) := by decide +kernel
theorem d_Mod_traffic_107 : decode prog_9_method_40_code 107 = .ok (.ifCond .le 67, 3) := by decide +kernel
theorem d_Mod_traffic_110 : decode prog_9_method_40_code 110 = .ok (.aload_n 0, 1) := by decide +kernel
theorem d_Mod_traffic_111 : decode prog_9_method_40_code 111 = .ok (.iload_n 1, 1) := by decide +kernel
theorem d_Mod_traffic_112 : decode prog_9_method_40_code 112 = .ok (.invokevirtual 202, 3) := by decide +kernel
theorem d_Mod_traffic_115 : decode prog_9_method_40_code 115 = .ok (.goto 59, 3) := by decide +kernel
theorem d_Mod_traffic_118 : decode prog_9_method_40_code 118 = .ok (.aload_n 0, 1) := by decide +kernel
theorem d_Mod_traffic_119 : decode prog_9_method_40_code 119 = .ok (.getfield 95, 3) := by decide +kernel
theorem d_Mod_traffic_122 : decode prog_9_method_40_code 122 = .ok (.iload_n 1, 1) := by decide +kernel
theorem d_Mod_traffic_123 : decode prog_9_method_40_code 123 = .ok (.iaload, 1) := by decide +kernel
theorem d_Mod_traffic_124 : decode prog_9_method_40_code 124 = .ok (.bipush 16, 2) := by decide +kernel
theorem d_Mod_traffic_126 : decode prog_9_method_40_code 126 = .ok (.if_icmp .ne 6, 3) := by decide +kernel
theorem d_Mod_traffic_129 : decode prog_9_method_40_code 129 = .ok (.bipush 11, 2) := by decide +kernel
theorem d_Mod_traffic_131 : decode prog_9_method_40_code 131 = .ok (.ireturn, 1) := by decide +kernel
theorem d_Mod_traffic_132 : decode prog_9_method_40_code 132 = .ok (.aload_n 0, 1) := by decide +kernel
theorem d_Mod_traffic_133 : decode prog_9_method_40_code 133 = .ok (.getfield 92, 3) := by decide +kernel
theorem d_Mod_traffic_136 : decode prog_9_method_40_code 136 = .ok (.bipush 16, 2) := by decide +kernel
theorem d_Mod_traffic_138 : decode prog_9_method_40_code 138 = .ok (.iload_n 1, 1) := by decide +kernel
theorem d_Mod_traffic_139 : decode prog_9_method_40_code 139 = .ok (.imul, 1) := by decide +kernel
theorem d_Mod_traffic_140 : decode prog_9_method_40_code 140 = .ok (.aload_n 0, 1) := by decide +kernel
theorem d_Mod_traffic_141 : decode prog_9_method_40_code 141 = .ok (.getfield 95, 3) := by decide +kernel
theorem d_Mod_traffic_144 : decode prog_9_method_40_code 144 = .ok (.iload_n 1, 1) := by decide +kernel
theorem d_Mod_traffic_145 : decode prog_9_method_40_code 145 = .ok (.iaload, 1) := by decide +kernel
theorem d_Mod_traffic_146 : decode prog_9_method_40_code 146 = .ok (.iadd, 1) := by decide +kernel
theorem d_Mod_traffic_147 : decode prog_9_method_40_code 147 = .ok (.aload_n 0, 1) := by decide +kernel
theorem d_Mod_traffic_148 : decode prog_9_method_40_code 148 = .ok (.iload_n 1, 1) := by decide +kernel
theorem d_Mod_traffic_149 : decode prog_9_method_40_code 149 = .ok (.iconst 0, 1) := by decide +kernel
theorem d_Mod_traffic_150 : decode prog_9_method_40_code 150 = .ok (.invokevirtual 167, 3) := by decide +kernel
theorem d_Mod_traffic_153 : decode prog_9_method_40_code 153 = .ok (.iastore, 1) := by decide +kernel
theorem d_Mod_traffic_154 : decode prog_9_method_40_code 154 = .ok (.aload_n 0, 1) := by decide +kernel
theorem d_Mod_traffic_155 : decode prog_9_method_40_code 155 = .ok (.getfield 95, 3) := by decide +kernel
theorem d_Mod_traffic_158 : decode prog_9_method_40_code 158 = .ok (.iload_n 1, 1) := by decide +kernel
theorem d_Mod_traffic_159 : decode prog_9_method_40_code 159 = .ok (.dup2, 1) := by decide +kernel
theorem d_Mod_traffic_160 : decode prog_9_method_40_code 160 = .ok (.iaload, 1) := by decide +kernel
theorem d_Mod_traffic_161 : decode prog_9_method_40_code 161 = .ok (.iconst 1, 1) := by decide +kernel
theorem d_Mod_traffic_162 : decode prog_9_method_40_code 162 = .ok (.iadd, 1) := by decide +kernel
theorem d_Mod_traffic_163 : decode prog_9_method_40_code 163 = .ok (.iastore, 1) := by decide +kernel
theorem d_Mod_traffic_164 : decode prog_9_method_40_code 164 = .ok (.aload_n 0, 1) := by decide +kernel
theorem d_Mod_traffic_165 : decode prog_9_method_40_code 165 = .ok (.getfield 71, 3) := by decide +kernel
theorem d_Mod_traffic_168 : decode prog_9_method_40_code 168 = .ok (.iload_n 1, 1) := by decide +kernel
theorem d_Mod_traffic_169 : decode prog_9_method_40_code 169 = .ok (.dup2, 1) := by decide +kernel
theorem d_Mod_traffic_170 : decode prog_9_method_40_code 170 = .ok (.iaload, 1) := by decide +kernel
theorem d_Mod_traffic_171 : decode prog_9_method_40_code 171 = .ok (.iconst 1, 1) := by decide +kernel
theorem d_Mod_traffic_172 : decode prog_9_method_40_code 172 = .ok (.isub, 1) := by decide +kernel
theorem d_Mod_traffic_173 : decode prog_9_method_40_code 173 = .ok (.iastore, 1) := by decide +kernel
theorem d_Mod_traffic_174 : decode prog_9_method_40_code 174 = .ok (.iconst 0, 1) := by decide +kernel
theorem d_Mod_traffic_175 : decode prog_9_method_40_code 175 = .ok (.ireturn, 1) := by decide +kernel
theorem d_Mod_perform_0 : decode prog_9_method_42_code 0 = .ok (.bipush 24, 2) := by decide +kernel
theorem d_Mod_perform_2 : decode prog_9_method_42_code 2 = .ok (.aload_n 0, 1) := by decide +kernel
theorem d_Mod_perform_3 : decode prog_9_method_42_code 3 = .ok (.getfield 56, 3) := by decide +kernel
theorem d_Mod_perform_6 : decode prog_9_method_42_code 6 = .ok (.iload_n 1, 1) := by decide +kernel
theorem d_Mod_perform_7 : decode prog_9_method_42_code 7 = .ok (.iaload, 1) := by decide +kernel
theorem d_Mod_perform_8 : decode prog_9_method_42_code 8 = .ok (.imul, 1) := by decide +kernel
theorem d_Mod_perform_9 : decode prog_9_method_42_code 9 = .ok (.aload_n 0, 1) := by decide +kernel
theorem d_Mod_perform_10 : decode prog_9_method_42_code 10 = .ok (.getfield 59, 3) := by decide +kernel
theorem d_Mod_perform_13 : decode prog_9_method_42_code 13 = .ok (.iload_n 1, 1) := by decide +kernel
theorem d_Mod_perform_14 : decode prog_9_method_42_code 14 = .ok (.iaload, 1) := by decide +kernel
theorem d_Mod_perform_15 : decode prog_9_method_42_code 15 = .ok (.iadd, 1) := by decide +kernel
theorem d_Mod_perform_16 : decode prog_9_method_42_code 16 = .ok (.istore_n 2, 1) := by decide +kernel
theorem d_Mod_perform_17 : decode prog_9_method_42_code 17 = .ok (.aload_n 0, 1) := by decide +kernel
theorem d_Mod_perform_18 : decode prog_9_method_42_code 18 = .ok (.getfield 7, 3) := by decide +kernel
theorem d_Mod_perform_21 : decode prog_9_method_42_code 21 = .ok (.iload_n 2, 1) := by decide +kernel
theorem d_Mod_perform_22 : decode prog_9_method_42_code 22 = .ok (.iaload, 1) := by decide +kernel
theorem d_Mod_perform_23 : decode prog_9_method_42_code 23 = .ok (.istore_n 3, 1) := by decide +kernel
theorem d_Mod_perform_24 : decode prog_9_method_42_code 24 = .ok (.aload_n 0, 1) := by decide +kernel
theorem d_Mod_perform_25 : decode prog_9_method_42_code 25 = .ok (.getfield 13, 3) := by decide +kernel
theorem d_Mod_perform_28 : decode prog_9_method_42_code 28 = .ok (.iload_n 2, 1) := by decide +kernel
theorem d_Mod_perform_29 : decode prog_9_method_42_code 29 = .ok (.iaload, 1) := by decide +kernel
theorem d_Mod_perform_30 : decode prog_9_method_42_code 30 = .ok (.istore 4, 2) := by decide +kernel
theorem d_Mod_perform_32 : decode prog_9_method_42_code 32 = .ok (.iload_n 3, 1) := by decide +kernel
theorem d_Mod_perform_33 : decode prog_9_method_42_code 33 = .ok (.bipush 22, 2) := by decide +kernel
theorem d_Mod_perform_35 : decode prog_9_method_42_code 35 = .ok (.if_icmp .ne 21, 3) := by decide +kernel
theorem d_Mod_perform_38 : decode prog_9_method_42_code 38 = .ok (.aload_n 0, 1) := by decide +kernel
theorem d_Mod_perform_39 : decode prog_9_method_42_code 39 = .ok (.getfield 83, 3) := by decide +kernel
theorem d_Mod_perform_42 : decode prog_9_method_42_code 42 = .ok (.iload_n 1, 1) := by decide +kernel
theorem d_Mod_perform_43 : decode prog_9_method_42_code 43 = .ok (.iaload, 1) := by decide +kernel
theorem d_Mod_perform_44 : decode prog_9_method_42_code 44 = .ok (.ifCond .ne 12, 3) := by decide +kernel
theorem d_Mod_perform_47 : decode prog_9_method_42_code 47 = .ok (.aload_n 0, 1) := by decide +kernel
theorem d_Mod_perform_48 : decode prog_9_method_42_code 48 = .ok (.getfield 53, 3) := by decide +kernel
theorem d_Mod_perform_51 : decode prog_9_method_42_code 51 = .ok (.iload_n 1, 1) := by decide +kernel
theorem d_Mod_perform_52 : decode prog_9_method_42_code 52 = .ok (.iconst 2, 1) := by decide +kernel
theorem d_Mod_perform_53 : decode prog_9_method_42_code 53 = .ok (.iastore, 1) := by decide +kernel
theorem d_Mod_perform_54 : decode prog_9_method_42_code 54 = .ok (.iconst 0, 1) := by decide +kernel
theorem d_Mod_perform_55 : decode prog_9_method_42_code 55 = .ok (.ireturn, 1) := by decide +kernel
theorem d_Mod_perform_56 : decode prog_9_method_42_code 56 = .ok (.aload_n 0, 1) := by decide +kernel
theorem d_Mod_perform_57 : decode prog_9_method_42_code 57 = .ok (.getfield 53, 3) := by decide +kernel
theorem d_Mod_perform_60 : decode prog_9_method_42_code 60 = .ok (.iload_n 1, 1) := by decide +kernel
theorem d_Mod_perform_61 : decode prog_9_method_42_code 61 = .ok (.iconst 1, 1) := by decide +kernel
theorem d_Mod_perform_62 : decode prog_9_method_42_code 62 = .ok (.iastore, 1) := by decide +kernel
theorem d_Mod_perform_63 : decode prog_9_method_42_code 63 = .ok (.aload_n 0, 1) := by decide +kernel
theorem d_Mod_perform_64 : decode prog_9_method_42_code 64 = .ok (.getfield 62, 3) := by decide +kernel
theorem d_Mod_perform_67 : decode prog_9_method_42_code 67 = .ok (.iload_n 1, 1) := by decide +kernel
theorem d_Mod_perform_68 : decode prog_9_method_42_code 68 = .ok (.dup2, 1) := by decide +kernel
theorem d_Mod_perform_69 : decode prog_9_method_42_code 69 = .ok (.iaload, 1) := by decide +kernel
theorem d_Mod_perform_70 : decode prog_9_method_42_code 70 = .ok (.iconst 1, 1) := by decide +kernel
theorem d_Mod_perform_71 : decode prog_9_method_42_code 71 = .ok (.iadd, 1) := by decide +kernel
theorem d_Mod_perform_72 : decode prog_9_method_42_code 72 = .ok (.iastore, 1) := by decide +kernel
theorem d_Mod_perform_73 : decode prog_9_method_42_code 73 = .ok (.iload_n 3, 1) := by decide +kernel
theorem d_Mod_perform_74 : decode prog_9_method_42_code 74 = .ok (.bipush 17, 2) := by decide +kernel
theorem d_Mod_perform_76 : decode prog_9_method_42_code 76 = .ok (.if_icmp .eq 18, 3) := by decide +kernel
theorem d_Mod_perform_79 : decode prog_9_method_42_code 79 = .ok (.iload_n 3, 1) := by decide +kernel
theorem d_Mod_perform_80 : decode prog_9_method_42_code 80 = .ok (.bipush 18, 2) := by decide +kernel
theorem d_Mod_perform_82 : decode prog_9_method_42_code 82 = .ok (.if_icmp .ne 16, 3) := by decide +kernel
theorem d_Mod_perform_85 : decode prog_9_method_42_code 85 = .ok (.aload_n 0, 1) := by decide +kernel
theorem d_Mod_perform_86 : decode prog_9_method_42_code 86 = .ok (.iload_n 1, 1) := by decide +kernel
theorem d_Mod_perform_87 : decode prog_9_method_42_code 87 = .ok (.iconst 0, 1) := by decide +kernel
theorem d_Mod_perform_88 : decode prog_9_method_42_code 88 = .ok (.invokevirtual 167, 3) := by decide +kernel
theorem d_Mod_perform_91 : decode prog_9_method_42_code 91 = .ok (.ifCond .ne 7, 3) := by decide +kernel
theorem d_Mod_perform_94 : decode prog_9_method_42_code 94 = .ok (.iconst 1, 1) := by decide +kernel
theorem d_Mod_perform_95 : decode prog_9_method_42_code 95 = .ok (.goto 4, 3) := by decide +kernel
theorem d_Mod_perform_98 : decode prog_9_method_42_code 98 = .ok (.iconst 0, 1) := by decide +kernel
theorem d_Mod_perform_99 : decode prog_9_method_42_code 99 = .ok (.istore 5, 2) := by decide +kernel
theorem d_Mod_perform_101 : decode prog_9_method_42_code 101 = .ok (.iload_n 3, 1) := by decide +kernel
theorem d_Mod_perform_102 : decode prog_9_method_42_code 102 = .ok (.bipush 11, 2) := by decide +kernel
theorem d_Mod_perform_104 : decode prog_9_method_42_code 104 = .ok (.if_icmp .lt 20, 3) := by decide +kernel
theorem d_Mod_perform_107 : decode prog_9_method_42_code 107 = .ok (.iload_n 3, 1) := by decide +kernel
theorem d_Mod_perform_108 : decode prog_9_method_42_code 108 = .ok (.bipush 13, 2) := by decide +kernel
theorem d_Mod_perform_110 : decode prog_9_method_42_code 110 = .ok (.if_icmp .gt 14, 3) := by decide +kernel
theorem d_Mod_perform_113 : decode prog_9_method_42_code 113 = .ok (.aload_n 0, 1) := by decide +kernel
theorem d_Mod_perform_114 : decode prog_9_method_42_code 114 = .ok (.iload_n 1, 1) := by decide +kernel
theorem d_Mod_perform_115 : decode prog_9_method_42_code 115 = .ok (.iload_n 3, 1) := by decide +kernel
theorem d_Mod_perform_116 : decode prog_9_method_42_code 116 = .ok (.iload 4, 2) := by decide +kernel
theorem d_Mod_perform_118 : decode prog_9_method_42_code 118 = .ok (.invokevirtual 208, 3) := by decide +kernel
theorem d_Mod_perform_121 : decode prog_9_method_42_code 121 = .ok (.goto 28, 3) := by decide +kernel
theorem d_Mod_perform_124 : decode prog_9_method_42_code 124 = .ok (.iload_n 3, 1) := by decide +kernel
theorem d_Mod_perform_125 : decode prog_9_method_42_code 125 = .ok (.bipush 19, 2) := by decide +kernel
theorem d_Mod_perform_127 : decode prog_9_method_42_code 127 = .ok (.if_icmp .lt 14, 3) := by decide +kernel
theorem d_Mod_perform_130 : decode prog_9_method_42_code 130 = .ok (.aload_n 0, 1) := by decide +kernel
theorem d_Mod_perform_131 : decode prog_9_method_42_code 131 = .ok (.iload_n 1, 1) := by decide +kernel
theorem d_Mod_perform_132 : decode prog_9_method_42_code 132 = .ok (.iload_n 3, 1) := by decide +kernel
theorem d_Mod_perform_133 : decode prog_9_method_42_code 133 = .ok (.iload 4, 2) := by decide +kernel
theorem d_Mod_perform_135 : decode prog_9_method_42_code 135 = .ok (.invokevirtual 211, 3) := by decide +kernel
theorem d_Mod_perform_138 : decode prog_9_method_42_code 138 = .ok (.goto 11, 3) := by decide +kernel
theorem d_Mod_perform_141 : decode prog_9_method_42_code 141 = .ok (.aload_n 0, 1) := by decide +kernel
theorem d_Mod_perform_142 : decode prog_9_method_42_code 142 = .ok (.iload_n 1, 1) := by decide +kernel
theorem d_Mod_perform_143 : decode prog_9_method_42_code 143 = .ok (.iload_n 3, 1) := by decide +kernel
theorem d_Mod_perform_144 : decode prog_9_method_42_code 144 = .ok (.iload 4, 2) := by decide +kernel
theorem d_Mod_perform_146 : decode prog_9_method_42_code 146 = .ok (.invokevirtual 214, 3) := by decide +kernel
theorem d_Mod_perform_149 : decode prog_9_method_42_code 149 = .ok (.istore 6, 2) := by decide +kernel
theorem d_Mod_perform_151 : decode prog_9_method_42_code 151 = .ok (.iload 6, 2) := by decide +kernel
theorem d_Mod_perform_153 : decode prog_9_method_42_code 153 = .ok (.ifCond .le 10, 3) := by decide +kernel
theorem d_Mod_perform_156 : decode prog_9_method_42_code 156 = .ok (.aload_n 0, 1) := by decide +kernel
theorem d_Mod_perform_157 : decode prog_9_method_42_code 157 = .ok (.iload_n 1, 1) := by decide +kernel
theorem d_Mod_perform_158 : decode prog_9_method_42_code 158 = .ok (.iload 6, 2) := by decide +kernel
theorem d_Mod_perform_160 : decode prog_9_method_42_code 160 = .ok (.invokevirtual 186, 3) := by decide +kernel
theorem d_Mod_perform_163 : decode prog_9_method_42_code 163 = .ok (.aload_n 0, 1) := by decide +kernel
theorem d_Mod_perform_164 : decode prog_9_method_42_code 164 = .ok (.getfield 59, 3) := by decide +kernel
theorem d_Mod_perform_167 : decode prog_9_method_42_code 167 = .ok (.iload_n 1, 1) := by decide +kernel
theorem d_Mod_perform_168 : decode prog_9_method_42_code 168 = .ok (.iload 5, 2) := by decide +kernel
theorem d_Mod_perform_170 : decode prog_9_method_42_code 170 = .ok (.ifCond .eq 8, 3) := by decide +kernel
theorem d_Mod_perform_173 : decode prog_9_method_42_code 173 = .ok (.iload 4, 2) := by decide +kernel
theorem d_Mod_perform_175 : decode prog_9_method_42_code 175 = .ok (.goto 11, 3) := by decide +kernel
theorem d_Mod_perform_178 : decode prog_9_method_42_code 178 = .ok (.aload_n 0, 1) := by decide +kernel
theorem d_Mod_perform_179 : decode prog_9_method_42_code 179 = .ok (.getfield 59, 3) := by decide +kernel
theorem d_Mod_perform_182 : decode prog_9_method_42_code 182 = .ok (.iload_n 1, 1) := by decide +kernel
theorem d_Mod_perform_183 : decode prog_9_method_42_code 183 = .ok (.iaload, 1) := by decide +kernel
theorem d_Mod_perform_184 : decode prog_9_method_42_code 184 = .ok (.iconst 1, 1) := by decide +kernel
theorem d_Mod_perform_185 : decode prog_9_method_42_code 185 = .ok (.iadd, 1) := by decide +kernel
theorem d_Mod_perform_186 : decode prog_9_method_42_code 186 = .ok (.iastore, 1) := by decide +kernel
theorem d_Mod_perform_187 : decode prog_9_method_42_code 187 = .ok (.iconst 1, 1) := by decide +kernel
theorem d_Mod_perform_188 : decode prog_9_method_42_code 188 = .ok (.ireturn, 1) := by decide +kernel
theorem d_Mod_run_0 : decode prog_9_method_43_code 0 = .ok (.iload_n 1, 1) := by decide +kernel
theorem d_Mod_run_1 : decode prog_9_method_43_code 1 = .ok (.ifCond .lt 10, 3) := by decide +kernel
theorem d_Mod_run_4 : decode prog_9_method_43_code 4 = .ok (.iload_n 1, 1) := by decide +kernel
theorem d_Mod_run_5 : decode prog_9_method_43_code 5 = .ok (.sipush 200, 3) := by decide +kernel
theorem d_Mod_run_8 : decode prog_9_method_43_code 8 = .ok (.if_icmp .le 8, 3) := by decide +kernel
theorem d_Mod_run_11 : decode prog_9_method_43_code 11 = .ok (.aload_n 0, 1) := by decide +kernel
theorem d_Mod_run_12 : decode prog_9_method_43_code 12 = .ok (.getfield 161, 3) := by decide +kernel
theorem d_Mod_run_15 : decode prog_9_method_43_code 15 = .ok (.ireturn, 1) := by decide +kernel
theorem d_Mod_run_16 : decode prog_9_method_43_code 16 = .ok (.iconst 0, 1) := by decide +kernel
theorem d_Mod_run_17 : decode prog_9_method_43_code 17 = .ok (.istore_n 2, 1) := by decide +kernel
theorem d_Mod_run_18 : decode prog_9_method_43_code 18 = .ok (.iload_n 2, 1) := by decide +kernel
theorem d_Mod_run_19 : decode prog_9_method_43_code 19 = .ok (.iload_n 1, 1) := by decide +kernel
theorem d_Mod_run_20 : decode prog_9_method_43_code 20 = .ok (.if_icmp .ge 100, 3) := by decide +kernel
theorem d_Mod_run_23 : decode prog_9_method_43_code 23 = .ok (.aload_n 0, 1) := by decide +kernel
theorem d_Mod_run_24 : decode prog_9_method_43_code 24 = .ok (.getfield 161, 3) := by decide +kernel
theorem d_Mod_run_27 : decode prog_9_method_43_code 27 = .ok (.iconst 4, 1) := by decide +kernel
theorem d_Mod_run_28 : decode prog_9_method_43_code 28 = .ok (.irem, 1) := by decide +kernel
theorem d_Mod_run_29 : decode prog_9_method_43_code 29 = .ok (.istore_n 3, 1) := by decide +kernel
theorem d_Mod_run_30 : decode prog_9_method_43_code 30 = .ok (.iconst 1, 1) := by decide +kernel
theorem d_Mod_run_31 : decode prog_9_method_43_code 31 = .ok (.istore 4, 2) := by decide +kernel
theorem d_Mod_run_33 : decode prog_9_method_43_code 33 = .ok (.iconst 0, 1) := by decide +kernel
theorem d_Mod_run_34 : decode prog_9_method_43_code 34 = .ok (.istore 5, 2) := by decide +kernel
theorem d_Mod_run_36 : decode prog_9_method_43_code 36 = .ok (.iload 5, 2) := by decide +kernel
theorem d_Mod_run_38 : decode prog_9_method_43_code 38 = .ok (.aload_n 0, 1) := by decide +kernel
theorem d_Mod_run_39 : decode prog_9_method_43_code 39 = .ok (.getfield 101, 3) := by decide +kernel
theorem d_Mod_run_42 : decode prog_9_method_43_code 42 = .ok (.if_icmp .ge 62, 3) := by decide +kernel
theorem d_Mod_run_45 : decode prog_9_method_43_code 45 = .ok (.iload 4, 2) := by decide +kernel
theorem d_Mod_run_47 : decode prog_9_method_43_code 47 = .ok (.ifCond .eq 57, 3) := by decide +kernel
theorem d_Mod_run_50 : decode prog_9_method_43_code 50 = .ok (.aload_n 0, 1) := by decide +kernel
theorem d_Mod_run_51 : decode prog_9_method_43_code 51 = .ok (.iload_n 3, 1) := by decide +kernel
theorem d_Mod_run_52 : decode prog_9_method_43_code 52 = .ok (.invokevirtual 174, 3) := by decide +kernel
theorem d_Mod_run_55 : decode prog_9_method_43_code 55 = .ok (.istore 4, 2) := by decide +kernel
theorem d_Mod_run_57 : decode prog_9_method_43_code 57 = .ok (.iload 4, 2) := by decide +kernel
theorem d_Mod_run_59 : decode prog_9_method_43_code 59 = .ok (.ifCond .eq 27, 3) := by decide +kernel
theorem d_Mod_run_62 : decode prog_9_method_43_code 62 = .ok (.aload_n 0, 1) := by decide +kernel
theorem d_Mod_run_63 : decode prog_9_method_43_code 63 = .ok (.getfield 62, 3) := by decide +kernel
theorem d_Mod_run_66 : decode prog_9_method_43_code 66 = .ok (.iload_n 3, 1) := by decide +kernel
theorem d_Mod_run_67 : decode prog_9_method_43_code 67 = .ok (.iaload, 1) := by decide +kernel
theorem d_Mod_run_68 : decode prog_9_method_43_code 68 = .ok (.aload_n 0, 1) := by decide +kernel
theorem d_Mod_run_69 : decode prog_9_method_43_code 69 = .ok (.getfield 50, 3) := by decide +kernel
theorem d_Mod_run_72 : decode prog_9_method_43_code 72 = .ok (.iload_n 3, 1) := by decide +kernel
theorem d_Mod_run_73 : decode prog_9_method_43_code 73 = .ok (.iaload, 1) := by decide +kernel
theorem d_Mod_run_74 : decode prog_9_method_43_code 74 = .ok (.if_icmp .ne 12, 3) := by decide +kernel
theorem d_Mod_run_77 : decode prog_9_method_43_code 77 = .ok (.aload_n 0, 1) := by decide +kernel
theorem d_Mod_run_78 : decode prog_9_method_43_code 78 = .ok (.iload_n 3, 1) := by decide +kernel
theorem d_Mod_run_79 : decode prog_9_method_43_code 79 = .ok (.iconst 5, 1) := by decide +kernel
theorem d_Mod_run_80 : decode prog_9_method_43_code 80 = .ok (.invokevirtual 186, 3) := by decide +kernel
theorem d_Mod_run_83 : decode prog_9_method_43_code 83 = .ok (.goto 15, 3) := by decide +kernel
theorem d_Mod_run_86 : decode prog_9_method_43_code 86 = .ok (.iload 4, 2) := by decide +kernel
theorem d_Mod_run_88 : decode prog_9_method_43_code 88 = .ok (.ifCond .eq 10, 3) := by decide +kernel
theorem d_Mod_run_91 : decode prog_9_method_43_code 91 = .ok (.aload_n 0, 1) := by decide +kernel
theorem d_Mod_run_92 : decode prog_9_method_43_code 92 = .ok (.iload_n 3, 1) := by decide +kernel
theorem d_Mod_run_93 : decode prog_9_method_43_code 93 = .ok (.invokevirtual 217, 3) := by decide +kernel
theorem d_Mod_run_96 : decode prog_9_method_43_code 96 = .ok (.istore 4, 2) := by decide +kernel
theorem d_Mod_run_98 : decode prog_9_method_43_code 98 = .ok (.iinc 5 1, 3) := by decide +kernel
theorem d_Mod_run_101 : decode prog_9_method_43_code 101 = .ok (.goto (-65), 3) := by decide +kernel
theorem d_Mod_run_104 : decode prog_9_method_43_code 104 = .ok (.aload_n 0, 1) := by decide +kernel
theorem d_Mod_run_105 : decode prog_9_method_43_code 105 = .ok (.dup, 1) := by decide +kernel
theorem d_Mod_run_106 : decode prog_9_method_43_code 106 = .ok (.getfield 161, 3) := by decide +kernel
theorem d_Mod_run_109 : decode prog_9_method_43_code 109 = .ok (.iconst 1, 1) := by decide +kernel
theorem d_Mod_run_110 : decode prog_9_method_43_code 110 = .ok (.iadd, 1) := by decide +kernel
theorem d_Mod_run_111 : decode prog_9_method_43_code 111 = .ok (.putfield 161, 3) := by decide +kernel
theorem d_Mod_run_114 : decode prog_9_method_43_code 114 = .ok (.iinc 2 1, 3) := by decide +kernel
theorem d_Mod_run_117 : decode prog_9_method_43_code 117 = .ok (.goto (-99), 3) := by decide +kernel
theorem d_Mod_run_120 : decode prog_9_method_43_code 120 = .ok (.aload_n 0, 1) := by decide +kernel
theorem d_Mod_run_121 : decode prog_9_method_43_code 121 = .ok (.getfield 161, 3) := by decide +kernel
theorem d_Mod_run_124 : decode prog_9_method_43_code 124 = .ok (.ireturn, 1) := by decide +kernel
theorem d_Mod_state_0 : decode prog_9_method_44_code 0 = .ok (.iload_n 1, 1) := by decide +kernel
theorem d_Mod_state_1 : decode prog_9_method_44_code 1 = .ok (.invokestatic 105, 3) := by decide +kernel
theorem d_Mod_state_4 : decode prog_9_method_44_code 4 = .ok (.ifCond .eq 12, 3) := by decide +kernel
theorem d_Mod_state_7 : decode prog_9_method_44_code 7 = .ok (.aload_n 0, 1) := by decide +kernel
theorem d_Mod_state_8 : decode prog_9_method_44_code 8 = .ok (.getfield 53, 3) := by decide +kernel
theorem d_Mod_state_11 : decode prog_9_method_44_code 11 = .ok (.iload_n 1, 1) := by decide +kernel
theorem d_Mod_state_12 : decode prog_9_method_44_code 12 = .ok (.iaload, 1) := by decide +kernel
theorem d_Mod_state_13 : decode prog_9_method_44_code 13 = .ok (.goto 4, 3) := by decide +kernel
theorem d_Mod_state_16 : decode prog_9_method_44_code 16 = .ok (.iconst (-1), 1) := by decide +kernel
theorem d_Mod_state_17 : decode prog_9_method_44_code 17 = .ok (.ireturn, 1) := by decide +kernel
theorem d_Mod_steps_0 : decode prog_9_method_45_code 0 = .ok (.iload_n 1, 1) := by decide +kernel
theorem d_Mod_steps_1 : decode prog_9_method_45_code 1 = .ok (.invokestatic 105, 3) := by decide +kernel
theorem d_Mod_steps_4 : decode prog_9_method_45_code 4 = .ok (.ifCond .eq 12, 3) := by decide +kernel
theorem d_Mod_steps_7 : decode prog_9_method_45_code 7 = .ok (.aload_n 0, 1) := by decide +kernel
theorem d_Mod_steps_8 : decode prog_9_method_45_code 8 = .ok (.getfield 62, 3) := by decide +kernel
theorem d_Mod_steps_11 : decode prog_9_method_45_code 11 = .ok (.iload_n 1, 1) := by decide +kernel
theorem d_Mod_steps_12 : decode prog_9_method_45_code 12 = .ok (.iaload, 1) := by decide +kernel
theorem d_Mod_steps_13 : decode prog_9_method_45_code 13 = .ok (.goto 4, 3) := by decide +kernel
theorem d_Mod_steps_16 : decode prog_9_method_45_code 16 = .ok (.iconst (-1), 1) := by decide +kernel
theorem d_Mod_steps_17 : decode prog_9_method_45_code 17 = .ok (.ireturn, 1) := by decide +kernel
theorem d_Mod_used_0 : decode prog_9_method_46_code 0 = .ok (.iload_n 1, 1) := by decide +kernel
theorem d_Mod_used_1 : decode prog_9_method_46_code 1 = .ok (.invokestatic 105, 3) := by decide +kernel
theorem d_Mod_used_4 : decode prog_9_method_46_code 4 = .ok (.ifCond .eq 12, 3) := by decide +kernel
theorem d_Mod_used_7 : decode prog_9_method_46_code 7 = .ok (.aload_n 0, 1) := by decide +kernel
theorem d_Mod_used_8 : decode prog_9_method_46_code 8 = .ok (.iload_n 1, 1) := by decide +kernel
theorem d_Mod_used_9 : decode prog_9_method_46_code 9 = .ok (.iconst 0, 1) := by decide +kernel
theorem d_Mod_used_10 : decode prog_9_method_46_code 10 = .ok (.invokevirtual 147, 3) := by decide +kernel
theorem d_Mod_used_13 : decode prog_9_method_46_code 13 = .ok (.goto 4, 3) := by decide +kernel
theorem d_Mod_used_16 : decode prog_9_method_46_code 16 = .ok (.iconst (-1), 1) := by decide +kernel
theorem d_Mod_used_17 : decode prog_9_method_46_code 17 = .ok (.ireturn, 1) := by decide +kernel
theorem d_Mod_live_0 : decode prog_9_method_47_code 0 = .ok (.iload_n 1, 1) := by decide +kernel
theorem d_Mod_live_1 : decode prog_9_method_47_code 1 = .ok (.invokestatic 105, 3) := by decide +kernel
theorem d_Mod_live_4 : decode prog_9_method_47_code 4 = .ok (.ifCond .ne 5, 3) := by decide +kernel
theorem d_Mod_live_7 : decode prog_9_method_47_code 7 = .ok (.iconst (-1), 1) := by decide +kernel
theorem d_Mod_live_8 : decode prog_9_method_47_code 8 = .ok (.ireturn, 1) := by decide +kernel
theorem d_Mod_live_9 : decode prog_9_method_47_code 9 = .ok (.aload_n 0, 1) := by decide +kernel
theorem d_Mod_live_10 : decode prog_9_method_47_code 10 = .ok (.iload_n 1, 1) := by decide +kernel
theorem d_Mod_live_11 : decode prog_9_method_47_code 11 = .ok (.invokevirtual 151, 3) := by decide +kernel
theorem d_Mod_live_14 : decode prog_9_method_47_code 14 = .ok (.aload_n 0, 1) := by decide +kernel
theorem d_Mod_live_15 : decode prog_9_method_47_code 15 = .ok (.iload_n 1, 1) := by decide +kernel
theorem d_Mod_live_16 : decode prog_9_method_47_code 16 = .ok (.iconst 1, 1) := by decide +kernel
theorem d_Mod_live_17 : decode prog_9_method_47_code 17 = .ok (.invokevirtual 147, 3) := by decide +kernel
theorem d_Mod_live_20 : decode prog_9_method_47_code 20 = .ok (.ireturn, 1) := by decide +kernel
theorem d_Mod_collections_0 : decode prog_9_method_48_code 0 = .ok (.iload_n 1, 1) := by decide +kernel
theorem d_Mod_collections_1 : decode prog_9_method_48_code 1 = .ok (.invokestatic 105, 3) := by decide +kernel
theorem d_Mod_collections_4 : decode prog_9_method_48_code 4 = .ok (.ifCond .eq 12, 3) := by decide +kernel
theorem d_Mod_collections_7 : decode prog_9_method_48_code 7 = .ok (.aload_n 0, 1) := by decide +kernel
theorem d_Mod_collections_8 : decode prog_9_method_48_code 8 = .ok (.getfield 65, 3) := by decide +kernel
theorem d_Mod_collections_11 : decode prog_9_method_48_code 11 = .ok (.iload_n 1, 1) := by decide +kernel
theorem d_Mod_collections_12 : decode prog_9_method_48_code 12 = .ok (.iaload, 1) := by decide +kernel
theorem d_Mod_collections_13 : decode prog_9_method_48_code 13 = .ok (.goto 4, 3) := by decide +kernel
theorem d_Mod_collections_16 : decode prog_9_method_48_code 16 = .ok (.iconst (-1), 1) := by decide +kernel
theorem d_Mod_collections_17 : decode prog_9_method_48_code 17 = .ok (.ireturn, 1) := by decide +kernel
theorem d_Mod_ended_0 : decode prog_9_method_49_code 0 = .ok (.iload_n 1, 1) := by decide +kernel
theorem d_Mod_ended_1 : decode prog_9_method_49_code 1 = .ok (.invokestatic 105, 3) := by decide +kernel
theorem d_Mod_ended_4 : decode prog_9_method_49_code 4 = .ok (.ifCond .eq 12, 3) := by decide +kernel
theorem d_Mod_ended_7 : decode prog_9_method_49_code 7 = .ok (.aload_n 0, 1) := by decide +kernel
theorem d_Mod_ended_8 : decode prog_9_method_49_code 8 = .ok (.getfield 68, 3) := by decide +kernel
theorem d_Mod_ended_11 : decode prog_9_method_49_code 11 = .ok (.iload_n 1, 1) := by decide +kernel
theorem d_Mod_ended_12 : decode prog_9_method_49_code 12 = .ok (.iaload, 1) := by decide +kernel
theorem d_Mod_ended_13 : decode prog_9_method_49_code 13 = .ok (.goto 4, 3) := by decide +kernel
theorem d_Mod_ended_16 : decode prog_9_method_49_code 16 = .ok (.iconst (-1), 1) := by decide +kernel
theorem d_Mod_ended_17 : decode prog_9_method_49_code 17 = .ok (.ireturn, 1) := by decide +kernel
theorem d_Mod_messages_0 : decode prog_9_method_50_code 0 = .ok (.iload_n 1, 1) := by decide +kernel
theorem d_Mod_messages_1 : decode prog_9_method_50_code 1 = .ok (.invokestatic 105, 3) := by decide +kernel
theorem d_Mod_messages_4 : decode prog_9_method_50_code 4 = .ok (.ifCond .eq 12, 3) := by decide +kernel
theorem d_Mod_messages_7 : decode prog_9_method_50_code 7 = .ok (.aload_n 0, 1) := by decide +kernel
theorem d_Mod_messages_8 : decode prog_9_method_50_code 8 = .ok (.getfield 83, 3) := by decide +kernel
theorem d_Mod_messages_11 : decode prog_9_method_50_code 11 = .ok (.iload_n 1, 1) := by decide +kernel
theorem d_Mod_messages_12 : decode prog_9_method_50_code 12 = .ok (.iaload, 1) := by decide +kernel
theorem d_Mod_messages_13 : decode prog_9_method_50_code 13 = .ok (.goto 4, 3) := by decide +kernel
theorem d_Mod_messages_16 : decode prog_9_method_50_code 16 = .ok (.iconst (-1), 1) := by decide +kernel
theorem d_Mod_messages_17 : decode prog_9_method_50_code 17 = .ok (.ireturn, 1) := by decide +kernel
theorem d_Mod_output_0 : decode prog_9_method_51_code 0 = .ok (.iload_n 1, 1) := by decide +kernel
theorem d_Mod_output_1 : decode prog_9_method_51_code 1 = .ok (.invokestatic 105, 3) := by decide +kernel
theorem d_Mod_output_4 : decode prog_9_method_51_code 4 = .ok (.ifCond .eq 18, 3) := by decide +kernel
theorem d_Mod_output_7 : decode prog_9_method_51_code 7 = .ok (.iload_n 2, 1) := by decide +kernel
theorem d_Mod_output_8 : decode prog_9_method_51_code 8 = .ok (.iconst (-1), 1) := by decide +kernel
theorem d_Mod_output_9 : decode prog_9_method_51_code 9 = .ok (.if_icmp .lt 13, 3) := by decide +kernel
theorem d_Mod_output_12 : decode prog_9_method_51_code 12 = .ok (.iload_n 2, 1) := by decide +kernel
theorem d_Mod_output_13 : decode prog_9_method_51_code 13 = .ok (.aload_n 0, 1) := by decide +kernel
theorem d_Mod_output_14 : decode prog_9_method_51_code 14 = .ok (.getfield 95, 3) := by decide +kernel
theorem d_Mod_output_17 : decode prog_9_method_51_code 17 = .ok (.iload_n 1, 1) := by decide +kernel
theorem d_Mod_output_18 : decode prog_9_method_51_code 18 = .ok (.iaload, 1) := by decide +kernel
theorem d_Mod_output_19 : decode prog_9_method_51_code 19 = .ok (.if_icmp .lt 7, 3) := by decide +kernel
theorem d_Mod_output_22 : decode prog_9_method_51_code 22 = .ok (.iconst 0, 1) := by decide +kernel
theorem d_Mod_output_23 : decode prog_9_method_51_code 23 = .ok (.goto 28, 3) := by decide +kernel
theorem d_Mod_output_26 : decode prog_9_method_51_code 26 = .ok (.iload_n 2, 1) := by decide +kernel
theorem d_Mod_output_27 : decode prog_9_method_51_code 27 = .ok (.iconst (-1), 1) := by decide +kernel
theorem d_Mod_output_28 : decode prog_9_method_51_code 28 = .ok (.if_icmp .ne 12, 3) := by decide +kernel
theorem d_Mod_output_31 : decode prog_9_method_51_code 31 = .ok (.aload_n 0, 1) := by decide +kernel
theorem d_Mod_output_32 : decode prog_9_method_51_code 32 = .ok (.getfield 95, 3) := by decide +kernel
theorem d_Mod_output_35 : decode prog_9_method_51_code 35 = .ok (.iload_n 1, 1) := by decide +kernel
theorem d_Mod_output_36 : decode prog_9_method_51_code 36 = .ok (.iaload, 1) := by decide +kernel
theorem d_Mod_output_37 : decode prog_9_method_51_code 37 = .ok (.goto 14, 3) := by decide +kernel
theorem d_Mod_output_40 : decode prog_9_method_51_code 40 = .ok (.aload_n 0, 1) := by decide +kernel
theorem d_Mod_output_41 : decode prog_9_method_51_code 41 = .ok (.getfield 92, 3) := by decide +kernel
theorem d_Mod_output_44 : decode prog_9_method_51_code 44 = .ok (.bipush 16, 2) := by decide +kernel
theorem d_Mod_output_46 : decode prog_9_method_51_code 46 = .ok (.iload_n 1, 1) := by decide +kernel
theorem d_Mod_output_47 : decode prog_9_method_51_code 47 = .ok (.imul, 1) := by decide +kernel
theorem d_Mod_output_48 : decode prog_9_method_51_code 48 = .ok (.iload_n 2, 1) := by decide +kernel
theorem d_Mod_output_49 : decode prog_9_method_51_code 49 = .ok (.iadd, 1) := by decide +kernel
theorem d_Mod_output_50 : decode prog_9_method_51_code 50 = .ok (.iaload, 1) := by decide +kernel
theorem d_Mod_output_51 : decode prog_9_method_51_code 51 = .ok (.ireturn, 1) := by decide +kernel
theorem d_Mod_local_0 : decode prog_9_method_52_code 0 = .ok (.iload_n 1, 1) := by decide +kernel
theorem d_Mod_local_1 : decode prog_9_method_52_code 1 = .ok (.invokestatic 105, 3) := by decide +kernel
theorem d_Mod_local_4 : decode prog_9_method_52_code 4 = .ok (.ifCond .eq 25, 3) := by decide +kernel
theorem d_Mod_local_7 : decode prog_9_method_52_code 7 = .ok (.iload_n 2, 1) := by decide +kernel
theorem d_Mod_local_8 : decode prog_9_method_52_code 8 = .ok (.ifCond .eq 8, 3) := by decide +kernel
theorem d_Mod_local_11 : decode prog_9_method_52_code 11 = .ok (.iload_n 2, 1) := by decide +kernel
theorem d_Mod_local_12 : decode prog_9_method_52_code 12 = .ok (.iconst 1, 1) := by decide +kernel
theorem d_Mod_local_13 : decode prog_9_method_52_code 13 = .ok (.if_icmp .ne 16, 3) := by decide +kernel
theorem d_Mod_local_16 : decode prog_9_method_52_code 16 = .ok (.aload_n 0, 1) := by decide +kernel
theorem d_Mod_local_17 : decode prog_9_method_52_code 17 = .ok (.getfield 77, 3) := by decide +kernel
theorem d_Mod_local_20 : decode prog_9_method_52_code 20 = .ok (.iconst 4, 1) := by decide +kernel
theorem d_Mod_local_21 : decode prog_9_method_52_code 21 = .ok (.iload_n 1, 1) := by decide +kernel
theorem d_Mod_local_22 : decode prog_9_method_52_code 22 = .ok (.imul, 1) := by decide +kernel
theorem d_Mod_local_23 : decode prog_9_method_52_code 23 = .ok (.iload_n 2, 1) := by decide +kernel
theorem d_Mod_local_24 : decode prog_9_method_52_code 24 = .ok (.iadd, 1) := by decide +kernel
theorem d_Mod_local_25 : decode prog_9_method_52_code 25 = .ok (.iaload, 1) := by decide +kernel
theorem d_Mod_local_26 : decode prog_9_method_52_code 26 = .ok (.goto 4, 3) := by decide +kernel
theorem d_Mod_local_29 : decode prog_9_method_52_code 29 = .ok (.iconst 0, 1) := by decide +kernel
theorem d_Mod_local_30 : decode prog_9_method_52_code 30 = .ok (.ireturn, 1) := by decide +kernel
theorem d_Mod_look_0 : decode prog_9_method_53_code 0 = .ok (.iload_n 1, 1) := by decide +kernel
theorem d_Mod_look_1 : decode prog_9_method_53_code 1 = .ok (.invokestatic 105, 3) := by decide +kernel
theorem d_Mod_look_4 : decode prog_9_method_53_code 4 = .ok (.ifCond .eq 13, 3) := by decide +kernel
theorem d_Mod_look_7 : decode prog_9_method_53_code 7 = .ok (.iload_n 3, 1) := by decide +kernel
theorem d_Mod_look_8 : decode prog_9_method_53_code 8 = .ok (.ifCond .lt 9, 3) := by decide +kernel
theorem d_Mod_look_11 : decode prog_9_method_53_code 11 = .ok (.iload_n 3, 1) := by decide +kernel
theorem d_Mod_look_12 : decode prog_9_method_53_code 12 = .ok (.bipush 30, 2) := by decide +kernel
theorem d_Mod_look_14 : decode prog_9_method_53_code 14 = .ok (.if_icmp .le 5, 3) := by decide +kernel
theorem d_Mod_look_17 : decode prog_9_method_53_code 17 = .ok (.iconst 0, 1) := by decide +kernel
theorem d_Mod_look_18 : decode prog_9_method_53_code 18 = .ok (.ireturn, 1) := by decide +kernel
theorem d_Mod_look_19 : decode prog_9_method_53_code 19 = .ok (.aload_n 0, 1) := by decide +kernel
theorem d_Mod_look_20 : decode prog_9_method_53_code 20 = .ok (.getfield 77, 3) := by decide +kernel
theorem d_Mod_look_23 : decode prog_9_method_53_code 23 = .ok (.iconst 4, 1) := by decide +kernel
theorem d_Mod_look_24 : decode prog_9_method_53_code 24 = .ok (.iload_n 1, 1) := by decide +kernel
theorem d_Mod_look_25 : decode prog_9_method_53_code 25 = .ok (.imul, 1) := by decide +kernel
theorem d_Mod_look_26 : decode prog_9_method_53_code 26 = .ok (.iconst 2, 1) := by decide +kernel
theorem d_Mod_look_27 : decode prog_9_method_53_code 27 = .ok (.iadd, 1) := by decide +kernel
theorem d_Mod_look_28 : decode prog_9_method_53_code 28 = .ok (.iaload, 1) := by decide +kernel
theorem d_Mod_look_29 : decode prog_9_method_53_code 29 = .ok (.istore 4, 2) := by decide +kernel
theorem d_Mod_look_31 : decode prog_9_method_53_code 31 = .ok (.iconst 0, 1) := by decide +kernel
theorem d_Mod_look_32 : decode prog_9_method_53_code 32 = .ok (.istore 5, 2) := by decide +kernel
theorem d_Mod_look_34 : decode prog_9_method_53_code 34 = .ok (.iload 5, 2) := by decide +kernel
theorem d_Mod_look_36 : decode prog_9_method_53_code 36 = .ok (.iload_n 3, 1) := by decide +kernel
theorem d_Mod_look_37 : decode prog_9_method_53_code 37 = .ok (.if_icmp .ge 43, 3) := by decide +kernel
theorem d_Mod_look_40 : decode prog_9_method_53_code 40 = .ok (.iload 4, 2) := by decide +kernel
theorem d_Mod_look_42 : decode prog_9_method_53_code 42 = .ok (.ifCond .lt 38, 3) := by decide +kernel
theorem d_Mod_look_45 : decode prog_9_method_53_code 45 = .ok (.iload_n 2, 1) := by decide +kernel
theorem d_Mod_look_46 : decode prog_9_method_53_code 46 = .ok (.iload 5, 2) := by decide +kernel
theorem d_Mod_look_48 : decode prog_9_method_53_code 48 = .ok (.ishr, 1) := by decide +kernel
theorem d_Mod_look_49 : decode prog_9_method_53_code 49 = .ok (.iconst 1, 1) := by decide +kernel
theorem d_Mod_look_50 : decode prog_9_method_53_code 50 = .ok (.iand, 1) := by decide +kernel
theorem d_Mod_look_51 : decode prog_9_method_53_code 51 = .ok (.iconst 1, 1) := by decide +kernel
theorem d_Mod_look_52 : decode prog_9_method_53_code 52 = .ok (.if_icmp .ne 13, 3) := by decide +kernel
theorem d_Mod_look_55 : decode prog_9_method_53_code 55 = .ok (.aload_n 0, 1) := by decide +kernel
theorem d_Mod_look_56 : decode prog_9_method_53_code 56 = .ok (.getfield 35, 3) := by decide +kernel
theorem d_Mod_look_59 : decode prog_9_method_53_code 59 = .ok (.iload 4, 2) := by decide +kernel
theorem d_Mod_look_61 : decode prog_9_method_53_code 61 = .ok (.iaload, 1) := by decide +kernel
theorem d_Mod_look_62 : decode prog_9_method_53_code 62 = .ok (.goto 10, 3) := by decide +kernel
theorem d_Mod_look_65 : decode prog_9_method_53_code 65 = .ok (.aload_n 0, 1) := by decide +kernel
theorem d_Mod_look_66 : decode prog_9_method_53_code 66 = .ok (.getfield 32, 3) := by decide +kernel
theorem d_Mod_look_69 : decode prog_9_method_53_code 69 = .ok (.iload 4, 2) := by decide +kernel
theorem d_Mod_look_71 : decode prog_9_method_53_code 71 = .ok (.iaload, 1) := by decide +kernel
theorem d_Mod_look_72 : decode prog_9_method_53_code 72 = .ok (.istore 4, 2) := by decide +kernel
theorem d_Mod_look_74 : decode prog_9_method_53_code 74 = .ok (.iinc 5 1, 3) := by decide +kernel
theorem d_Mod_look_77 : decode prog_9_method_53_code 77 = .ok (.goto (-43), 3) := by decide +kernel
theorem d_Mod_look_80 : decode prog_9_method_53_code 80 = .ok (.iload 4, 2) := by decide +kernel
theorem d_Mod_look_82 : decode prog_9_method_53_code 82 = .ok (.ifCond .ge 7, 3) := by decide +kernel
theorem d_Mod_look_85 : decode prog_9_method_53_code 85 = .ok (.iconst 0, 1) := by decide +kernel
theorem d_Mod_look_86 : decode prog_9_method_53_code 86 = .ok (.goto 10, 3) := by decide +kernel
theorem d_Mod_look_89 : decode prog_9_method_53_code 89 = .ok (.aload_n 0, 1) := by decide +kernel
theorem d_Mod_look_90 : decode prog_9_method_53_code 90 = .ok (.getfield 29, 3) := by decide +kernel
theorem d_Mod_look_93 : decode prog_9_method_53_code 93 = .ok (.iload 4, 2) := by decide +kernel
theorem d_Mod_look_95 : decode prog_9_method_53_code 95 = .ok (.iaload, 1) := by decide +kernel
theorem d_Mod_look_96 : decode prog_9_method_53_code 96 = .ok (.ireturn, 1) := by decide +kernel
