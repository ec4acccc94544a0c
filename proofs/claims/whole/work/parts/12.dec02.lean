theorem dX7_chosen_1 : decode cX7_chosen 1 = .ok (.istore_n 2, 1) := by decide +kernel
theorem dX7_chosen_2 : decode cX7_chosen 2 = .ok (.iload_n 2, 1) := by decide +kernel
theorem dX7_chosen_3 : decode cX7_chosen 3 = .ok (.aload_n 0, 1) := by decide +kernel
theorem dX7_chosen_4 : decode cX7_chosen 4 = .ok (.getfield 22, 3) := by decide +kernel
theorem dX7_chosen_7 : decode cX7_chosen 7 = .ok (.if_icmp .ge 24, 3) := by decide +kernel
theorem dX7_chosen_10 : decode cX7_chosen 10 = .ok (.aload_n 0, 1) := by decide +kernel
theorem dX7_chosen_11 : decode cX7_chosen 11 = .ok (.getfield 11, 3) := by decide +kernel
theorem dX7_chosen_14 : decode cX7_chosen 14 = .ok (.iload_n 2, 1) := by decide +kernel
theorem dX7_chosen_15 : decode cX7_chosen 15 = .ok (.aaload, 1) := by decide +kernel
theorem dX7_chosen_16 : decode cX7_chosen 16 = .ok (.aload_n 1, 1) := by decide +kernel
theorem dX7_chosen_17 : decode cX7_chosen 17 = .ok (.invokevirtual 28, 3) := by decide +kernel
theorem dX7_chosen_20 : decode cX7_chosen 20 = .ok (.ifCond .eq 5, 3) := by decide +kernel
theorem dX7_chosen_23 : decode cX7_chosen 23 = .ok (.iload_n 2, 1) := by decide +kernel
theorem dX7_chosen_24 : decode cX7_chosen 24 = .ok (.ireturn, 1) := by decide +kernel
theorem dX7_chosen_25 : decode cX7_chosen 25 = .ok (.iinc 2 1, 3) := by decide +kernel
theorem dX7_chosen_28 : decode cX7_chosen 28 = .ok (.goto (-26), 3) := by decide +kernel
theorem dX7_chosen_31 : decode cX7_chosen 31 = .ok (.iconst (-1), 1) := by decide +kernel
theorem dX7_chosen_32 : decode cX7_chosen 32 = .ok (.ireturn, 1) := by decide +kernel
theorem dX7_step_0 : decode cX7_step 0 = .ok (.aload_n 0, 1) := by decide +kernel
theorem dX7_step_1 : decode cX7_step 1 = .ok (.aload_n 1, 1) := by decide +kernel
theorem dX7_step_2 : decode cX7_step 2 = .ok (.invokevirtual 32, 3) := by decide +kernel
theorem dX7_step_5 : decode cX7_step 5 = .ok (.istore_n 2, 1) := by decide +kernel
theorem dX7_step_6 : decode cX7_step 6 = .ok (.iload_n 2, 1) := by decide +kernel
theorem dX7_step_7 : decode cX7_step 7 = .ok (.ifCond .ge 5, 3) := by decide +kernel
theorem dX7_step_10 : decode cX7_step 10 = .ok (.iconst 1, 1) := by decide +kernel
theorem dX7_step_11 : decode cX7_step 11 = .ok (.ireturn, 1) := by decide +kernel
theorem dX7_step_12 : decode cX7_step 12 = .ok (.aload_n 0, 1) := by decide +kernel
theorem dX7_step_13 : decode cX7_step 13 = .ok (.getfield 11, 3) := by decide +kernel
theorem dX7_step_16 : decode cX7_step 16 = .ok (.iload_n 2, 1) := by decide +kernel
theorem dX7_step_17 : decode cX7_step 17 = .ok (.aaload, 1) := by decide +kernel
theorem dX7_step_18 : decode cX7_step 18 = .ok (.aload_n 1, 1) := by decide +kernel
theorem dX7_step_19 : decode cX7_step 19 = .ok (.invokevirtual 36, 3) := by decide +kernel
theorem dX7_step_22 : decode cX7_step 22 = .ok (.ifCond .eq 7, 3) := by decide +kernel
theorem dX7_step_25 : decode cX7_step 25 = .ok (.iconst 0, 1) := by decide +kernel
theorem dX7_step_26 : decode cX7_step 26 = .ok (.goto 4, 3) := by decide +kernel
theorem dX7_step_29 : decode cX7_step 29 = .ok (.iconst 2, 1) := by decide +kernel
theorem dX7_step_30 : decode cX7_step 30 = .ok (.ireturn, 1) := by decide +kernel
theorem dX11_run_0 : decode cX11_run 0 = .ok (.iload_n 1, 1) := by decide +kernel
theorem dX11_run_1 : decode cX11_run 1 = .ok (.invokestatic 143, 3) := by decide +kernel
theorem dX11_run_4 : decode cX11_run 4 = .ok (.ifCond .ne 5, 3) := by decide +kernel
theorem dX11_run_7 : decode cX11_run 7 = .ok (.iconst (-1), 1) := by decide +kernel
theorem dX11_run_8 : decode cX11_run 8 = .ok (.ireturn, 1) := by decide +kernel
theorem dX11_run_9 : decode cX11_run 9 = .ok (.iconst 0, 1) := by decide +kernel
theorem dX11_run_10 : decode cX11_run 10 = .ok (.istore_n 2, 1) := by decide +kernel
theorem dX11_run_11 : decode cX11_run 11 = .ok (.iload_n 2, 1) := by decide +kernel
theorem dX11_run_12 : decode cX11_run 12 = .ok (.iload_n 1, 1) := by decide +kernel
theorem dX11_run_13 : decode cX11_run 13 = .ok (.if_icmp .ge 37, 3) := by decide +kernel
theorem dX11_run_16 : decode cX11_run 16 = .ok (.aload_n 0, 1) := by decide +kernel
theorem dX11_run_17 : decode cX11_run 17 = .ok (.getfield 10, 3) := by decide +kernel
theorem dX11_run_20 : decode cX11_run 20 = .ok (.aload_n 0, 1) := by decide +kernel
theorem dX11_run_21 : decode cX11_run 21 = .ok (.getfield 16, 3) := by decide +kernel
theorem dX11_run_24 : decode cX11_run 24 = .ok (.invokevirtual 146, 3) := by decide +kernel
theorem dX11_run_27 : decode cX11_run 27 = .ok (.istore_n 3, 1) := by decide +kernel
theorem dX11_run_28 : decode cX11_run 28 = .ok (.iload_n 3, 1) := by decide +kernel
theorem dX11_run_29 : decode cX11_run 29 = .ok (.ifCond .eq 15, 3) := by decide +kernel
theorem dX11_run_32 : decode cX11_run 32 = .ok (.iload_n 3, 1) := by decide +kernel
theorem dX11_run_33 : decode cX11_run 33 = .ok (.iconst 2, 1) := by decide +kernel
theorem dX11_run_34 : decode cX11_run 34 = .ok (.if_icmp .ne 8, 3) := by decide +kernel
theorem dX11_run_37 : decode cX11_run 37 = .ok (.bipush (-4), 2) := by decide +kernel
theorem dX11_run_39 : decode cX11_run 39 = .ok (.goto 4, 3) := by decide +kernel
theorem dX11_run_42 : decode cX11_run 42 = .ok (.iload_n 2, 1) := by decide +kernel
theorem dX11_run_43 : decode cX11_run 43 = .ok (.ireturn, 1) := by decide +kernel
theorem dX11_run_44 : decode cX11_run 44 = .ok (.iinc 2 1, 3) := by decide +kernel
theorem dX11_run_47 : decode cX11_run 47 = .ok (.goto (-36), 3) := by decide +kernel
theorem dX11_run_50 : decode cX11_run 50 = .ok (.iload_n 1, 1) := by decide +kernel
theorem dX11_run_51 : decode cX11_run 51 = .ok (.ireturn, 1) := by decide +kernel
theorem dX11_turn_0 : decode cX11_turn 0 = .ok (.aload_n 0, 1) := by decide +kernel
theorem dX11_turn_1 : decode cX11_turn 1 = .ok (.getfield 10, 3) := by decide +kernel
theorem dX11_turn_4 : decode cX11_turn 4 = .ok (.aload_n 0, 1) := by decide +kernel
theorem dX11_turn_5 : decode cX11_turn 5 = .ok (.getfield 16, 3) := by decide +kernel
theorem dX11_turn_8 : decode cX11_turn 8 = .ok (.invokevirtual 150, 3) := by decide +kernel
theorem dX11_turn_11 : decode cX11_turn 11 = .ok (.ireturn, 1) := by decide +kernel
theorem dX4_copy_0 : decode cX4_copy 0 = .ok (.aload_n 0, 1) := by decide +kernel
theorem dX4_copy_1 : decode cX4_copy 1 = .ok (.iconst 0, 1) := by decide +kernel
theorem dX4_copy_2 : decode cX4_copy 2 = .ok (.aload_n 1, 1) := by decide +kernel
theorem dX4_copy_3 : decode cX4_copy 3 = .ok (.iconst 0, 1) := by decide +kernel
theorem dX4_copy_4 : decode cX4_copy 4 = .ok (.iconst 3, 1) := by decide +kernel
theorem dX4_copy_5 : decode cX4_copy 5 = .ok (.invokestatic 44, 3) := by decide +kernel
theorem dX4_copy_8 : decode cX4_copy 8 = .ok (.return_, 1) := by decide +kernel
theorem dX4_isSame_0 : decode cX4_isSame 0 = .ok (.aload_n 0, 1) := by decide +kernel
theorem dX4_isSame_1 : decode cX4_isSame 1 = .ok (.getfield 9, 3) := by decide +kernel
theorem dX4_isSame_4 : decode cX4_isSame 4 = .ok (.iconst 0, 1) := by decide +kernel
theorem dX4_isSame_5 : decode cX4_isSame 5 = .ok (.laload, 1) := by decide +kernel
theorem dX4_isSame_6 : decode cX4_isSame 6 = .ok (.aload_n 0, 1) := by decide +kernel
theorem dX4_isSame_7 : decode cX4_isSame 7 = .ok (.getfield 15, 3) := by decide +kernel
theorem dX4_isSame_10 : decode cX4_isSame 10 = .ok (.iconst 0, 1) := by decide +kernel
theorem dX4_isSame_11 : decode cX4_isSame 11 = .ok (.laload, 1) := by decide +kernel
theorem dX4_isSame_12 : decode cX4_isSame 12 = .ok (.lcmp, 1) := by decide +kernel
theorem dX4_isSame_13 : decode cX4_isSame 13 = .ok (.ifCond .ne 39, 3) := by decide +kernel
theorem dX4_isSame_16 : decode cX4_isSame 16 = .ok (.aload_n 0, 1) := by decide +kernel
theorem dX4_isSame_17 : decode cX4_isSame 17 = .ok (.getfield 9, 3) := by decide +kernel
theorem dX4_isSame_20 : decode cX4_isSame 20 = .ok (.iconst 1, 1) := by decide +kernel
theorem dX4_isSame_21 : decode cX4_isSame 21 = .ok (.laload, 1) := by decide +kernel
theorem dX4_isSame_22 : decode cX4_isSame 22 = .ok (.aload_n 0, 1) := by decide +kernel
theorem dX4_isSame_23 : decode cX4_isSame 23 = .ok (.getfield 15, 3) := by decide +kernel
theorem dX4_isSame_26 : decode cX4_isSame 26 = .ok (.iconst 1, 1) := by decide +kernel
theorem dX4_isSame_27 : decode cX4_isSame 27 = .ok (.laload, 1) := by decide +kernel
theorem dX4_isSame_28 : decode cX4_isSame 28 = .ok (.lcmp, 1) := by decide +kernel
theorem dX4_isSame_29 : decode cX4_isSame 29 = .ok (.ifCond .ne 23, 3) := by decide +kernel
theorem dX4_isSame_32 : decode cX4_isSame 32 = .ok (.aload_n 0, 1) := by decide +kernel
theorem dX4_isSame_33 : decode cX4_isSame 33 = .ok (.getfield 9, 3) := by decide +kernel
theorem dX4_isSame_36 : decode cX4_isSame 36 = .ok (.iconst 2, 1) := by decide +kernel
theorem dX4_isSame_37 : decode cX4_isSame 37 = .ok (.laload, 1) := by decide +kernel
theorem dX4_isSame_38 : decode cX4_isSame 38 = .ok (.aload_n 0, 1) := by decide +kernel
theorem dX4_isSame_39 : decode cX4_isSame 39 = .ok (.getfield 15, 3) := by decide +kernel
theorem dX4_isSame_42 : decode cX4_isSame 42 = .ok (.iconst 2, 1) := by decide +kernel
theorem dX4_isSame_43 : decode cX4_isSame 43 = .ok (.laload, 1) := by decide +kernel
theorem dX4_isSame_44 : decode cX4_isSame 44 = .ok (.lcmp, 1) := by decide +kernel
theorem dX4_isSame_45 : decode cX4_isSame 45 = .ok (.ifCond .ne 7, 3) := by decide +kernel
theorem dX4_isSame_48 : decode cX4_isSame 48 = .ok (.iconst 1, 1) := by decide +kernel
theorem dX4_isSame_49 : decode cX4_isSame 49 = .ok (.goto 4, 3) := by decide +kernel
theorem dX4_isSame_52 : decode cX4_isSame 52 = .ok (.iconst 0, 1) := by decide +kernel
theorem dX4_isSame_53 : decode cX4_isSame 53 = .ok (.ireturn, 1) := by decide +kernel
theorem dX4_lengthWithin_0 : decode cX4_lengthWithin 0 = .ok (.aload_n 2, 1) := by decide +kernel
theorem dX4_lengthWithin_1 : decode cX4_lengthWithin 1 = .ok (.aload_n 0, 1) := by decide +kernel
theorem dX4_lengthWithin_2 : decode cX4_lengthWithin 2 = .ok (.getfield 9, 3) := by decide +kernel
theorem dX4_lengthWithin_5 : decode cX4_lengthWithin 5 = .ok (.invokestatic 30, 3) := by decide +kernel
theorem dX4_lengthWithin_8 : decode cX4_lengthWithin 8 = .ok (.aload_n 2, 1) := by decide +kernel
theorem dX4_lengthWithin_9 : decode cX4_lengthWithin 9 = .ok (.aload_n 0, 1) := by decide +kernel
theorem dX4_lengthWithin_10 : decode cX4_lengthWithin 10 = .ok (.getfield 15, 3) := by decide +kernel
theorem dX4_lengthWithin_13 : decode cX4_lengthWithin 13 = .ok (.invokestatic 30, 3) := by decide +kernel
theorem dX4_lengthWithin_16 : decode cX4_lengthWithin 16 = .ok (.iconst 0, 1) := by decide +kernel
theorem dX4_lengthWithin_17 : decode cX4_lengthWithin 17 = .ok (.istore 4, 2) := by decide +kernel
theorem dX4_lengthWithin_19 : decode cX4_lengthWithin 19 = .ok (.iconst 1, 1) := by decide +kernel
theorem dX4_lengthWithin_20 : decode cX4_lengthWithin 20 = .ok (.istore 5, 2) := by decide +kernel
theorem dX4_lengthWithin_22 : decode cX4_lengthWithin 22 = .ok (.iload 5, 2) := by decide +kernel
theorem dX4_lengthWithin_24 : decode cX4_lengthWithin 24 = .ok (.iconst 2, 1) := by decide +kernel
theorem dX4_lengthWithin_25 : decode cX4_lengthWithin 25 = .ok (.iload_n 3, 1) := by decide +kernel
theorem dX4_lengthWithin_26 : decode cX4_lengthWithin 26 = .ok (.imul, 1) := by decide +kernel
theorem dX4_lengthWithin_27 : decode cX4_lengthWithin 27 = .ok (.if_icmp .gt 93, 3) := by decide +kernel
theorem dX4_lengthWithin_30 : decode cX4_lengthWithin 30 = .ok (.aload_n 1, 1) := by decide +kernel
theorem dX4_lengthWithin_31 : decode cX4_lengthWithin 31 = .ok (.aload_n 0, 1) := by decide +kernel
theorem dX4_lengthWithin_32 : decode cX4_lengthWithin 32 = .ok (.getfield 9, 3) := by decide +kernel
theorem dX4_lengthWithin_35 : decode cX4_lengthWithin 35 = .ok (.invokevirtual 34, 3) := by decide +kernel
theorem dX4_lengthWithin_38 : decode cX4_lengthWithin 38 = .ok (.istore 6, 2) := by decide +kernel
theorem dX4_lengthWithin_40 : decode cX4_lengthWithin 40 = .ok (.iload 6, 2) := by decide +kernel
theorem dX4_lengthWithin_42 : decode cX4_lengthWithin 42 = .ok (.ifCond .eq 22, 3) := by decide +kernel
theorem dX4_lengthWithin_45 : decode cX4_lengthWithin 45 = .ok (.iload 6, 2) := by decide +kernel
theorem dX4_lengthWithin_47 : decode cX4_lengthWithin 47 = .ok (.iconst 2, 1) := by decide +kernel
theorem dX4_lengthWithin_48 : decode cX4_lengthWithin 48 = .ok (.if_icmp .ne 14, 3) := by decide +kernel
theorem dX4_lengthWithin_51 : decode cX4_lengthWithin 51 = .ok (.iload 5, 2) := by decide +kernel
theorem dX4_lengthWithin_53 : decode cX4_lengthWithin 53 = .ok (.iload_n 3, 1) := by decide +kernel
theorem dX4_lengthWithin_54 : decode cX4_lengthWithin 54 = .ok (.if_icmp .gt 8, 3) := by decide +kernel
theorem dX4_lengthWithin_57 : decode cX4_lengthWithin 57 = .ok (.bipush (-4), 2) := by decide +kernel
theorem dX4_lengthWithin_59 : decode cX4_lengthWithin 59 = .ok (.goto 4, 3) := by decide +kernel
theorem dX4_lengthWithin_62 : decode cX4_lengthWithin 62 = .ok (.iconst 0, 1) := by decide +kernel
theorem dX4_lengthWithin_63 : decode cX4_lengthWithin 63 = .ok (.ireturn, 1) := by decide +kernel
theorem dX4_lengthWithin_64 : decode cX4_lengthWithin 64 = .ok (.aload_n 0, 1) := by decide +kernel
theorem dX4_lengthWithin_65 : decode cX4_lengthWithin 65 = .ok (.invokevirtual 40, 3) := by decide +kernel
theorem dX4_lengthWithin_68 : decode cX4_lengthWithin 68 = .ok (.ifCond .eq 9, 3) := by decide +kernel
theorem dX4_lengthWithin_71 : decode cX4_lengthWithin 71 = .ok (.iload 5, 2) := by decide +kernel
theorem dX4_lengthWithin_73 : decode cX4_lengthWithin 73 = .ok (.iload 4, 2) := by decide +kernel
theorem dX4_lengthWithin_75 : decode cX4_lengthWithin 75 = .ok (.isub, 1) := by decide +kernel
theorem dX4_lengthWithin_76 : decode cX4_lengthWithin 76 = .ok (.ireturn, 1) := by decide +kernel
theorem dX4_lengthWithin_77 : decode cX4_lengthWithin 77 = .ok (.iload 5, 2) := by decide +kernel
theorem dX4_lengthWithin_79 : decode cX4_lengthWithin 79 = .ok (.iload_n 3, 1) := by decide +kernel
theorem dX4_lengthWithin_80 : decode cX4_lengthWithin 80 = .ok (.if_icmp .eq 19, 3) := by decide +kernel
theorem dX4_lengthWithin_83 : decode cX4_lengthWithin 83 = .ok (.iload 5, 2) := by decide +kernel
theorem dX4_lengthWithin_85 : decode cX4_lengthWithin 85 = .ok (.iload_n 3, 1) := by decide +kernel
theorem dX4_lengthWithin_86 : decode cX4_lengthWithin 86 = .ok (.if_icmp .ge 28, 3) := by decide +kernel
theorem dX4_lengthWithin_89 : decode cX4_lengthWithin 89 = .ok (.iload 5, 2) := by decide +kernel
theorem dX4_lengthWithin_91 : decode cX4_lengthWithin 91 = .ok (.iload 5, 2) := by decide +kernel
theorem dX4_lengthWithin_93 : decode cX4_lengthWithin 93 = .ok (.iconst 1, 1) := by decide +kernel
theorem dX4_lengthWithin_94 : decode cX4_lengthWithin 94 = .ok (.isub, 1) := by decide +kernel
theorem dX4_lengthWithin_95 : decode cX4_lengthWithin 95 = .ok (.iand, 1) := by decide +kernel
theorem dX4_lengthWithin_96 : decode cX4_lengthWithin 96 = .ok (.ifCond .ne 18, 3) := by decide +kernel
theorem dX4_lengthWithin_99 : decode cX4_lengthWithin 99 = .ok (.aload_n 0, 1) := by decide +kernel
theorem dX4_lengthWithin_100 : decode cX4_lengthWithin 100 = .ok (.getfield 9, 3) := by decide +kernel
theorem dX4_lengthWithin_103 : decode cX4_lengthWithin 103 = .ok (.aload_n 0, 1) := by decide +kernel
theorem dX4_lengthWithin_104 : decode cX4_lengthWithin 104 = .ok (.getfield 15, 3) := by decide +kernel
theorem dX4_lengthWithin_107 : decode cX4_lengthWithin 107 = .ok (.invokestatic 30, 3) := by decide +kernel
theorem dX4_lengthWithin_110 : decode cX4_lengthWithin 110 = .ok (.iload 5, 2) := by decide +kernel
theorem dX4_lengthWithin_112 : decode cX4_lengthWithin 112 = .ok (.istore 4, 2) := by decide +kernel
theorem dX4_lengthWithin_114 : decode cX4_lengthWithin 114 = .ok (.iinc 5 1, 3) := by decide +kernel
theorem dX4_lengthWithin_117 : decode cX4_lengthWithin 117 = .ok (.goto (-95), 3) := by decide +kernel
theorem dX4_lengthWithin_120 : decode cX4_lengthWithin 120 = .ok (.iconst 0, 1) := by decide +kernel
theorem dX4_lengthWithin_121 : decode cX4_lengthWithin 121 = .ok (.ireturn, 1) := by decide +kernel
theorem dX4_leadOf_0 : decode cX4_leadOf 0 = .ok (.aload_n 2, 1) := by decide +kernel
theorem dX4_leadOf_1 : decode cX4_leadOf 1 = .ok (.aload_n 0, 1) := by decide +kernel
theorem dX4_leadOf_2 : decode cX4_leadOf 2 = .ok (.getfield 9, 3) := by decide +kernel
theorem dX4_leadOf_5 : decode cX4_leadOf 5 = .ok (.invokestatic 30, 3) := by decide +kernel
theorem dX4_leadOf_8 : decode cX4_leadOf 8 = .ok (.aload_n 2, 1) := by decide +kernel
theorem dX4_leadOf_9 : decode cX4_leadOf 9 = .ok (.aload_n 0, 1) := by decide +kernel
theorem dX4_leadOf_10 : decode cX4_leadOf 10 = .ok (.getfield 15, 3) := by decide +kernel
theorem dX4_leadOf_13 : decode cX4_leadOf 13 = .ok (.invokestatic 30, 3) := by decide +kernel
theorem dX4_leadOf_16 : decode cX4_leadOf 16 = .ok (.iconst 0, 1) := by decide +kernel
theorem dX4_leadOf_17 : decode cX4_leadOf 17 = .ok (.istore 5, 2) := by decide +kernel
theorem dX4_leadOf_19 : decode cX4_leadOf 19 = .ok (.iload 5, 2) := by decide +kernel
theorem dX4_leadOf_21 : decode cX4_leadOf 21 = .ok (.iload_n 3, 1) := by decide +kernel
theorem dX4_leadOf_22 : decode cX4_leadOf 22 = .ok (.if_icmp .ge 18, 3) := by decide +kernel
theorem dX4_leadOf_25 : decode cX4_leadOf 25 = .ok (.aload_n 1, 1) := by decide +kernel
theorem dX4_leadOf_26 : decode cX4_leadOf 26 = .ok (.aload_n 0, 1) := by decide +kernel
theorem dX4_leadOf_27 : decode cX4_leadOf 27 = .ok (.getfield 9, 3) := by decide +kernel
theorem dX4_leadOf_30 : decode cX4_leadOf 30 = .ok (.invokevirtual 34, 3) := by decide +kernel
theorem dX4_leadOf_33 : decode cX4_leadOf 33 = .ok (.pop, 1) := by decide +kernel
theorem dX4_leadOf_34 : decode cX4_leadOf 34 = .ok (.iinc 5 1, 3) := by decide +kernel
theorem dX4_leadOf_37 : decode cX4_leadOf 37 = .ok (.goto (-18), 3) := by decide +kernel
theorem dX4_leadOf_40 : decode cX4_leadOf 40 = .ok (.iconst 0, 1) := by decide +kernel
theorem dX4_leadOf_41 : decode cX4_leadOf 41 = .ok (.istore 5, 2) := by decide +kernel
theorem dX4_leadOf_43 : decode cX4_leadOf 43 = .ok (.iload 5, 2) := by decide +kernel
theorem dX4_leadOf_45 : decode cX4_leadOf 45 = .ok (.iload 4, 2) := by decide +kernel
theorem dX4_leadOf_47 : decode cX4_leadOf 47 = .ok (.if_icmp .gt 37, 3) := by decide +kernel
theorem dX4_leadOf_50 : decode cX4_leadOf 50 = .ok (.aload_n 0, 1) := by decide +kernel
theorem dX4_leadOf_51 : decode cX4_leadOf 51 = .ok (.invokevirtual 40, 3) := by decide +kernel
theorem dX4_leadOf_54 : decode cX4_leadOf 54 = .ok (.ifCond .eq 6, 3) := by decide +kernel
theorem dX4_leadOf_57 : decode cX4_leadOf 57 = .ok (.iload 5, 2) := by decide +kernel
theorem dX4_leadOf_59 : decode cX4_leadOf 59 = .ok (.ireturn, 1) := by decide +kernel
theorem dX4_leadOf_60 : decode cX4_leadOf 60 = .ok (.aload_n 1, 1) := by decide +kernel
theorem dX4_leadOf_61 : decode cX4_leadOf 61 = .ok (.aload_n 0, 1) := by decide +kernel
theorem dX4_leadOf_62 : decode cX4_leadOf 62 = .ok (.getfield 9, 3) := by decide +kernel
theorem dX4_leadOf_65 : decode cX4_leadOf 65 = .ok (.invokevirtual 34, 3) := by decide +kernel
theorem dX4_leadOf_68 : decode cX4_leadOf 68 = .ok (.pop, 1) := by decide +kernel
theorem dX4_leadOf_69 : decode cX4_leadOf 69 = .ok (.aload_n 1, 1) := by decide +kernel
theorem dX4_leadOf_70 : decode cX4_leadOf 70 = .ok (.aload_n 0, 1) := by decide +kernel
theorem dX4_leadOf_71 : decode cX4_leadOf 71 = .ok (.getfield 15, 3) := by decide +kernel
theorem dX4_leadOf_74 : decode cX4_leadOf 74 = .ok (.invokevirtual 34, 3) := by decide +kernel
theorem dX4_leadOf_77 : decode cX4_leadOf 77 = .ok (.pop, 1) := by decide +kernel
theorem dX4_leadOf_78 : decode cX4_leadOf 78 = .ok (.iinc 5 1, 3) := by decide +kernel
theorem dX4_leadOf_81 : decode cX4_leadOf 81 = .ok (.goto (-38), 3) := by decide +kernel
theorem dX4_leadOf_84 : decode cX4_leadOf 84 = .ok (.iconst (-1), 1) := by decide +kernel
theorem dX4_leadOf_85 : decode cX4_leadOf 85 = .ok (.ireturn, 1) := by decide +kernel
theorem dX4_findRing_0 : decode cX4_findRing 0 = .ok (.aload_n 0, 1) := by decide +kernel
theorem dX4_findRing_1 : decode cX4_findRing 1 = .ok (.aload_n 1, 1) := by decide +kernel
theorem dX4_findRing_2 : decode cX4_findRing 2 = .ok (.aload_n 2, 1) := by decide +kernel
theorem dX4_findRing_3 : decode cX4_findRing 3 = .ok (.iload_n 3, 1) := by decide +kernel
theorem dX4_findRing_4 : decode cX4_findRing 4 = .ok (.invokevirtual 22, 3) := by decide +kernel
theorem dX4_findRing_7 : decode cX4_findRing 7 = .ok (.istore 4, 2) := by decide +kernel
theorem dX4_findRing_9 : decode cX4_findRing 9 = .ok (.iload 4, 2) := by decide +kernel
theorem dX4_findRing_11 : decode cX4_findRing 11 = .ok (.ifCond .gt 6, 3) := by decide +kernel
theorem dX4_findRing_14 : decode cX4_findRing 14 = .ok (.iload 4, 2) := by decide +kernel
theorem dX4_findRing_16 : decode cX4_findRing 16 = .ok (.ireturn, 1) := by decide +kernel
theorem dX4_findRing_17 : decode cX4_findRing 17 = .ok (.aload_n 0, 1) := by decide +kernel
theorem dX4_findRing_18 : decode cX4_findRing 18 = .ok (.aload_n 1, 1) := by decide +kernel
theorem dX4_findRing_19 : decode cX4_findRing 19 = .ok (.aload_n 2, 1) := by decide +kernel
theorem dX4_findRing_20 : decode cX4_findRing 20 = .ok (.iload 4, 2) := by decide +kernel
theorem dX4_findRing_22 : decode cX4_findRing 22 = .ok (.iload_n 3, 1) := by decide +kernel
theorem dX4_findRing_23 : decode cX4_findRing 23 = .ok (.iload 4, 2) := by decide +kernel
theorem dX4_findRing_25 : decode cX4_findRing 25 = .ok (.isub, 1) := by decide +kernel
theorem dX4_findRing_26 : decode cX4_findRing 26 = .ok (.invokevirtual 26, 3) := by decide +kernel
theorem dX4_findRing_29 : decode cX4_findRing 29 = .ok (.istore 5, 2) := by decide +kernel
theorem dX4_findRing_31 : decode cX4_findRing 31 = .ok (.iload 5, 2) := by decide +kernel
theorem dX4_findRing_33 : decode cX4_findRing 33 = .ok (.ifCond .ge 5, 3) := by decide +kernel
theorem dX4_findRing_36 : decode cX4_findRing 36 = .ok (.iconst 0, 1) := by decide +kernel
theorem dX4_findRing_37 : decode cX4_findRing 37 = .ok (.ireturn, 1) := by decide +kernel
theorem dX4_findRing_38 : decode cX4_findRing 38 = .ok (.aload_n 0, 1) := by decide +kernel
theorem dX4_findRing_39 : decode cX4_findRing 39 = .ok (.iload 5, 2) := by decide +kernel
theorem dX4_findRing_41 : decode cX4_findRing 41 = .ok (.putfield 18, 3) := by decide +kernel
theorem dX4_findRing_44 : decode cX4_findRing 44 = .ok (.iload 4, 2) := by decide +kernel
theorem dX4_findRing_46 : decode cX4_findRing 46 = .ok (.ireturn, 1) := by decide +kernel
theorem dX11_ring_0 : decode cX11_ring 0 = .ok (.iload_n 1, 1) := by decide +kernel
theorem dX11_ring_1 : decode cX11_ring 1 = .ok (.invokestatic 143, 3) := by decide +kernel
theorem dX11_ring_4 : decode cX11_ring 4 = .ok (.ifCond .eq 22, 3) := by decide +kernel
theorem dX11_ring_7 : decode cX11_ring 7 = .ok (.aload_n 0, 1) := by decide +kernel
theorem dX11_ring_8 : decode cX11_ring 8 = .ok (.getfield 23, 3) := by decide +kernel
theorem dX11_ring_11 : decode cX11_ring 11 = .ok (.aload_n 0, 1) := by decide +kernel
theorem dX11_ring_12 : decode cX11_ring 12 = .ok (.getfield 10, 3) := by decide +kernel
theorem dX11_ring_15 : decode cX11_ring 15 = .ok (.aload_n 0, 1) := by decide +kernel
theorem dX11_ring_16 : decode cX11_ring 16 = .ok (.getfield 16, 3) := by decide +kernel
theorem dX11_ring_19 : decode cX11_ring 19 = .ok (.iload_n 1, 1) := by decide +kernel
theorem dX11_ring_20 : decode cX11_ring 20 = .ok (.invokevirtual 153, 3) := by decide +kernel
theorem dX11_ring_23 : decode cX11_ring 23 = .ok (.goto 4, 3) := by decide +kernel
theorem dX11_ring_26 : decode cX11_ring 26 = .ok (.iconst (-1), 1) := by decide +kernel
theorem dX11_ring_27 : decode cX11_ring 27 = .ok (.ireturn, 1) := by decide +kernel
theorem dX11_ahead_0 : decode cX11_ahead 0 = .ok (.aload_n 0, 1) := by decide +kernel
theorem dX11_ahead_1 : decode cX11_ahead 1 = .ok (.getfield 23, 3) := by decide +kernel
theorem dX11_ahead_4 : decode cX11_ahead 4 = .ok (.getfield 157, 3) := by decide +kernel
theorem dX11_ahead_7 : decode cX11_ahead 7 = .ok (.ireturn, 1) := by decide +kernel
theorem dX11_ask_0 : decode cX11_ask 0 = .ok (.aload_n 0, 1) := by decide +kernel
theorem dX11_ask_1 : decode cX11_ask 1 = .ok (.getfield 58, 3) := by decide +kernel
theorem dX11_ask_4 : decode cX11_ask 4 = .ok (.iconst 0, 1) := by decide +kernel
theorem dX11_ask_5 : decode cX11_ask 5 = .ok (.iload_n 1, 1) := by decide +kernel
theorem dX11_ask_6 : decode cX11_ask 6 = .ok (.iastore, 1) := by decide +kernel
theorem dX11_ask_7 : decode cX11_ask 7 = .ok (.aload_n 0, 1) := by decide +kernel
theorem dX11_ask_8 : decode cX11_ask 8 = .ok (.getfield 58, 3) := by decide +kernel
theorem dX11_ask_11 : decode cX11_ask 11 = .ok (.iconst 1, 1) := by decide +kernel
theorem dX11_ask_12 : decode cX11_ask 12 = .ok (.iload_n 2, 1) := by decide +kernel
theorem dX11_ask_13 : decode cX11_ask 13 = .ok (.iastore, 1) := by decide +kernel
theorem dX11_ask_14 : decode cX11_ask 14 = .ok (.aload_n 0, 1) := by decide +kernel
theorem dX11_ask_15 : decode cX11_ask 15 = .ok (.getfield 58, 3) := by decide +kernel
theorem dX11_ask_18 : decode cX11_ask 18 = .ok (.iconst 2, 1) := by decide +kernel
theorem dX11_ask_19 : decode cX11_ask 19 = .ok (.iload_n 3, 1) := by decide +kernel
theorem dX11_ask_20 : decode cX11_ask 20 = .ok (.iastore, 1) := by decide +kernel
theorem dX11_ask_21 : decode cX11_ask 21 = .ok (.iconst 0, 1) := by decide +kernel
theorem dX11_ask_22 : decode cX11_ask 22 = .ok (.istore 4, 2) := by decide +kernel
theorem dX11_ask_24 : decode cX11_ask 24 = .ok (.iload 4, 2) := by decide +kernel
theorem dX11_ask_26 : decode cX11_ask 26 = .ok (.iconst 3, 1) := by decide +kernel
theorem dX11_ask_27 : decode cX11_ask 27 = .ok (.if_icmp .ge 59, 3) := by decide +kernel
theorem dX11_ask_30 : decode cX11_ask 30 = .ok (.aload_n 0, 1) := by decide +kernel
theorem dX11_ask_31 : decode cX11_ask 31 = .ok (.getfield 58, 3) := by decide +kernel
theorem dX11_ask_34 : decode cX11_ask 34 = .ok (.iload 4, 2) := by decide +kernel
theorem dX11_ask_36 : decode cX11_ask 36 = .ok (.iaload, 1) := by decide +kernel
theorem dX11_ask_37 : decode cX11_ask 37 = .ok (.bipush (-100), 2) := by decide +kernel
theorem dX11_ask_39 : decode cX11_ask 39 = .ok (.if_icmp .lt 15, 3) := by decide +kernel
theorem dX11_ask_42 : decode cX11_ask 42 = .ok (.aload_n 0, 1) := by decide +kernel
theorem dX11_ask_43 : decode cX11_ask 43 = .ok (.getfield 58, 3) := by decide +kernel
theorem dX11_ask_46 : decode cX11_ask 46 = .ok (.iload 4, 2) := by decide +kernel
theorem dX11_ask_48 : decode cX11_ask 48 = .ok (.iaload, 1) := by decide +kernel
theorem dX11_ask_49 : decode cX11_ask 49 = .ok (.bipush 100, 2) := by decide +kernel
theorem dX11_ask_51 : decode cX11_ask 51 = .ok (.if_icmp .le 5, 3) := by decide +kernel
theorem dX11_ask_54 : decode cX11_ask 54 = .ok (.iconst 0, 1) := by decide +kernel
theorem dX11_ask_55 : decode cX11_ask 55 = .ok (.ireturn, 1) := by decide +kernel
theorem dX11_ask_56 : decode cX11_ask 56 = .ok (.iload 4, 2) := by decide +kernel
theorem dX11_ask_58 : decode cX11_ask 58 = .ok (.aload_n 0, 1) := by decide +kernel
theorem dX11_ask_59 : decode cX11_ask 59 = .ok (.getfield 10, 3) := by decide +kernel
theorem dX11_ask_62 : decode cX11_ask 62 = .ok (.getfield 69, 3) := by decide +kernel
theorem dX11_ask_65 : decode cX11_ask 65 = .ok (.if_icmp .lt 15, 3) := by decide +kernel
theorem dX11_ask_68 : decode cX11_ask 68 = .ok (.aload_n 0, 1) := by decide +kernel
theorem dX11_ask_69 : decode cX11_ask 69 = .ok (.getfield 58, 3) := by decide +kernel
theorem dX11_ask_72 : decode cX11_ask 72 = .ok (.iload 4, 2) := by decide +kernel
theorem dX11_ask_74 : decode cX11_ask 74 = .ok (.iaload, 1) := by decide +kernel
theorem dX11_ask_75 : decode cX11_ask 75 = .ok (.ifCond .eq 5, 3) := by decide +kernel
theorem dX11_ask_78 : decode cX11_ask 78 = .ok (.iconst 0, 1) := by decide +kernel
theorem dX11_ask_79 : decode cX11_ask 79 = .ok (.ireturn, 1) := by decide +kernel
theorem dX11_ask_80 : decode cX11_ask 80 = .ok (.iinc 4 1, 3) := by decide +kernel
theorem dX11_ask_83 : decode cX11_ask 83 = .ok (.goto (-59), 3) := by decide +kernel
theorem dX11_ask_86 : decode cX11_ask 86 = .ok (.iconst 1, 1) := by decide +kernel
theorem dX11_ask_87 : decode cX11_ask 87 = .ok (.ireturn, 1) := by decide +kernel
theorem dX9_addPlane_0 : decode cX9_addPlane 0 = .ok (.aload_n 0, 1) := by decide +kernel
theorem dX9_addPlane_1 : decode cX9_addPlane 1 = .ok (.getfield 48, 3) := by decide +kernel
theorem dX9_addPlane_4 : decode cX9_addPlane 4 = .ok (.bipush 12, 2) := by decide +kernel
theorem dX9_addPlane_6 : decode cX9_addPlane 6 = .ok (.if_icmp .lt 4, 3) := by decide +kernel
theorem dX9_addPlane_9 : decode cX9_addPlane 9 = .ok (.return_, 1) := by decide +kernel
theorem dX9_addPlane_10 : decode cX9_addPlane 10 = .ok (.aload_n 0, 1) := by decide +kernel
theorem dX9_addPlane_11 : decode cX9_addPlane 11 = .ok (.getfield 11, 3) := by decide +kernel
theorem dX9_addPlane_14 : decode cX9_addPlane 14 = .ok (.iconst 4, 1) := by decide +kernel
theorem dX9_addPlane_15 : decode cX9_addPlane 15 = .ok (.aload_n 0, 1) := by decide +kernel
theorem dX9_addPlane_16 : decode cX9_addPlane 16 = .ok (.getfield 48, 3) := by decide +kernel
theorem dX9_addPlane_19 : decode cX9_addPlane 19 = .ok (.imul, 1) := by decide +kernel
theorem dX9_addPlane_20 : decode cX9_addPlane 20 = .ok (.lload_n 1, 1) := by decide +kernel
theorem dX9_addPlane_21 : decode cX9_addPlane 21 = .ok (.lastore, 1) := by decide +kernel
theorem dX9_addPlane_22 : decode cX9_addPlane 22 = .ok (.aload_n 0, 1) := by decide +kernel
theorem dX9_addPlane_23 : decode cX9_addPlane 23 = .ok (.getfield 11, 3) := by decide +kernel
theorem dX9_addPlane_26 : decode cX9_addPlane 26 = .ok (.iconst 4, 1) := by decide +kernel
theorem dX9_addPlane_27 : decode cX9_addPlane 27 = .ok (.aload_n 0, 1) := by decide +kernel
theorem dX9_addPlane_28 : decode cX9_addPlane 28 = .ok (.getfield 48, 3) := by decide +kernel
theorem dX9_addPlane_31 : decode cX9_addPlane 31 = .ok (.imul, 1) := by decide +kernel
theorem dX9_addPlane_32 : decode cX9_addPlane 32 = .ok (.iconst 1, 1) := by decide +kernel
theorem dX9_addPlane_33 : decode cX9_addPlane 33 = .ok (.iadd, 1) := by decide +kernel
theorem dX9_addPlane_34 : decode cX9_addPlane 34 = .ok (.lload_n 3, 1) := by decide +kernel
theorem dX9_addPlane_35 : decode cX9_addPlane 35 = .ok (.lastore, 1) := by decide +kernel
theorem dX9_addPlane_36 : decode cX9_addPlane 36 = .ok (.aload_n 0, 1) := by decide +kernel
theorem dX9_addPlane_37 : decode cX9_addPlane 37 = .ok (.getfield 11, 3) := by decide +kernel
theorem dX9_addPlane_40 : decode cX9_addPlane 40 = .ok (.iconst 4, 1) := by decide +kernel
theorem dX9_addPlane_41 : decode cX9_addPlane 41 = .ok (.aload_n 0, 1) := by decide +kernel
theorem dX9_addPlane_42 : decode cX9_addPlane 42 = .ok (.getfield 48, 3) := by decide +kernel
theorem dX9_addPlane_45 : decode cX9_addPlane 45 = .ok (.imul, 1) := by decide +kernel
theorem dX9_addPlane_46 : decode cX9_addPlane 46 = .ok (.iconst 2, 1) := by decide +kernel
theorem dX9_addPlane_47 : decode cX9_addPlane 47 = .ok (.iadd, 1) := by decide +kernel
theorem dX9_addPlane_48 : decode cX9_addPlane 48 = .ok (.lload 5, 2) := by decide +kernel
theorem dX9_addPlane_50 : decode cX9_addPlane 50 = .ok (.lastore, 1) := by decide +kernel
theorem dX9_addPlane_51 : decode cX9_addPlane 51 = .ok (.aload_n 0, 1) := by decide +kernel
theorem dX9_addPlane_52 : decode cX9_addPlane 52 = .ok (.getfield 11, 3) := by decide +kernel
theorem dX9_addPlane_55 : decode cX9_addPlane 55 = .ok (.iconst 4, 1) := by decide +kernel
theorem dX9_addPlane_56 : decode cX9_addPlane 56 = .ok (.aload_n 0, 1) := by decide +kernel
theorem dX9_addPlane_57 : decode cX9_addPlane 57 = .ok (.getfield 48, 3) := by decide +kernel
theorem dX9_addPlane_60 : decode cX9_addPlane 60 = .ok (.imul, 1) := by decide +kernel
theorem dX9_addPlane_61 : decode cX9_addPlane 61 = .ok (.iconst 3, 1) := by decide +kernel
theorem dX9_addPlane_62 : decode cX9_addPlane 62 = .ok (.iadd, 1) := by decide +kernel
theorem dX9_addPlane_63 : decode cX9_addPlane 63 = .ok (.lload 7, 2) := by decide +kernel
theorem dX9_addPlane_65 : decode cX9_addPlane 65 = .ok (.lastore, 1) := by decide +kernel
theorem dX9_addPlane_66 : decode cX9_addPlane 66 = .ok (.aload_n 0, 1) := by decide +kernel
theorem dX9_addPlane_67 : decode cX9_addPlane 67 = .ok (.dup, 1) := by decide +kernel
theorem dX9_addPlane_68 : decode cX9_addPlane 68 = .ok (.getfield 48, 3) := by decide +kernel
theorem dX9_addPlane_71 : decode cX9_addPlane 71 = .ok (.iconst 1, 1) := by decide +kernel
theorem dX9_addPlane_72 : decode cX9_addPlane 72 = .ok (.iadd, 1) := by decide +kernel
theorem dX9_addPlane_73 : decode cX9_addPlane 73 = .ok (.putfield 48, 3) := by decide +kernel
theorem dX9_addPlane_76 : decode cX9_addPlane 76 = .ok (.return_, 1) := by decide +kernel
theorem dX9_addAxisPlane_0 : decode cX9_addAxisPlane 0 = .ok (.aload_n 0, 1) := by decide +kernel
theorem dX9_addAxisPlane_1 : decode cX9_addAxisPlane 1 = .ok (.iload_n 1, 1) := by decide +kernel
theorem dX9_addAxisPlane_2 : decode cX9_addAxisPlane 2 = .ok (.ifCond .ne 7, 3) := by decide +kernel
theorem dX9_addAxisPlane_5 : decode cX9_addAxisPlane 5 = .ok (.lload_n 2, 1) := by decide +kernel
theorem dX9_addAxisPlane_6 : decode cX9_addAxisPlane 6 = .ok (.goto 4, 3) := by decide +kernel
theorem dX9_addAxisPlane_9 : decode cX9_addAxisPlane 9 = .ok (.lconst 0, 1) := by decide +kernel
theorem dX9_addAxisPlane_10 : decode cX9_addAxisPlane 10 = .ok (.iload_n 1, 1) := by decide +kernel
theorem dX9_addAxisPlane_11 : decode cX9_addAxisPlane 11 = .ok (.iconst 1, 1) := by decide +kernel
theorem dX9_addAxisPlane_12 : decode cX9_addAxisPlane 12 = .ok (.if_icmp .ne 7, 3) := by decide +kernel
theorem dX9_addAxisPlane_15 : decode cX9_addAxisPlane 15 = .ok (.lload_n 2, 1) := by decide +kernel
theorem dX9_addAxisPlane_16 : decode cX9_addAxisPlane 16 = .ok (.goto 4, 3) := by decide +kernel
theorem dX9_addAxisPlane_19 : decode cX9_addAxisPlane 19 = .ok (.lconst 0, 1) := by decide +kernel
theorem dX9_addAxisPlane_20 : decode cX9_addAxisPlane 20 = .ok (.iload_n 1, 1) := by decide +kernel
theorem dX9_addAxisPlane_21 : decode cX9_addAxisPlane 21 = .ok (.iconst 2, 1) := by decide +kernel
theorem dX9_addAxisPlane_22 : decode cX9_addAxisPlane 22 = .ok (.if_icmp .ne 7, 3) := by decide +kernel
theorem dX9_addAxisPlane_25 : decode cX9_addAxisPlane 25 = .ok (.lload_n 2, 1) := by decide +kernel
theorem dX9_addAxisPlane_26 : decode cX9_addAxisPlane 26 = .ok (.goto 4, 3) := by decide +kernel
theorem dX9_addAxisPlane_29 : decode cX9_addAxisPlane 29 = .ok (.lconst 0, 1) := by decide +kernel
theorem dX9_addAxisPlane_30 : decode cX9_addAxisPlane 30 = .ok (.lload 4, 2) := by decide +kernel
theorem dX9_addAxisPlane_32 : decode cX9_addAxisPlane 32 = .ok (.invokevirtual 68, 3) := by decide +kernel
theorem dX9_addAxisPlane_35 : decode cX9_addAxisPlane 35 = .ok (.return_, 1) := by decide +kernel
theorem dX9_gather_0 : decode cX9_gather 0 = .ok (.aload_n 0, 1) := by decide +kernel
theorem dX9_gather_1 : decode cX9_gather 1 = .ok (.iconst 0, 1) := by decide +kernel
theorem dX9_gather_2 : decode cX9_gather 2 = .ok (.putfield 48, 3) := by decide +kernel
theorem dX9_gather_5 : decode cX9_gather 5 = .ok (.iconst 0, 1) := by decide +kernel
theorem dX9_gather_6 : decode cX9_gather 6 = .ok (.istore_n 3, 1) := by decide +kernel
theorem dX9_gather_7 : decode cX9_gather 7 = .ok (.iload_n 3, 1) := by decide +kernel
theorem dX9_gather_8 : decode cX9_gather 8 = .ok (.aload_n 1, 1) := by decide +kernel
theorem dX9_gather_9 : decode cX9_gather 9 = .ok (.getfield 52, 3) := by decide +kernel
theorem dX9_gather_12 : decode cX9_gather 12 = .ok (.if_icmp .ge 49, 3) := by decide +kernel
theorem dX9_gather_15 : decode cX9_gather 15 = .ok (.aload_n 1, 1) := by decide +kernel
theorem dX9_gather_16 : decode cX9_gather 16 = .ok (.getfield 55, 3) := by decide +kernel
theorem dX9_gather_19 : decode cX9_gather 19 = .ok (.iload_n 3, 1) := by decide +kernel
theorem dX9_gather_20 : decode cX9_gather 20 = .ok (.aaload, 1) := by decide +kernel
theorem dX9_gather_21 : decode cX9_gather 21 = .ok (.getfield 59, 3) := by decide +kernel
theorem dX9_gather_24 : decode cX9_gather 24 = .ok (.astore 4, 2) := by decide +kernel
theorem dX9_gather_26 : decode cX9_gather 26 = .ok (.aload_n 0, 1) := by decide +kernel
theorem dX9_gather_27 : decode cX9_gather 27 = .ok (.aload 4, 2) := by decide +kernel
theorem dX9_gather_29 : decode cX9_gather 29 = .ok (.iconst 0, 1) := by decide +kernel
theorem dX9_gather_30 : decode cX9_gather 30 = .ok (.iaload, 1) := by decide +kernel
theorem dX9_gather_31 : decode cX9_gather 31 = .ok (.i2l, 1) := by decide +kernel
theorem dX9_gather_32 : decode cX9_gather 32 = .ok (.aload 4, 2) := by decide +kernel
theorem dX9_gather_34 : decode cX9_gather 34 = .ok (.iconst 1, 1) := by decide +kernel
theorem dX9_gather_35 : decode cX9_gather 35 = .ok (.iaload, 1) := by decide +kernel
theorem dX9_gather_36 : decode cX9_gather 36 = .ok (.i2l, 1) := by decide +kernel
theorem dX9_gather_37 : decode cX9_gather 37 = .ok (.aload 4, 2) := by decide +kernel
theorem dX9_gather_39 : decode cX9_gather 39 = .ok (.iconst 2, 1) := by decide +kernel
theorem dX9_gather_40 : decode cX9_gather 40 = .ok (.iaload, 1) := by decide +kernel
theorem dX9_gather_41 : decode cX9_gather 41 = .ok (.i2l, 1) := by decide +kernel
theorem dX9_gather_42 : decode cX9_gather 42 = .ok (.aload_n 1, 1) := by decide +kernel
theorem dX9_gather_43 : decode cX9_gather 43 = .ok (.getfield 55, 3) := by decide +kernel
theorem dX9_gather_46 : decode cX9_gather 46 = .ok (.iload_n 3, 1) := by decide +kernel
theorem dX9_gather_47 : decode cX9_gather 47 = .ok (.aaload, 1) := by decide +kernel
theorem dX9_gather_48 : decode cX9_gather 48 = .ok (.getfield 65, 3) := by decide +kernel
theorem dX9_gather_51 : decode cX9_gather 51 = .ok (.i2l, 1) := by decide +kernel
theorem dX9_gather_52 : decode cX9_gather 52 = .ok (.invokevirtual 68, 3) := by decide +kernel
theorem dX9_gather_55 : decode cX9_gather 55 = .ok (.iinc 3 1, 3) := by decide +kernel
theorem dX9_gather_58 : decode cX9_gather 58 = .ok (.goto (-51), 3) := by decide +kernel
theorem dX9_gather_61 : decode cX9_gather 61 = .ok (.iconst 0, 1) := by decide +kernel
theorem dX9_gather_62 : decode cX9_gather 62 = .ok (.istore_n 3, 1) := by decide +kernel
theorem dX9_gather_63 : decode cX9_gather 63 = .ok (.iload_n 3, 1) := by decide +kernel
theorem dX9_gather_64 : decode cX9_gather 64 = .ok (.iconst 3, 1) := by decide +kernel
theorem dX9_gather_65 : decode cX9_gather 65 = .ok (.if_icmp .ge 62, 3) := by decide +kernel
theorem dX9_gather_68 : decode cX9_gather 68 = .ok (.aload_n 2, 1) := by decide +kernel
theorem dX9_gather_69 : decode cX9_gather 69 = .ok (.iload_n 3, 1) := by decide +kernel
theorem dX9_gather_70 : decode cX9_gather 70 = .ok (.iconst 0, 1) := by decide +kernel
theorem dX9_gather_71 : decode cX9_gather 71 = .ok (.invokevirtual 72, 3) := by decide +kernel
theorem dX9_gather_74 : decode cX9_gather 74 = .ok (.ldc2_w 78, 3) := by decide +kernel
theorem dX9_gather_77 : decode cX9_gather 77 = .ok (.lcmp, 1) := by decide +kernel
theorem dX9_gather_78 : decode cX9_gather 78 = .ok (.ifCond .eq 16, 3) := by decide +kernel
theorem dX9_gather_81 : decode cX9_gather 81 = .ok (.aload_n 0, 1) := by decide +kernel
theorem dX9_gather_82 : decode cX9_gather 82 = .ok (.iload_n 3, 1) := by decide +kernel
theorem dX9_gather_83 : decode cX9_gather 83 = .ok (.lconst 1, 1) := by decide +kernel
theorem dX9_gather_84 : decode cX9_gather 84 = .ok (.aload_n 2, 1) := by decide +kernel
theorem dX9_gather_85 : decode cX9_gather 85 = .ok (.iload_n 3, 1) := by decide +kernel
theorem dX9_gather_86 : decode cX9_gather 86 = .ok (.iconst 0, 1) := by decide +kernel
theorem dX9_gather_87 : decode cX9_gather 87 = .ok (.invokevirtual 72, 3) := by decide +kernel
theorem dX9_gather_90 : decode cX9_gather 90 = .ok (.lneg, 1) := by decide +kernel
theorem dX9_gather_91 : decode cX9_gather 91 = .ok (.invokevirtual 80, 3) := by decide +kernel
theorem dX9_gather_94 : decode cX9_gather 94 = .ok (.aload_n 2, 1) := by decide +kernel
theorem dX9_gather_95 : decode cX9_gather 95 = .ok (.iload_n 3, 1) := by decide +kernel
theorem dX9_gather_96 : decode cX9_gather 96 = .ok (.iconst 1, 1) := by decide +kernel
theorem dX9_gather_97 : decode cX9_gather 97 = .ok (.invokevirtual 72, 3) := by decide +kernel
theorem dX9_gather_100 : decode cX9_gather 100 = .ok (.ldc2_w 78, 3) := by decide +kernel
theorem dX9_gather_103 : decode cX9_gather 103 = .ok (.lcmp, 1) := by decide +kernel
theorem dX9_gather_104 : decode cX9_gather 104 = .ok (.ifCond .eq 17, 3) := by decide +kernel
theorem dX9_gather_107 : decode cX9_gather 107 = .ok (.aload_n 0, 1) := by decide +kernel
theorem dX9_gather_108 : decode cX9_gather 108 = .ok (.iload_n 3, 1) := by decide +kernel
theorem dX9_gather_109 : decode cX9_gather 109 = .ok (.ldc2_w 84, 3) := by decide +kernel
theorem dX9_gather_112 : decode cX9_gather 112 = .ok (.aload_n 2, 1) := by decide +kernel
theorem dX9_gather_113 : decode cX9_gather 113 = .ok (.iload_n 3, 1) := by decide +kernel
theorem dX9_gather_114 : decode cX9_gather 114 = .ok (.iconst 1, 1) := by decide +kernel
theorem dX9_gather_115 : decode cX9_gather 115 = .ok (.invokevirtual 72, 3) := by decide +kernel
theorem dX9_gather_118 : decode cX9_gather 118 = .ok (.invokevirtual 80, 3) := by decide +kernel
theorem dX9_gather_121 : decode cX9_gather 121 = .ok (.iinc 3 1, 3) := by decide +kernel
theorem dX9_gather_124 : decode cX9_gather 124 = .ok (.goto (-61), 3) := by decide +kernel
theorem dX9_gather_127 : decode cX9_gather 127 = .ok (.aload_n 0, 1) := by decide +kernel
theorem dX9_gather_128 : decode cX9_gather 128 = .ok (.aload_n 0, 1) := by decide +kernel
theorem dX9_gather_129 : decode cX9_gather 129 = .ok (.getfield 48, 3) := by decide +kernel
theorem dX9_gather_132 : decode cX9_gather 132 = .ok (.putfield 86, 3) := by decide +kernel
theorem dX9_gather_135 : decode cX9_gather 135 = .ok (.iconst 0, 1) := by decide +kernel
theorem dX9_gather_136 : decode cX9_gather 136 = .ok (.istore_n 3, 1) := by decide +kernel
theorem dX9_gather_137 : decode cX9_gather 137 = .ok (.iload_n 3, 1) := by decide +kernel
theorem dX9_gather_138 : decode cX9_gather 138 = .ok (.iconst 3, 1) := by decide +kernel
theorem dX9_gather_139 : decode cX9_gather 139 = .ok (.if_icmp .ge 42, 3) := by decide +kernel
theorem dX9_gather_142 : decode cX9_gather 142 = .ok (.aload_n 2, 1) := by decide +kernel
theorem dX9_gather_143 : decode cX9_gather 143 = .ok (.iload_n 3, 1) := by decide +kernel
theorem dX9_gather_144 : decode cX9_gather 144 = .ok (.iconst 0, 1) := by decide +kernel
theorem dX9_gather_145 : decode cX9_gather 145 = .ok (.invokevirtual 72, 3) := by decide +kernel
theorem dX9_gather_148 : decode cX9_gather 148 = .ok (.ldc2_w 78, 3) := by decide +kernel
theorem dX9_gather_151 : decode cX9_gather 151 = .ok (.lcmp, 1) := by decide +kernel
theorem dX9_gather_152 : decode cX9_gather 152 = .ok (.ifCond .ne 23, 3) := by decide +kernel
theorem dX9_gather_155 : decode cX9_gather 155 = .ok (.aload_n 2, 1) := by decide +kernel
theorem dX9_gather_156 : decode cX9_gather 156 = .ok (.iload_n 3, 1) := by decide +kernel
theorem dX9_gather_157 : decode cX9_gather 157 = .ok (.iconst 1, 1) := by decide +kernel
theorem dX9_gather_158 : decode cX9_gather 158 = .ok (.invokevirtual 72, 3) := by decide +kernel
theorem dX9_gather_161 : decode cX9_gather 161 = .ok (.ldc2_w 78, 3) := by decide +kernel
theorem dX9_gather_164 : decode cX9_gather 164 = .ok (.lcmp, 1) := by decide +kernel
theorem dX9_gather_165 : decode cX9_gather 165 = .ok (.ifCond .ne 10, 3) := by decide +kernel
theorem dX9_gather_168 : decode cX9_gather 168 = .ok (.aload_n 0, 1) := by decide +kernel
theorem dX9_gather_169 : decode cX9_gather 169 = .ok (.iload_n 3, 1) := by decide +kernel
theorem dX9_gather_170 : decode cX9_gather 170 = .ok (.lconst 1, 1) := by decide +kernel
theorem dX9_gather_171 : decode cX9_gather 171 = .ok (.lconst 0, 1) := by decide +kernel
theorem dX9_gather_172 : decode cX9_gather 172 = .ok (.invokevirtual 80, 3) := by decide +kernel
theorem dX9_gather_175 : decode cX9_gather 175 = .ok (.iinc 3 1, 3) := by decide +kernel
theorem dX9_gather_178 : decode cX9_gather 178 = .ok (.goto (-41), 3) := by decide +kernel
theorem dX9_gather_181 : decode cX9_gather 181 = .ok (.return_, 1) := by decide +kernel
theorem dX6_empty_0 : decode cX6_empty 0 = .ok (.aload_n 0, 1) := by decide +kernel
theorem dX6_empty_1 : decode cX6_empty 1 = .ok (.iconst 0, 1) := by decide +kernel
theorem dX6_empty_2 : decode cX6_empty 2 = .ok (.putfield 13, 3) := by decide +kernel
theorem dX6_empty_5 : decode cX6_empty 5 = .ok (.aload_n 0, 1) := by decide +kernel
theorem dX6_empty_6 : decode cX6_empty 6 = .ok (.iconst 0, 1) := by decide +kernel
theorem dX6_empty_7 : decode cX6_empty 7 = .ok (.putfield 17, 3) := by decide +kernel
theorem dX6_empty_10 : decode cX6_empty 10 = .ok (.return_, 1) := by decide +kernel
theorem dX9_cross_0 : decode cX9_cross 0 = .ok (.iload_n 3, 1) := by decide +kernel
theorem dX9_cross_1 : decode cX9_cross 1 = .ok (.iconst 2, 1) := by decide +kernel
theorem dX9_cross_2 : decode cX9_cross 2 = .ok (.if_icmp .ne 7, 3) := by decide +kernel
theorem dX9_cross_5 : decode cX9_cross 5 = .ok (.iconst 0, 1) := by decide +kernel
theorem dX9_cross_6 : decode cX9_cross 6 = .ok (.goto 6, 3) := by decide +kernel
theorem dX9_cross_9 : decode cX9_cross 9 = .ok (.iload_n 3, 1) := by decide +kernel
theorem dX9_cross_10 : decode cX9_cross 10 = .ok (.iconst 1, 1) := by decide +kernel
theorem dX9_cross_11 : decode cX9_cross 11 = .ok (.iadd, 1) := by decide +kernel
theorem dX9_cross_12 : decode cX9_cross 12 = .ok (.istore 4, 2) := by decide +kernel
theorem dX9_cross_14 : decode cX9_cross 14 = .ok (.iload_n 3, 1) := by decide +kernel
theorem dX9_cross_15 : decode cX9_cross 15 = .ok (.ifCond .ne 7, 3) := by decide +kernel
theorem dX9_cross_18 : decode cX9_cross 18 = .ok (.iconst 2, 1) := by decide +kernel
theorem dX9_cross_19 : decode cX9_cross 19 = .ok (.goto 6, 3) := by decide +kernel
theorem dX9_cross_22 : decode cX9_cross 22 = .ok (.iload_n 3, 1) := by decide +kernel
theorem dX9_cross_23 : decode cX9_cross 23 = .ok (.iconst 1, 1) := by decide +kernel
theorem dX9_cross_24 : decode cX9_cross 24 = .ok (.isub, 1) := by decide +kernel
theorem dX9_cross_25 : decode cX9_cross 25 = .ok (.istore 5, 2) := by decide +kernel
theorem dX9_cross_27 : decode cX9_cross 27 = .ok (.aload_n 0, 1) := by decide +kernel
theorem dX9_cross_28 : decode cX9_cross 28 = .ok (.getfield 11, 3) := by decide +kernel
theorem dX9_cross_31 : decode cX9_cross 31 = .ok (.iload_n 1, 1) := by decide +kernel
theorem dX9_cross_32 : decode cX9_cross 32 = .ok (.iload 4, 2) := by decide +kernel
theorem dX9_cross_34 : decode cX9_cross 34 = .ok (.iadd, 1) := by decide +kernel
theorem dX9_cross_35 : decode cX9_cross 35 = .ok (.laload, 1) := by decide +kernel
theorem dX9_cross_36 : decode cX9_cross 36 = .ok (.aload_n 0, 1) := by decide +kernel
theorem dX9_cross_37 : decode cX9_cross 37 = .ok (.getfield 11, 3) := by decide +kernel
theorem dX9_cross_40 : decode cX9_cross 40 = .ok (.iload_n 2, 1) := by decide +kernel
theorem dX9_cross_41 : decode cX9_cross 41 = .ok (.iload 5, 2) := by decide +kernel
theorem dX9_cross_43 : decode cX9_cross 43 = .ok (.iadd, 1) := by decide +kernel
theorem dX9_cross_44 : decode cX9_cross 44 = .ok (.laload, 1) := by decide +kernel
theorem dX9_cross_45 : decode cX9_cross 45 = .ok (.lmul, 1) := by decide +kernel
theorem dX9_cross_46 : decode cX9_cross 46 = .ok (.aload_n 0, 1) := by decide +kernel
theorem dX9_cross_47 : decode cX9_cross 47 = .ok (.getfield 11, 3) := by decide +kernel
theorem dX9_cross_50 : decode cX9_cross 50 = .ok (.iload_n 1, 1) := by decide +kernel
theorem dX9_cross_51 : decode cX9_cross 51 = .ok (.iload 5, 2) := by decide +kernel
theorem dX9_cross_53 : decode cX9_cross 53 = .ok (.iadd, 1) := by decide +kernel
theorem dX9_cross_54 : decode cX9_cross 54 = .ok (.laload, 1) := by decide +kernel
theorem dX9_cross_55 : decode cX9_cross 55 = .ok (.aload_n 0, 1) := by decide +kernel
theorem dX9_cross_56 : decode cX9_cross 56 = .ok (.getfield 11, 3) := by decide +kernel
theorem dX9_cross_59 : decode cX9_cross 59 = .ok (.iload_n 2, 1) := by decide +kernel
theorem dX9_cross_60 : decode cX9_cross 60 = .ok (.iload 4, 2) := by decide +kernel
theorem dX9_cross_62 : decode cX9_cross 62 = .ok (.iadd, 1) := by decide +kernel
theorem dX9_cross_63 : decode cX9_cross 63 = .ok (.laload, 1) := by decide +kernel
theorem dX9_cross_64 : decode cX9_cross 64 = .ok (.lmul, 1) := by decide +kernel
theorem dX9_cross_65 : decode cX9_cross 65 = .ok (.lsub, 1) := by decide +kernel
theorem dX9_cross_66 : decode cX9_cross 66 = .ok (.lreturn, 1) := by decide +kernel
theorem dX9_meet_0 : decode cX9_meet 0 = .ok (.aload_n 0, 1) := by decide +kernel
theorem dX9_meet_1 : decode cX9_meet 1 = .ok (.iload_n 2, 1) := by decide +kernel
theorem dX9_meet_2 : decode cX9_meet 2 = .ok (.iload_n 3, 1) := by decide +kernel
theorem dX9_meet_3 : decode cX9_meet 3 = .ok (.iconst 0, 1) := by decide +kernel
theorem dX9_meet_4 : decode cX9_meet 4 = .ok (.invokevirtual 106, 3) := by decide +kernel
theorem dX9_meet_7 : decode cX9_meet 7 = .ok (.lstore 4, 2) := by decide +kernel
theorem dX9_meet_9 : decode cX9_meet 9 = .ok (.aload_n 0, 1) := by decide +kernel
theorem dX9_meet_10 : decode cX9_meet 10 = .ok (.iload_n 2, 1) := by decide +kernel
theorem dX9_meet_11 : decode cX9_meet 11 = .ok (.iload_n 3, 1) := by decide +kernel
theorem dX9_meet_12 : decode cX9_meet 12 = .ok (.iconst 1, 1) := by decide +kernel
theorem dX9_meet_13 : decode cX9_meet 13 = .ok (.invokevirtual 106, 3) := by decide +kernel
theorem dX9_meet_16 : decode cX9_meet 16 = .ok (.lstore 6, 2) := by decide +kernel
theorem dX9_meet_18 : decode cX9_meet 18 = .ok (.aload_n 0, 1) := by decide +kernel
theorem dX9_meet_19 : decode cX9_meet 19 = .ok (.iload_n 2, 1) := by decide +kernel
theorem dX9_meet_20 : decode cX9_meet 20 = .ok (.iload_n 3, 1) := by decide +kernel
theorem dX9_meet_21 : decode cX9_meet 21 = .ok (.iconst 2, 1) := by decide +kernel
theorem dX9_meet_22 : decode cX9_meet 22 = .ok (.invokevirtual 106, 3) := by decide +kernel
theorem dX9_meet_25 : decode cX9_meet 25 = .ok (.lstore 8, 2) := by decide +kernel
theorem dX9_meet_27 : decode cX9_meet 27 = .ok (.aload_n 0, 1) := by decide +kernel
theorem dX9_meet_28 : decode cX9_meet 28 = .ok (.getfield 11, 3) := by decide +kernel
theorem dX9_meet_31 : decode cX9_meet 31 = .ok (.iload_n 1, 1) := by decide +kernel
theorem dX9_meet_32 : decode cX9_meet 32 = .ok (.laload, 1) := by decide +kernel
theorem dX9_meet_33 : decode cX9_meet 33 = .ok (.lload 4, 2) := by decide +kernel
theorem dX9_meet_35 : decode cX9_meet 35 = .ok (.lmul, 1) := by decide +kernel
theorem dX9_meet_36 : decode cX9_meet 36 = .ok (.aload_n 0, 1) := by decide +kernel
theorem dX9_meet_37 : decode cX9_meet 37 = .ok (.getfield 11, 3) := by decide +kernel
theorem dX9_meet_40 : decode cX9_meet 40 = .ok (.iload_n 1, 1) := by decide +kernel
theorem dX9_meet_41 : decode cX9_meet 41 = .ok (.iconst 1, 1) := by decide +kernel
theorem dX9_meet_42 : decode cX9_meet 42 = .ok (.iadd, 1) := by decide +kernel
theorem dX9_meet_43 : decode cX9_meet 43 = .ok (.laload, 1) := by decide +kernel
theorem dX9_meet_44 : decode cX9_meet 44 = .ok (.lload 6, 2) := by decide +kernel
theorem dX9_meet_46 : decode cX9_meet 46 = .ok (.lmul, 1) := by decide +kernel
theorem dX9_meet_47 : decode cX9_meet 47 = .ok (.ladd, 1) := by decide +kernel
theorem dX9_meet_48 : decode cX9_meet 48 = .ok (.aload_n 0, 1) := by decide +kernel
theorem dX9_meet_49 : decode cX9_meet 49 = .ok (.getfield 11, 3) := by decide +kernel
theorem dX9_meet_52 : decode cX9_meet 52 = .ok (.iload_n 1, 1) := by decide +kernel
theorem dX9_meet_53 : decode cX9_meet 53 = .ok (.iconst 2, 1) := by decide +kernel
theorem dX9_meet_54 : decode cX9_meet 54 = .ok (.iadd, 1) := by decide +kernel
theorem dX9_meet_55 : decode cX9_meet 55 = .ok (.laload, 1) := by decide +kernel
theorem dX9_meet_56 : decode cX9_meet 56 = .ok (.lload 8, 2) := by decide +kernel
theorem dX9_meet_58 : decode cX9_meet 58 = .ok (.lmul, 1) := by decide +kernel
theorem dX9_meet_59 : decode cX9_meet 59 = .ok (.ladd, 1) := by decide +kernel
theorem dX9_meet_60 : decode cX9_meet 60 = .ok (.lstore 10, 2) := by decide +kernel
theorem dX9_meet_62 : decode cX9_meet 62 = .ok (.lload 10, 2) := by decide +kernel
theorem dX9_meet_64 : decode cX9_meet 64 = .ok (.lconst 0, 1) := by decide +kernel
theorem dX9_meet_65 : decode cX9_meet 65 = .ok (.lcmp, 1) := by decide +kernel
theorem dX9_meet_66 : decode cX9_meet 66 = .ok (.ifCond .ne 5, 3) := by decide +kernel
theorem dX9_meet_69 : decode cX9_meet 69 = .ok (.iconst 0, 1) := by decide +kernel
theorem dX9_meet_70 : decode cX9_meet 70 = .ok (.ireturn, 1) := by decide +kernel
theorem dX9_meet_71 : decode cX9_meet 71 = .ok (.lload 10, 2) := by decide +kernel
theorem dX9_meet_73 : decode cX9_meet 73 = .ok (.lconst 0, 1) := by decide +kernel
theorem dX9_meet_74 : decode cX9_meet 74 = .ok (.lcmp, 1) := by decide +kernel
theorem dX9_meet_75 : decode cX9_meet 75 = .ok (.ifCond .le 9, 3) := by decide +kernel
theorem dX9_meet_78 : decode cX9_meet 78 = .ok (.ldc2_w 84, 3) := by decide +kernel
theorem dX9_meet_81 : decode cX9_meet 81 = .ok (.goto 4, 3) := by decide +kernel
theorem dX9_meet_84 : decode cX9_meet 84 = .ok (.lconst 1, 1) := by decide +kernel
theorem dX9_meet_85 : decode cX9_meet 85 = .ok (.lstore 12, 2) := by decide +kernel
theorem dX9_meet_87 : decode cX9_meet 87 = .ok (.aload_n 0, 1) := by decide +kernel
theorem dX9_meet_88 : decode cX9_meet 88 = .ok (.getfield 11, 3) := by decide +kernel
theorem dX9_meet_91 : decode cX9_meet 91 = .ok (.iload_n 2, 1) := by decide +kernel
theorem dX9_meet_92 : decode cX9_meet 92 = .ok (.iconst 3, 1) := by decide +kernel
theorem dX9_meet_93 : decode cX9_meet 93 = .ok (.iadd, 1) := by decide +kernel
theorem dX9_meet_94 : decode cX9_meet 94 = .ok (.laload, 1) := by decide +kernel
theorem dX9_meet_95 : decode cX9_meet 95 = .ok (.lstore 14, 2) := by decide +kernel
theorem dX9_meet_97 : decode cX9_meet 97 = .ok (.aload_n 0, 1) := by decide +kernel
theorem dX9_meet_98 : decode cX9_meet 98 = .ok (.getfield 11, 3) := by decide +kernel
theorem dX9_meet_101 : decode cX9_meet 101 = .ok (.iload_n 3, 1) := by decide +kernel
theorem dX9_meet_102 : decode cX9_meet 102 = .ok (.iconst 3, 1) := by decide +kernel
theorem dX9_meet_103 : decode cX9_meet 103 = .ok (.iadd, 1) := by decide +kernel
theorem dX9_meet_104 : decode cX9_meet 104 = .ok (.laload, 1) := by decide +kernel
theorem dX9_meet_105 : decode cX9_meet 105 = .ok (.lstore 16, 2) := by decide +kernel
theorem dX9_meet_107 : decode cX9_meet 107 = .ok (.aload_n 0, 1) := by decide +kernel
theorem dX9_meet_108 : decode cX9_meet 108 = .ok (.getfield 15, 3) := by decide +kernel
theorem dX9_meet_111 : decode cX9_meet 111 = .ok (.iconst 0, 1) := by decide +kernel
theorem dX9_meet_112 : decode cX9_meet 112 = .ok (.lload 12, 2) := by decide +kernel
theorem dX9_meet_114 : decode cX9_meet 114 = .ok (.aload_n 0, 1) := by decide +kernel
theorem dX9_meet_115 : decode cX9_meet 115 = .ok (.getfield 11, 3) := by decide +kernel
theorem dX9_meet_118 : decode cX9_meet 118 = .ok (.iload_n 1, 1) := by decide +kernel
theorem dX9_meet_119 : decode cX9_meet 119 = .ok (.iconst 3, 1) := by decide +kernel
theorem dX9_meet_120 : decode cX9_meet 120 = .ok (.iadd, 1) := by decide +kernel
theorem dX9_meet_121 : decode cX9_meet 121 = .ok (.laload, 1) := by decide +kernel
theorem dX9_meet_122 : decode cX9_meet 122 = .ok (.lload 4, 2) := by decide +kernel
theorem dX9_meet_124 : decode cX9_meet 124 = .ok (.lmul, 1) := by decide +kernel
theorem dX9_meet_125 : decode cX9_meet 125 = .ok (.lload 14, 2) := by decide +kernel
theorem dX9_meet_127 : decode cX9_meet 127 = .ok (.aload_n 0, 1) := by decide +kernel
theorem dX9_meet_128 : decode cX9_meet 128 = .ok (.iload_n 3, 1) := by decide +kernel
theorem dX9_meet_129 : decode cX9_meet 129 = .ok (.iload_n 1, 1) := by decide +kernel
theorem dX9_meet_130 : decode cX9_meet 130 = .ok (.iconst 0, 1) := by decide +kernel
theorem dX9_meet_131 : decode cX9_meet 131 = .ok (.invokevirtual 106, 3) := by decide +kernel
theorem dX9_meet_134 : decode cX9_meet 134 = .ok (.lmul, 1) := by decide +kernel
theorem dX9_meet_135 : decode cX9_meet 135 = .ok (.ladd, 1) := by decide +kernel
theorem dX9_meet_136 : decode cX9_meet 136 = .ok (.lload 16, 2) := by decide +kernel
theorem dX9_meet_138 : decode cX9_meet 138 = .ok (.aload_n 0, 1) := by decide +kernel
theorem dX9_meet_139 : decode cX9_meet 139 = .ok (.iload_n 1, 1) := by decide +kernel
theorem dX9_meet_140 : decode cX9_meet 140 = .ok (.iload_n 2, 1) := by decide +kernel
theorem dX9_meet_141 : decode cX9_meet 141 = .ok (.iconst 0, 1) := by decide +kernel
theorem dX9_meet_142 : decode cX9_meet 142 = .ok (.invokevirtual 106, 3) := by decide +kernel
theorem dX9_meet_145 : decode cX9_meet 145 = .ok (.lmul, 1) := by decide +kernel
theorem dX9_meet_146 : decode cX9_meet 146 = .ok (.ladd, 1) := by decide +kernel
theorem dX9_meet_147 : decode cX9_meet 147 = .ok (.lmul, 1) := by decide +kernel
theorem dX9_meet_148 : decode cX9_meet 148 = .ok (.lastore, 1) := by decide +kernel
theorem dX9_meet_149 : decode cX9_meet 149 = .ok (.aload_n 0, 1) := by decide +kernel
theorem dX9_meet_150 : decode cX9_meet 150 = .ok (.getfield 15, 3) := by decide +kernel
theorem dX9_meet_153 : decode cX9_meet 153 = .ok (.iconst 1, 1) := by decide +kernel
theorem dX9_meet_154 : decode cX9_meet 154 = .ok (.lload 12, 2) := by decide +kernel
theorem dX9_meet_156 : decode cX9_meet 156 = .ok (.aload_n 0, 1) := by decide +kernel
theorem dX9_meet_157 : decode cX9_meet 157 = .ok (.getfield 11, 3) := by decide +kernel
theorem dX9_meet_160 : decode cX9_meet 160 = .ok (.iload_n 1, 1) := by decide +kernel
theorem dX9_meet_161 : decode cX9_meet 161 = .ok (.iconst 3, 1) := by decide +kernel
theorem dX9_meet_162 : decode cX9_meet 162 = .ok (.iadd, 1) := by decide +kernel
theorem dX9_meet_163 : decode cX9_meet 163 = .ok (.laload, 1) := by decide +kernel
theorem dX9_meet_164 : decode cX9_meet 164 = .ok (.lload 6, 2) := by decide +kernel
theorem dX9_meet_166 : decode cX9_meet 166 = .ok (.lmul, 1) := by decide +kernel
theorem dX9_meet_167 : decode cX9_meet 167 = .ok (.lload 14, 2) := by decide +kernel
theorem dX9_meet_169 : decode cX9_meet 169 = .ok (.aload_n 0, 1) := by decide +kernel
theorem dX9_meet_170 : decode cX9_meet 170 = .ok (.iload_n 3, 1) := by decide +kernel
theorem dX9_meet_171 : decode cX9_meet 171 = .ok (.iload_n 1, 1) := by decide +kernel
theorem dX9_meet_172 : decode cX9_meet 172 = .ok (.iconst 1, 1) := by decide +kernel
theorem dX9_meet_173 : decode cX9_meet 173 = .ok (.invokevirtual 106, 3) := by decide +kernel
theorem dX9_meet_176 : decode cX9_meet 176 = .ok (.lmul, 1) := by decide +kernel
theorem dX9_meet_177 : decode cX9_meet 177 = .ok (.ladd, 1) := by decide +kernel
theorem dX9_meet_178 : decode cX9_meet 178 = .ok (.lload 16, 2) := by decide +kernel
theorem dX9_meet_180 : decode cX9_meet 180 = .ok (.aload_n 0, 1) := by decide +kernel
theorem dX9_meet_181 : decode cX9_meet 181 = .ok (.iload_n 1, 1) := by decide +kernel
theorem dX9_meet_182 : decode cX9_meet 182 = .ok (.iload_n 2, 1) := by decide +kernel
theorem dX9_meet_183 : decode cX9_meet 183 = .ok (.iconst 1, 1) := by decide +kernel
theorem dX9_meet_184 : decode cX9_meet 184 = .ok (.invokevirtual 106, 3) := by decide +kernel
theorem dX9_meet_187 : decode cX9_meet 187 = .ok (.lmul, 1) := by decide +kernel
theorem dX9_meet_188 : decode cX9_meet 188 = .ok (.ladd, 1) := by decide +kernel
theorem dX9_meet_189 : decode cX9_meet 189 = .ok (.lmul, 1) := by decide +kernel
theorem dX9_meet_190 : decode cX9_meet 190 = .ok (.lastore, 1) := by decide +kernel
theorem dX9_meet_191 : decode cX9_meet 191 = .ok (.aload_n 0, 1) := by decide +kernel
theorem dX9_meet_192 : decode cX9_meet 192 = .ok (.getfield 15, 3) := by decide +kernel
theorem dX9_meet_195 : decode cX9_meet 195 = .ok (.iconst 2, 1) := by decide +kernel
theorem dX9_meet_196 : decode cX9_meet 196 = .ok (.lload 12, 2) := by decide +kernel
theorem dX9_meet_198 : decode cX9_meet 198 = .ok (.aload_n 0, 1) := by decide +kernel
theorem dX9_meet_199 : decode cX9_meet 199 = .ok (.getfield 11, 3) := by decide +kernel
theorem dX9_meet_202 : decode cX9_meet 202 = .ok (.iload_n 1, 1) := by decide +kernel
theorem dX9_meet_203 : decode cX9_meet 203 = .ok (.iconst 3, 1) := by decide +kernel
theorem dX9_meet_204 : decode cX9_meet 204 = .ok (.iadd, 1) := by decide +kernel
theorem dX9_meet_205 : decode cX9_meet 205 = .ok (.laload, 1) := by decide +kernel
theorem dX9_meet_206 : decode cX9_meet 206 = .ok (.lload 8, 2) := by decide +kernel
theorem dX9_meet_208 : decode cX9_meet 208 = .ok (.lmul, 1) := by decide +kernel
theorem dX9_meet_209 : decode cX9_meet 209 = .ok (.lload 14, 2) := by decide +kernel
theorem dX9_meet_211 : decode cX9_meet 211 = .ok (.aload_n 0, 1) := by decide +kernel
theorem dX9_meet_212 : decode cX9_meet 212 = .ok (.iload_n 3, 1) := by decide +kernel
theorem dX9_meet_213 : decode cX9_meet 213 = .ok (.iload_n 1, 1) := by decide +kernel
theorem dX9_meet_214 : decode cX9_meet 214 = .ok (.iconst 2, 1) := by decide +kernel
theorem dX9_meet_215 : decode cX9_meet 215 = .ok (.invokevirtual 106, 3) := by decide +kernel
theorem dX9_meet_218 : decode cX9_meet 218 = .ok (.lmul, 1) := by decide +kernel
theorem dX9_meet_219 : decode cX9_meet 219 = .ok (.ladd, 1) := by decide +kernel
theorem dX9_meet_220 : decode cX9_meet 220 = .ok (.lload 16, 2) := by decide +kernel
theorem dX9_meet_222 : decode cX9_meet 222 = .ok (.aload_n 0, 1) := by decide +kernel
theorem dX9_meet_223 : decode cX9_meet 223 = .ok (.iload_n 1, 1) := by decide +kernel
theorem dX9_meet_224 : decode cX9_meet 224 = .ok (.iload_n 2, 1) := by decide +kernel
theorem dX9_meet_225 : decode cX9_meet 225 = .ok (.iconst 2, 1) := by decide +kernel
theorem dX9_meet_226 : decode cX9_meet 226 = .ok (.invokevirtual 106, 3) := by decide +kernel
theorem dX9_meet_229 : decode cX9_meet 229 = .ok (.lmul, 1) := by decide +kernel
theorem dX9_meet_230 : decode cX9_meet 230 = .ok (.ladd, 1) := by decide +kernel
theorem dX9_meet_231 : decode cX9_meet 231 = .ok (.lmul, 1) := by decide +kernel
theorem dX9_meet_232 : decode cX9_meet 232 = .ok (.lastore, 1) := by decide +kernel
theorem dX9_meet_233 : decode cX9_meet 233 = .ok (.aload_n 0, 1) := by decide +kernel
theorem dX9_meet_234 : decode cX9_meet 234 = .ok (.getfield 15, 3) := by decide +kernel
theorem dX9_meet_237 : decode cX9_meet 237 = .ok (.iconst 3, 1) := by decide +kernel
theorem dX9_meet_238 : decode cX9_meet 238 = .ok (.lload 10, 2) := by decide +kernel
theorem dX9_meet_240 : decode cX9_meet 240 = .ok (.invokestatic 110, 3) := by decide +kernel
theorem dX9_meet_243 : decode cX9_meet 243 = .ok (.lastore, 1) := by decide +kernel
theorem dX9_meet_244 : decode cX9_meet 244 = .ok (.iconst 1, 1) := by decide +kernel
theorem dX9_meet_245 : decode cX9_meet 245 = .ok (.ireturn, 1) := by decide +kernel
theorem dX9_isInside_0 : decode cX9_isInside 0 = .ok (.iconst 0, 1) := by decide +kernel
theorem dX9_isInside_1 : decode cX9_isInside 1 = .ok (.istore_n 1, 1) := by decide +kernel
theorem dX9_isInside_2 : decode cX9_isInside 2 = .ok (.iload_n 1, 1) := by decide +kernel
theorem dX9_isInside_3 : decode cX9_isInside 3 = .ok (.iconst 4, 1) := by decide +kernel
theorem dX9_isInside_4 : decode cX9_isInside 4 = .ok (.aload_n 0, 1) := by decide +kernel
theorem dX9_isInside_5 : decode cX9_isInside 5 = .ok (.getfield 86, 3) := by decide +kernel
theorem dX9_isInside_8 : decode cX9_isInside 8 = .ok (.imul, 1) := by decide +kernel
theorem dX9_isInside_9 : decode cX9_isInside 9 = .ok (.if_icmp .ge 77, 3) := by decide +kernel
theorem dX9_isInside_12 : decode cX9_isInside 12 = .ok (.aload_n 0, 1) := by decide +kernel
theorem dX9_isInside_13 : decode cX9_isInside 13 = .ok (.getfield 11, 3) := by decide +kernel
theorem dX9_isInside_16 : decode cX9_isInside 16 = .ok (.iload_n 1, 1) := by decide +kernel
theorem dX9_isInside_17 : decode cX9_isInside 17 = .ok (.laload, 1) := by decide +kernel
theorem dX9_isInside_18 : decode cX9_isInside 18 = .ok (.aload_n 0, 1) := by decide +kernel
theorem dX9_isInside_19 : decode cX9_isInside 19 = .ok (.getfield 15, 3) := by decide +kernel
theorem dX9_isInside_22 : decode cX9_isInside 22 = .ok (.iconst 0, 1) := by decide +kernel
theorem dX9_isInside_23 : decode cX9_isInside 23 = .ok (.laload, 1) := by decide +kernel
theorem dX9_isInside_24 : decode cX9_isInside 24 = .ok (.lmul, 1) := by decide +kernel
theorem dX9_isInside_25 : decode cX9_isInside 25 = .ok (.aload_n 0, 1) := by decide +kernel
theorem dX9_isInside_26 : decode cX9_isInside 26 = .ok (.getfield 11, 3) := by decide +kernel
theorem dX9_isInside_29 : decode cX9_isInside 29 = .ok (.iload_n 1, 1) := by decide +kernel
theorem dX9_isInside_30 : decode cX9_isInside 30 = .ok (.iconst 1, 1) := by decide +kernel
theorem dX9_isInside_31 : decode cX9_isInside 31 = .ok (.iadd, 1) := by decide +kernel
theorem dX9_isInside_32 : decode cX9_isInside 32 = .ok (.laload, 1) := by decide +kernel
theorem dX9_isInside_33 : decode cX9_isInside 33 = .ok (.aload_n 0, 1) := by decide +kernel
theorem dX9_isInside_34 : decode cX9_isInside 34 = .ok (.getfield 15, 3) := by decide +kernel
theorem dX9_isInside_37 : decode cX9_isInside 37 = .ok (.iconst 1, 1) := by decide +kernel
theorem dX9_isInside_38 : decode cX9_isInside 38 = .ok (.laload, 1) := by decide +kernel
theorem dX9_isInside_39 : decode cX9_isInside 39 = .ok (.lmul, 1) := by decide +kernel
theorem dX9_isInside_40 : decode cX9_isInside 40 = .ok (.ladd, 1) := by decide +kernel
theorem dX9_isInside_41 : decode cX9_isInside 41 = .ok (.aload_n 0, 1) := by decide +kernel
theorem dX9_isInside_42 : decode cX9_isInside 42 = .ok (.getfield 11, 3) := by decide +kernel
theorem dX9_isInside_45 : decode cX9_isInside 45 = .ok (.iload_n 1, 1) := by decide +kernel
theorem dX9_isInside_46 : decode cX9_isInside 46 = .ok (.iconst 2, 1) := by decide +kernel
theorem dX9_isInside_47 : decode cX9_isInside 47 = .ok (.iadd, 1) := by decide +kernel
theorem dX9_isInside_48 : decode cX9_isInside 48 = .ok (.laload, 1) := by decide +kernel
theorem dX9_isInside_49 : decode cX9_isInside 49 = .ok (.aload_n 0, 1) := by decide +kernel
theorem dX9_isInside_50 : decode cX9_isInside 50 = .ok (.getfield 15, 3) := by decide +kernel
theorem dX9_isInside_53 : decode cX9_isInside 53 = .ok (.iconst 2, 1) := by decide +kernel
theorem dX9_isInside_54 : decode cX9_isInside 54 = .ok (.laload, 1) := by decide +kernel
theorem dX9_isInside_55 : decode cX9_isInside 55 = .ok (.lmul, 1) := by decide +kernel
theorem dX9_isInside_56 : decode cX9_isInside 56 = .ok (.ladd, 1) := by decide +kernel
theorem dX9_isInside_57 : decode cX9_isInside 57 = .ok (.aload_n 0, 1) := by decide +kernel
theorem dX9_isInside_58 : decode cX9_isInside 58 = .ok (.getfield 11, 3) := by decide +kernel
theorem dX9_isInside_61 : decode cX9_isInside 61 = .ok (.iload_n 1, 1) := by decide +kernel
theorem dX9_isInside_62 : decode cX9_isInside 62 = .ok (.iconst 3, 1) := by decide +kernel
theorem dX9_isInside_63 : decode cX9_isInside 63 = .ok (.iadd, 1) := by decide +kernel
theorem dX9_isInside_64 : decode cX9_isInside 64 = .ok (.laload, 1) := by decide +kernel
theorem dX9_isInside_65 : decode cX9_isInside 65 = .ok (.aload_n 0, 1) := by decide +kernel
theorem dX9_isInside_66 : decode cX9_isInside 66 = .ok (.getfield 15, 3) := by decide +kernel
theorem dX9_isInside_69 : decode cX9_isInside 69 = .ok (.iconst 3, 1) := by decide +kernel
theorem dX9_isInside_70 : decode cX9_isInside 70 = .ok (.laload, 1) := by decide +kernel
theorem dX9_isInside_71 : decode cX9_isInside 71 = .ok (.lmul, 1) := by decide +kernel
theorem dX9_isInside_72 : decode cX9_isInside 72 = .ok (.ladd, 1) := by decide +kernel
theorem dX9_isInside_73 : decode cX9_isInside 73 = .ok (.lconst 0, 1) := by decide +kernel
theorem dX9_isInside_74 : decode cX9_isInside 74 = .ok (.lcmp, 1) := by decide +kernel
theorem dX9_isInside_75 : decode cX9_isInside 75 = .ok (.ifCond .ge 5, 3) := by decide +kernel
theorem dX9_isInside_78 : decode cX9_isInside 78 = .ok (.iconst 0, 1) := by decide +kernel
theorem dX9_isInside_79 : decode cX9_isInside 79 = .ok (.ireturn, 1) := by decide +kernel
theorem dX9_isInside_80 : decode cX9_isInside 80 = .ok (.iinc 1 4, 3) := by decide +kernel
theorem dX9_isInside_83 : decode cX9_isInside 83 = .ok (.goto (-81), 3) := by decide +kernel
theorem dX9_isInside_86 : decode cX9_isInside 86 = .ok (.iconst 1, 1) := by decide +kernel
theorem dX9_isInside_87 : decode cX9_isInside 87 = .ok (.ireturn, 1) := by decide +kernel
theorem dX9_commonPart_0 : decode cX9_commonPart 0 = .ok (.lload_n 0, 1) := by decide +kernel
theorem dX9_commonPart_1 : decode cX9_commonPart 1 = .ok (.lstore 4, 2) := by decide +kernel
theorem dX9_commonPart_3 : decode cX9_commonPart 3 = .ok (.lload_n 2, 1) := by decide +kernel
theorem dX9_commonPart_4 : decode cX9_commonPart 4 = .ok (.lstore 6, 2) := by decide +kernel
theorem dX9_commonPart_6 : decode cX9_commonPart 6 = .ok (.iconst 0, 1) := by decide +kernel
theorem dX9_commonPart_7 : decode cX9_commonPart 7 = .ok (.istore 8, 2) := by decide +kernel
theorem dX9_commonPart_9 : decode cX9_commonPart 9 = .ok (.iload 8, 2) := by decide +kernel
theorem dX9_commonPart_11 : decode cX9_commonPart 11 = .ok (.bipush 100, 2) := by decide +kernel
theorem dX9_commonPart_13 : decode cX9_commonPart 13 = .ok (.if_icmp .ge 31, 3) := by decide +kernel
theorem dX9_commonPart_16 : decode cX9_commonPart 16 = .ok (.lload 6, 2) := by decide +kernel
theorem dX9_commonPart_18 : decode cX9_commonPart 18 = .ok (.lconst 0, 1) := by decide +kernel
theorem dX9_commonPart_19 : decode cX9_commonPart 19 = .ok (.lcmp, 1) := by decide +kernel
theorem dX9_commonPart_20 : decode cX9_commonPart 20 = .ok (.ifCond .eq 24, 3) := by decide +kernel
theorem dX9_commonPart_23 : decode cX9_commonPart 23 = .ok (.lload 4, 2) := by decide +kernel
theorem dX9_commonPart_25 : decode cX9_commonPart 25 = .ok (.lload 6, 2) := by decide +kernel
theorem dX9_commonPart_27 : decode cX9_commonPart 27 = .ok (.lrem, 1) := by decide +kernel
theorem dX9_commonPart_28 : decode cX9_commonPart 28 = .ok (.lstore 9, 2) := by decide +kernel
theorem dX9_commonPart_30 : decode cX9_commonPart 30 = .ok (.lload 6, 2) := by decide +kernel
theorem dX9_commonPart_32 : decode cX9_commonPart 32 = .ok (.lstore 4, 2) := by decide +kernel
theorem dX9_commonPart_34 : decode cX9_commonPart 34 = .ok (.lload 9, 2) := by decide +kernel
theorem dX9_commonPart_36 : decode cX9_commonPart 36 = .ok (.lstore 6, 2) := by decide +kernel
theorem dX9_commonPart_38 : decode cX9_commonPart 38 = .ok (.iinc 8 1, 3) := by decide +kernel
theorem dX9_commonPart_41 : decode cX9_commonPart 41 = .ok (.goto (-32), 3) := by decide +kernel
theorem dX9_commonPart_44 : decode cX9_commonPart 44 = .ok (.lload 4, 2) := by decide +kernel
theorem dX9_commonPart_46 : decode cX9_commonPart 46 = .ok (.lreturn, 1) := by decide +kernel
theorem dX9_shrink_0 : decode cX9_shrink 0 = .ok (.lconst 0, 1) := by decide +kernel
theorem dX9_shrink_1 : decode cX9_shrink 1 = .ok (.lstore_n 1, 1) := by decide +kernel
theorem dX9_shrink_2 : decode cX9_shrink 2 = .ok (.iconst 0, 1) := by decide +kernel
theorem dX9_shrink_3 : decode cX9_shrink 3 = .ok (.istore_n 3, 1) := by decide +kernel
theorem dX9_shrink_4 : decode cX9_shrink 4 = .ok (.iload_n 3, 1) := by decide +kernel
theorem dX9_shrink_5 : decode cX9_shrink 5 = .ok (.iconst 4, 1) := by decide +kernel
theorem dX9_shrink_6 : decode cX9_shrink 6 = .ok (.if_icmp .ge 23, 3) := by decide +kernel
theorem dX9_shrink_9 : decode cX9_shrink 9 = .ok (.lload_n 1, 1) := by decide +kernel
theorem dX9_shrink_10 : decode cX9_shrink 10 = .ok (.aload_n 0, 1) := by decide +kernel
theorem dX9_shrink_11 : decode cX9_shrink 11 = .ok (.getfield 15, 3) := by decide +kernel
theorem dX9_shrink_14 : decode cX9_shrink 14 = .ok (.iload_n 3, 1) := by decide +kernel
theorem dX9_shrink_15 : decode cX9_shrink 15 = .ok (.laload, 1) := by decide +kernel
theorem dX9_shrink_16 : decode cX9_shrink 16 = .ok (.invokestatic 110, 3) := by decide +kernel
theorem dX9_shrink_19 : decode cX9_shrink 19 = .ok (.invokestatic 116, 3) := by decide +kernel
theorem dX9_shrink_22 : decode cX9_shrink 22 = .ok (.lstore_n 1, 1) := by decide +kernel
theorem dX9_shrink_23 : decode cX9_shrink 23 = .ok (.iinc 3 1, 3) := by decide +kernel
theorem dX9_shrink_26 : decode cX9_shrink 26 = .ok (.goto (-22), 3) := by decide +kernel
theorem dX9_shrink_29 : decode cX9_shrink 29 = .ok (.lload_n 1, 1) := by decide +kernel
theorem dX9_shrink_30 : decode cX9_shrink 30 = .ok (.lconst 1, 1) := by decide +kernel
theorem dX9_shrink_31 : decode cX9_shrink 31 = .ok (.lcmp, 1) := by decide +kernel
theorem dX9_shrink_32 : decode cX9_shrink 32 = .ok (.ifCond .le 26, 3) := by decide +kernel
theorem dX9_shrink_35 : decode cX9_shrink 35 = .ok (.iconst 0, 1) := by decide +kernel
theorem dX9_shrink_36 : decode cX9_shrink 36 = .ok (.istore_n 3, 1) := by decide +kernel
theorem dX9_shrink_37 : decode cX9_shrink 37 = .ok (.iload_n 3, 1) := by decide +kernel
theorem dX9_shrink_38 : decode cX9_shrink 38 = .ok (.iconst 4, 1) := by decide +kernel
theorem dX9_shrink_39 : decode cX9_shrink 39 = .ok (.if_icmp .ge 19, 3) := by decide +kernel
theorem dX9_shrink_42 : decode cX9_shrink 42 = .ok (.aload_n 0, 1) := by decide +kernel
theorem dX9_shrink_43 : decode cX9_shrink 43 = .ok (.getfield 15, 3) := by decide +kernel
theorem dX9_shrink_46 : decode cX9_shrink 46 = .ok (.iload_n 3, 1) := by decide +kernel
theorem dX9_shrink_47 : decode cX9_shrink 47 = .ok (.dup2, 1) := by decide +kernel
theorem dX9_shrink_48 : decode cX9_shrink 48 = .ok (.laload, 1) := by decide +kernel
theorem dX9_shrink_49 : decode cX9_shrink 49 = .ok (.lload_n 1, 1) := by decide +kernel
theorem dX9_shrink_50 : decode cX9_shrink 50 = .ok (.ldiv, 1) := by decide +kernel
theorem dX9_shrink_51 : decode cX9_shrink 51 = .ok (.lastore, 1) := by decide +kernel
theorem dX9_shrink_52 : decode cX9_shrink 52 = .ok (.iinc 3 1, 3) := by decide +kernel
theorem dX9_shrink_55 : decode cX9_shrink 55 = .ok (.goto (-18), 3) := by decide +kernel
theorem dX9_shrink_58 : decode cX9_shrink 58 = .ok (.return_, 1) := by decide +kernel
theorem dX6_hasPoint_0 : decode cX6_hasPoint 0 = .ok (.iconst 0, 1) := by decide +kernel
theorem dX6_hasPoint_1 : decode cX6_hasPoint 1 = .ok (.istore_n 2, 1) := by decide +kernel
theorem dX6_hasPoint_2 : decode cX6_hasPoint 2 = .ok (.iload_n 2, 1) := by decide +kernel
theorem dX6_hasPoint_3 : decode cX6_hasPoint 3 = .ok (.iconst 4, 1) := by decide +kernel
theorem dX6_hasPoint_4 : decode cX6_hasPoint 4 = .ok (.aload_n 0, 1) := by decide +kernel
theorem dX6_hasPoint_5 : decode cX6_hasPoint 5 = .ok (.getfield 13, 3) := by decide +kernel
theorem dX6_hasPoint_8 : decode cX6_hasPoint 8 = .ok (.imul, 1) := by decide +kernel
theorem dX6_hasPoint_9 : decode cX6_hasPoint 9 = .ok (.if_icmp .ge 69, 3) := by decide +kernel
theorem dX6_hasPoint_12 : decode cX6_hasPoint 12 = .ok (.aload_n 0, 1) := by decide +kernel
theorem dX6_hasPoint_13 : decode cX6_hasPoint 13 = .ok (.getfield 9, 3) := by decide +kernel
theorem dX6_hasPoint_16 : decode cX6_hasPoint 16 = .ok (.iload_n 2, 1) := by decide +kernel
theorem dX6_hasPoint_17 : decode cX6_hasPoint 17 = .ok (.laload, 1) := by decide +kernel
theorem dX6_hasPoint_18 : decode cX6_hasPoint 18 = .ok (.aload_n 1, 1) := by decide +kernel
theorem dX6_hasPoint_19 : decode cX6_hasPoint 19 = .ok (.iconst 0, 1) := by decide +kernel
theorem dX6_hasPoint_20 : decode cX6_hasPoint 20 = .ok (.laload, 1) := by decide +kernel
theorem dX6_hasPoint_21 : decode cX6_hasPoint 21 = .ok (.lcmp, 1) := by decide +kernel
theorem dX6_hasPoint_22 : decode cX6_hasPoint 22 = .ok (.ifCond .ne 50, 3) := by decide +kernel
theorem dX6_hasPoint_25 : decode cX6_hasPoint 25 = .ok (.aload_n 0, 1) := by decide +kernel
theorem dX6_hasPoint_26 : decode cX6_hasPoint 26 = .ok (.getfield 9, 3) := by decide +kernel
theorem dX6_hasPoint_29 : decode cX6_hasPoint 29 = .ok (.iload_n 2, 1) := by decide +kernel
theorem dX6_hasPoint_30 : decode cX6_hasPoint 30 = .ok (.iconst 1, 1) := by decide +kernel
theorem dX6_hasPoint_31 : decode cX6_hasPoint 31 = .ok (.iadd, 1) := by decide +kernel
theorem dX6_hasPoint_32 : decode cX6_hasPoint 32 = .ok (.laload, 1) := by decide +kernel
theorem dX6_hasPoint_33 : decode cX6_hasPoint 33 = .ok (.aload_n 1, 1) := by decide +kernel
theorem dX6_hasPoint_34 : decode cX6_hasPoint 34 = .ok (.iconst 1, 1) := by decide +kernel
theorem dX6_hasPoint_35 : decode cX6_hasPoint 35 = .ok (.laload, 1) := by decide +kernel
theorem dX6_hasPoint_36 : decode cX6_hasPoint 36 = .ok (.lcmp, 1) := by decide +kernel
theorem dX6_hasPoint_37 : decode cX6_hasPoint 37 = .ok (.ifCond .ne 35, 3) := by decide +kernel
theorem dX6_hasPoint_40 : decode cX6_hasPoint 40 = .ok (.aload_n 0, 1) := by decide +kernel
theorem dX6_hasPoint_41 : decode cX6_hasPoint 41 = .ok (.getfield 9, 3) := by decide +kernel
theorem dX6_hasPoint_44 : decode cX6_hasPoint 44 = .ok (.iload_n 2, 1) := by decide +kernel
theorem dX6_hasPoint_45 : decode cX6_hasPoint 45 = .ok (.iconst 2, 1) := by decide +kernel
theorem dX6_hasPoint_46 : decode cX6_hasPoint 46 = .ok (.iadd, 1) := by decide +kernel
theorem dX6_hasPoint_47 : decode cX6_hasPoint 47 = .ok (.laload, 1) := by decide +kernel
theorem dX6_hasPoint_48 : decode cX6_hasPoint 48 = .ok (.aload_n 1, 1) := by decide +kernel
theorem dX6_hasPoint_49 : decode cX6_hasPoint 49 = .ok (.iconst 2, 1) := by decide +kernel
theorem dX6_hasPoint_50 : decode cX6_hasPoint 50 = .ok (.laload, 1) := by decide +kernel
theorem dX6_hasPoint_51 : decode cX6_hasPoint 51 = .ok (.lcmp, 1) := by decide +kernel
theorem dX6_hasPoint_52 : decode cX6_hasPoint 52 = .ok (.ifCond .ne 20, 3) := by decide +kernel
theorem dX6_hasPoint_55 : decode cX6_hasPoint 55 = .ok (.aload_n 0, 1) := by decide +kernel
theorem dX6_hasPoint_56 : decode cX6_hasPoint 56 = .ok (.getfield 9, 3) := by decide +kernel
theorem dX6_hasPoint_59 : decode cX6_hasPoint 59 = .ok (.iload_n 2, 1) := by decide +kernel
theorem dX6_hasPoint_60 : decode cX6_hasPoint 60 = .ok (.iconst 3, 1) := by decide +kernel
theorem dX6_hasPoint_61 : decode cX6_hasPoint 61 = .ok (.iadd, 1) := by decide +kernel
theorem dX6_hasPoint_62 : decode cX6_hasPoint 62 = .ok (.laload, 1) := by decide +kernel
theorem dX6_hasPoint_63 : decode cX6_hasPoint 63 = .ok (.aload_n 1, 1) := by decide +kernel
theorem dX6_hasPoint_64 : decode cX6_hasPoint 64 = .ok (.iconst 3, 1) := by decide +kernel
theorem dX6_hasPoint_65 : decode cX6_hasPoint 65 = .ok (.laload, 1) := by decide +kernel
theorem dX6_hasPoint_66 : decode cX6_hasPoint 66 = .ok (.lcmp, 1) := by decide +kernel
theorem dX6_hasPoint_67 : decode cX6_hasPoint 67 = .ok (.ifCond .ne 5, 3) := by decide +kernel
theorem dX6_hasPoint_70 : decode cX6_hasPoint 70 = .ok (.iconst 1, 1) := by decide +kernel
theorem dX6_hasPoint_71 : decode cX6_hasPoint 71 = .ok (.ireturn, 1) := by decide +kernel
theorem dX6_hasPoint_72 : decode cX6_hasPoint 72 = .ok (.iinc 2 4, 3) := by decide +kernel
theorem dX6_hasPoint_75 : decode cX6_hasPoint 75 = .ok (.goto (-73), 3) := by decide +kernel
theorem dX6_hasPoint_78 : decode cX6_hasPoint 78 = .ok (.iconst 0, 1) := by decide +kernel
theorem dX6_hasPoint_79 : decode cX6_hasPoint 79 = .ok (.ireturn, 1) := by decide +kernel
theorem dX6_add_0 : decode cX6_add 0 = .ok (.aload_n 0, 1) := by decide +kernel
theorem dX6_add_1 : decode cX6_add 1 = .ok (.getfield 13, 3) := by decide +kernel
theorem dX6_add_4 : decode cX6_add 4 = .ok (.sipush 128, 3) := by decide +kernel
theorem dX6_add_7 : decode cX6_add 7 = .ok (.if_icmp .ge 11, 3) := by decide +kernel
theorem dX6_add_10 : decode cX6_add 10 = .ok (.aload_n 0, 1) := by decide +kernel
theorem dX6_add_11 : decode cX6_add 11 = .ok (.aload_n 1, 1) := by decide +kernel
theorem dX6_add_12 : decode cX6_add 12 = .ok (.invokevirtual 20, 3) := by decide +kernel
theorem dX6_add_15 : decode cX6_add 15 = .ok (.ifCond .eq 4, 3) := by decide +kernel
theorem dX6_add_18 : decode cX6_add 18 = .ok (.return_, 1) := by decide +kernel
theorem dX6_add_19 : decode cX6_add 19 = .ok (.aload_n 1, 1) := by decide +kernel
theorem dX6_add_20 : decode cX6_add 20 = .ok (.iconst 0, 1) := by decide +kernel
theorem dX6_add_21 : decode cX6_add 21 = .ok (.aload_n 0, 1) := by decide +kernel
theorem dX6_add_22 : decode cX6_add 22 = .ok (.getfield 9, 3) := by decide +kernel
theorem dX6_add_25 : decode cX6_add 25 = .ok (.iconst 4, 1) := by decide +kernel
theorem dX6_add_26 : decode cX6_add 26 = .ok (.aload_n 0, 1) := by decide +kernel
theorem dX6_add_27 : decode cX6_add 27 = .ok (.getfield 13, 3) := by decide +kernel
theorem dX6_add_30 : decode cX6_add 30 = .ok (.imul, 1) := by decide +kernel
theorem dX6_add_31 : decode cX6_add 31 = .ok (.iconst 4, 1) := by decide +kernel
theorem dX6_add_32 : decode cX6_add 32 = .ok (.invokestatic 24, 3) := by decide +kernel
theorem dX6_add_35 : decode cX6_add 35 = .ok (.aload_n 0, 1) := by decide +kernel
theorem dX6_add_36 : decode cX6_add 36 = .ok (.dup, 1) := by decide +kernel
theorem dX6_add_37 : decode cX6_add 37 = .ok (.getfield 13, 3) := by decide +kernel
theorem dX6_add_40 : decode cX6_add 40 = .ok (.iconst 1, 1) := by decide +kernel
theorem dX6_add_41 : decode cX6_add 41 = .ok (.iadd, 1) := by decide +kernel
theorem dX6_add_42 : decode cX6_add 42 = .ok (.putfield 13, 3) := by decide +kernel
theorem dX6_add_45 : decode cX6_add 45 = .ok (.aload_n 1, 1) := by decide +kernel
theorem dX6_add_46 : decode cX6_add 46 = .ok (.iconst 3, 1) := by decide +kernel
theorem dX6_add_47 : decode cX6_add 47 = .ok (.laload, 1) := by decide +kernel
theorem dX6_add_48 : decode cX6_add 48 = .ok (.lconst 0, 1) := by decide +kernel
theorem dX6_add_49 : decode cX6_add 49 = .ok (.lcmp, 1) := by decide +kernel
theorem dX6_add_50 : decode cX6_add 50 = .ok (.ifCond .le 11, 3) := by decide +kernel
theorem dX6_add_53 : decode cX6_add 53 = .ok (.aload_n 0, 1) := by decide +kernel
theorem dX6_add_54 : decode cX6_add 54 = .ok (.aload_n 0, 1) := by decide +kernel
theorem dX6_add_55 : decode cX6_add 55 = .ok (.getfield 13, 3) := by decide +kernel
theorem dX6_add_58 : decode cX6_add 58 = .ok (.putfield 17, 3) := by decide +kernel
theorem dX6_add_61 : decode cX6_add 61 = .ok (.return_, 1) := by decide +kernel
theorem dX9_findCorners_0 : decode cX9_findCorners 0 = .ok (.iconst 0, 1) := by decide +kernel
theorem dX9_findCorners_1 : decode cX9_findCorners 1 = .ok (.istore_n 2, 1) := by decide +kernel
theorem dX9_findCorners_2 : decode cX9_findCorners 2 = .ok (.iload_n 2, 1) := by decide +kernel
theorem dX9_findCorners_3 : decode cX9_findCorners 3 = .ok (.aload_n 0, 1) := by decide +kernel
theorem dX9_findCorners_4 : decode cX9_findCorners 4 = .ok (.getfield 48, 3) := by decide +kernel
theorem dX9_findCorners_7 : decode cX9_findCorners 7 = .ok (.if_icmp .ge 83, 3) := by decide +kernel
theorem dX9_findCorners_10 : decode cX9_findCorners 10 = .ok (.iload_n 2, 1) := by decide +kernel
theorem dX9_findCorners_11 : decode cX9_findCorners 11 = .ok (.iconst 1, 1) := by decide +kernel
theorem dX9_findCorners_12 : decode cX9_findCorners 12 = .ok (.iadd, 1) := by decide +kernel
theorem dX9_findCorners_13 : decode cX9_findCorners 13 = .ok (.istore_n 3, 1) := by decide +kernel
theorem dX9_findCorners_14 : decode cX9_findCorners 14 = .ok (.iload_n 3, 1) := by decide +kernel
theorem dX9_findCorners_15 : decode cX9_findCorners 15 = .ok (.aload_n 0, 1) := by decide +kernel
theorem dX9_findCorners_16 : decode cX9_findCorners 16 = .ok (.getfield 48, 3) := by decide +kernel
theorem dX9_findCorners_19 : decode cX9_findCorners 19 = .ok (.if_icmp .ge 65, 3) := by decide +kernel
theorem dX9_findCorners_22 : decode cX9_findCorners 22 = .ok (.iload_n 3, 1) := by decide +kernel
theorem dX9_findCorners_23 : decode cX9_findCorners 23 = .ok (.iconst 1, 1) := by decide +kernel
theorem dX9_findCorners_24 : decode cX9_findCorners 24 = .ok (.iadd, 1) := by decide +kernel
theorem dX9_findCorners_25 : decode cX9_findCorners 25 = .ok (.istore 4, 2) := by decide +kernel
theorem dX9_findCorners_27 : decode cX9_findCorners 27 = .ok (.iload 4, 2) := by decide +kernel
theorem dX9_findCorners_29 : decode cX9_findCorners 29 = .ok (.aload_n 0, 1) := by decide +kernel
theorem dX9_findCorners_30 : decode cX9_findCorners 30 = .ok (.getfield 48, 3) := by decide +kernel
theorem dX9_findCorners_33 : decode cX9_findCorners 33 = .ok (.if_icmp .ge 45, 3) := by decide +kernel
theorem dX9_findCorners_36 : decode cX9_findCorners 36 = .ok (.aload_n 0, 1) := by decide +kernel
theorem dX9_findCorners_37 : decode cX9_findCorners 37 = .ok (.iconst 4, 1) := by decide +kernel
theorem dX9_findCorners_38 : decode cX9_findCorners 38 = .ok (.iload_n 2, 1) := by decide +kernel
theorem dX9_findCorners_39 : decode cX9_findCorners 39 = .ok (.imul, 1) := by decide +kernel
theorem dX9_findCorners_40 : decode cX9_findCorners 40 = .ok (.iconst 4, 1) := by decide +kernel
theorem dX9_findCorners_41 : decode cX9_findCorners 41 = .ok (.iload_n 3, 1) := by decide +kernel
theorem dX9_findCorners_42 : decode cX9_findCorners 42 = .ok (.imul, 1) := by decide +kernel
theorem dX9_findCorners_43 : decode cX9_findCorners 43 = .ok (.iconst 4, 1) := by decide +kernel
theorem dX9_findCorners_44 : decode cX9_findCorners 44 = .ok (.iload 4, 2) := by decide +kernel
theorem dX9_findCorners_46 : decode cX9_findCorners 46 = .ok (.imul, 1) := by decide +kernel
theorem dX9_findCorners_47 : decode cX9_findCorners 47 = .ok (.invokevirtual 89, 3) := by decide +kernel
theorem dX9_findCorners_50 : decode cX9_findCorners 50 = .ok (.ifCond .eq 22, 3) := by decide +kernel
theorem dX9_findCorners_53 : decode cX9_findCorners 53 = .ok (.aload_n 0, 1) := by decide +kernel
theorem dX9_findCorners_54 : decode cX9_findCorners 54 = .ok (.invokevirtual 93, 3) := by decide +kernel
theorem dX9_findCorners_57 : decode cX9_findCorners 57 = .ok (.ifCond .eq 15, 3) := by decide +kernel
theorem dX9_findCorners_60 : decode cX9_findCorners 60 = .ok (.aload_n 0, 1) := by decide +kernel
theorem dX9_findCorners_61 : decode cX9_findCorners 61 = .ok (.invokevirtual 96, 3) := by decide +kernel
theorem dX9_findCorners_64 : decode cX9_findCorners 64 = .ok (.aload_n 1, 1) := by decide +kernel
theorem dX9_findCorners_65 : decode cX9_findCorners 65 = .ok (.aload_n 0, 1) := by decide +kernel
theorem dX9_findCorners_66 : decode cX9_findCorners 66 = .ok (.getfield 15, 3) := by decide +kernel
theorem dX9_findCorners_69 : decode cX9_findCorners 69 = .ok (.invokevirtual 99, 3) := by decide +kernel
theorem dX9_findCorners_72 : decode cX9_findCorners 72 = .ok (.iinc 4 1, 3) := by decide +kernel
theorem dX9_findCorners_75 : decode cX9_findCorners 75 = .ok (.goto (-48), 3) := by decide +kernel
theorem dX9_findCorners_78 : decode cX9_findCorners 78 = .ok (.iinc 3 1, 3) := by decide +kernel
theorem dX9_findCorners_81 : decode cX9_findCorners 81 = .ok (.goto (-67), 3) := by decide +kernel
theorem dX9_findCorners_84 : decode cX9_findCorners 84 = .ok (.iinc 2 1, 3) := by decide +kernel
theorem dX9_findCorners_87 : decode cX9_findCorners 87 = .ok (.goto (-85), 3) := by decide +kernel
theorem dX9_findCorners_90 : decode cX9_findCorners 90 = .ok (.return_, 1) := by decide +kernel
theorem dX6_isEmpty_0 : decode cX6_isEmpty 0 = .ok (.aload_n 0, 1) := by decide +kernel
theorem dX6_isEmpty_1 : decode cX6_isEmpty 1 = .ok (.getfield 17, 3) := by decide +kernel
theorem dX6_isEmpty_4 : decode cX6_isEmpty 4 = .ok (.ifCond .ne 7, 3) := by decide +kernel
theorem dX6_isEmpty_7 : decode cX6_isEmpty 7 = .ok (.iconst 1, 1) := by decide +kernel
theorem dX6_isEmpty_8 : decode cX6_isEmpty 8 = .ok (.goto 4, 3) := by decide +kernel
theorem dX6_isEmpty_11 : decode cX6_isEmpty 11 = .ok (.iconst 0, 1) := by decide +kernel
theorem dX6_isEmpty_12 : decode cX6_isEmpty 12 = .ok (.ireturn, 1) := by decide +kernel
theorem dX9_follow_0 : decode cX9_follow 0 = .ok (.aload_n 0, 1) := by decide +kernel
theorem dX9_follow_1 : decode cX9_follow 1 = .ok (.getfield 15, 3) := by decide +kernel
theorem dX9_follow_4 : decode cX9_follow 4 = .ok (.iconst 0, 1) := by decide +kernel
theorem dX9_follow_5 : decode cX9_follow 5 = .ok (.iload_n 3, 1) := by decide +kernel
theorem dX9_follow_6 : decode cX9_follow 6 = .ok (.i2l, 1) := by decide +kernel
theorem dX9_follow_7 : decode cX9_follow 7 = .ok (.aload_n 0, 1) := by decide +kernel
theorem dX9_follow_8 : decode cX9_follow 8 = .ok (.iload_n 1, 1) := by decide +kernel
theorem dX9_follow_9 : decode cX9_follow 9 = .ok (.iload_n 2, 1) := by decide +kernel
theorem dX9_follow_10 : decode cX9_follow 10 = .ok (.iconst 0, 1) := by decide +kernel
theorem dX9_follow_11 : decode cX9_follow 11 = .ok (.invokevirtual 106, 3) := by decide +kernel
theorem dX9_follow_14 : decode cX9_follow 14 = .ok (.lmul, 1) := by decide +kernel
theorem dX9_follow_15 : decode cX9_follow 15 = .ok (.lastore, 1) := by decide +kernel
theorem dX9_follow_16 : decode cX9_follow 16 = .ok (.aload_n 0, 1) := by decide +kernel
theorem dX9_follow_17 : decode cX9_follow 17 = .ok (.getfield 15, 3) := by decide +kernel
theorem dX9_follow_20 : decode cX9_follow 20 = .ok (.iconst 1, 1) := by decide +kernel
theorem dX9_follow_21 : decode cX9_follow 21 = .ok (.iload_n 3, 1) := by decide +kernel
theorem dX9_follow_22 : decode cX9_follow 22 = .ok (.i2l, 1) := by decide +kernel
theorem dX9_follow_23 : decode cX9_follow 23 = .ok (.aload_n 0, 1) := by decide +kernel
theorem dX9_follow_24 : decode cX9_follow 24 = .ok (.iload_n 1, 1) := by decide +kernel
theorem dX9_follow_25 : decode cX9_follow 25 = .ok (.iload_n 2, 1) := by decide +kernel
theorem dX9_follow_26 : decode cX9_follow 26 = .ok (.iconst 1, 1) := by decide +kernel
theorem dX9_follow_27 : decode cX9_follow 27 = .ok (.invokevirtual 106, 3) := by decide +kernel
theorem dX9_follow_30 : decode cX9_follow 30 = .ok (.lmul, 1) := by decide +kernel
theorem dX9_follow_31 : decode cX9_follow 31 = .ok (.lastore, 1) := by decide +kernel
theorem dX9_follow_32 : decode cX9_follow 32 = .ok (.aload_n 0, 1) := by decide +kernel
theorem dX9_follow_33 : decode cX9_follow 33 = .ok (.getfield 15, 3) := by decide +kernel
theorem dX9_follow_36 : decode cX9_follow 36 = .ok (.iconst 2, 1) := by decide +kernel
theorem dX9_follow_37 : decode cX9_follow 37 = .ok (.iload_n 3, 1) := by decide +kernel
theorem dX9_follow_38 : decode cX9_follow 38 = .ok (.i2l, 1) := by decide +kernel
theorem dX9_follow_39 : decode cX9_follow 39 = .ok (.aload_n 0, 1) := by decide +kernel
theorem dX9_follow_40 : decode cX9_follow 40 = .ok (.iload_n 1, 1) := by decide +kernel
theorem dX9_follow_41 : decode cX9_follow 41 = .ok (.iload_n 2, 1) := by decide +kernel
theorem dX9_follow_42 : decode cX9_follow 42 = .ok (.iconst 2, 1) := by decide +kernel
theorem dX9_follow_43 : decode cX9_follow 43 = .ok (.invokevirtual 106, 3) := by decide +kernel
theorem dX9_follow_46 : decode cX9_follow 46 = .ok (.lmul, 1) := by decide +kernel
theorem dX9_follow_47 : decode cX9_follow 47 = .ok (.lastore, 1) := by decide +kernel
theorem dX9_follow_48 : decode cX9_follow 48 = .ok (.aload_n 0, 1) := by decide +kernel
theorem dX9_follow_49 : decode cX9_follow 49 = .ok (.getfield 15, 3) := by decide +kernel
theorem dX9_follow_52 : decode cX9_follow 52 = .ok (.iconst 3, 1) := by decide +kernel
theorem dX9_follow_53 : decode cX9_follow 53 = .ok (.lconst 0, 1) := by decide +kernel
theorem dX9_follow_54 : decode cX9_follow 54 = .ok (.lastore, 1) := by decide +kernel
theorem dX9_follow_55 : decode cX9_follow 55 = .ok (.aload_n 0, 1) := by decide +kernel
theorem dX9_follow_56 : decode cX9_follow 56 = .ok (.getfield 15, 3) := by decide +kernel
theorem dX9_follow_59 : decode cX9_follow 59 = .ok (.iconst 0, 1) := by decide +kernel
theorem dX9_follow_60 : decode cX9_follow 60 = .ok (.laload, 1) := by decide +kernel
theorem dX9_follow_61 : decode cX9_follow 61 = .ok (.lconst 0, 1) := by decide +kernel
theorem dX9_follow_62 : decode cX9_follow 62 = .ok (.lcmp, 1) := by decide +kernel
theorem dX9_follow_63 : decode cX9_follow 63 = .ok (.ifCond .ne 25, 3) := by decide +kernel
theorem dX9_follow_66 : decode cX9_follow 66 = .ok (.aload_n 0, 1) := by decide +kernel
theorem dX9_follow_67 : decode cX9_follow 67 = .ok (.getfield 15, 3) := by decide +kernel
theorem dX9_follow_70 : decode cX9_follow 70 = .ok (.iconst 1, 1) := by decide +kernel
theorem dX9_follow_71 : decode cX9_follow 71 = .ok (.laload, 1) := by decide +kernel
theorem dX9_follow_72 : decode cX9_follow 72 = .ok (.lconst 0, 1) := by decide +kernel
theorem dX9_follow_73 : decode cX9_follow 73 = .ok (.lcmp, 1) := by decide +kernel
theorem dX9_follow_74 : decode cX9_follow 74 = .ok (.ifCond .ne 14, 3) := by decide +kernel
theorem dX9_follow_77 : decode cX9_follow 77 = .ok (.aload_n 0, 1) := by decide +kernel
theorem dX9_follow_78 : decode cX9_follow 78 = .ok (.getfield 15, 3) := by decide +kernel
theorem dX9_follow_81 : decode cX9_follow 81 = .ok (.iconst 2, 1) := by decide +kernel
theorem dX9_follow_82 : decode cX9_follow 82 = .ok (.laload, 1) := by decide +kernel
theorem dX9_follow_83 : decode cX9_follow 83 = .ok (.lconst 0, 1) := by decide +kernel
theorem dX9_follow_84 : decode cX9_follow 84 = .ok (.lcmp, 1) := by decide +kernel
theorem dX9_follow_85 : decode cX9_follow 85 = .ok (.ifCond .eq 7, 3) := by decide +kernel
theorem dX9_follow_88 : decode cX9_follow 88 = .ok (.iconst 1, 1) := by decide +kernel
theorem dX9_follow_89 : decode cX9_follow 89 = .ok (.goto 4, 3) := by decide +kernel
theorem dX9_follow_92 : decode cX9_follow 92 = .ok (.iconst 0, 1) := by decide +kernel
theorem dX9_follow_93 : decode cX9_follow 93 = .ok (.ireturn, 1) := by decide +kernel
theorem dX9_findDirections_0 : decode cX9_findDirections 0 = .ok (.iconst 0, 1) := by decide +kernel
theorem dX9_findDirections_1 : decode cX9_findDirections 1 = .ok (.istore_n 2, 1) := by decide +kernel
theorem dX9_findDirections_2 : decode cX9_findDirections 2 = .ok (.iload_n 2, 1) := by decide +kernel
theorem dX9_findDirections_3 : decode cX9_findDirections 3 = .ok (.aload_n 0, 1) := by decide +kernel
theorem dX9_findDirections_4 : decode cX9_findDirections 4 = .ok (.getfield 48, 3) := by decide +kernel
theorem dX9_findDirections_7 : decode cX9_findDirections 7 = .ok (.if_icmp .ge 76, 3) := by decide +kernel
theorem dX9_findDirections_10 : decode cX9_findDirections 10 = .ok (.iload_n 2, 1) := by decide +kernel
theorem dX9_findDirections_11 : decode cX9_findDirections 11 = .ok (.iconst 1, 1) := by decide +kernel
theorem dX9_findDirections_12 : decode cX9_findDirections 12 = .ok (.iadd, 1) := by decide +kernel
theorem dX9_findDirections_13 : decode cX9_findDirections 13 = .ok (.istore_n 3, 1) := by decide +kernel
theorem dX9_findDirections_14 : decode cX9_findDirections 14 = .ok (.iload_n 3, 1) := by decide +kernel
theorem dX9_findDirections_15 : decode cX9_findDirections 15 = .ok (.aload_n 0, 1) := by decide +kernel
theorem dX9_findDirections_16 : decode cX9_findDirections 16 = .ok (.getfield 48, 3) := by decide +kernel
theorem dX9_findDirections_19 : decode cX9_findDirections 19 = .ok (.if_icmp .ge 58, 3) := by decide +kernel
theorem dX9_findDirections_22 : decode cX9_findDirections 22 = .ok (.iconst (-1), 1) := by decide +kernel
theorem dX9_findDirections_23 : decode cX9_findDirections 23 = .ok (.istore 4, 2) := by decide +kernel
theorem dX9_findDirections_25 : decode cX9_findDirections 25 = .ok (.iload 4, 2) := by decide +kernel
theorem dX9_findDirections_27 : decode cX9_findDirections 27 = .ok (.iconst 1, 1) := by decide +kernel
theorem dX9_findDirections_28 : decode cX9_findDirections 28 = .ok (.if_icmp .gt 43, 3) := by decide +kernel
theorem dX9_findDirections_31 : decode cX9_findDirections 31 = .ok (.aload_n 0, 1) := by decide +kernel
theorem dX9_findDirections_32 : decode cX9_findDirections 32 = .ok (.iconst 4, 1) := by decide +kernel
theorem dX9_findDirections_33 : decode cX9_findDirections 33 = .ok (.iload_n 2, 1) := by decide +kernel
theorem dX9_findDirections_34 : decode cX9_findDirections 34 = .ok (.imul, 1) := by decide +kernel
theorem dX9_findDirections_35 : decode cX9_findDirections 35 = .ok (.iconst 4, 1) := by decide +kernel
theorem dX9_findDirections_36 : decode cX9_findDirections 36 = .ok (.iload_n 3, 1) := by decide +kernel
theorem dX9_findDirections_37 : decode cX9_findDirections 37 = .ok (.imul, 1) := by decide +kernel
theorem dX9_findDirections_38 : decode cX9_findDirections 38 = .ok (.iload 4, 2) := by decide +kernel
theorem dX9_findDirections_40 : decode cX9_findDirections 40 = .ok (.invokevirtual 103, 3) := by decide +kernel
theorem dX9_findDirections_43 : decode cX9_findDirections 43 = .ok (.ifCond .eq 22, 3) := by decide +kernel
theorem dX9_findDirections_46 : decode cX9_findDirections 46 = .ok (.aload_n 0, 1) := by decide +kernel
theorem dX9_findDirections_47 : decode cX9_findDirections 47 = .ok (.invokevirtual 93, 3) := by decide +kernel
theorem dX9_findDirections_50 : decode cX9_findDirections 50 = .ok (.ifCond .eq 15, 3) := by decide +kernel
theorem dX9_findDirections_53 : decode cX9_findDirections 53 = .ok (.aload_n 0, 1) := by decide +kernel
theorem dX9_findDirections_54 : decode cX9_findDirections 54 = .ok (.invokevirtual 96, 3) := by decide +kernel
theorem dX9_findDirections_57 : decode cX9_findDirections 57 = .ok (.aload_n 1, 1) := by decide +kernel
theorem dX9_findDirections_58 : decode cX9_findDirections 58 = .ok (.aload_n 0, 1) := by decide +kernel
theorem dX9_findDirections_59 : decode cX9_findDirections 59 = .ok (.getfield 15, 3) := by decide +kernel
theorem dX9_findDirections_62 : decode cX9_findDirections 62 = .ok (.invokevirtual 99, 3) := by decide +kernel
theorem dX9_findDirections_65 : decode cX9_findDirections 65 = .ok (.iinc 4 2, 3) := by decide +kernel
theorem dX9_findDirections_68 : decode cX9_findDirections 68 = .ok (.goto (-43), 3) := by decide +kernel
theorem dX9_findDirections_71 : decode cX9_findDirections 71 = .ok (.iinc 3 1, 3) := by decide +kernel
theorem dX9_findDirections_74 : decode cX9_findDirections 74 = .ok (.goto (-60), 3) := by decide +kernel
theorem dX9_findDirections_77 : decode cX9_findDirections 77 = .ok (.iinc 2 1, 3) := by decide +kernel
theorem dX9_findDirections_80 : decode cX9_findDirections 80 = .ok (.goto (-78), 3) := by decide +kernel
theorem dX9_findDirections_83 : decode cX9_findDirections 83 = .ok (.return_, 1) := by decide +kernel
theorem dX9_shape_0 : decode cX9_shape 0 = .ok (.aload_n 0, 1) := by decide +kernel
