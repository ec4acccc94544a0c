theorem dX3_keep_18 : decode cX3_keep 18 = .ok (.if_icmp .ge 46, 3) := by decide +kernel
theorem dX3_keep_21 : decode cX3_keep 21 = .ok (.aload_n 0, 1) := by decide +kernel
theorem dX3_keep_22 : decode cX3_keep 22 = .ok (.getfield 18, 3) := by decide +kernel
theorem dX3_keep_25 : decode cX3_keep 25 = .ok (.iload_n 3, 1) := by decide +kernel
theorem dX3_keep_26 : decode cX3_keep 26 = .ok (.iaload, 1) := by decide +kernel
theorem dX3_keep_27 : decode cX3_keep 27 = .ok (.ifCond .eq 37, 3) := by decide +kernel
theorem dX3_keep_30 : decode cX3_keep 30 = .ok (.aload_n 0, 1) := by decide +kernel
theorem dX3_keep_31 : decode cX3_keep 31 = .ok (.getfield 15, 3) := by decide +kernel
theorem dX3_keep_34 : decode cX3_keep 34 = .ok (.aload_n 0, 1) := by decide +kernel
theorem dX3_keep_35 : decode cX3_keep 35 = .ok (.getfield 18, 3) := by decide +kernel
theorem dX3_keep_38 : decode cX3_keep 38 = .ok (.iload_n 3, 1) := by decide +kernel
theorem dX3_keep_39 : decode cX3_keep 39 = .ok (.iaload, 1) := by decide +kernel
theorem dX3_keep_40 : decode cX3_keep 40 = .ok (.iconst 1, 1) := by decide +kernel
theorem dX3_keep_41 : decode cX3_keep 41 = .ok (.isub, 1) := by decide +kernel
theorem dX3_keep_42 : decode cX3_keep 42 = .ok (.laload, 1) := by decide +kernel
theorem dX3_keep_43 : decode cX3_keep 43 = .ok (.lload_n 1, 1) := by decide +kernel
theorem dX3_keep_44 : decode cX3_keep 44 = .ok (.lcmp, 1) := by decide +kernel
theorem dX3_keep_45 : decode cX3_keep 45 = .ok (.ifCond .ne 5, 3) := by decide +kernel
theorem dX3_keep_48 : decode cX3_keep 48 = .ok (.iconst 1, 1) := by decide +kernel
theorem dX3_keep_49 : decode cX3_keep 49 = .ok (.ireturn, 1) := by decide +kernel
theorem dX3_keep_50 : decode cX3_keep 50 = .ok (.iload_n 3, 1) := by decide +kernel
theorem dX3_keep_51 : decode cX3_keep 51 = .ok (.iconst 1, 1) := by decide +kernel
theorem dX3_keep_52 : decode cX3_keep 52 = .ok (.iadd, 1) := by decide +kernel
theorem dX3_keep_53 : decode cX3_keep 53 = .ok (.sipush 2047, 3) := by decide +kernel
theorem dX3_keep_56 : decode cX3_keep 56 = .ok (.iand, 1) := by decide +kernel
theorem dX3_keep_57 : decode cX3_keep 57 = .ok (.istore_n 3, 1) := by decide +kernel
theorem dX3_keep_58 : decode cX3_keep 58 = .ok (.iinc 4 1, 3) := by decide +kernel
theorem dX3_keep_61 : decode cX3_keep 61 = .ok (.goto (-48), 3) := by decide +kernel
theorem dX3_keep_64 : decode cX3_keep 64 = .ok (.aload_n 0, 1) := by decide +kernel
theorem dX3_keep_65 : decode cX3_keep 65 = .ok (.getfield 47, 3) := by decide +kernel
theorem dX3_keep_68 : decode cX3_keep 68 = .ok (.sipush 1000, 3) := by decide +kernel
theorem dX3_keep_71 : decode cX3_keep 71 = .ok (.if_icmp .lt 5, 3) := by decide +kernel
theorem dX3_keep_74 : decode cX3_keep 74 = .ok (.iconst 0, 1) := by decide +kernel
theorem dX3_keep_75 : decode cX3_keep 75 = .ok (.ireturn, 1) := by decide +kernel
theorem dX3_keep_76 : decode cX3_keep 76 = .ok (.aload_n 0, 1) := by decide +kernel
theorem dX3_keep_77 : decode cX3_keep 77 = .ok (.getfield 15, 3) := by decide +kernel
theorem dX3_keep_80 : decode cX3_keep 80 = .ok (.aload_n 0, 1) := by decide +kernel
theorem dX3_keep_81 : decode cX3_keep 81 = .ok (.getfield 47, 3) := by decide +kernel
theorem dX3_keep_84 : decode cX3_keep 84 = .ok (.lload_n 1, 1) := by decide +kernel
theorem dX3_keep_85 : decode cX3_keep 85 = .ok (.lastore, 1) := by decide +kernel
theorem dX3_keep_86 : decode cX3_keep 86 = .ok (.aload_n 0, 1) := by decide +kernel
theorem dX3_keep_87 : decode cX3_keep 87 = .ok (.dup, 1) := by decide +kernel
theorem dX3_keep_88 : decode cX3_keep 88 = .ok (.getfield 47, 3) := by decide +kernel
theorem dX3_keep_91 : decode cX3_keep 91 = .ok (.iconst 1, 1) := by decide +kernel
theorem dX3_keep_92 : decode cX3_keep 92 = .ok (.iadd, 1) := by decide +kernel
theorem dX3_keep_93 : decode cX3_keep 93 = .ok (.putfield 47, 3) := by decide +kernel
theorem dX3_keep_96 : decode cX3_keep 96 = .ok (.aload_n 0, 1) := by decide +kernel
theorem dX3_keep_97 : decode cX3_keep 97 = .ok (.getfield 18, 3) := by decide +kernel
theorem dX3_keep_100 : decode cX3_keep 100 = .ok (.iload_n 3, 1) := by decide +kernel
theorem dX3_keep_101 : decode cX3_keep 101 = .ok (.aload_n 0, 1) := by decide +kernel
theorem dX3_keep_102 : decode cX3_keep 102 = .ok (.getfield 47, 3) := by decide +kernel
theorem dX3_keep_105 : decode cX3_keep 105 = .ok (.iastore, 1) := by decide +kernel
theorem dX3_keep_106 : decode cX3_keep 106 = .ok (.iconst 1, 1) := by decide +kernel
theorem dX3_keep_107 : decode cX3_keep 107 = .ok (.ireturn, 1) := by decide +kernel
theorem dX3_toOf_0 : decode cX3_toOf 0 = .ok (.lload_n 0, 1) := by decide +kernel
theorem dX3_toOf_1 : decode cX3_toOf 1 = .ok (.bipush 35, 2) := by decide +kernel
theorem dX3_toOf_3 : decode cX3_toOf 3 = .ok (.lushr, 1) := by decide +kernel
theorem dX3_toOf_4 : decode cX3_toOf 4 = .ok (.l2i, 1) := by decide +kernel
theorem dX3_toOf_5 : decode cX3_toOf 5 = .ok (.bipush 7, 2) := by decide +kernel
theorem dX3_toOf_7 : decode cX3_toOf 7 = .ok (.iand, 1) := by decide +kernel
theorem dX3_toOf_8 : decode cX3_toOf 8 = .ok (.ireturn, 1) := by decide +kernel
theorem dX3_fromOf_0 : decode cX3_fromOf 0 = .ok (.lload_n 0, 1) := by decide +kernel
theorem dX3_fromOf_1 : decode cX3_fromOf 1 = .ok (.bipush 32, 2) := by decide +kernel
theorem dX3_fromOf_3 : decode cX3_fromOf 3 = .ok (.lushr, 1) := by decide +kernel
theorem dX3_fromOf_4 : decode cX3_fromOf 4 = .ok (.l2i, 1) := by decide +kernel
theorem dX3_fromOf_5 : decode cX3_fromOf 5 = .ok (.bipush 7, 2) := by decide +kernel
theorem dX3_fromOf_7 : decode cX3_fromOf 7 = .ok (.iand, 1) := by decide +kernel
theorem dX3_fromOf_8 : decode cX3_fromOf 8 = .ok (.ireturn, 1) := by decide +kernel
theorem dX3_toldOf_0 : decode cX3_toldOf 0 = .ok (.lload_n 0, 1) := by decide +kernel
theorem dX3_toldOf_1 : decode cX3_toldOf 1 = .ok (.l2i, 1) := by decide +kernel
theorem dX3_toldOf_2 : decode cX3_toldOf 2 = .ok (.ldc 95, 2) := by decide +kernel
theorem dX3_toldOf_4 : decode cX3_toldOf 4 = .ok (.iand, 1) := by decide +kernel
theorem dX3_toldOf_5 : decode cX3_toldOf 5 = .ok (.ireturn, 1) := by decide +kernel
theorem dX3_lessOf_0 : decode cX3_lessOf 0 = .ok (.lload_n 0, 1) := by decide +kernel
theorem dX3_lessOf_1 : decode cX3_lessOf 1 = .ok (.bipush 16, 2) := by decide +kernel
theorem dX3_lessOf_3 : decode cX3_lessOf 3 = .ok (.lushr, 1) := by decide +kernel
theorem dX3_lessOf_4 : decode cX3_lessOf 4 = .ok (.l2i, 1) := by decide +kernel
theorem dX3_lessOf_5 : decode cX3_lessOf 5 = .ok (.ldc 95, 2) := by decide +kernel
theorem dX3_lessOf_7 : decode cX3_lessOf 7 = .ok (.iand, 1) := by decide +kernel
theorem dX3_lessOf_8 : decode cX3_lessOf 8 = .ok (.ireturn, 1) := by decide +kernel
theorem dX3_together_0 : decode cX3_together 0 = .ok (.iconst 0, 1) := by decide +kernel
theorem dX3_together_1 : decode cX3_together 1 = .ok (.istore 4, 2) := by decide +kernel
theorem dX3_together_3 : decode cX3_together 3 = .ok (.iconst 0, 1) := by decide +kernel
theorem dX3_together_4 : decode cX3_together 4 = .ok (.istore 5, 2) := by decide +kernel
theorem dX3_together_6 : decode cX3_together 6 = .ok (.iload 5, 2) := by decide +kernel
theorem dX3_together_8 : decode cX3_together 8 = .ok (.iconst 4, 1) := by decide +kernel
theorem dX3_together_9 : decode cX3_together 9 = .ok (.if_icmp .ge 129, 3) := by decide +kernel
theorem dX3_together_12 : decode cX3_together 12 = .ok (.iconst 0, 1) := by decide +kernel
theorem dX3_together_13 : decode cX3_together 13 = .ok (.istore 6, 2) := by decide +kernel
theorem dX3_together_15 : decode cX3_together 15 = .ok (.iconst 0, 1) := by decide +kernel
theorem dX3_together_16 : decode cX3_together 16 = .ok (.istore 7, 2) := by decide +kernel
theorem dX3_together_18 : decode cX3_together 18 = .ok (.iconst 0, 1) := by decide +kernel
theorem dX3_together_19 : decode cX3_together 19 = .ok (.istore 8, 2) := by decide +kernel
theorem dX3_together_21 : decode cX3_together 21 = .ok (.iload 8, 2) := by decide +kernel
theorem dX3_together_23 : decode cX3_together 23 = .ok (.iconst 4, 1) := by decide +kernel
theorem dX3_together_24 : decode cX3_together 24 = .ok (.if_icmp .ge 85, 3) := by decide +kernel
theorem dX3_together_27 : decode cX3_together 27 = .ok (.iconst 4, 1) := by decide +kernel
theorem dX3_together_28 : decode cX3_together 28 = .ok (.iload 5, 2) := by decide +kernel
theorem dX3_together_30 : decode cX3_together 30 = .ok (.imul, 1) := by decide +kernel
theorem dX3_together_31 : decode cX3_together 31 = .ok (.iload 8, 2) := by decide +kernel
theorem dX3_together_33 : decode cX3_together 33 = .ok (.iadd, 1) := by decide +kernel
theorem dX3_together_34 : decode cX3_together 34 = .ok (.istore 9, 2) := by decide +kernel
theorem dX3_together_36 : decode cX3_together 36 = .ok (.lload_n 0, 1) := by decide +kernel
theorem dX3_together_37 : decode cX3_together 37 = .ok (.invokestatic 90, 3) := by decide +kernel
theorem dX3_together_40 : decode cX3_together 40 = .ok (.iload 9, 2) := by decide +kernel
theorem dX3_together_42 : decode cX3_together 42 = .ok (.ishr, 1) := by decide +kernel
theorem dX3_together_43 : decode cX3_together 43 = .ok (.iconst 1, 1) := by decide +kernel
theorem dX3_together_44 : decode cX3_together 44 = .ok (.iand, 1) := by decide +kernel
theorem dX3_together_45 : decode cX3_together 45 = .ok (.ifCond .eq 58, 3) := by decide +kernel
theorem dX3_together_48 : decode cX3_together 48 = .ok (.lload_n 2, 1) := by decide +kernel
theorem dX3_together_49 : decode cX3_together 49 = .ok (.invokestatic 90, 3) := by decide +kernel
theorem dX3_together_52 : decode cX3_together 52 = .ok (.iconst 4, 1) := by decide +kernel
theorem dX3_together_53 : decode cX3_together 53 = .ok (.iload 8, 2) := by decide +kernel
theorem dX3_together_55 : decode cX3_together 55 = .ok (.imul, 1) := by decide +kernel
theorem dX3_together_56 : decode cX3_together 56 = .ok (.ishr, 1) := by decide +kernel
theorem dX3_together_57 : decode cX3_together 57 = .ok (.bipush 15, 2) := by decide +kernel
theorem dX3_together_59 : decode cX3_together 59 = .ok (.iand, 1) := by decide +kernel
theorem dX3_together_60 : decode cX3_together 60 = .ok (.istore 10, 2) := by decide +kernel
theorem dX3_together_62 : decode cX3_together 62 = .ok (.iload 6, 2) := by decide +kernel
theorem dX3_together_64 : decode cX3_together 64 = .ok (.iload 10, 2) := by decide +kernel
theorem dX3_together_66 : decode cX3_together 66 = .ok (.ior, 1) := by decide +kernel
theorem dX3_together_67 : decode cX3_together 67 = .ok (.istore 6, 2) := by decide +kernel
theorem dX3_together_69 : decode cX3_together 69 = .ok (.iload 7, 2) := by decide +kernel
theorem dX3_together_71 : decode cX3_together 71 = .ok (.lload_n 0, 1) := by decide +kernel
theorem dX3_together_72 : decode cX3_together 72 = .ok (.invokestatic 87, 3) := by decide +kernel
theorem dX3_together_75 : decode cX3_together 75 = .ok (.iload 9, 2) := by decide +kernel
theorem dX3_together_77 : decode cX3_together 77 = .ok (.ishr, 1) := by decide +kernel
theorem dX3_together_78 : decode cX3_together 78 = .ok (.iconst 1, 1) := by decide +kernel
theorem dX3_together_79 : decode cX3_together 79 = .ok (.iand, 1) := by decide +kernel
theorem dX3_together_80 : decode cX3_together 80 = .ok (.ifCond .eq 8, 3) := by decide +kernel
theorem dX3_together_83 : decode cX3_together 83 = .ok (.iload 10, 2) := by decide +kernel
theorem dX3_together_85 : decode cX3_together 85 = .ok (.goto 15, 3) := by decide +kernel
theorem dX3_together_88 : decode cX3_together 88 = .ok (.lload_n 2, 1) := by decide +kernel
theorem dX3_together_89 : decode cX3_together 89 = .ok (.invokestatic 87, 3) := by decide +kernel
theorem dX3_together_92 : decode cX3_together 92 = .ok (.iconst 4, 1) := by decide +kernel
theorem dX3_together_93 : decode cX3_together 93 = .ok (.iload 8, 2) := by decide +kernel
theorem dX3_together_95 : decode cX3_together 95 = .ok (.imul, 1) := by decide +kernel
theorem dX3_together_96 : decode cX3_together 96 = .ok (.ishr, 1) := by decide +kernel
theorem dX3_together_97 : decode cX3_together 97 = .ok (.bipush 15, 2) := by decide +kernel
theorem dX3_together_99 : decode cX3_together 99 = .ok (.iand, 1) := by decide +kernel
theorem dX3_together_100 : decode cX3_together 100 = .ok (.ior, 1) := by decide +kernel
theorem dX3_together_101 : decode cX3_together 101 = .ok (.istore 7, 2) := by decide +kernel
theorem dX3_together_103 : decode cX3_together 103 = .ok (.iinc 8 1, 3) := by decide +kernel
theorem dX3_together_106 : decode cX3_together 106 = .ok (.goto (-85), 3) := by decide +kernel
theorem dX3_together_109 : decode cX3_together 109 = .ok (.iload 4, 2) := by decide +kernel
theorem dX3_together_111 : decode cX3_together 111 = .ok (.iload 6, 2) := by decide +kernel
theorem dX3_together_113 : decode cX3_together 113 = .ok (.iconst 4, 1) := by decide +kernel
theorem dX3_together_114 : decode cX3_together 114 = .ok (.iload 5, 2) := by decide +kernel
theorem dX3_together_116 : decode cX3_together 116 = .ok (.imul, 1) := by decide +kernel
theorem dX3_together_117 : decode cX3_together 117 = .ok (.ishl, 1) := by decide +kernel
theorem dX3_together_118 : decode cX3_together 118 = .ok (.iload 7, 2) := by decide +kernel
theorem dX3_together_120 : decode cX3_together 120 = .ok (.iconst 4, 1) := by decide +kernel
theorem dX3_together_121 : decode cX3_together 121 = .ok (.iload 5, 2) := by decide +kernel
theorem dX3_together_123 : decode cX3_together 123 = .ok (.imul, 1) := by decide +kernel
theorem dX3_together_124 : decode cX3_together 124 = .ok (.bipush 16, 2) := by decide +kernel
theorem dX3_together_126 : decode cX3_together 126 = .ok (.iadd, 1) := by decide +kernel
theorem dX3_together_127 : decode cX3_together 127 = .ok (.ishl, 1) := by decide +kernel
theorem dX3_together_128 : decode cX3_together 128 = .ok (.ior, 1) := by decide +kernel
theorem dX3_together_129 : decode cX3_together 129 = .ok (.ior, 1) := by decide +kernel
theorem dX3_together_130 : decode cX3_together 130 = .ok (.istore 4, 2) := by decide +kernel
theorem dX3_together_132 : decode cX3_together 132 = .ok (.iinc 5 1, 3) := by decide +kernel
theorem dX3_together_135 : decode cX3_together 135 = .ok (.goto (-129), 3) := by decide +kernel
theorem dX3_together_138 : decode cX3_together 138 = .ok (.lload_n 0, 1) := by decide +kernel
theorem dX3_together_139 : decode cX3_together 139 = .ok (.invokestatic 54, 3) := by decide +kernel
theorem dX3_together_142 : decode cX3_together 142 = .ok (.lload_n 2, 1) := by decide +kernel
theorem dX3_together_143 : decode cX3_together 143 = .ok (.invokestatic 71, 3) := by decide +kernel
theorem dX3_together_146 : decode cX3_together 146 = .ok (.iload 4, 2) := by decide +kernel
theorem dX3_together_148 : decode cX3_together 148 = .ok (.invokestatic 39, 3) := by decide +kernel
theorem dX3_together_151 : decode cX3_together 151 = .ok (.lreturn, 1) := by decide +kernel
theorem dX3_makeAll_0 : decode cX3_makeAll 0 = .ok (.aload_n 0, 1) := by decide +kernel
theorem dX3_makeAll_1 : decode cX3_makeAll 1 = .ok (.getfield 18, 3) := by decide +kernel
theorem dX3_makeAll_4 : decode cX3_makeAll 4 = .ok (.iconst 0, 1) := by decide +kernel
theorem dX3_makeAll_5 : decode cX3_makeAll 5 = .ok (.invokestatic 61, 3) := by decide +kernel
theorem dX3_makeAll_8 : decode cX3_makeAll 8 = .ok (.aload_n 0, 1) := by decide +kernel
theorem dX3_makeAll_9 : decode cX3_makeAll 9 = .ok (.iconst 0, 1) := by decide +kernel
theorem dX3_makeAll_10 : decode cX3_makeAll 10 = .ok (.putfield 47, 3) := by decide +kernel
theorem dX3_makeAll_13 : decode cX3_makeAll 13 = .ok (.iconst 0, 1) := by decide +kernel
theorem dX3_makeAll_14 : decode cX3_makeAll 14 = .ok (.istore_n 1, 1) := by decide +kernel
theorem dX3_makeAll_15 : decode cX3_makeAll 15 = .ok (.iload_n 1, 1) := by decide +kernel
theorem dX3_makeAll_16 : decode cX3_makeAll 16 = .ok (.aload_n 0, 1) := by decide +kernel
theorem dX3_makeAll_17 : decode cX3_makeAll 17 = .ok (.getfield 32, 3) := by decide +kernel
theorem dX3_makeAll_20 : decode cX3_makeAll 20 = .ok (.if_icmp .ge 20, 3) := by decide +kernel
theorem dX3_makeAll_23 : decode cX3_makeAll 23 = .ok (.aload_n 0, 1) := by decide +kernel
theorem dX3_makeAll_24 : decode cX3_makeAll 24 = .ok (.aload_n 0, 1) := by decide +kernel
theorem dX3_makeAll_25 : decode cX3_makeAll 25 = .ok (.getfield 9, 3) := by decide +kernel
theorem dX3_makeAll_28 : decode cX3_makeAll 28 = .ok (.iload_n 1, 1) := by decide +kernel
theorem dX3_makeAll_29 : decode cX3_makeAll 29 = .ok (.laload, 1) := by decide +kernel
theorem dX3_makeAll_30 : decode cX3_makeAll 30 = .ok (.invokevirtual 67, 3) := by decide +kernel
theorem dX3_makeAll_33 : decode cX3_makeAll 33 = .ok (.pop, 1) := by decide +kernel
theorem dX3_makeAll_34 : decode cX3_makeAll 34 = .ok (.iinc 1 1, 3) := by decide +kernel
theorem dX3_makeAll_37 : decode cX3_makeAll 37 = .ok (.goto (-22), 3) := by decide +kernel
theorem dX3_makeAll_40 : decode cX3_makeAll 40 = .ok (.aload_n 0, 1) := by decide +kernel
theorem dX3_makeAll_41 : decode cX3_makeAll 41 = .ok (.getfield 47, 3) := by decide +kernel
theorem dX3_makeAll_44 : decode cX3_makeAll 44 = .ok (.istore_n 1, 1) := by decide +kernel
theorem dX3_makeAll_45 : decode cX3_makeAll 45 = .ok (.iconst 0, 1) := by decide +kernel
theorem dX3_makeAll_46 : decode cX3_makeAll 46 = .ok (.istore_n 2, 1) := by decide +kernel
theorem dX3_makeAll_47 : decode cX3_makeAll 47 = .ok (.iload_n 2, 1) := by decide +kernel
theorem dX3_makeAll_48 : decode cX3_makeAll 48 = .ok (.sipush 1000, 3) := by decide +kernel
theorem dX3_makeAll_51 : decode cX3_makeAll 51 = .ok (.if_icmp .ge 75, 3) := by decide +kernel
theorem dX3_makeAll_54 : decode cX3_makeAll 54 = .ok (.iload_n 2, 1) := by decide +kernel
theorem dX3_makeAll_55 : decode cX3_makeAll 55 = .ok (.aload_n 0, 1) := by decide +kernel
theorem dX3_makeAll_56 : decode cX3_makeAll 56 = .ok (.getfield 47, 3) := by decide +kernel
theorem dX3_makeAll_59 : decode cX3_makeAll 59 = .ok (.if_icmp .ge 67, 3) := by decide +kernel
theorem dX3_makeAll_62 : decode cX3_makeAll 62 = .ok (.iconst 0, 1) := by decide +kernel
theorem dX3_makeAll_63 : decode cX3_makeAll 63 = .ok (.istore_n 3, 1) := by decide +kernel
theorem dX3_makeAll_64 : decode cX3_makeAll 64 = .ok (.iload_n 3, 1) := by decide +kernel
theorem dX3_makeAll_65 : decode cX3_makeAll 65 = .ok (.iload_n 1, 1) := by decide +kernel
theorem dX3_makeAll_66 : decode cX3_makeAll 66 = .ok (.if_icmp .ge 54, 3) := by decide +kernel
theorem dX3_makeAll_69 : decode cX3_makeAll 69 = .ok (.aload_n 0, 1) := by decide +kernel
theorem dX3_makeAll_70 : decode cX3_makeAll 70 = .ok (.getfield 15, 3) := by decide +kernel
theorem dX3_makeAll_73 : decode cX3_makeAll 73 = .ok (.iload_n 2, 1) := by decide +kernel
theorem dX3_makeAll_74 : decode cX3_makeAll 74 = .ok (.laload, 1) := by decide +kernel
theorem dX3_makeAll_75 : decode cX3_makeAll 75 = .ok (.invokestatic 71, 3) := by decide +kernel
theorem dX3_makeAll_78 : decode cX3_makeAll 78 = .ok (.aload_n 0, 1) := by decide +kernel
theorem dX3_makeAll_79 : decode cX3_makeAll 79 = .ok (.getfield 15, 3) := by decide +kernel
theorem dX3_makeAll_82 : decode cX3_makeAll 82 = .ok (.iload_n 3, 1) := by decide +kernel
theorem dX3_makeAll_83 : decode cX3_makeAll 83 = .ok (.laload, 1) := by decide +kernel
theorem dX3_makeAll_84 : decode cX3_makeAll 84 = .ok (.invokestatic 54, 3) := by decide +kernel
theorem dX3_makeAll_87 : decode cX3_makeAll 87 = .ok (.if_icmp .ne 27, 3) := by decide +kernel
theorem dX3_makeAll_90 : decode cX3_makeAll 90 = .ok (.aload_n 0, 1) := by decide +kernel
theorem dX3_makeAll_91 : decode cX3_makeAll 91 = .ok (.aload_n 0, 1) := by decide +kernel
theorem dX3_makeAll_92 : decode cX3_makeAll 92 = .ok (.getfield 15, 3) := by decide +kernel
theorem dX3_makeAll_95 : decode cX3_makeAll 95 = .ok (.iload_n 2, 1) := by decide +kernel
theorem dX3_makeAll_96 : decode cX3_makeAll 96 = .ok (.laload, 1) := by decide +kernel
theorem dX3_makeAll_97 : decode cX3_makeAll 97 = .ok (.aload_n 0, 1) := by decide +kernel
theorem dX3_makeAll_98 : decode cX3_makeAll 98 = .ok (.getfield 15, 3) := by decide +kernel
theorem dX3_makeAll_101 : decode cX3_makeAll 101 = .ok (.iload_n 3, 1) := by decide +kernel
theorem dX3_makeAll_102 : decode cX3_makeAll 102 = .ok (.laload, 1) := by decide +kernel
theorem dX3_makeAll_103 : decode cX3_makeAll 103 = .ok (.invokestatic 74, 3) := by decide +kernel
theorem dX3_makeAll_106 : decode cX3_makeAll 106 = .ok (.invokevirtual 67, 3) := by decide +kernel
theorem dX3_makeAll_109 : decode cX3_makeAll 109 = .ok (.ifCond .ne 5, 3) := by decide +kernel
theorem dX3_makeAll_112 : decode cX3_makeAll 112 = .ok (.iconst 0, 1) := by decide +kernel
theorem dX3_makeAll_113 : decode cX3_makeAll 113 = .ok (.ireturn, 1) := by decide +kernel
theorem dX3_makeAll_114 : decode cX3_makeAll 114 = .ok (.iinc 3 1, 3) := by decide +kernel
theorem dX3_makeAll_117 : decode cX3_makeAll 117 = .ok (.goto (-53), 3) := by decide +kernel
theorem dX3_makeAll_120 : decode cX3_makeAll 120 = .ok (.iinc 2 1, 3) := by decide +kernel
theorem dX3_makeAll_123 : decode cX3_makeAll 123 = .ok (.goto (-76), 3) := by decide +kernel
theorem dX3_makeAll_126 : decode cX3_makeAll 126 = .ok (.iconst 1, 1) := by decide +kernel
theorem dX3_makeAll_127 : decode cX3_makeAll 127 = .ok (.ireturn, 1) := by decide +kernel
theorem dX3_isFault_0 : decode cX3_isFault 0 = .ok (.lload_n 0, 1) := by decide +kernel
theorem dX3_isFault_1 : decode cX3_isFault 1 = .ok (.invokestatic 54, 3) := by decide +kernel
theorem dX3_isFault_4 : decode cX3_isFault 4 = .ok (.lload_n 0, 1) := by decide +kernel
theorem dX3_isFault_5 : decode cX3_isFault 5 = .ok (.invokestatic 71, 3) := by decide +kernel
theorem dX3_isFault_8 : decode cX3_isFault 8 = .ok (.if_icmp .eq 5, 3) := by decide +kernel
theorem dX3_isFault_11 : decode cX3_isFault 11 = .ok (.iconst 0, 1) := by decide +kernel
theorem dX3_isFault_12 : decode cX3_isFault 12 = .ok (.ireturn, 1) := by decide +kernel
theorem dX3_isFault_13 : decode cX3_isFault 13 = .ok (.iconst 0, 1) := by decide +kernel
theorem dX3_isFault_14 : decode cX3_isFault 14 = .ok (.istore_n 2, 1) := by decide +kernel
theorem dX3_isFault_15 : decode cX3_isFault 15 = .ok (.iload_n 2, 1) := by decide +kernel
theorem dX3_isFault_16 : decode cX3_isFault 16 = .ok (.iconst 4, 1) := by decide +kernel
theorem dX3_isFault_17 : decode cX3_isFault 17 = .ok (.if_icmp .ge 26, 3) := by decide +kernel
theorem dX3_isFault_20 : decode cX3_isFault 20 = .ok (.lload_n 0, 1) := by decide +kernel
theorem dX3_isFault_21 : decode cX3_isFault 21 = .ok (.invokestatic 87, 3) := by decide +kernel
theorem dX3_isFault_24 : decode cX3_isFault 24 = .ok (.iconst 4, 1) := by decide +kernel
theorem dX3_isFault_25 : decode cX3_isFault 25 = .ok (.iload_n 2, 1) := by decide +kernel
theorem dX3_isFault_26 : decode cX3_isFault 26 = .ok (.imul, 1) := by decide +kernel
theorem dX3_isFault_27 : decode cX3_isFault 27 = .ok (.iload_n 2, 1) := by decide +kernel
theorem dX3_isFault_28 : decode cX3_isFault 28 = .ok (.iadd, 1) := by decide +kernel
theorem dX3_isFault_29 : decode cX3_isFault 29 = .ok (.ishr, 1) := by decide +kernel
theorem dX3_isFault_30 : decode cX3_isFault 30 = .ok (.iconst 1, 1) := by decide +kernel
theorem dX3_isFault_31 : decode cX3_isFault 31 = .ok (.iand, 1) := by decide +kernel
theorem dX3_isFault_32 : decode cX3_isFault 32 = .ok (.ifCond .eq 5, 3) := by decide +kernel
theorem dX3_isFault_35 : decode cX3_isFault 35 = .ok (.iconst 0, 1) := by decide +kernel
theorem dX3_isFault_36 : decode cX3_isFault 36 = .ok (.ireturn, 1) := by decide +kernel
theorem dX3_isFault_37 : decode cX3_isFault 37 = .ok (.iinc 2 1, 3) := by decide +kernel
theorem dX3_isFault_40 : decode cX3_isFault 40 = .ok (.goto (-25), 3) := by decide +kernel
theorem dX3_isFault_43 : decode cX3_isFault 43 = .ok (.lload_n 0, 1) := by decide +kernel
theorem dX3_isFault_44 : decode cX3_isFault 44 = .ok (.lload_n 0, 1) := by decide +kernel
theorem dX3_isFault_45 : decode cX3_isFault 45 = .ok (.invokestatic 74, 3) := by decide +kernel
theorem dX3_isFault_48 : decode cX3_isFault 48 = .ok (.lload_n 0, 1) := by decide +kernel
theorem dX3_isFault_49 : decode cX3_isFault 49 = .ok (.lcmp, 1) := by decide +kernel
theorem dX3_isFault_50 : decode cX3_isFault 50 = .ok (.ifCond .ne 7, 3) := by decide +kernel
theorem dX3_isFault_53 : decode cX3_isFault 53 = .ok (.iconst 1, 1) := by decide +kernel
theorem dX3_isFault_54 : decode cX3_isFault 54 = .ok (.goto 4, 3) := by decide +kernel
theorem dX3_isFault_57 : decode cX3_isFault 57 = .ok (.iconst 0, 1) := by decide +kernel
theorem dX3_isFault_58 : decode cX3_isFault 58 = .ok (.ireturn, 1) := by decide +kernel
theorem dX3_numberOf_0 : decode cX3_numberOf 0 = .ok (.iconst 0, 1) := by decide +kernel
theorem dX3_numberOf_1 : decode cX3_numberOf 1 = .ok (.istore_n 2, 1) := by decide +kernel
theorem dX3_numberOf_2 : decode cX3_numberOf 2 = .ok (.iconst 0, 1) := by decide +kernel
theorem dX3_numberOf_3 : decode cX3_numberOf 3 = .ok (.istore_n 3, 1) := by decide +kernel
theorem dX3_numberOf_4 : decode cX3_numberOf 4 = .ok (.iload_n 3, 1) := by decide +kernel
theorem dX3_numberOf_5 : decode cX3_numberOf 5 = .ok (.bipush 16, 2) := by decide +kernel
theorem dX3_numberOf_7 : decode cX3_numberOf 7 = .ok (.if_icmp .ge 31, 3) := by decide +kernel
theorem dX3_numberOf_10 : decode cX3_numberOf 10 = .ok (.iconst 3, 1) := by decide +kernel
theorem dX3_numberOf_11 : decode cX3_numberOf 11 = .ok (.iload_n 2, 1) := by decide +kernel
theorem dX3_numberOf_12 : decode cX3_numberOf 12 = .ok (.imul, 1) := by decide +kernel
theorem dX3_numberOf_13 : decode cX3_numberOf 13 = .ok (.lload_n 0, 1) := by decide +kernel
theorem dX3_numberOf_14 : decode cX3_numberOf 14 = .ok (.invokestatic 90, 3) := by decide +kernel
theorem dX3_numberOf_17 : decode cX3_numberOf 17 = .ok (.iload_n 3, 1) := by decide +kernel
theorem dX3_numberOf_18 : decode cX3_numberOf 18 = .ok (.ishr, 1) := by decide +kernel
theorem dX3_numberOf_19 : decode cX3_numberOf 19 = .ok (.iconst 1, 1) := by decide +kernel
theorem dX3_numberOf_20 : decode cX3_numberOf 20 = .ok (.iand, 1) := by decide +kernel
theorem dX3_numberOf_21 : decode cX3_numberOf 21 = .ok (.iadd, 1) := by decide +kernel
theorem dX3_numberOf_22 : decode cX3_numberOf 22 = .ok (.lload_n 0, 1) := by decide +kernel
theorem dX3_numberOf_23 : decode cX3_numberOf 23 = .ok (.invokestatic 87, 3) := by decide +kernel
theorem dX3_numberOf_26 : decode cX3_numberOf 26 = .ok (.iload_n 3, 1) := by decide +kernel
theorem dX3_numberOf_27 : decode cX3_numberOf 27 = .ok (.ishr, 1) := by decide +kernel
theorem dX3_numberOf_28 : decode cX3_numberOf 28 = .ok (.iconst 1, 1) := by decide +kernel
theorem dX3_numberOf_29 : decode cX3_numberOf 29 = .ok (.iand, 1) := by decide +kernel
theorem dX3_numberOf_30 : decode cX3_numberOf 30 = .ok (.iadd, 1) := by decide +kernel
theorem dX3_numberOf_31 : decode cX3_numberOf 31 = .ok (.istore_n 2, 1) := by decide +kernel
theorem dX3_numberOf_32 : decode cX3_numberOf 32 = .ok (.iinc 3 1, 3) := by decide +kernel
theorem dX3_numberOf_35 : decode cX3_numberOf 35 = .ok (.goto (-31), 3) := by decide +kernel
theorem dX3_numberOf_38 : decode cX3_numberOf 38 = .ok (.iload_n 2, 1) := by decide +kernel
theorem dX3_numberOf_39 : decode cX3_numberOf 39 = .ok (.ireturn, 1) := by decide +kernel
theorem dX3_isAhead_0 : decode cX3_isAhead 0 = .ok (.lload_n 0, 1) := by decide +kernel
theorem dX3_isAhead_1 : decode cX3_isAhead 1 = .ok (.invokestatic 54, 3) := by decide +kernel
theorem dX3_isAhead_4 : decode cX3_isAhead 4 = .ok (.lload_n 2, 1) := by decide +kernel
theorem dX3_isAhead_5 : decode cX3_isAhead 5 = .ok (.invokestatic 54, 3) := by decide +kernel
theorem dX3_isAhead_8 : decode cX3_isAhead 8 = .ok (.if_icmp .eq 20, 3) := by decide +kernel
theorem dX3_isAhead_11 : decode cX3_isAhead 11 = .ok (.lload_n 0, 1) := by decide +kernel
theorem dX3_isAhead_12 : decode cX3_isAhead 12 = .ok (.invokestatic 54, 3) := by decide +kernel
theorem dX3_isAhead_15 : decode cX3_isAhead 15 = .ok (.lload_n 2, 1) := by decide +kernel
theorem dX3_isAhead_16 : decode cX3_isAhead 16 = .ok (.invokestatic 54, 3) := by decide +kernel
theorem dX3_isAhead_19 : decode cX3_isAhead 19 = .ok (.if_icmp .ge 7, 3) := by decide +kernel
theorem dX3_isAhead_22 : decode cX3_isAhead 22 = .ok (.iconst 1, 1) := by decide +kernel
theorem dX3_isAhead_23 : decode cX3_isAhead 23 = .ok (.goto 4, 3) := by decide +kernel
theorem dX3_isAhead_26 : decode cX3_isAhead 26 = .ok (.iconst 0, 1) := by decide +kernel
theorem dX3_isAhead_27 : decode cX3_isAhead 27 = .ok (.ireturn, 1) := by decide +kernel
theorem dX3_isAhead_28 : decode cX3_isAhead 28 = .ok (.lload_n 0, 1) := by decide +kernel
theorem dX3_isAhead_29 : decode cX3_isAhead 29 = .ok (.invokestatic 58, 3) := by decide +kernel
theorem dX3_isAhead_32 : decode cX3_isAhead 32 = .ok (.lload_n 2, 1) := by decide +kernel
theorem dX3_isAhead_33 : decode cX3_isAhead 33 = .ok (.invokestatic 58, 3) := by decide +kernel
theorem dX3_isAhead_36 : decode cX3_isAhead 36 = .ok (.if_icmp .ge 7, 3) := by decide +kernel
theorem dX3_isAhead_39 : decode cX3_isAhead 39 = .ok (.iconst 1, 1) := by decide +kernel
theorem dX3_isAhead_40 : decode cX3_isAhead 40 = .ok (.goto 4, 3) := by decide +kernel
theorem dX3_isAhead_43 : decode cX3_isAhead 43 = .ok (.iconst 0, 1) := by decide +kernel
theorem dX3_isAhead_44 : decode cX3_isAhead 44 = .ok (.ireturn, 1) := by decide +kernel
theorem dX3_firstFault_0 : decode cX3_firstFault 0 = .ok (.iconst (-1), 1) := by decide +kernel
theorem dX3_firstFault_1 : decode cX3_firstFault 1 = .ok (.istore_n 1, 1) := by decide +kernel
theorem dX3_firstFault_2 : decode cX3_firstFault 2 = .ok (.iconst 0, 1) := by decide +kernel
theorem dX3_firstFault_3 : decode cX3_firstFault 3 = .ok (.istore_n 2, 1) := by decide +kernel
theorem dX3_firstFault_4 : decode cX3_firstFault 4 = .ok (.iload_n 2, 1) := by decide +kernel
theorem dX3_firstFault_5 : decode cX3_firstFault 5 = .ok (.aload_n 0, 1) := by decide +kernel
theorem dX3_firstFault_6 : decode cX3_firstFault 6 = .ok (.getfield 47, 3) := by decide +kernel
theorem dX3_firstFault_9 : decode cX3_firstFault 9 = .ok (.if_icmp .ge 45, 3) := by decide +kernel
theorem dX3_firstFault_12 : decode cX3_firstFault 12 = .ok (.aload_n 0, 1) := by decide +kernel
theorem dX3_firstFault_13 : decode cX3_firstFault 13 = .ok (.getfield 15, 3) := by decide +kernel
theorem dX3_firstFault_16 : decode cX3_firstFault 16 = .ok (.iload_n 2, 1) := by decide +kernel
theorem dX3_firstFault_17 : decode cX3_firstFault 17 = .ok (.laload, 1) := by decide +kernel
theorem dX3_firstFault_18 : decode cX3_firstFault 18 = .ok (.invokestatic 80, 3) := by decide +kernel
theorem dX3_firstFault_21 : decode cX3_firstFault 21 = .ok (.ifCond .eq 27, 3) := by decide +kernel
theorem dX3_firstFault_24 : decode cX3_firstFault 24 = .ok (.iload_n 1, 1) := by decide +kernel
theorem dX3_firstFault_25 : decode cX3_firstFault 25 = .ok (.ifCond .lt 21, 3) := by decide +kernel
theorem dX3_firstFault_28 : decode cX3_firstFault 28 = .ok (.aload_n 0, 1) := by decide +kernel
theorem dX3_firstFault_29 : decode cX3_firstFault 29 = .ok (.getfield 15, 3) := by decide +kernel
theorem dX3_firstFault_32 : decode cX3_firstFault 32 = .ok (.iload_n 2, 1) := by decide +kernel
theorem dX3_firstFault_33 : decode cX3_firstFault 33 = .ok (.laload, 1) := by decide +kernel
theorem dX3_firstFault_34 : decode cX3_firstFault 34 = .ok (.aload_n 0, 1) := by decide +kernel
theorem dX3_firstFault_35 : decode cX3_firstFault 35 = .ok (.getfield 15, 3) := by decide +kernel
theorem dX3_firstFault_38 : decode cX3_firstFault 38 = .ok (.iload_n 1, 1) := by decide +kernel
theorem dX3_firstFault_39 : decode cX3_firstFault 39 = .ok (.laload, 1) := by decide +kernel
theorem dX3_firstFault_40 : decode cX3_firstFault 40 = .ok (.invokestatic 83, 3) := by decide +kernel
theorem dX3_firstFault_43 : decode cX3_firstFault 43 = .ok (.ifCond .eq 5, 3) := by decide +kernel
theorem dX3_firstFault_46 : decode cX3_firstFault 46 = .ok (.iload_n 2, 1) := by decide +kernel
theorem dX3_firstFault_47 : decode cX3_firstFault 47 = .ok (.istore_n 1, 1) := by decide +kernel
theorem dX3_firstFault_48 : decode cX3_firstFault 48 = .ok (.iinc 2 1, 3) := by decide +kernel
theorem dX3_firstFault_51 : decode cX3_firstFault 51 = .ok (.goto (-47), 3) := by decide +kernel
theorem dX3_firstFault_54 : decode cX3_firstFault 54 = .ok (.iload_n 1, 1) := by decide +kernel
theorem dX3_firstFault_55 : decode cX3_firstFault 55 = .ok (.ireturn, 1) := by decide +kernel
theorem dX3_judge_0 : decode cX3_judge 0 = .ok (.aload_n 0, 1) := by decide +kernel
theorem dX3_judge_1 : decode cX3_judge 1 = .ok (.invokevirtual 43, 3) := by decide +kernel
theorem dX3_judge_4 : decode cX3_judge 4 = .ok (.ifCond .ne 13, 3) := by decide +kernel
theorem dX3_judge_7 : decode cX3_judge 7 = .ok (.aload_n 0, 1) := by decide +kernel
theorem dX3_judge_8 : decode cX3_judge 8 = .ok (.sipush 1000, 3) := by decide +kernel
theorem dX3_judge_11 : decode cX3_judge 11 = .ok (.putfield 22, 3) := by decide +kernel
theorem dX3_judge_14 : decode cX3_judge 14 = .ok (.bipush (-3), 2) := by decide +kernel
theorem dX3_judge_16 : decode cX3_judge 16 = .ok (.ireturn, 1) := by decide +kernel
theorem dX3_judge_17 : decode cX3_judge 17 = .ok (.aload_n 0, 1) := by decide +kernel
theorem dX3_judge_18 : decode cX3_judge 18 = .ok (.aload_n 0, 1) := by decide +kernel
theorem dX3_judge_19 : decode cX3_judge 19 = .ok (.getfield 47, 3) := by decide +kernel
theorem dX3_judge_22 : decode cX3_judge 22 = .ok (.putfield 22, 3) := by decide +kernel
theorem dX3_judge_25 : decode cX3_judge 25 = .ok (.aload_n 0, 1) := by decide +kernel
theorem dX3_judge_26 : decode cX3_judge 26 = .ok (.invokevirtual 50, 3) := by decide +kernel
theorem dX3_judge_29 : decode cX3_judge 29 = .ok (.istore_n 1, 1) := by decide +kernel
theorem dX3_judge_30 : decode cX3_judge 30 = .ok (.iload_n 1, 1) := by decide +kernel
theorem dX3_judge_31 : decode cX3_judge 31 = .ok (.ifCond .ge 5, 3) := by decide +kernel
theorem dX3_judge_34 : decode cX3_judge 34 = .ok (.iconst 1, 1) := by decide +kernel
theorem dX3_judge_35 : decode cX3_judge 35 = .ok (.ireturn, 1) := by decide +kernel
theorem dX3_judge_36 : decode cX3_judge 36 = .ok (.aload_n 0, 1) := by decide +kernel
theorem dX3_judge_37 : decode cX3_judge 37 = .ok (.aload_n 0, 1) := by decide +kernel
theorem dX3_judge_38 : decode cX3_judge 38 = .ok (.getfield 15, 3) := by decide +kernel
theorem dX3_judge_41 : decode cX3_judge 41 = .ok (.iload_n 1, 1) := by decide +kernel
theorem dX3_judge_42 : decode cX3_judge 42 = .ok (.laload, 1) := by decide +kernel
theorem dX3_judge_43 : decode cX3_judge 43 = .ok (.invokestatic 54, 3) := by decide +kernel
theorem dX3_judge_46 : decode cX3_judge 46 = .ok (.putfield 26, 3) := by decide +kernel
theorem dX3_judge_49 : decode cX3_judge 49 = .ok (.aload_n 0, 1) := by decide +kernel
theorem dX3_judge_50 : decode cX3_judge 50 = .ok (.aload_n 0, 1) := by decide +kernel
theorem dX3_judge_51 : decode cX3_judge 51 = .ok (.getfield 15, 3) := by decide +kernel
theorem dX3_judge_54 : decode cX3_judge 54 = .ok (.iload_n 1, 1) := by decide +kernel
theorem dX3_judge_55 : decode cX3_judge 55 = .ok (.laload, 1) := by decide +kernel
theorem dX3_judge_56 : decode cX3_judge 56 = .ok (.invokestatic 58, 3) := by decide +kernel
theorem dX3_judge_59 : decode cX3_judge 59 = .ok (.putfield 29, 3) := by decide +kernel
theorem dX3_judge_62 : decode cX3_judge 62 = .ok (.iconst 0, 1) := by decide +kernel
theorem dX3_judge_63 : decode cX3_judge 63 = .ok (.ireturn, 1) := by decide +kernel
theorem dX11_ending_0 : decode cX11_ending 0 = .ok (.aload_n 0, 1) := by decide +kernel
theorem dX11_ending_1 : decode cX11_ending 1 = .ok (.getfield 65, 3) := by decide +kernel
theorem dX11_ending_4 : decode cX11_ending 4 = .ok (.invokevirtual 277, 3) := by decide +kernel
theorem dX11_ending_7 : decode cX11_ending 7 = .ok (.ireturn, 1) := by decide +kernel
theorem dX11_made_0 : decode cX11_made 0 = .ok (.aload_n 0, 1) := by decide +kernel
theorem dX11_made_1 : decode cX11_made 1 = .ok (.getfield 65, 3) := by decide +kernel
theorem dX11_made_4 : decode cX11_made 4 = .ok (.getfield 280, 3) := by decide +kernel
theorem dX11_made_7 : decode cX11_made 7 = .ok (.ireturn, 1) := by decide +kernel
theorem dX11_witness_0 : decode cX11_witness 0 = .ok (.iload_n 1, 1) := by decide +kernel
theorem dX11_witness_1 : decode cX11_witness 1 = .ok (.ifCond .ne 11, 3) := by decide +kernel
theorem dX11_witness_4 : decode cX11_witness 4 = .ok (.aload_n 0, 1) := by decide +kernel
theorem dX11_witness_5 : decode cX11_witness 5 = .ok (.getfield 65, 3) := by decide +kernel
theorem dX11_witness_8 : decode cX11_witness 8 = .ok (.getfield 283, 3) := by decide +kernel
theorem dX11_witness_11 : decode cX11_witness 11 = .ok (.ireturn, 1) := by decide +kernel
theorem dX11_witness_12 : decode cX11_witness 12 = .ok (.iload_n 1, 1) := by decide +kernel
theorem dX11_witness_13 : decode cX11_witness 13 = .ok (.iconst 1, 1) := by decide +kernel
theorem dX11_witness_14 : decode cX11_witness 14 = .ok (.if_icmp .ne 13, 3) := by decide +kernel
theorem dX11_witness_17 : decode cX11_witness 17 = .ok (.aload_n 0, 1) := by decide +kernel
theorem dX11_witness_18 : decode cX11_witness 18 = .ok (.getfield 65, 3) := by decide +kernel
theorem dX11_witness_21 : decode cX11_witness 21 = .ok (.getfield 286, 3) := by decide +kernel
theorem dX11_witness_24 : decode cX11_witness 24 = .ok (.goto 4, 3) := by decide +kernel
theorem dX11_witness_27 : decode cX11_witness 27 = .ok (.iconst (-1), 1) := by decide +kernel
theorem dX11_witness_28 : decode cX11_witness 28 = .ok (.ireturn, 1) := by decide +kernel
theorem dX12_openAll_0 : decode cX12_openAll 0 = .ok (.iconst 0, 1) := by decide +kernel
theorem dX12_openAll_1 : decode cX12_openAll 1 = .ok (.istore_n 1, 1) := by decide +kernel
theorem dX12_openAll_2 : decode cX12_openAll 2 = .ok (.iload_n 1, 1) := by decide +kernel
theorem dX12_openAll_3 : decode cX12_openAll 3 = .ok (.bipush 6, 2) := by decide +kernel
theorem dX12_openAll_5 : decode cX12_openAll 5 = .ok (.if_icmp .ge 16, 3) := by decide +kernel
theorem dX12_openAll_8 : decode cX12_openAll 8 = .ok (.aload_n 0, 1) := by decide +kernel
theorem dX12_openAll_9 : decode cX12_openAll 9 = .ok (.getfield 30, 3) := by decide +kernel
theorem dX12_openAll_12 : decode cX12_openAll 12 = .ok (.iload_n 1, 1) := by decide +kernel
theorem dX12_openAll_13 : decode cX12_openAll 13 = .ok (.iconst 1, 1) := by decide +kernel
theorem dX12_openAll_14 : decode cX12_openAll 14 = .ok (.bastore, 1) := by decide +kernel
theorem dX12_openAll_15 : decode cX12_openAll 15 = .ok (.iinc 1 1, 3) := by decide +kernel
theorem dX12_openAll_18 : decode cX12_openAll 18 = .ok (.goto (-16), 3) := by decide +kernel
theorem dX12_openAll_21 : decode cX12_openAll 21 = .ok (.aload_n 0, 1) := by decide +kernel
theorem dX12_openAll_22 : decode cX12_openAll 22 = .ok (.iconst 0, 1) := by decide +kernel
theorem dX12_openAll_23 : decode cX12_openAll 23 = .ok (.putfield 131, 3) := by decide +kernel
theorem dX12_openAll_26 : decode cX12_openAll 26 = .ok (.return_, 1) := by decide +kernel
theorem dX12_loop_0 : decode cX12_loop 0 = .ok (.iload_n 1, 1) := by decide +kernel
theorem dX12_loop_1 : decode cX12_loop 1 = .ok (.iconst 1, 1) := by decide +kernel
theorem dX12_loop_2 : decode cX12_loop 2 = .ok (.if_icmp .lt 8, 3) := by decide +kernel
theorem dX12_loop_5 : decode cX12_loop 5 = .ok (.iload_n 1, 1) := by decide +kernel
theorem dX12_loop_6 : decode cX12_loop 6 = .ok (.iconst 3, 1) := by decide +kernel
theorem dX12_loop_7 : decode cX12_loop 7 = .ok (.if_icmp .le 5, 3) := by decide +kernel
theorem dX12_loop_10 : decode cX12_loop 10 = .ok (.iconst (-1), 1) := by decide +kernel
theorem dX12_loop_11 : decode cX12_loop 11 = .ok (.ireturn, 1) := by decide +kernel
theorem dX12_loop_12 : decode cX12_loop 12 = .ok (.aload_n 0, 1) := by decide +kernel
theorem dX12_loop_13 : decode cX12_loop 13 = .ok (.getfield 7, 3) := by decide +kernel
theorem dX12_loop_16 : decode cX12_loop 16 = .ok (.istore_n 2, 1) := by decide +kernel
theorem dX12_loop_17 : decode cX12_loop 17 = .ok (.aload_n 0, 1) := by decide +kernel
theorem dX12_loop_18 : decode cX12_loop 18 = .ok (.iload_n 1, 1) := by decide +kernel
theorem dX12_loop_19 : decode cX12_loop 19 = .ok (.putfield 7, 3) := by decide +kernel
theorem dX12_loop_22 : decode cX12_loop 22 = .ok (.aload_n 0, 1) := by decide +kernel
theorem dX12_loop_23 : decode cX12_loop 23 = .ok (.iconst 0, 1) := by decide +kernel
theorem dX12_loop_24 : decode cX12_loop 24 = .ok (.putfield 135, 3) := by decide +kernel
theorem dX12_loop_27 : decode cX12_loop 27 = .ok (.aload_n 0, 1) := by decide +kernel
theorem dX12_loop_28 : decode cX12_loop 28 = .ok (.invokevirtual 128, 3) := by decide +kernel
theorem dX12_loop_31 : decode cX12_loop 31 = .ok (.iconst 0, 1) := by decide +kernel
theorem dX12_loop_32 : decode cX12_loop 32 = .ok (.istore_n 3, 1) := by decide +kernel
theorem dX12_loop_33 : decode cX12_loop 33 = .ok (.iload_n 3, 1) := by decide +kernel
theorem dX12_loop_34 : decode cX12_loop 34 = .ok (.iconst 3, 1) := by decide +kernel
theorem dX12_loop_35 : decode cX12_loop 35 = .ok (.if_icmp .ge 16, 3) := by decide +kernel
theorem dX12_loop_38 : decode cX12_loop 38 = .ok (.aload_n 0, 1) := by decide +kernel
theorem dX12_loop_39 : decode cX12_loop 39 = .ok (.getfield 23, 3) := by decide +kernel
theorem dX12_loop_42 : decode cX12_loop 42 = .ok (.iload_n 3, 1) := by decide +kernel
theorem dX12_loop_43 : decode cX12_loop 43 = .ok (.lconst 0, 1) := by decide +kernel
theorem dX12_loop_44 : decode cX12_loop 44 = .ok (.lastore, 1) := by decide +kernel
theorem dX12_loop_45 : decode cX12_loop 45 = .ok (.iinc 3 1, 3) := by decide +kernel
theorem dX12_loop_48 : decode cX12_loop 48 = .ok (.goto (-15), 3) := by decide +kernel
theorem dX12_loop_51 : decode cX12_loop 51 = .ok (.iconst 0, 1) := by decide +kernel
theorem dX12_loop_52 : decode cX12_loop 52 = .ok (.istore_n 3, 1) := by decide +kernel
theorem dX12_loop_53 : decode cX12_loop 53 = .ok (.iload_n 3, 1) := by decide +kernel
theorem dX12_loop_54 : decode cX12_loop 54 = .ok (.bipush 6, 2) := by decide +kernel
theorem dX12_loop_56 : decode cX12_loop 56 = .ok (.if_icmp .ge 23, 3) := by decide +kernel
theorem dX12_loop_59 : decode cX12_loop 59 = .ok (.aload_n 0, 1) := by decide +kernel
theorem dX12_loop_60 : decode cX12_loop 60 = .ok (.getfield 34, 3) := by decide +kernel
theorem dX12_loop_63 : decode cX12_loop 63 = .ok (.iload_n 3, 1) := by decide +kernel
theorem dX12_loop_64 : decode cX12_loop 64 = .ok (.lconst 0, 1) := by decide +kernel
theorem dX12_loop_65 : decode cX12_loop 65 = .ok (.lastore, 1) := by decide +kernel
theorem dX12_loop_66 : decode cX12_loop 66 = .ok (.aload_n 0, 1) := by decide +kernel
theorem dX12_loop_67 : decode cX12_loop 67 = .ok (.getfield 37, 3) := by decide +kernel
theorem dX12_loop_70 : decode cX12_loop 70 = .ok (.iload_n 3, 1) := by decide +kernel
theorem dX12_loop_71 : decode cX12_loop 71 = .ok (.iconst 0, 1) := by decide +kernel
theorem dX12_loop_72 : decode cX12_loop 72 = .ok (.bastore, 1) := by decide +kernel
theorem dX12_loop_73 : decode cX12_loop 73 = .ok (.iinc 3 1, 3) := by decide +kernel
theorem dX12_loop_76 : decode cX12_loop 76 = .ok (.goto (-23), 3) := by decide +kernel
theorem dX12_loop_79 : decode cX12_loop 79 = .ok (.aload_n 0, 1) := by decide +kernel
theorem dX12_loop_80 : decode cX12_loop 80 = .ok (.iconst 0, 1) := by decide +kernel
theorem dX12_loop_81 : decode cX12_loop 81 = .ok (.putfield 138, 3) := by decide +kernel
theorem dX12_loop_84 : decode cX12_loop 84 = .ok (.aload_n 0, 1) := by decide +kernel
theorem dX12_loop_85 : decode cX12_loop 85 = .ok (.iconst (-1), 1) := by decide +kernel
theorem dX12_loop_86 : decode cX12_loop 86 = .ok (.putfield 65, 3) := by decide +kernel
theorem dX12_loop_89 : decode cX12_loop 89 = .ok (.iconst 0, 1) := by decide +kernel
theorem dX12_loop_90 : decode cX12_loop 90 = .ok (.istore_n 3, 1) := by decide +kernel
theorem dX12_loop_91 : decode cX12_loop 91 = .ok (.iload_n 3, 1) := by decide +kernel
theorem dX12_loop_92 : decode cX12_loop 92 = .ok (.iconst 5, 1) := by decide +kernel
theorem dX12_loop_93 : decode cX12_loop 93 = .ok (.if_icmp .ge 16, 3) := by decide +kernel
theorem dX12_loop_96 : decode cX12_loop 96 = .ok (.aload_n 0, 1) := by decide +kernel
theorem dX12_loop_97 : decode cX12_loop 97 = .ok (.getfield 52, 3) := by decide +kernel
theorem dX12_loop_100 : decode cX12_loop 100 = .ok (.iload_n 3, 1) := by decide +kernel
theorem dX12_loop_101 : decode cX12_loop 101 = .ok (.iconst (-1), 1) := by decide +kernel
theorem dX12_loop_102 : decode cX12_loop 102 = .ok (.iastore, 1) := by decide +kernel
theorem dX12_loop_103 : decode cX12_loop 103 = .ok (.iinc 3 1, 3) := by decide +kernel
theorem dX12_loop_106 : decode cX12_loop 106 = .ok (.goto (-15), 3) := by decide +kernel
theorem dX12_loop_109 : decode cX12_loop 109 = .ok (.iload_n 2, 1) := by decide +kernel
theorem dX12_loop_110 : decode cX12_loop 110 = .ok (.ireturn, 1) := by decide +kernel
theorem dX12_body_0 : decode cX12_body 0 = .ok (.aload_n 0, 1) := by decide +kernel
theorem dX12_body_1 : decode cX12_body 1 = .ok (.getfield 135, 3) := by decide +kernel
theorem dX12_body_4 : decode cX12_body 4 = .ok (.iconst 5, 1) := by decide +kernel
theorem dX12_body_5 : decode cX12_body 5 = .ok (.if_icmp .ne 6, 3) := by decide +kernel
theorem dX12_body_8 : decode cX12_body 8 = .ok (.bipush (-2), 2) := by decide +kernel
theorem dX12_body_10 : decode cX12_body 10 = .ok (.ireturn, 1) := by decide +kernel
theorem dX12_body_11 : decode cX12_body 11 = .ok (.aload_n 0, 1) := by decide +kernel
theorem dX12_body_12 : decode cX12_body 12 = .ok (.getfield 135, 3) := by decide +kernel
theorem dX12_body_15 : decode cX12_body 15 = .ok (.istore_n 1, 1) := by decide +kernel
theorem dX12_body_16 : decode cX12_body 16 = .ok (.aload_n 0, 1) := by decide +kernel
theorem dX12_body_17 : decode cX12_body 17 = .ok (.getfield 13, 3) := by decide +kernel
theorem dX12_body_20 : decode cX12_body 20 = .ok (.iload_n 1, 1) := by decide +kernel
theorem dX12_body_21 : decode cX12_body 21 = .ok (.iconst 0, 1) := by decide +kernel
theorem dX12_body_22 : decode cX12_body 22 = .ok (.iastore, 1) := by decide +kernel
theorem dX12_body_23 : decode cX12_body 23 = .ok (.aload_n 0, 1) := by decide +kernel
theorem dX12_body_24 : decode cX12_body 24 = .ok (.getfield 52, 3) := by decide +kernel
theorem dX12_body_27 : decode cX12_body 27 = .ok (.iload_n 1, 1) := by decide +kernel
theorem dX12_body_28 : decode cX12_body 28 = .ok (.iconst (-1), 1) := by decide +kernel
theorem dX12_body_29 : decode cX12_body 29 = .ok (.iastore, 1) := by decide +kernel
theorem dX12_body_30 : decode cX12_body 30 = .ok (.iconst 0, 1) := by decide +kernel
theorem dX12_body_31 : decode cX12_body 31 = .ok (.istore_n 2, 1) := by decide +kernel
theorem dX12_body_32 : decode cX12_body 32 = .ok (.iload_n 2, 1) := by decide +kernel
theorem dX12_body_33 : decode cX12_body 33 = .ok (.iconst 3, 1) := by decide +kernel
theorem dX12_body_34 : decode cX12_body 34 = .ok (.if_icmp .ge 46, 3) := by decide +kernel
theorem dX12_body_37 : decode cX12_body 37 = .ok (.iconst 0, 1) := by decide +kernel
theorem dX12_body_38 : decode cX12_body 38 = .ok (.istore_n 3, 1) := by decide +kernel
theorem dX12_body_39 : decode cX12_body 39 = .ok (.iload_n 3, 1) := by decide +kernel
theorem dX12_body_40 : decode cX12_body 40 = .ok (.iconst 4, 1) := by decide +kernel
theorem dX12_body_41 : decode cX12_body 41 = .ok (.if_icmp .ge 33, 3) := by decide +kernel
theorem dX12_body_44 : decode cX12_body 44 = .ok (.aload_n 0, 1) := by decide +kernel
theorem dX12_body_45 : decode cX12_body 45 = .ok (.getfield 20, 3) := by decide +kernel
theorem dX12_body_48 : decode cX12_body 48 = .ok (.iconst 3, 1) := by decide +kernel
theorem dX12_body_49 : decode cX12_body 49 = .ok (.iload_n 1, 1) := by decide +kernel
theorem dX12_body_50 : decode cX12_body 50 = .ok (.imul, 1) := by decide +kernel
theorem dX12_body_51 : decode cX12_body 51 = .ok (.iload_n 2, 1) := by decide +kernel
theorem dX12_body_52 : decode cX12_body 52 = .ok (.iadd, 1) := by decide +kernel
theorem dX12_body_53 : decode cX12_body 53 = .ok (.iconst 4, 1) := by decide +kernel
theorem dX12_body_54 : decode cX12_body 54 = .ok (.imul, 1) := by decide +kernel
theorem dX12_body_55 : decode cX12_body 55 = .ok (.iload_n 3, 1) := by decide +kernel
theorem dX12_body_56 : decode cX12_body 56 = .ok (.iadd, 1) := by decide +kernel
theorem dX12_body_57 : decode cX12_body 57 = .ok (.iload_n 3, 1) := by decide +kernel
theorem dX12_body_58 : decode cX12_body 58 = .ok (.iload_n 2, 1) := by decide +kernel
theorem dX12_body_59 : decode cX12_body 59 = .ok (.if_icmp .ne 7, 3) := by decide +kernel
theorem dX12_body_62 : decode cX12_body 62 = .ok (.iconst 1, 1) := by decide +kernel
theorem dX12_body_63 : decode cX12_body 63 = .ok (.goto 4, 3) := by decide +kernel
theorem dX12_body_66 : decode cX12_body 66 = .ok (.iconst 0, 1) := by decide +kernel
theorem dX12_body_67 : decode cX12_body 67 = .ok (.iastore, 1) := by decide +kernel
theorem dX12_body_68 : decode cX12_body 68 = .ok (.iinc 3 1, 3) := by decide +kernel
theorem dX12_body_71 : decode cX12_body 71 = .ok (.goto (-32), 3) := by decide +kernel
theorem dX12_body_74 : decode cX12_body 74 = .ok (.iinc 2 1, 3) := by decide +kernel
theorem dX12_body_77 : decode cX12_body 77 = .ok (.goto (-45), 3) := by decide +kernel
theorem dX12_body_80 : decode cX12_body 80 = .ok (.aload_n 0, 1) := by decide +kernel
theorem dX12_body_81 : decode cX12_body 81 = .ok (.dup, 1) := by decide +kernel
theorem dX12_body_82 : decode cX12_body 82 = .ok (.getfield 135, 3) := by decide +kernel
theorem dX12_body_85 : decode cX12_body 85 = .ok (.iconst 1, 1) := by decide +kernel
theorem dX12_body_86 : decode cX12_body 86 = .ok (.iadd, 1) := by decide +kernel
theorem dX12_body_87 : decode cX12_body 87 = .ok (.putfield 135, 3) := by decide +kernel
theorem dX12_body_90 : decode cX12_body 90 = .ok (.aload_n 0, 1) := by decide +kernel
theorem dX12_body_91 : decode cX12_body 91 = .ok (.invokevirtual 128, 3) := by decide +kernel
theorem dX12_body_94 : decode cX12_body 94 = .ok (.iload_n 1, 1) := by decide +kernel
theorem dX12_body_95 : decode cX12_body 95 = .ok (.ireturn, 1) := by decide +kernel
theorem dX12_areWeights_0 : decode cX12_areWeights 0 = .ok (.iload_n 0, 1) := by decide +kernel
theorem dX12_areWeights_1 : decode cX12_areWeights 1 = .ok (.ifCond .lt 27, 3) := by decide +kernel
theorem dX12_areWeights_4 : decode cX12_areWeights 4 = .ok (.iload_n 0, 1) := by decide +kernel
theorem dX12_areWeights_5 : decode cX12_areWeights 5 = .ok (.ldc 141, 2) := by decide +kernel
theorem dX12_areWeights_7 : decode cX12_areWeights 7 = .ok (.if_icmp .ge 21, 3) := by decide +kernel
theorem dX12_areWeights_10 : decode cX12_areWeights 10 = .ok (.iload_n 1, 1) := by decide +kernel
theorem dX12_areWeights_11 : decode cX12_areWeights 11 = .ok (.sipush (-1000), 3) := by decide +kernel
theorem dX12_areWeights_14 : decode cX12_areWeights 14 = .ok (.if_icmp .lt 14, 3) := by decide +kernel
theorem dX12_areWeights_17 : decode cX12_areWeights 17 = .ok (.iload_n 1, 1) := by decide +kernel
theorem dX12_areWeights_18 : decode cX12_areWeights 18 = .ok (.sipush 1000, 3) := by decide +kernel
theorem dX12_areWeights_21 : decode cX12_areWeights 21 = .ok (.if_icmp .gt 7, 3) := by decide +kernel
theorem dX12_areWeights_24 : decode cX12_areWeights 24 = .ok (.iconst 1, 1) := by decide +kernel
theorem dX12_areWeights_25 : decode cX12_areWeights 25 = .ok (.goto 4, 3) := by decide +kernel
theorem dX12_areWeights_28 : decode cX12_areWeights 28 = .ok (.iconst 0, 1) := by decide +kernel
theorem dX12_areWeights_29 : decode cX12_areWeights 29 = .ok (.ireturn, 1) := by decide +kernel
theorem dX12_lay_0 : decode cX12_lay 0 = .ok (.aload_n 1, 1) := by decide +kernel
theorem dX12_lay_1 : decode cX12_lay 1 = .ok (.iload_n 2, 1) := by decide +kernel
theorem dX12_lay_2 : decode cX12_lay 2 = .ok (.iload_n 3, 1) := by decide +kernel
theorem dX12_lay_3 : decode cX12_lay 3 = .ok (.sipush 1681, 3) := by decide +kernel
theorem dX12_lay_6 : decode cX12_lay 6 = .ok (.idiv, 1) := by decide +kernel
theorem dX12_lay_7 : decode cX12_lay 7 = .ok (.bipush 20, 2) := by decide +kernel
theorem dX12_lay_9 : decode cX12_lay 9 = .ok (.isub, 1) := by decide +kernel
theorem dX12_lay_10 : decode cX12_lay 10 = .ok (.iastore, 1) := by decide +kernel
theorem dX12_lay_11 : decode cX12_lay 11 = .ok (.aload_n 1, 1) := by decide +kernel
theorem dX12_lay_12 : decode cX12_lay 12 = .ok (.iload_n 2, 1) := by decide +kernel
theorem dX12_lay_13 : decode cX12_lay 13 = .ok (.iconst 1, 1) := by decide +kernel
theorem dX12_lay_14 : decode cX12_lay 14 = .ok (.iadd, 1) := by decide +kernel
theorem dX12_lay_15 : decode cX12_lay 15 = .ok (.iload_n 3, 1) := by decide +kernel
theorem dX12_lay_16 : decode cX12_lay 16 = .ok (.bipush 41, 2) := by decide +kernel
theorem dX12_lay_18 : decode cX12_lay 18 = .ok (.idiv, 1) := by decide +kernel
theorem dX12_lay_19 : decode cX12_lay 19 = .ok (.bipush 41, 2) := by decide +kernel
theorem dX12_lay_21 : decode cX12_lay 21 = .ok (.irem, 1) := by decide +kernel
theorem dX12_lay_22 : decode cX12_lay 22 = .ok (.bipush 20, 2) := by decide +kernel
theorem dX12_lay_24 : decode cX12_lay 24 = .ok (.isub, 1) := by decide +kernel
theorem dX12_lay_25 : decode cX12_lay 25 = .ok (.iastore, 1) := by decide +kernel
theorem dX12_lay_26 : decode cX12_lay 26 = .ok (.aload_n 1, 1) := by decide +kernel
theorem dX12_lay_27 : decode cX12_lay 27 = .ok (.iload_n 2, 1) := by decide +kernel
theorem dX12_lay_28 : decode cX12_lay 28 = .ok (.iconst 2, 1) := by decide +kernel
theorem dX12_lay_29 : decode cX12_lay 29 = .ok (.iadd, 1) := by decide +kernel
theorem dX12_lay_30 : decode cX12_lay 30 = .ok (.iload_n 3, 1) := by decide +kernel
theorem dX12_lay_31 : decode cX12_lay 31 = .ok (.bipush 41, 2) := by decide +kernel
theorem dX12_lay_33 : decode cX12_lay 33 = .ok (.irem, 1) := by decide +kernel
theorem dX12_lay_34 : decode cX12_lay 34 = .ok (.bipush 20, 2) := by decide +kernel
theorem dX12_lay_36 : decode cX12_lay 36 = .ok (.isub, 1) := by decide +kernel
theorem dX12_lay_37 : decode cX12_lay 37 = .ok (.iastore, 1) := by decide +kernel
theorem dX12_lay_38 : decode cX12_lay 38 = .ok (.aload_n 1, 1) := by decide +kernel
theorem dX12_lay_39 : decode cX12_lay 39 = .ok (.iload_n 2, 1) := by decide +kernel
theorem dX12_lay_40 : decode cX12_lay 40 = .ok (.iconst 3, 1) := by decide +kernel
theorem dX12_lay_41 : decode cX12_lay 41 = .ok (.iadd, 1) := by decide +kernel
theorem dX12_lay_42 : decode cX12_lay 42 = .ok (.iload 4, 2) := by decide +kernel
theorem dX12_lay_44 : decode cX12_lay 44 = .ok (.iastore, 1) := by decide +kernel
theorem dX12_lay_45 : decode cX12_lay 45 = .ok (.aload_n 0, 1) := by decide +kernel
theorem dX12_lay_46 : decode cX12_lay 46 = .ok (.getfield 7, 3) := by decide +kernel
theorem dX12_lay_49 : decode cX12_lay 49 = .ok (.istore 5, 2) := by decide +kernel
theorem dX12_lay_51 : decode cX12_lay 51 = .ok (.iload 5, 2) := by decide +kernel
theorem dX12_lay_53 : decode cX12_lay 53 = .ok (.iconst 3, 1) := by decide +kernel
theorem dX12_lay_54 : decode cX12_lay 54 = .ok (.if_icmp .ge 16, 3) := by decide +kernel
theorem dX12_lay_57 : decode cX12_lay 57 = .ok (.aload_n 1, 1) := by decide +kernel
theorem dX12_lay_58 : decode cX12_lay 58 = .ok (.iload_n 2, 1) := by decide +kernel
theorem dX12_lay_59 : decode cX12_lay 59 = .ok (.iload 5, 2) := by decide +kernel
theorem dX12_lay_61 : decode cX12_lay 61 = .ok (.iadd, 1) := by decide +kernel
theorem dX12_lay_62 : decode cX12_lay 62 = .ok (.iconst 0, 1) := by decide +kernel
theorem dX12_lay_63 : decode cX12_lay 63 = .ok (.iastore, 1) := by decide +kernel
theorem dX12_lay_64 : decode cX12_lay 64 = .ok (.iinc 5 1, 3) := by decide +kernel
theorem dX12_lay_67 : decode cX12_lay 67 = .ok (.goto (-16), 3) := by decide +kernel
theorem dX12_lay_70 : decode cX12_lay 70 = .ok (.return_, 1) := by decide +kernel
theorem dX12_isBody_0 : decode cX12_isBody 0 = .ok (.iload_n 1, 1) := by decide +kernel
theorem dX12_isBody_1 : decode cX12_isBody 1 = .ok (.ifCond .lt 15, 3) := by decide +kernel
theorem dX12_isBody_4 : decode cX12_isBody 4 = .ok (.iload_n 1, 1) := by decide +kernel
theorem dX12_isBody_5 : decode cX12_isBody 5 = .ok (.aload_n 0, 1) := by decide +kernel
theorem dX12_isBody_6 : decode cX12_isBody 6 = .ok (.getfield 135, 3) := by decide +kernel
theorem dX12_isBody_9 : decode cX12_isBody 9 = .ok (.if_icmp .ge 7, 3) := by decide +kernel
theorem dX12_isBody_12 : decode cX12_isBody 12 = .ok (.iconst 1, 1) := by decide +kernel
theorem dX12_isBody_13 : decode cX12_isBody 13 = .ok (.goto 4, 3) := by decide +kernel
theorem dX12_isBody_16 : decode cX12_isBody 16 = .ok (.iconst 0, 1) := by decide +kernel
theorem dX12_isBody_17 : decode cX12_isBody 17 = .ok (.ireturn, 1) := by decide +kernel
theorem dX12_guard_0 : decode cX12_guard 0 = .ok (.aload_n 0, 1) := by decide +kernel
theorem dX12_guard_1 : decode cX12_guard 1 = .ok (.iload_n 1, 1) := by decide +kernel
theorem dX12_guard_2 : decode cX12_guard 2 = .ok (.invokevirtual 142, 3) := by decide +kernel
theorem dX12_guard_5 : decode cX12_guard 5 = .ok (.ifCond .eq 11, 3) := by decide +kernel
theorem dX12_guard_8 : decode cX12_guard 8 = .ok (.iload_n 2, 1) := by decide +kernel
theorem dX12_guard_9 : decode cX12_guard 9 = .ok (.iload_n 3, 1) := by decide +kernel
theorem dX12_guard_10 : decode cX12_guard 10 = .ok (.invokestatic 146, 3) := by decide +kernel
theorem dX12_guard_13 : decode cX12_guard 13 = .ok (.ifCond .ne 5, 3) := by decide +kernel
theorem dX12_guard_16 : decode cX12_guard 16 = .ok (.iconst (-1), 1) := by decide +kernel
theorem dX12_guard_17 : decode cX12_guard 17 = .ok (.ireturn, 1) := by decide +kernel
theorem dX12_guard_18 : decode cX12_guard 18 = .ok (.aload_n 0, 1) := by decide +kernel
theorem dX12_guard_19 : decode cX12_guard 19 = .ok (.getfield 13, 3) := by decide +kernel
theorem dX12_guard_22 : decode cX12_guard 22 = .ok (.iload_n 1, 1) := by decide +kernel
theorem dX12_guard_23 : decode cX12_guard 23 = .ok (.iaload, 1) := by decide +kernel
theorem dX12_guard_24 : decode cX12_guard 24 = .ok (.bipush 6, 2) := by decide +kernel
theorem dX12_guard_26 : decode cX12_guard 26 = .ok (.if_icmp .ne 6, 3) := by decide +kernel
theorem dX12_guard_29 : decode cX12_guard 29 = .ok (.bipush (-2), 2) := by decide +kernel
theorem dX12_guard_31 : decode cX12_guard 31 = .ok (.ireturn, 1) := by decide +kernel
theorem dX12_guard_32 : decode cX12_guard 32 = .ok (.aload_n 0, 1) := by decide +kernel
theorem dX12_guard_33 : decode cX12_guard 33 = .ok (.aload_n 0, 1) := by decide +kernel
theorem dX12_guard_34 : decode cX12_guard 34 = .ok (.getfield 17, 3) := by decide +kernel
theorem dX12_guard_37 : decode cX12_guard 37 = .ok (.bipush 6, 2) := by decide +kernel
theorem dX12_guard_39 : decode cX12_guard 39 = .ok (.iload_n 1, 1) := by decide +kernel
theorem dX12_guard_40 : decode cX12_guard 40 = .ok (.imul, 1) := by decide +kernel
theorem dX12_guard_41 : decode cX12_guard 41 = .ok (.aload_n 0, 1) := by decide +kernel
theorem dX12_guard_42 : decode cX12_guard 42 = .ok (.getfield 13, 3) := by decide +kernel
theorem dX12_guard_45 : decode cX12_guard 45 = .ok (.iload_n 1, 1) := by decide +kernel
theorem dX12_guard_46 : decode cX12_guard 46 = .ok (.iaload, 1) := by decide +kernel
theorem dX12_guard_47 : decode cX12_guard 47 = .ok (.iadd, 1) := by decide +kernel
theorem dX12_guard_48 : decode cX12_guard 48 = .ok (.iconst 4, 1) := by decide +kernel
theorem dX12_guard_49 : decode cX12_guard 49 = .ok (.imul, 1) := by decide +kernel
theorem dX12_guard_50 : decode cX12_guard 50 = .ok (.iload_n 2, 1) := by decide +kernel
theorem dX12_guard_51 : decode cX12_guard 51 = .ok (.iload_n 3, 1) := by decide +kernel
theorem dX12_guard_52 : decode cX12_guard 52 = .ok (.invokevirtual 150, 3) := by decide +kernel
theorem dX12_guard_55 : decode cX12_guard 55 = .ok (.aload_n 0, 1) := by decide +kernel
theorem dX12_guard_56 : decode cX12_guard 56 = .ok (.getfield 13, 3) := by decide +kernel
theorem dX12_guard_59 : decode cX12_guard 59 = .ok (.iload_n 1, 1) := by decide +kernel
theorem dX12_guard_60 : decode cX12_guard 60 = .ok (.dup2, 1) := by decide +kernel
theorem dX12_guard_61 : decode cX12_guard 61 = .ok (.iaload, 1) := by decide +kernel
theorem dX12_guard_62 : decode cX12_guard 62 = .ok (.iconst 1, 1) := by decide +kernel
theorem dX12_guard_63 : decode cX12_guard 63 = .ok (.iadd, 1) := by decide +kernel
theorem dX12_guard_64 : decode cX12_guard 64 = .ok (.iastore, 1) := by decide +kernel
theorem dX12_guard_65 : decode cX12_guard 65 = .ok (.aload_n 0, 1) := by decide +kernel
theorem dX12_guard_66 : decode cX12_guard 66 = .ok (.invokevirtual 128, 3) := by decide +kernel
theorem dX12_guard_69 : decode cX12_guard 69 = .ok (.aload_n 0, 1) := by decide +kernel
theorem dX12_guard_70 : decode cX12_guard 70 = .ok (.getfield 13, 3) := by decide +kernel
theorem dX12_guard_73 : decode cX12_guard 73 = .ok (.iload_n 1, 1) := by decide +kernel
theorem dX12_guard_74 : decode cX12_guard 74 = .ok (.iaload, 1) := by decide +kernel
theorem dX12_guard_75 : decode cX12_guard 75 = .ok (.ireturn, 1) := by decide +kernel
theorem dX12_rule_0 : decode cX12_rule 0 = .ok (.aload_n 0, 1) := by decide +kernel
theorem dX12_rule_1 : decode cX12_rule 1 = .ok (.iload_n 1, 1) := by decide +kernel
theorem dX12_rule_2 : decode cX12_rule 2 = .ok (.invokevirtual 142, 3) := by decide +kernel
theorem dX12_rule_5 : decode cX12_rule 5 = .ok (.ifCond .eq 24, 3) := by decide +kernel
theorem dX12_rule_8 : decode cX12_rule 8 = .ok (.iload_n 2, 1) := by decide +kernel
theorem dX12_rule_9 : decode cX12_rule 9 = .ok (.ifCond .lt 20, 3) := by decide +kernel
theorem dX12_rule_12 : decode cX12_rule 12 = .ok (.iload_n 2, 1) := by decide +kernel
theorem dX12_rule_13 : decode cX12_rule 13 = .ok (.aload_n 0, 1) := by decide +kernel
theorem dX12_rule_14 : decode cX12_rule 14 = .ok (.getfield 7, 3) := by decide +kernel
theorem dX12_rule_17 : decode cX12_rule 17 = .ok (.if_icmp .ge 12, 3) := by decide +kernel
theorem dX12_rule_20 : decode cX12_rule 20 = .ok (.iload_n 3, 1) := by decide +kernel
theorem dX12_rule_21 : decode cX12_rule 21 = .ok (.iload 4, 2) := by decide +kernel
theorem dX12_rule_23 : decode cX12_rule 23 = .ok (.invokestatic 146, 3) := by decide +kernel
theorem dX12_rule_26 : decode cX12_rule 26 = .ok (.ifCond .ne 5, 3) := by decide +kernel
theorem dX12_rule_29 : decode cX12_rule 29 = .ok (.iconst (-1), 1) := by decide +kernel
theorem dX12_rule_30 : decode cX12_rule 30 = .ok (.ireturn, 1) := by decide +kernel
theorem dX12_rule_31 : decode cX12_rule 31 = .ok (.aload_n 0, 1) := by decide +kernel
theorem dX12_rule_32 : decode cX12_rule 32 = .ok (.aload_n 0, 1) := by decide +kernel
theorem dX12_rule_33 : decode cX12_rule 33 = .ok (.getfield 20, 3) := by decide +kernel
theorem dX12_rule_36 : decode cX12_rule 36 = .ok (.iconst 3, 1) := by decide +kernel
theorem dX12_rule_37 : decode cX12_rule 37 = .ok (.iload_n 1, 1) := by decide +kernel
theorem dX12_rule_38 : decode cX12_rule 38 = .ok (.imul, 1) := by decide +kernel
theorem dX12_rule_39 : decode cX12_rule 39 = .ok (.iload_n 2, 1) := by decide +kernel
theorem dX12_rule_40 : decode cX12_rule 40 = .ok (.iadd, 1) := by decide +kernel
theorem dX12_rule_41 : decode cX12_rule 41 = .ok (.iconst 4, 1) := by decide +kernel
theorem dX12_rule_42 : decode cX12_rule 42 = .ok (.imul, 1) := by decide +kernel
theorem dX12_rule_43 : decode cX12_rule 43 = .ok (.iload_n 3, 1) := by decide +kernel
theorem dX12_rule_44 : decode cX12_rule 44 = .ok (.iload 4, 2) := by decide +kernel
theorem dX12_rule_46 : decode cX12_rule 46 = .ok (.invokevirtual 150, 3) := by decide +kernel
theorem dX12_rule_49 : decode cX12_rule 49 = .ok (.aload_n 0, 1) := by decide +kernel
theorem dX12_rule_50 : decode cX12_rule 50 = .ok (.invokevirtual 128, 3) := by decide +kernel
theorem dX12_rule_53 : decode cX12_rule 53 = .ok (.iconst 0, 1) := by decide +kernel
theorem dX12_rule_54 : decode cX12_rule 54 = .ok (.ireturn, 1) := by decide +kernel
theorem dX12_many_0 : decode cX12_many 0 = .ok (.iload_n 1, 1) := by decide +kernel
theorem dX12_many_1 : decode cX12_many 1 = .ok (.iconst (-1), 1) := by decide +kernel
theorem dX12_many_2 : decode cX12_many 2 = .ok (.if_icmp .ne 10, 3) := by decide +kernel
theorem dX12_many_5 : decode cX12_many 5 = .ok (.aload_n 0, 1) := by decide +kernel
theorem dX12_many_6 : decode cX12_many 6 = .ok (.getfield 135, 3) := by decide +kernel
theorem dX12_many_9 : decode cX12_many 9 = .ok (.goto 21, 3) := by decide +kernel
theorem dX12_many_12 : decode cX12_many 12 = .ok (.aload_n 0, 1) := by decide +kernel
theorem dX12_many_13 : decode cX12_many 13 = .ok (.iload_n 1, 1) := by decide +kernel
theorem dX12_many_14 : decode cX12_many 14 = .ok (.invokevirtual 142, 3) := by decide +kernel
theorem dX12_many_17 : decode cX12_many 17 = .ok (.ifCond .eq 12, 3) := by decide +kernel
theorem dX12_many_20 : decode cX12_many 20 = .ok (.aload_n 0, 1) := by decide +kernel
theorem dX12_many_21 : decode cX12_many 21 = .ok (.getfield 13, 3) := by decide +kernel
theorem dX12_many_24 : decode cX12_many 24 = .ok (.iload_n 1, 1) := by decide +kernel
theorem dX12_many_25 : decode cX12_many 25 = .ok (.iaload, 1) := by decide +kernel
theorem dX12_many_26 : decode cX12_many 26 = .ok (.goto 4, 3) := by decide +kernel
theorem dX12_many_29 : decode cX12_many 29 = .ok (.iconst (-1), 1) := by decide +kernel
theorem dX12_many_30 : decode cX12_many 30 = .ok (.ireturn, 1) := by decide +kernel
theorem dX12_set_0 : decode cX12_set 0 = .ok (.iload_n 1, 1) := by decide +kernel
theorem dX12_set_1 : decode cX12_set 1 = .ok (.ifCond .lt 23, 3) := by decide +kernel
theorem dX12_set_4 : decode cX12_set 4 = .ok (.iload_n 1, 1) := by decide +kernel
theorem dX12_set_5 : decode cX12_set 5 = .ok (.aload_n 0, 1) := by decide +kernel
theorem dX12_set_6 : decode cX12_set 6 = .ok (.getfield 7, 3) := by decide +kernel
theorem dX12_set_9 : decode cX12_set 9 = .ok (.if_icmp .ge 15, 3) := by decide +kernel
theorem dX12_set_12 : decode cX12_set 12 = .ok (.iload_n 2, 1) := by decide +kernel
theorem dX12_set_13 : decode cX12_set 13 = .ok (.ldc 154, 2) := by decide +kernel
theorem dX12_set_15 : decode cX12_set 15 = .ok (.if_icmp .lt 9, 3) := by decide +kernel
theorem dX12_set_18 : decode cX12_set 18 = .ok (.iload_n 2, 1) := by decide +kernel
theorem dX12_set_19 : decode cX12_set 19 = .ok (.ldc 155, 2) := by decide +kernel
theorem dX12_set_21 : decode cX12_set 21 = .ok (.if_icmp .le 5, 3) := by decide +kernel
theorem dX12_set_24 : decode cX12_set 24 = .ok (.iconst (-1), 1) := by decide +kernel
theorem dX12_set_25 : decode cX12_set 25 = .ok (.ireturn, 1) := by decide +kernel
theorem dX12_set_26 : decode cX12_set 26 = .ok (.aload_n 0, 1) := by decide +kernel
theorem dX12_set_27 : decode cX12_set 27 = .ok (.getfield 23, 3) := by decide +kernel
theorem dX12_set_30 : decode cX12_set 30 = .ok (.iload_n 1, 1) := by decide +kernel
theorem dX12_set_31 : decode cX12_set 31 = .ok (.iload_n 2, 1) := by decide +kernel
theorem dX12_set_32 : decode cX12_set 32 = .ok (.i2l, 1) := by decide +kernel
theorem dX12_set_33 : decode cX12_set 33 = .ok (.lastore, 1) := by decide +kernel
theorem dX12_set_34 : decode cX12_set 34 = .ok (.iconst 0, 1) := by decide +kernel
theorem dX12_set_35 : decode cX12_set 35 = .ok (.ireturn, 1) := by decide +kernel
theorem dX12_at_0 : decode cX12_at 0 = .ok (.iload_n 1, 1) := by decide +kernel
theorem dX12_at_1 : decode cX12_at 1 = .ok (.ifCond .lt 20, 3) := by decide +kernel
theorem dX12_at_4 : decode cX12_at 4 = .ok (.iload_n 1, 1) := by decide +kernel
theorem dX12_at_5 : decode cX12_at 5 = .ok (.aload_n 0, 1) := by decide +kernel
theorem dX12_at_6 : decode cX12_at 6 = .ok (.getfield 7, 3) := by decide +kernel
theorem dX12_at_9 : decode cX12_at 9 = .ok (.if_icmp .ge 12, 3) := by decide +kernel
theorem dX12_at_12 : decode cX12_at 12 = .ok (.aload_n 0, 1) := by decide +kernel
theorem dX12_at_13 : decode cX12_at 13 = .ok (.getfield 23, 3) := by decide +kernel
theorem dX12_at_16 : decode cX12_at 16 = .ok (.iload_n 1, 1) := by decide +kernel
theorem dX12_at_17 : decode cX12_at 17 = .ok (.laload, 1) := by decide +kernel
theorem dX12_at_18 : decode cX12_at 18 = .ok (.goto 4, 3) := by decide +kernel
theorem dX12_at_21 : decode cX12_at 21 = .ok (.lconst 0, 1) := by decide +kernel
theorem dX12_at_22 : decode cX12_at 22 = .ok (.lreturn, 1) := by decide +kernel
theorem dX12_of_0 : decode cX12_of 0 = .ok (.aload_n 0, 1) := by decide +kernel
theorem dX12_of_1 : decode cX12_of 1 = .ok (.iload_n 1, 1) := by decide +kernel
theorem dX12_of_2 : decode cX12_of 2 = .ok (.iaload, 1) := by decide +kernel
theorem dX12_of_3 : decode cX12_of 3 = .ok (.i2l, 1) := by decide +kernel
theorem dX12_of_4 : decode cX12_of 4 = .ok (.aload_n 2, 1) := by decide +kernel
theorem dX12_of_5 : decode cX12_of 5 = .ok (.iconst 0, 1) := by decide +kernel
theorem dX12_of_6 : decode cX12_of 6 = .ok (.laload, 1) := by decide +kernel
theorem dX12_of_7 : decode cX12_of 7 = .ok (.lmul, 1) := by decide +kernel
theorem dX12_of_8 : decode cX12_of 8 = .ok (.aload_n 0, 1) := by decide +kernel
theorem dX12_of_9 : decode cX12_of 9 = .ok (.iload_n 1, 1) := by decide +kernel
theorem dX12_of_10 : decode cX12_of 10 = .ok (.iconst 1, 1) := by decide +kernel
theorem dX12_of_11 : decode cX12_of 11 = .ok (.iadd, 1) := by decide +kernel
theorem dX12_of_12 : decode cX12_of 12 = .ok (.iaload, 1) := by decide +kernel
theorem dX12_of_13 : decode cX12_of 13 = .ok (.i2l, 1) := by decide +kernel
theorem dX12_of_14 : decode cX12_of 14 = .ok (.aload_n 2, 1) := by decide +kernel
theorem dX12_of_15 : decode cX12_of 15 = .ok (.iconst 1, 1) := by decide +kernel
theorem dX12_of_16 : decode cX12_of 16 = .ok (.laload, 1) := by decide +kernel
theorem dX12_of_17 : decode cX12_of 17 = .ok (.lmul, 1) := by decide +kernel
theorem dX12_of_18 : decode cX12_of 18 = .ok (.ladd, 1) := by decide +kernel
theorem dX12_of_19 : decode cX12_of 19 = .ok (.aload_n 0, 1) := by decide +kernel
theorem dX12_of_20 : decode cX12_of 20 = .ok (.iload_n 1, 1) := by decide +kernel
theorem dX12_of_21 : decode cX12_of 21 = .ok (.iconst 2, 1) := by decide +kernel
theorem dX12_of_22 : decode cX12_of 22 = .ok (.iadd, 1) := by decide +kernel
theorem dX12_of_23 : decode cX12_of 23 = .ok (.iaload, 1) := by decide +kernel
theorem dX12_of_24 : decode cX12_of 24 = .ok (.i2l, 1) := by decide +kernel
theorem dX12_of_25 : decode cX12_of 25 = .ok (.aload_n 2, 1) := by decide +kernel
theorem dX12_of_26 : decode cX12_of 26 = .ok (.iconst 2, 1) := by decide +kernel
theorem dX12_of_27 : decode cX12_of 27 = .ok (.laload, 1) := by decide +kernel
theorem dX12_of_28 : decode cX12_of 28 = .ok (.lmul, 1) := by decide +kernel
theorem dX12_of_29 : decode cX12_of 29 = .ok (.ladd, 1) := by decide +kernel
theorem dX12_of_30 : decode cX12_of 30 = .ok (.aload_n 0, 1) := by decide +kernel
theorem dX12_of_31 : decode cX12_of 31 = .ok (.iload_n 1, 1) := by decide +kernel
theorem dX12_of_32 : decode cX12_of 32 = .ok (.iconst 3, 1) := by decide +kernel
theorem dX12_of_33 : decode cX12_of 33 = .ok (.iadd, 1) := by decide +kernel
theorem dX12_of_34 : decode cX12_of 34 = .ok (.iaload, 1) := by decide +kernel
theorem dX12_of_35 : decode cX12_of 35 = .ok (.i2l, 1) := by decide +kernel
theorem dX12_of_36 : decode cX12_of 36 = .ok (.ladd, 1) := by decide +kernel
theorem dX12_of_37 : decode cX12_of 37 = .ok (.lreturn, 1) := by decide +kernel
theorem dX12_turnAt_0 : decode cX12_turnAt 0 = .ok (.iconst 0, 1) := by decide +kernel
theorem dX12_turnAt_1 : decode cX12_turnAt 1 = .ok (.istore_n 2, 1) := by decide +kernel
theorem dX12_turnAt_2 : decode cX12_turnAt 2 = .ok (.iload_n 2, 1) := by decide +kernel
theorem dX12_turnAt_3 : decode cX12_turnAt 3 = .ok (.aload_n 0, 1) := by decide +kernel
theorem dX12_turnAt_4 : decode cX12_turnAt 4 = .ok (.getfield 135, 3) := by decide +kernel
theorem dX12_turnAt_7 : decode cX12_turnAt 7 = .ok (.if_icmp .ge 69, 3) := by decide +kernel
theorem dX12_turnAt_10 : decode cX12_turnAt 10 = .ok (.iconst 1, 1) := by decide +kernel
theorem dX12_turnAt_11 : decode cX12_turnAt 11 = .ok (.istore_n 3, 1) := by decide +kernel
theorem dX12_turnAt_12 : decode cX12_turnAt 12 = .ok (.iconst 0, 1) := by decide +kernel
theorem dX12_turnAt_13 : decode cX12_turnAt 13 = .ok (.istore 4, 2) := by decide +kernel
theorem dX12_turnAt_15 : decode cX12_turnAt 15 = .ok (.iload 4, 2) := by decide +kernel
theorem dX12_turnAt_17 : decode cX12_turnAt 17 = .ok (.aload_n 0, 1) := by decide +kernel
theorem dX12_turnAt_18 : decode cX12_turnAt 18 = .ok (.getfield 13, 3) := by decide +kernel
theorem dX12_turnAt_21 : decode cX12_turnAt 21 = .ok (.iload_n 2, 1) := by decide +kernel
theorem dX12_turnAt_22 : decode cX12_turnAt 22 = .ok (.iaload, 1) := by decide +kernel
theorem dX12_turnAt_23 : decode cX12_turnAt 23 = .ok (.if_icmp .ge 41, 3) := by decide +kernel
theorem dX12_turnAt_26 : decode cX12_turnAt 26 = .ok (.iload_n 3, 1) := by decide +kernel
theorem dX12_turnAt_27 : decode cX12_turnAt 27 = .ok (.ifCond .eq 29, 3) := by decide +kernel
theorem dX12_turnAt_30 : decode cX12_turnAt 30 = .ok (.aload_n 0, 1) := by decide +kernel
theorem dX12_turnAt_31 : decode cX12_turnAt 31 = .ok (.getfield 17, 3) := by decide +kernel
theorem dX12_turnAt_34 : decode cX12_turnAt 34 = .ok (.bipush 6, 2) := by decide +kernel
theorem dX12_turnAt_36 : decode cX12_turnAt 36 = .ok (.iload_n 2, 1) := by decide +kernel
theorem dX12_turnAt_37 : decode cX12_turnAt 37 = .ok (.imul, 1) := by decide +kernel
theorem dX12_turnAt_38 : decode cX12_turnAt 38 = .ok (.iload 4, 2) := by decide +kernel
theorem dX12_turnAt_40 : decode cX12_turnAt 40 = .ok (.iadd, 1) := by decide +kernel
theorem dX12_turnAt_41 : decode cX12_turnAt 41 = .ok (.iconst 4, 1) := by decide +kernel
theorem dX12_turnAt_42 : decode cX12_turnAt 42 = .ok (.imul, 1) := by decide +kernel
theorem dX12_turnAt_43 : decode cX12_turnAt 43 = .ok (.aload_n 1, 1) := by decide +kernel
theorem dX12_turnAt_44 : decode cX12_turnAt 44 = .ok (.invokestatic 156, 3) := by decide +kernel
theorem dX12_turnAt_47 : decode cX12_turnAt 47 = .ok (.lconst 0, 1) := by decide +kernel
theorem dX12_turnAt_48 : decode cX12_turnAt 48 = .ok (.lcmp, 1) := by decide +kernel
theorem dX12_turnAt_49 : decode cX12_turnAt 49 = .ok (.ifCond .lt 7, 3) := by decide +kernel
theorem dX12_turnAt_52 : decode cX12_turnAt 52 = .ok (.iconst 1, 1) := by decide +kernel
theorem dX12_turnAt_53 : decode cX12_turnAt 53 = .ok (.goto 4, 3) := by decide +kernel
theorem dX12_turnAt_56 : decode cX12_turnAt 56 = .ok (.iconst 0, 1) := by decide +kernel
theorem dX12_turnAt_57 : decode cX12_turnAt 57 = .ok (.istore_n 3, 1) := by decide +kernel
theorem dX12_turnAt_58 : decode cX12_turnAt 58 = .ok (.iinc 4 1, 3) := by decide +kernel
theorem dX12_turnAt_61 : decode cX12_turnAt 61 = .ok (.goto (-46), 3) := by decide +kernel
theorem dX12_turnAt_64 : decode cX12_turnAt 64 = .ok (.iload_n 3, 1) := by decide +kernel
theorem dX12_turnAt_65 : decode cX12_turnAt 65 = .ok (.ifCond .eq 5, 3) := by decide +kernel
theorem dX12_turnAt_68 : decode cX12_turnAt 68 = .ok (.iload_n 2, 1) := by decide +kernel
theorem dX12_turnAt_69 : decode cX12_turnAt 69 = .ok (.ireturn, 1) := by decide +kernel
theorem dX12_turnAt_70 : decode cX12_turnAt 70 = .ok (.iinc 2 1, 3) := by decide +kernel
theorem dX12_turnAt_73 : decode cX12_turnAt 73 = .ok (.goto (-71), 3) := by decide +kernel
theorem dX12_turnAt_76 : decode cX12_turnAt 76 = .ok (.iconst (-1), 1) := by decide +kernel
theorem dX12_turnAt_77 : decode cX12_turnAt 77 = .ok (.ireturn, 1) := by decide +kernel
theorem dX12_isFar_0 : decode cX12_isFar 0 = .ok (.lload_n 0, 1) := by decide +kernel
theorem dX12_isFar_1 : decode cX12_isFar 1 = .ok (.ldc2_w 160, 3) := by decide +kernel
theorem dX12_isFar_4 : decode cX12_isFar 4 = .ok (.lcmp, 1) := by decide +kernel
theorem dX12_isFar_5 : decode cX12_isFar 5 = .ok (.ifCond .gt 11, 3) := by decide +kernel
theorem dX12_isFar_8 : decode cX12_isFar 8 = .ok (.lload_n 0, 1) := by decide +kernel
theorem dX12_isFar_9 : decode cX12_isFar 9 = .ok (.ldc2_w 162, 3) := by decide +kernel
theorem dX12_isFar_12 : decode cX12_isFar 12 = .ok (.lcmp, 1) := by decide +kernel
theorem dX12_isFar_13 : decode cX12_isFar 13 = .ok (.ifCond .ge 7, 3) := by decide +kernel
theorem dX12_isFar_16 : decode cX12_isFar 16 = .ok (.iconst 1, 1) := by decide +kernel
theorem dX12_isFar_17 : decode cX12_isFar 17 = .ok (.goto 4, 3) := by decide +kernel
theorem dX12_isFar_20 : decode cX12_isFar 20 = .ok (.iconst 0, 1) := by decide +kernel
theorem dX12_isFar_21 : decode cX12_isFar 21 = .ok (.ireturn, 1) := by decide +kernel
theorem dX12_turnFrom_0 : decode cX12_turnFrom 0 = .ok (.aload_n 0, 1) := by decide +kernel
theorem dX12_turnFrom_1 : decode cX12_turnFrom 1 = .ok (.aload_n 1, 1) := by decide +kernel
theorem dX12_turnFrom_2 : decode cX12_turnFrom 2 = .ok (.invokevirtual 164, 3) := by decide +kernel
theorem dX12_turnFrom_5 : decode cX12_turnFrom 5 = .ok (.istore_n 2, 1) := by decide +kernel
theorem dX12_turnFrom_6 : decode cX12_turnFrom 6 = .ok (.iload_n 2, 1) := by decide +kernel
theorem dX12_turnFrom_7 : decode cX12_turnFrom 7 = .ok (.ifCond .ge 5, 3) := by decide +kernel
theorem dX12_turnFrom_10 : decode cX12_turnFrom 10 = .ok (.iconst 0, 1) := by decide +kernel
theorem dX12_turnFrom_11 : decode cX12_turnFrom 11 = .ok (.ireturn, 1) := by decide +kernel
theorem dX12_turnFrom_12 : decode cX12_turnFrom 12 = .ok (.iconst 0, 1) := by decide +kernel
theorem dX12_turnFrom_13 : decode cX12_turnFrom 13 = .ok (.istore_n 3, 1) := by decide +kernel
theorem dX12_turnFrom_14 : decode cX12_turnFrom 14 = .ok (.iload_n 3, 1) := by decide +kernel
theorem dX12_turnFrom_15 : decode cX12_turnFrom 15 = .ok (.iconst 3, 1) := by decide +kernel
theorem dX12_turnFrom_16 : decode cX12_turnFrom 16 = .ok (.if_icmp .ge 57, 3) := by decide +kernel
theorem dX12_turnFrom_19 : decode cX12_turnFrom 19 = .ok (.aload_n 0, 1) := by decide +kernel
theorem dX12_turnFrom_20 : decode cX12_turnFrom 20 = .ok (.getfield 71, 3) := by decide +kernel
theorem dX12_turnFrom_23 : decode cX12_turnFrom 23 = .ok (.iload_n 3, 1) := by decide +kernel
theorem dX12_turnFrom_24 : decode cX12_turnFrom 24 = .ok (.iload_n 3, 1) := by decide +kernel
theorem dX12_turnFrom_25 : decode cX12_turnFrom 25 = .ok (.aload_n 0, 1) := by decide +kernel
theorem dX12_turnFrom_26 : decode cX12_turnFrom 26 = .ok (.getfield 7, 3) := by decide +kernel
theorem dX12_turnFrom_29 : decode cX12_turnFrom 29 = .ok (.if_icmp .ge 21, 3) := by decide +kernel
theorem dX12_turnFrom_32 : decode cX12_turnFrom 32 = .ok (.aload_n 0, 1) := by decide +kernel
theorem dX12_turnFrom_33 : decode cX12_turnFrom 33 = .ok (.getfield 20, 3) := by decide +kernel
theorem dX12_turnFrom_36 : decode cX12_turnFrom 36 = .ok (.iconst 3, 1) := by decide +kernel
theorem dX12_turnFrom_37 : decode cX12_turnFrom 37 = .ok (.iload_n 2, 1) := by decide +kernel
theorem dX12_turnFrom_38 : decode cX12_turnFrom 38 = .ok (.imul, 1) := by decide +kernel
theorem dX12_turnFrom_39 : decode cX12_turnFrom 39 = .ok (.iload_n 3, 1) := by decide +kernel
theorem dX12_turnFrom_40 : decode cX12_turnFrom 40 = .ok (.iadd, 1) := by decide +kernel
theorem dX12_turnFrom_41 : decode cX12_turnFrom 41 = .ok (.iconst 4, 1) := by decide +kernel
theorem dX12_turnFrom_42 : decode cX12_turnFrom 42 = .ok (.imul, 1) := by decide +kernel
theorem dX12_turnFrom_43 : decode cX12_turnFrom 43 = .ok (.aload_n 1, 1) := by decide +kernel
theorem dX12_turnFrom_44 : decode cX12_turnFrom 44 = .ok (.invokestatic 156, 3) := by decide +kernel
theorem dX12_turnFrom_47 : decode cX12_turnFrom 47 = .ok (.goto 4, 3) := by decide +kernel
theorem dX12_turnFrom_50 : decode cX12_turnFrom 50 = .ok (.lconst 0, 1) := by decide +kernel
theorem dX12_turnFrom_51 : decode cX12_turnFrom 51 = .ok (.lastore, 1) := by decide +kernel
theorem dX12_turnFrom_52 : decode cX12_turnFrom 52 = .ok (.aload_n 0, 1) := by decide +kernel
theorem dX12_turnFrom_53 : decode cX12_turnFrom 53 = .ok (.getfield 71, 3) := by decide +kernel
theorem dX12_turnFrom_56 : decode cX12_turnFrom 56 = .ok (.iload_n 3, 1) := by decide +kernel
theorem dX12_turnFrom_57 : decode cX12_turnFrom 57 = .ok (.laload, 1) := by decide +kernel
theorem dX12_turnFrom_58 : decode cX12_turnFrom 58 = .ok (.invokestatic 168, 3) := by decide +kernel
theorem dX12_turnFrom_61 : decode cX12_turnFrom 61 = .ok (.ifCond .eq 6, 3) := by decide +kernel
theorem dX12_turnFrom_64 : decode cX12_turnFrom 64 = .ok (.bipush (-4), 2) := by decide +kernel
theorem dX12_turnFrom_66 : decode cX12_turnFrom 66 = .ok (.ireturn, 1) := by decide +kernel
theorem dX12_turnFrom_67 : decode cX12_turnFrom 67 = .ok (.iinc 3 1, 3) := by decide +kernel
theorem dX12_turnFrom_70 : decode cX12_turnFrom 70 = .ok (.goto (-56), 3) := by decide +kernel
theorem dX12_turnFrom_73 : decode cX12_turnFrom 73 = .ok (.iconst 0, 1) := by decide +kernel
theorem dX12_turnFrom_74 : decode cX12_turnFrom 74 = .ok (.istore_n 3, 1) := by decide +kernel
theorem dX12_turnFrom_75 : decode cX12_turnFrom 75 = .ok (.iload_n 3, 1) := by decide +kernel
theorem dX12_turnFrom_76 : decode cX12_turnFrom 76 = .ok (.iconst 3, 1) := by decide +kernel
theorem dX12_turnFrom_77 : decode cX12_turnFrom 77 = .ok (.if_icmp .ge 18, 3) := by decide +kernel
theorem dX12_turnFrom_80 : decode cX12_turnFrom 80 = .ok (.aload_n 1, 1) := by decide +kernel
theorem dX12_turnFrom_81 : decode cX12_turnFrom 81 = .ok (.iload_n 3, 1) := by decide +kernel
theorem dX12_turnFrom_82 : decode cX12_turnFrom 82 = .ok (.aload_n 0, 1) := by decide +kernel
theorem dX12_turnFrom_83 : decode cX12_turnFrom 83 = .ok (.getfield 71, 3) := by decide +kernel
theorem dX12_turnFrom_86 : decode cX12_turnFrom 86 = .ok (.iload_n 3, 1) := by decide +kernel
theorem dX12_turnFrom_87 : decode cX12_turnFrom 87 = .ok (.laload, 1) := by decide +kernel
theorem dX12_turnFrom_88 : decode cX12_turnFrom 88 = .ok (.lastore, 1) := by decide +kernel
theorem dX12_turnFrom_89 : decode cX12_turnFrom 89 = .ok (.iinc 3 1, 3) := by decide +kernel
theorem dX12_turnFrom_92 : decode cX12_turnFrom 92 = .ok (.goto (-17), 3) := by decide +kernel
theorem dX12_turnFrom_95 : decode cX12_turnFrom 95 = .ok (.iconst 1, 1) := by decide +kernel
theorem dX12_turnFrom_96 : decode cX12_turnFrom 96 = .ok (.ireturn, 1) := by decide +kernel
theorem dX12_run_0 : decode cX12_run 0 = .ok (.iload_n 1, 1) := by decide +kernel
theorem dX12_run_1 : decode cX12_run 1 = .ok (.iconst 1, 1) := by decide +kernel
theorem dX12_run_2 : decode cX12_run 2 = .ok (.if_icmp .lt 10, 3) := by decide +kernel
theorem dX12_run_5 : decode cX12_run 5 = .ok (.iload_n 1, 1) := by decide +kernel
theorem dX12_run_6 : decode cX12_run 6 = .ok (.sipush 10000, 3) := by decide +kernel
theorem dX12_run_9 : decode cX12_run 9 = .ok (.if_icmp .le 5, 3) := by decide +kernel
theorem dX12_run_12 : decode cX12_run 12 = .ok (.iconst (-1), 1) := by decide +kernel
theorem dX12_run_13 : decode cX12_run 13 = .ok (.ireturn, 1) := by decide +kernel
theorem dX12_run_14 : decode cX12_run 14 = .ok (.iconst 0, 1) := by decide +kernel
theorem dX12_run_15 : decode cX12_run 15 = .ok (.istore_n 2, 1) := by decide +kernel
theorem dX12_run_16 : decode cX12_run 16 = .ok (.iload_n 2, 1) := by decide +kernel
theorem dX12_run_17 : decode cX12_run 17 = .ok (.iload_n 1, 1) := by decide +kernel
theorem dX12_run_18 : decode cX12_run 18 = .ok (.if_icmp .ge 34, 3) := by decide +kernel
theorem dX12_run_21 : decode cX12_run 21 = .ok (.aload_n 0, 1) := by decide +kernel
theorem dX12_run_22 : decode cX12_run 22 = .ok (.aload_n 0, 1) := by decide +kernel
theorem dX12_run_23 : decode cX12_run 23 = .ok (.getfield 23, 3) := by decide +kernel
theorem dX12_run_26 : decode cX12_run 26 = .ok (.invokevirtual 172, 3) := by decide +kernel
theorem dX12_run_29 : decode cX12_run 29 = .ok (.istore_n 3, 1) := by decide +kernel
theorem dX12_run_30 : decode cX12_run 30 = .ok (.iload_n 3, 1) := by decide +kernel
theorem dX12_run_31 : decode cX12_run 31 = .ok (.iconst 1, 1) := by decide +kernel
theorem dX12_run_32 : decode cX12_run 32 = .ok (.if_icmp .eq 14, 3) := by decide +kernel
theorem dX12_run_35 : decode cX12_run 35 = .ok (.iload_n 3, 1) := by decide +kernel
theorem dX12_run_36 : decode cX12_run 36 = .ok (.ifCond .ne 7, 3) := by decide +kernel
theorem dX12_run_39 : decode cX12_run 39 = .ok (.iload_n 2, 1) := by decide +kernel
theorem dX12_run_40 : decode cX12_run 40 = .ok (.goto 5, 3) := by decide +kernel
theorem dX12_run_43 : decode cX12_run 43 = .ok (.bipush (-4), 2) := by decide +kernel
theorem dX12_run_45 : decode cX12_run 45 = .ok (.ireturn, 1) := by decide +kernel
theorem dX12_run_46 : decode cX12_run 46 = .ok (.iinc 2 1, 3) := by decide +kernel
theorem dX12_run_49 : decode cX12_run 49 = .ok (.goto (-33), 3) := by decide +kernel
theorem dX12_run_52 : decode cX12_run 52 = .ok (.iload_n 1, 1) := by decide +kernel
theorem dX12_run_53 : decode cX12_run 53 = .ok (.ireturn, 1) := by decide +kernel
theorem dX12_turn_0 : decode cX12_turn 0 = .ok (.aload_n 0, 1) := by decide +kernel
theorem dX12_turn_1 : decode cX12_turn 1 = .ok (.aload_n 0, 1) := by decide +kernel
theorem dX12_turn_2 : decode cX12_turn 2 = .ok (.getfield 23, 3) := by decide +kernel
theorem dX12_turn_5 : decode cX12_turn 5 = .ok (.invokevirtual 164, 3) := by decide +kernel
theorem dX12_turn_8 : decode cX12_turn 8 = .ok (.ireturn, 1) := by decide +kernel
theorem dX12_keep_0 : decode cX12_keep 0 = .ok (.aload_n 1, 1) := by decide +kernel
theorem dX12_keep_1 : decode cX12_keep 1 = .ok (.iconst 0, 1) := by decide +kernel
theorem dX12_keep_2 : decode cX12_keep 2 = .ok (.laload, 1) := by decide +kernel
theorem dX12_keep_3 : decode cX12_keep 3 = .ok (.ldc2_w 175, 3) := by decide +kernel
theorem dX12_keep_6 : decode cX12_keep 6 = .ok (.lmul, 1) := by decide +kernel
theorem dX12_keep_7 : decode cX12_keep 7 = .ok (.aload_n 1, 1) := by decide +kernel
theorem dX12_keep_8 : decode cX12_keep 8 = .ok (.iconst 1, 1) := by decide +kernel
theorem dX12_keep_9 : decode cX12_keep 9 = .ok (.laload, 1) := by decide +kernel
theorem dX12_keep_10 : decode cX12_keep 10 = .ok (.ladd, 1) := by decide +kernel
theorem dX12_keep_11 : decode cX12_keep 11 = .ok (.ldc2_w 177, 3) := by decide +kernel
theorem dX12_keep_14 : decode cX12_keep 14 = .ok (.lmul, 1) := by decide +kernel
theorem dX12_keep_15 : decode cX12_keep 15 = .ok (.aload_n 1, 1) := by decide +kernel
theorem dX12_keep_16 : decode cX12_keep 16 = .ok (.iconst 2, 1) := by decide +kernel
theorem dX12_keep_17 : decode cX12_keep 17 = .ok (.laload, 1) := by decide +kernel
theorem dX12_keep_18 : decode cX12_keep 18 = .ok (.ladd, 1) := by decide +kernel
theorem dX12_keep_19 : decode cX12_keep 19 = .ok (.lstore_n 3, 1) := by decide +kernel
theorem dX12_keep_20 : decode cX12_keep 20 = .ok (.lload_n 3, 1) := by decide +kernel
theorem dX12_keep_21 : decode cX12_keep 21 = .ok (.lload_n 3, 1) := by decide +kernel
theorem dX12_keep_22 : decode cX12_keep 22 = .ok (.bipush 29, 2) := by decide +kernel
theorem dX12_keep_24 : decode cX12_keep 24 = .ok (.lushr, 1) := by decide +kernel
theorem dX12_keep_25 : decode cX12_keep 25 = .ok (.lxor, 1) := by decide +kernel
theorem dX12_keep_26 : decode cX12_keep 26 = .ok (.ldc2_w 179, 3) := by decide +kernel
theorem dX12_keep_29 : decode cX12_keep 29 = .ok (.land, 1) := by decide +kernel
theorem dX12_keep_30 : decode cX12_keep 30 = .ok (.l2i, 1) := by decide +kernel
theorem dX12_keep_31 : decode cX12_keep 31 = .ok (.istore 5, 2) := by decide +kernel
theorem dX12_keep_33 : decode cX12_keep 33 = .ok (.aload_n 0, 1) := by decide +kernel
theorem dX12_keep_34 : decode cX12_keep 34 = .ok (.getfield 62, 3) := by decide +kernel
theorem dX12_keep_37 : decode cX12_keep 37 = .ok (.iload 5, 2) := by decide +kernel
theorem dX12_keep_39 : decode cX12_keep 39 = .ok (.iaload, 1) := by decide +kernel
theorem dX12_keep_40 : decode cX12_keep 40 = .ok (.ifCond .le 85, 3) := by decide +kernel
theorem dX12_keep_43 : decode cX12_keep 43 = .ok (.iconst 3, 1) := by decide +kernel
theorem dX12_keep_44 : decode cX12_keep 44 = .ok (.aload_n 0, 1) := by decide +kernel
theorem dX12_keep_45 : decode cX12_keep 45 = .ok (.getfield 62, 3) := by decide +kernel
theorem dX12_keep_48 : decode cX12_keep 48 = .ok (.iload 5, 2) := by decide +kernel
theorem dX12_keep_50 : decode cX12_keep 50 = .ok (.iaload, 1) := by decide +kernel
theorem dX12_keep_51 : decode cX12_keep 51 = .ok (.iconst 1, 1) := by decide +kernel
theorem dX12_keep_52 : decode cX12_keep 52 = .ok (.isub, 1) := by decide +kernel
theorem dX12_keep_53 : decode cX12_keep 53 = .ok (.imul, 1) := by decide +kernel
theorem dX12_keep_54 : decode cX12_keep 54 = .ok (.istore 6, 2) := by decide +kernel
theorem dX12_keep_56 : decode cX12_keep 56 = .ok (.aload_n 0, 1) := by decide +kernel
theorem dX12_keep_57 : decode cX12_keep 57 = .ok (.getfield 58, 3) := by decide +kernel
theorem dX12_keep_60 : decode cX12_keep 60 = .ok (.iload 6, 2) := by decide +kernel
theorem dX12_keep_62 : decode cX12_keep 62 = .ok (.laload, 1) := by decide +kernel
theorem dX12_keep_63 : decode cX12_keep 63 = .ok (.aload_n 1, 1) := by decide +kernel
theorem dX12_keep_64 : decode cX12_keep 64 = .ok (.iconst 0, 1) := by decide +kernel
theorem dX12_keep_65 : decode cX12_keep 65 = .ok (.laload, 1) := by decide +kernel
theorem dX12_keep_66 : decode cX12_keep 66 = .ok (.lcmp, 1) := by decide +kernel
theorem dX12_keep_67 : decode cX12_keep 67 = .ok (.ifCond .ne 45, 3) := by decide +kernel
theorem dX12_keep_70 : decode cX12_keep 70 = .ok (.aload_n 0, 1) := by decide +kernel
theorem dX12_keep_71 : decode cX12_keep 71 = .ok (.getfield 58, 3) := by decide +kernel
theorem dX12_keep_74 : decode cX12_keep 74 = .ok (.iload 6, 2) := by decide +kernel
theorem dX12_keep_76 : decode cX12_keep 76 = .ok (.iconst 1, 1) := by decide +kernel
theorem dX12_keep_77 : decode cX12_keep 77 = .ok (.iadd, 1) := by decide +kernel
theorem dX12_keep_78 : decode cX12_keep 78 = .ok (.laload, 1) := by decide +kernel
theorem dX12_keep_79 : decode cX12_keep 79 = .ok (.aload_n 1, 1) := by decide +kernel
theorem dX12_keep_80 : decode cX12_keep 80 = .ok (.iconst 1, 1) := by decide +kernel
theorem dX12_keep_81 : decode cX12_keep 81 = .ok (.laload, 1) := by decide +kernel
theorem dX12_keep_82 : decode cX12_keep 82 = .ok (.lcmp, 1) := by decide +kernel
theorem dX12_keep_83 : decode cX12_keep 83 = .ok (.ifCond .ne 29, 3) := by decide +kernel
theorem dX12_keep_86 : decode cX12_keep 86 = .ok (.aload_n 0, 1) := by decide +kernel
theorem dX12_keep_87 : decode cX12_keep 87 = .ok (.getfield 58, 3) := by decide +kernel
theorem dX12_keep_90 : decode cX12_keep 90 = .ok (.iload 6, 2) := by decide +kernel
theorem dX12_keep_92 : decode cX12_keep 92 = .ok (.iconst 2, 1) := by decide +kernel
theorem dX12_keep_93 : decode cX12_keep 93 = .ok (.iadd, 1) := by decide +kernel
theorem dX12_keep_94 : decode cX12_keep 94 = .ok (.laload, 1) := by decide +kernel
theorem dX12_keep_95 : decode cX12_keep 95 = .ok (.aload_n 1, 1) := by decide +kernel
theorem dX12_keep_96 : decode cX12_keep 96 = .ok (.iconst 2, 1) := by decide +kernel
theorem dX12_keep_97 : decode cX12_keep 97 = .ok (.laload, 1) := by decide +kernel
theorem dX12_keep_98 : decode cX12_keep 98 = .ok (.lcmp, 1) := by decide +kernel
theorem dX12_keep_99 : decode cX12_keep 99 = .ok (.ifCond .ne 13, 3) := by decide +kernel
theorem dX12_keep_102 : decode cX12_keep 102 = .ok (.aload_n 0, 1) := by decide +kernel
theorem dX12_keep_103 : decode cX12_keep 103 = .ok (.getfield 62, 3) := by decide +kernel
theorem dX12_keep_106 : decode cX12_keep 106 = .ok (.iload 5, 2) := by decide +kernel
theorem dX12_keep_108 : decode cX12_keep 108 = .ok (.iaload, 1) := by decide +kernel
theorem dX12_keep_109 : decode cX12_keep 109 = .ok (.iconst 1, 1) := by decide +kernel
theorem dX12_keep_110 : decode cX12_keep 110 = .ok (.isub, 1) := by decide +kernel
theorem dX12_keep_111 : decode cX12_keep 111 = .ok (.ireturn, 1) := by decide +kernel
theorem dX12_keep_112 : decode cX12_keep 112 = .ok (.iload 5, 2) := by decide +kernel
theorem dX12_keep_114 : decode cX12_keep 114 = .ok (.iconst 1, 1) := by decide +kernel
theorem dX12_keep_115 : decode cX12_keep 115 = .ok (.iadd, 1) := by decide +kernel
theorem dX12_keep_116 : decode cX12_keep 116 = .ok (.sipush 32767, 3) := by decide +kernel
theorem dX12_keep_119 : decode cX12_keep 119 = .ok (.iand, 1) := by decide +kernel
theorem dX12_keep_120 : decode cX12_keep 120 = .ok (.istore 5, 2) := by decide +kernel
theorem dX12_keep_122 : decode cX12_keep 122 = .ok (.goto (-89), 3) := by decide +kernel
theorem dX12_keep_125 : decode cX12_keep 125 = .ok (.aload_n 0, 1) := by decide +kernel
theorem dX12_keep_126 : decode cX12_keep 126 = .ok (.getfield 62, 3) := by decide +kernel
theorem dX12_keep_129 : decode cX12_keep 129 = .ok (.iload 5, 2) := by decide +kernel
theorem dX12_keep_131 : decode cX12_keep 131 = .ok (.iload_n 2, 1) := by decide +kernel
theorem dX12_keep_132 : decode cX12_keep 132 = .ok (.iconst 1, 1) := by decide +kernel
theorem dX12_keep_133 : decode cX12_keep 133 = .ok (.iadd, 1) := by decide +kernel
theorem dX12_keep_134 : decode cX12_keep 134 = .ok (.iastore, 1) := by decide +kernel
theorem dX12_keep_135 : decode cX12_keep 135 = .ok (.iconst 0, 1) := by decide +kernel
theorem dX12_keep_136 : decode cX12_keep 136 = .ok (.istore 6, 2) := by decide +kernel
theorem dX12_keep_138 : decode cX12_keep 138 = .ok (.iload 6, 2) := by decide +kernel
theorem dX12_keep_140 : decode cX12_keep 140 = .ok (.iconst 3, 1) := by decide +kernel
theorem dX12_keep_141 : decode cX12_keep 141 = .ok (.if_icmp .ge 24, 3) := by decide +kernel
theorem dX12_keep_144 : decode cX12_keep 144 = .ok (.aload_n 0, 1) := by decide +kernel
theorem dX12_keep_145 : decode cX12_keep 145 = .ok (.getfield 58, 3) := by decide +kernel
theorem dX12_keep_148 : decode cX12_keep 148 = .ok (.iconst 3, 1) := by decide +kernel
theorem dX12_keep_149 : decode cX12_keep 149 = .ok (.iload_n 2, 1) := by decide +kernel
theorem dX12_keep_150 : decode cX12_keep 150 = .ok (.imul, 1) := by decide +kernel
theorem dX12_keep_151 : decode cX12_keep 151 = .ok (.iload 6, 2) := by decide +kernel
theorem dX12_keep_153 : decode cX12_keep 153 = .ok (.iadd, 1) := by decide +kernel
theorem dX12_keep_154 : decode cX12_keep 154 = .ok (.aload_n 1, 1) := by decide +kernel
theorem dX12_keep_155 : decode cX12_keep 155 = .ok (.iload 6, 2) := by decide +kernel
theorem dX12_keep_157 : decode cX12_keep 157 = .ok (.laload, 1) := by decide +kernel
theorem dX12_keep_158 : decode cX12_keep 158 = .ok (.lastore, 1) := by decide +kernel
theorem dX12_keep_159 : decode cX12_keep 159 = .ok (.iinc 6 1, 3) := by decide +kernel
theorem dX12_keep_162 : decode cX12_keep 162 = .ok (.goto (-24), 3) := by decide +kernel
theorem dX12_keep_165 : decode cX12_keep 165 = .ok (.iconst (-1), 1) := by decide +kernel
theorem dX12_keep_166 : decode cX12_keep 166 = .ok (.ireturn, 1) := by decide +kernel
theorem dX12_ring_0 : decode cX12_ring 0 = .ok (.iload_n 1, 1) := by decide +kernel
theorem dX12_ring_1 : decode cX12_ring 1 = .ok (.iconst 1, 1) := by decide +kernel
theorem dX12_ring_2 : decode cX12_ring 2 = .ok (.if_icmp .lt 10, 3) := by decide +kernel
theorem dX12_ring_5 : decode cX12_ring 5 = .ok (.iload_n 1, 1) := by decide +kernel
theorem dX12_ring_6 : decode cX12_ring 6 = .ok (.sipush 10000, 3) := by decide +kernel
theorem dX12_ring_9 : decode cX12_ring 9 = .ok (.if_icmp .le 5, 3) := by decide +kernel
theorem dX12_ring_12 : decode cX12_ring 12 = .ok (.iconst (-1), 1) := by decide +kernel
theorem dX12_ring_13 : decode cX12_ring 13 = .ok (.ireturn, 1) := by decide +kernel
theorem dX12_ring_14 : decode cX12_ring 14 = .ok (.iconst 0, 1) := by decide +kernel
theorem dX12_ring_15 : decode cX12_ring 15 = .ok (.istore_n 2, 1) := by decide +kernel
theorem dX12_ring_16 : decode cX12_ring 16 = .ok (.iload_n 2, 1) := by decide +kernel
theorem dX12_ring_17 : decode cX12_ring 17 = .ok (.ldc 61, 2) := by decide +kernel
theorem dX12_ring_19 : decode cX12_ring 19 = .ok (.if_icmp .ge 16, 3) := by decide +kernel
theorem dX12_ring_22 : decode cX12_ring 22 = .ok (.aload_n 0, 1) := by decide +kernel
theorem dX12_ring_23 : decode cX12_ring 23 = .ok (.getfield 62, 3) := by decide +kernel
theorem dX12_ring_26 : decode cX12_ring 26 = .ok (.iload_n 2, 1) := by decide +kernel
theorem dX12_ring_27 : decode cX12_ring 27 = .ok (.iconst 0, 1) := by decide +kernel
theorem dX12_ring_28 : decode cX12_ring 28 = .ok (.iastore, 1) := by decide +kernel
theorem dX12_ring_29 : decode cX12_ring 29 = .ok (.iinc 2 1, 3) := by decide +kernel
theorem dX12_ring_32 : decode cX12_ring 32 = .ok (.goto (-16), 3) := by decide +kernel
theorem dX12_ring_35 : decode cX12_ring 35 = .ok (.iconst 0, 1) := by decide +kernel
theorem dX12_ring_36 : decode cX12_ring 36 = .ok (.istore_n 2, 1) := by decide +kernel
theorem dX12_ring_37 : decode cX12_ring 37 = .ok (.iload_n 2, 1) := by decide +kernel
theorem dX12_ring_38 : decode cX12_ring 38 = .ok (.iconst 3, 1) := by decide +kernel
