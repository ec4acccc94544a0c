theorem dX12_reach_73 : decode cX12_reach 73 = .ok (.baload, 1) := by decide +kernel
theorem dX12_reach_74 : decode cX12_reach 74 = .ok (.ifCond .eq 7, 3) := by decide +kernel
theorem dX12_reach_77 : decode cX12_reach 77 = .ok (.iconst 1, 1) := by decide +kernel
theorem dX12_reach_78 : decode cX12_reach 78 = .ok (.goto 4, 3) := by decide +kernel
theorem dX12_reach_81 : decode cX12_reach 81 = .ok (.iconst 0, 1) := by decide +kernel
theorem dX12_reach_82 : decode cX12_reach 82 = .ok (.putfield 322, 3) := by decide +kernel
theorem dX12_reach_85 : decode cX12_reach 85 = .ok (.aload_n 0, 1) := by decide +kernel
theorem dX12_reach_86 : decode cX12_reach 86 = .ok (.dup, 1) := by decide +kernel
theorem dX12_reach_87 : decode cX12_reach 87 = .ok (.getfield 325, 3) := by decide +kernel
theorem dX12_reach_90 : decode cX12_reach 90 = .ok (.aload_n 0, 1) := by decide +kernel
theorem dX12_reach_91 : decode cX12_reach 91 = .ok (.getfield 77, 3) := by decide +kernel
theorem dX12_reach_94 : decode cX12_reach 94 = .ok (.iload 6, 2) := by decide +kernel
theorem dX12_reach_96 : decode cX12_reach 96 = .ok (.baload, 1) := by decide +kernel
theorem dX12_reach_97 : decode cX12_reach 97 = .ok (.ifCond .eq 7, 3) := by decide +kernel
theorem dX12_reach_100 : decode cX12_reach 100 = .ok (.lconst 0, 1) := by decide +kernel
theorem dX12_reach_101 : decode cX12_reach 101 = .ok (.goto 14, 3) := by decide +kernel
theorem dX12_reach_104 : decode cX12_reach 104 = .ok (.iload 5, 2) := by decide +kernel
theorem dX12_reach_106 : decode cX12_reach 106 = .ok (.i2l, 1) := by decide +kernel
theorem dX12_reach_107 : decode cX12_reach 107 = .ok (.aload_n 0, 1) := by decide +kernel
theorem dX12_reach_108 : decode cX12_reach 108 = .ok (.getfield 74, 3) := by decide +kernel
theorem dX12_reach_111 : decode cX12_reach 111 = .ok (.iload 6, 2) := by decide +kernel
theorem dX12_reach_113 : decode cX12_reach 113 = .ok (.laload, 1) := by decide +kernel
theorem dX12_reach_114 : decode cX12_reach 114 = .ok (.lmul, 1) := by decide +kernel
theorem dX12_reach_115 : decode cX12_reach 115 = .ok (.ladd, 1) := by decide +kernel
theorem dX12_reach_116 : decode cX12_reach 116 = .ok (.putfield 325, 3) := by decide +kernel
theorem dX12_reach_119 : decode cX12_reach 119 = .ok (.iinc 4 1, 3) := by decide +kernel
theorem dX12_reach_122 : decode cX12_reach 122 = .ok (.goto (-104), 3) := by decide +kernel
theorem dX12_reach_125 : decode cX12_reach 125 = .ok (.return_, 1) := by decide +kernel
theorem dX12_isPassed_0 : decode cX12_isPassed 0 = .ok (.iconst 0, 1) := by decide +kernel
theorem dX12_isPassed_1 : decode cX12_isPassed 1 = .ok (.istore_n 2, 1) := by decide +kernel
theorem dX12_isPassed_2 : decode cX12_isPassed 2 = .ok (.iconst 0, 1) := by decide +kernel
theorem dX12_isPassed_3 : decode cX12_isPassed 3 = .ok (.istore_n 3, 1) := by decide +kernel
theorem dX12_isPassed_4 : decode cX12_isPassed 4 = .ok (.iload_n 3, 1) := by decide +kernel
theorem dX12_isPassed_5 : decode cX12_isPassed 5 = .ok (.aload_n 0, 1) := by decide +kernel
theorem dX12_isPassed_6 : decode cX12_isPassed 6 = .ok (.getfield 13, 3) := by decide +kernel
theorem dX12_isPassed_9 : decode cX12_isPassed 9 = .ok (.iload_n 1, 1) := by decide +kernel
theorem dX12_isPassed_10 : decode cX12_isPassed 10 = .ok (.iaload, 1) := by decide +kernel
theorem dX12_isPassed_11 : decode cX12_isPassed 11 = .ok (.if_icmp .ge 52, 3) := by decide +kernel
theorem dX12_isPassed_14 : decode cX12_isPassed 14 = .ok (.aload_n 0, 1) := by decide +kernel
theorem dX12_isPassed_15 : decode cX12_isPassed 15 = .ok (.aload_n 0, 1) := by decide +kernel
theorem dX12_isPassed_16 : decode cX12_isPassed 16 = .ok (.getfield 17, 3) := by decide +kernel
theorem dX12_isPassed_19 : decode cX12_isPassed 19 = .ok (.bipush 6, 2) := by decide +kernel
theorem dX12_isPassed_21 : decode cX12_isPassed 21 = .ok (.iload_n 1, 1) := by decide +kernel
theorem dX12_isPassed_22 : decode cX12_isPassed 22 = .ok (.imul, 1) := by decide +kernel
theorem dX12_isPassed_23 : decode cX12_isPassed 23 = .ok (.iload_n 3, 1) := by decide +kernel
theorem dX12_isPassed_24 : decode cX12_isPassed 24 = .ok (.iadd, 1) := by decide +kernel
theorem dX12_isPassed_25 : decode cX12_isPassed 25 = .ok (.iconst 4, 1) := by decide +kernel
theorem dX12_isPassed_26 : decode cX12_isPassed 26 = .ok (.imul, 1) := by decide +kernel
theorem dX12_isPassed_27 : decode cX12_isPassed 27 = .ok (.iconst 1, 1) := by decide +kernel
theorem dX12_isPassed_28 : decode cX12_isPassed 28 = .ok (.invokevirtual 328, 3) := by decide +kernel
theorem dX12_isPassed_31 : decode cX12_isPassed 31 = .ok (.iload_n 2, 1) := by decide +kernel
theorem dX12_isPassed_32 : decode cX12_isPassed 32 = .ok (.ifCond .ne 19, 3) := by decide +kernel
theorem dX12_isPassed_35 : decode cX12_isPassed 35 = .ok (.aload_n 0, 1) := by decide +kernel
theorem dX12_isPassed_36 : decode cX12_isPassed 36 = .ok (.getfield 322, 3) := by decide +kernel
theorem dX12_isPassed_39 : decode cX12_isPassed 39 = .ok (.ifCond .ne 16, 3) := by decide +kernel
theorem dX12_isPassed_42 : decode cX12_isPassed 42 = .ok (.aload_n 0, 1) := by decide +kernel
theorem dX12_isPassed_43 : decode cX12_isPassed 43 = .ok (.getfield 325, 3) := by decide +kernel
theorem dX12_isPassed_46 : decode cX12_isPassed 46 = .ok (.lconst 0, 1) := by decide +kernel
theorem dX12_isPassed_47 : decode cX12_isPassed 47 = .ok (.lcmp, 1) := by decide +kernel
theorem dX12_isPassed_48 : decode cX12_isPassed 48 = .ok (.ifCond .ge 7, 3) := by decide +kernel
theorem dX12_isPassed_51 : decode cX12_isPassed 51 = .ok (.iconst 1, 1) := by decide +kernel
theorem dX12_isPassed_52 : decode cX12_isPassed 52 = .ok (.goto 4, 3) := by decide +kernel
theorem dX12_isPassed_55 : decode cX12_isPassed 55 = .ok (.iconst 0, 1) := by decide +kernel
theorem dX12_isPassed_56 : decode cX12_isPassed 56 = .ok (.istore_n 2, 1) := by decide +kernel
theorem dX12_isPassed_57 : decode cX12_isPassed 57 = .ok (.iinc 3 1, 3) := by decide +kernel
theorem dX12_isPassed_60 : decode cX12_isPassed 60 = .ok (.goto (-56), 3) := by decide +kernel
theorem dX12_isPassed_63 : decode cX12_isPassed 63 = .ok (.iload_n 2, 1) := by decide +kernel
theorem dX12_isPassed_64 : decode cX12_isPassed 64 = .ok (.ireturn, 1) := by decide +kernel
theorem dX12_isChanged_0 : decode cX12_isChanged 0 = .ok (.aload_n 0, 1) := by decide +kernel
theorem dX12_isChanged_1 : decode cX12_isChanged 1 = .ok (.getfield 83, 3) := by decide +kernel
theorem dX12_isChanged_4 : decode cX12_isChanged 4 = .ok (.iload_n 1, 1) := by decide +kernel
theorem dX12_isChanged_5 : decode cX12_isChanged 5 = .ok (.baload, 1) := by decide +kernel
theorem dX12_isChanged_6 : decode cX12_isChanged 6 = .ok (.aload_n 0, 1) := by decide +kernel
theorem dX12_isChanged_7 : decode cX12_isChanged 7 = .ok (.getfield 77, 3) := by decide +kernel
theorem dX12_isChanged_10 : decode cX12_isChanged 10 = .ok (.iload_n 1, 1) := by decide +kernel
theorem dX12_isChanged_11 : decode cX12_isChanged 11 = .ok (.baload, 1) := by decide +kernel
theorem dX12_isChanged_12 : decode cX12_isChanged 12 = .ok (.if_icmp .ne 28, 3) := by decide +kernel
theorem dX12_isChanged_15 : decode cX12_isChanged 15 = .ok (.aload_n 0, 1) := by decide +kernel
theorem dX12_isChanged_16 : decode cX12_isChanged 16 = .ok (.getfield 83, 3) := by decide +kernel
theorem dX12_isChanged_19 : decode cX12_isChanged 19 = .ok (.iload_n 1, 1) := by decide +kernel
theorem dX12_isChanged_20 : decode cX12_isChanged 20 = .ok (.baload, 1) := by decide +kernel
theorem dX12_isChanged_21 : decode cX12_isChanged 21 = .ok (.ifCond .ne 23, 3) := by decide +kernel
theorem dX12_isChanged_24 : decode cX12_isChanged 24 = .ok (.aload_n 0, 1) := by decide +kernel
theorem dX12_isChanged_25 : decode cX12_isChanged 25 = .ok (.getfield 80, 3) := by decide +kernel
theorem dX12_isChanged_28 : decode cX12_isChanged 28 = .ok (.iload_n 1, 1) := by decide +kernel
theorem dX12_isChanged_29 : decode cX12_isChanged 29 = .ok (.laload, 1) := by decide +kernel
theorem dX12_isChanged_30 : decode cX12_isChanged 30 = .ok (.aload_n 0, 1) := by decide +kernel
theorem dX12_isChanged_31 : decode cX12_isChanged 31 = .ok (.getfield 74, 3) := by decide +kernel
theorem dX12_isChanged_34 : decode cX12_isChanged 34 = .ok (.iload_n 1, 1) := by decide +kernel
theorem dX12_isChanged_35 : decode cX12_isChanged 35 = .ok (.laload, 1) := by decide +kernel
theorem dX12_isChanged_36 : decode cX12_isChanged 36 = .ok (.lcmp, 1) := by decide +kernel
theorem dX12_isChanged_37 : decode cX12_isChanged 37 = .ok (.ifCond .eq 7, 3) := by decide +kernel
theorem dX12_isChanged_40 : decode cX12_isChanged 40 = .ok (.iconst 1, 1) := by decide +kernel
theorem dX12_isChanged_41 : decode cX12_isChanged 41 = .ok (.goto 4, 3) := by decide +kernel
theorem dX12_isChanged_44 : decode cX12_isChanged 44 = .ok (.iconst 0, 1) := by decide +kernel
theorem dX12_isChanged_45 : decode cX12_isChanged 45 = .ok (.ireturn, 1) := by decide +kernel
theorem dX12_goRound_0 : decode cX12_goRound 0 = .ok (.iconst 0, 1) := by decide +kernel
theorem dX12_goRound_1 : decode cX12_goRound 1 = .ok (.istore_n 1, 1) := by decide +kernel
theorem dX12_goRound_2 : decode cX12_goRound 2 = .ok (.iload_n 1, 1) := by decide +kernel
theorem dX12_goRound_3 : decode cX12_goRound 3 = .ok (.bipush 6, 2) := by decide +kernel
theorem dX12_goRound_5 : decode cX12_goRound 5 = .ok (.if_icmp .ge 33, 3) := by decide +kernel
theorem dX12_goRound_8 : decode cX12_goRound 8 = .ok (.aload_n 0, 1) := by decide +kernel
theorem dX12_goRound_9 : decode cX12_goRound 9 = .ok (.getfield 80, 3) := by decide +kernel
theorem dX12_goRound_12 : decode cX12_goRound 12 = .ok (.iload_n 1, 1) := by decide +kernel
theorem dX12_goRound_13 : decode cX12_goRound 13 = .ok (.aload_n 0, 1) := by decide +kernel
theorem dX12_goRound_14 : decode cX12_goRound 14 = .ok (.getfield 74, 3) := by decide +kernel
theorem dX12_goRound_17 : decode cX12_goRound 17 = .ok (.iload_n 1, 1) := by decide +kernel
theorem dX12_goRound_18 : decode cX12_goRound 18 = .ok (.laload, 1) := by decide +kernel
theorem dX12_goRound_19 : decode cX12_goRound 19 = .ok (.lastore, 1) := by decide +kernel
theorem dX12_goRound_20 : decode cX12_goRound 20 = .ok (.aload_n 0, 1) := by decide +kernel
theorem dX12_goRound_21 : decode cX12_goRound 21 = .ok (.getfield 83, 3) := by decide +kernel
theorem dX12_goRound_24 : decode cX12_goRound 24 = .ok (.iload_n 1, 1) := by decide +kernel
theorem dX12_goRound_25 : decode cX12_goRound 25 = .ok (.aload_n 0, 1) := by decide +kernel
theorem dX12_goRound_26 : decode cX12_goRound 26 = .ok (.getfield 77, 3) := by decide +kernel
theorem dX12_goRound_29 : decode cX12_goRound 29 = .ok (.iload_n 1, 1) := by decide +kernel
theorem dX12_goRound_30 : decode cX12_goRound 30 = .ok (.baload, 1) := by decide +kernel
theorem dX12_goRound_31 : decode cX12_goRound 31 = .ok (.bastore, 1) := by decide +kernel
theorem dX12_goRound_32 : decode cX12_goRound 32 = .ok (.iinc 1 1, 3) := by decide +kernel
theorem dX12_goRound_35 : decode cX12_goRound 35 = .ok (.goto (-33), 3) := by decide +kernel
theorem dX12_goRound_38 : decode cX12_goRound 38 = .ok (.iconst 0, 1) := by decide +kernel
theorem dX12_goRound_39 : decode cX12_goRound 39 = .ok (.istore_n 1, 1) := by decide +kernel
theorem dX12_goRound_40 : decode cX12_goRound 40 = .ok (.iload_n 1, 1) := by decide +kernel
theorem dX12_goRound_41 : decode cX12_goRound 41 = .ok (.aload_n 0, 1) := by decide +kernel
theorem dX12_goRound_42 : decode cX12_goRound 42 = .ok (.getfield 135, 3) := by decide +kernel
theorem dX12_goRound_45 : decode cX12_goRound 45 = .ok (.if_icmp .ge 163, 3) := by decide +kernel
theorem dX12_goRound_48 : decode cX12_goRound 48 = .ok (.aload_n 0, 1) := by decide +kernel
theorem dX12_goRound_49 : decode cX12_goRound 49 = .ok (.iload_n 1, 1) := by decide +kernel
theorem dX12_goRound_50 : decode cX12_goRound 50 = .ok (.invokevirtual 332, 3) := by decide +kernel
theorem dX12_goRound_53 : decode cX12_goRound 53 = .ok (.ifCond .eq 6, 3) := by decide +kernel
theorem dX12_goRound_56 : decode cX12_goRound 56 = .ok (.goto 146, 3) := by decide +kernel
theorem dX12_goRound_59 : decode cX12_goRound 59 = .ok (.iconst 0, 1) := by decide +kernel
theorem dX12_goRound_60 : decode cX12_goRound 60 = .ok (.istore_n 2, 1) := by decide +kernel
theorem dX12_goRound_61 : decode cX12_goRound 61 = .ok (.iload_n 2, 1) := by decide +kernel
theorem dX12_goRound_62 : decode cX12_goRound 62 = .ok (.iconst 2, 1) := by decide +kernel
theorem dX12_goRound_63 : decode cX12_goRound 63 = .ok (.aload_n 0, 1) := by decide +kernel
theorem dX12_goRound_64 : decode cX12_goRound 64 = .ok (.getfield 7, 3) := by decide +kernel
theorem dX12_goRound_67 : decode cX12_goRound 67 = .ok (.imul, 1) := by decide +kernel
theorem dX12_goRound_68 : decode cX12_goRound 68 = .ok (.if_icmp .ge 134, 3) := by decide +kernel
theorem dX12_goRound_71 : decode cX12_goRound 71 = .ok (.aload_n 0, 1) := by decide +kernel
theorem dX12_goRound_72 : decode cX12_goRound 72 = .ok (.aload_n 0, 1) := by decide +kernel
theorem dX12_goRound_73 : decode cX12_goRound 73 = .ok (.getfield 20, 3) := by decide +kernel
theorem dX12_goRound_76 : decode cX12_goRound 76 = .ok (.iconst 3, 1) := by decide +kernel
theorem dX12_goRound_77 : decode cX12_goRound 77 = .ok (.iload_n 1, 1) := by decide +kernel
theorem dX12_goRound_78 : decode cX12_goRound 78 = .ok (.imul, 1) := by decide +kernel
theorem dX12_goRound_79 : decode cX12_goRound 79 = .ok (.iload_n 2, 1) := by decide +kernel
theorem dX12_goRound_80 : decode cX12_goRound 80 = .ok (.iconst 2, 1) := by decide +kernel
theorem dX12_goRound_81 : decode cX12_goRound 81 = .ok (.idiv, 1) := by decide +kernel
theorem dX12_goRound_82 : decode cX12_goRound 82 = .ok (.iadd, 1) := by decide +kernel
theorem dX12_goRound_83 : decode cX12_goRound 83 = .ok (.iconst 4, 1) := by decide +kernel
theorem dX12_goRound_84 : decode cX12_goRound 84 = .ok (.imul, 1) := by decide +kernel
theorem dX12_goRound_85 : decode cX12_goRound 85 = .ok (.iload_n 2, 1) := by decide +kernel
theorem dX12_goRound_86 : decode cX12_goRound 86 = .ok (.iconst 2, 1) := by decide +kernel
theorem dX12_goRound_87 : decode cX12_goRound 87 = .ok (.irem, 1) := by decide +kernel
theorem dX12_goRound_88 : decode cX12_goRound 88 = .ok (.invokevirtual 328, 3) := by decide +kernel
theorem dX12_goRound_91 : decode cX12_goRound 91 = .ok (.aload_n 0, 1) := by decide +kernel
theorem dX12_goRound_92 : decode cX12_goRound 92 = .ok (.getfield 83, 3) := by decide +kernel
theorem dX12_goRound_95 : decode cX12_goRound 95 = .ok (.iload_n 2, 1) := by decide +kernel
theorem dX12_goRound_96 : decode cX12_goRound 96 = .ok (.aload_n 0, 1) := by decide +kernel
theorem dX12_goRound_97 : decode cX12_goRound 97 = .ok (.getfield 83, 3) := by decide +kernel
theorem dX12_goRound_100 : decode cX12_goRound 100 = .ok (.iload_n 2, 1) := by decide +kernel
theorem dX12_goRound_101 : decode cX12_goRound 101 = .ok (.baload, 1) := by decide +kernel
theorem dX12_goRound_102 : decode cX12_goRound 102 = .ok (.ifCond .ne 10, 3) := by decide +kernel
theorem dX12_goRound_105 : decode cX12_goRound 105 = .ok (.aload_n 0, 1) := by decide +kernel
theorem dX12_goRound_106 : decode cX12_goRound 106 = .ok (.getfield 322, 3) := by decide +kernel
theorem dX12_goRound_109 : decode cX12_goRound 109 = .ok (.ifCond .eq 7, 3) := by decide +kernel
theorem dX12_goRound_112 : decode cX12_goRound 112 = .ok (.iconst 1, 1) := by decide +kernel
theorem dX12_goRound_113 : decode cX12_goRound 113 = .ok (.goto 4, 3) := by decide +kernel
theorem dX12_goRound_116 : decode cX12_goRound 116 = .ok (.iconst 0, 1) := by decide +kernel
theorem dX12_goRound_117 : decode cX12_goRound 117 = .ok (.bastore, 1) := by decide +kernel
theorem dX12_goRound_118 : decode cX12_goRound 118 = .ok (.iload_n 2, 1) := by decide +kernel
theorem dX12_goRound_119 : decode cX12_goRound 119 = .ok (.iconst 2, 1) := by decide +kernel
theorem dX12_goRound_120 : decode cX12_goRound 120 = .ok (.irem, 1) := by decide +kernel
theorem dX12_goRound_121 : decode cX12_goRound 121 = .ok (.ifCond .ne 25, 3) := by decide +kernel
theorem dX12_goRound_124 : decode cX12_goRound 124 = .ok (.aload_n 0, 1) := by decide +kernel
theorem dX12_goRound_125 : decode cX12_goRound 125 = .ok (.getfield 325, 3) := by decide +kernel
theorem dX12_goRound_128 : decode cX12_goRound 128 = .ok (.aload_n 0, 1) := by decide +kernel
theorem dX12_goRound_129 : decode cX12_goRound 129 = .ok (.getfield 80, 3) := by decide +kernel
theorem dX12_goRound_132 : decode cX12_goRound 132 = .ok (.iload_n 2, 1) := by decide +kernel
theorem dX12_goRound_133 : decode cX12_goRound 133 = .ok (.laload, 1) := by decide +kernel
theorem dX12_goRound_134 : decode cX12_goRound 134 = .ok (.lcmp, 1) := by decide +kernel
theorem dX12_goRound_135 : decode cX12_goRound 135 = .ok (.ifCond .ge 7, 3) := by decide +kernel
theorem dX12_goRound_138 : decode cX12_goRound 138 = .ok (.iconst 1, 1) := by decide +kernel
theorem dX12_goRound_139 : decode cX12_goRound 139 = .ok (.goto 26, 3) := by decide +kernel
theorem dX12_goRound_142 : decode cX12_goRound 142 = .ok (.iconst 0, 1) := by decide +kernel
theorem dX12_goRound_143 : decode cX12_goRound 143 = .ok (.goto 22, 3) := by decide +kernel
theorem dX12_goRound_146 : decode cX12_goRound 146 = .ok (.aload_n 0, 1) := by decide +kernel
theorem dX12_goRound_147 : decode cX12_goRound 147 = .ok (.getfield 325, 3) := by decide +kernel
theorem dX12_goRound_150 : decode cX12_goRound 150 = .ok (.aload_n 0, 1) := by decide +kernel
theorem dX12_goRound_151 : decode cX12_goRound 151 = .ok (.getfield 80, 3) := by decide +kernel
theorem dX12_goRound_154 : decode cX12_goRound 154 = .ok (.iload_n 2, 1) := by decide +kernel
theorem dX12_goRound_155 : decode cX12_goRound 155 = .ok (.laload, 1) := by decide +kernel
theorem dX12_goRound_156 : decode cX12_goRound 156 = .ok (.lcmp, 1) := by decide +kernel
theorem dX12_goRound_157 : decode cX12_goRound 157 = .ok (.ifCond .le 7, 3) := by decide +kernel
theorem dX12_goRound_160 : decode cX12_goRound 160 = .ok (.iconst 1, 1) := by decide +kernel
theorem dX12_goRound_161 : decode cX12_goRound 161 = .ok (.goto 4, 3) := by decide +kernel
theorem dX12_goRound_164 : decode cX12_goRound 164 = .ok (.iconst 0, 1) := by decide +kernel
theorem dX12_goRound_165 : decode cX12_goRound 165 = .ok (.istore_n 3, 1) := by decide +kernel
theorem dX12_goRound_166 : decode cX12_goRound 166 = .ok (.aload_n 0, 1) := by decide +kernel
theorem dX12_goRound_167 : decode cX12_goRound 167 = .ok (.getfield 80, 3) := by decide +kernel
theorem dX12_goRound_170 : decode cX12_goRound 170 = .ok (.iload_n 2, 1) := by decide +kernel
theorem dX12_goRound_171 : decode cX12_goRound 171 = .ok (.aload_n 0, 1) := by decide +kernel
theorem dX12_goRound_172 : decode cX12_goRound 172 = .ok (.getfield 322, 3) := by decide +kernel
theorem dX12_goRound_175 : decode cX12_goRound 175 = .ok (.ifCond .ne 14, 3) := by decide +kernel
theorem dX12_goRound_178 : decode cX12_goRound 178 = .ok (.iload_n 3, 1) := by decide +kernel
theorem dX12_goRound_179 : decode cX12_goRound 179 = .ok (.ifCond .eq 10, 3) := by decide +kernel
theorem dX12_goRound_182 : decode cX12_goRound 182 = .ok (.aload_n 0, 1) := by decide +kernel
theorem dX12_goRound_183 : decode cX12_goRound 183 = .ok (.getfield 325, 3) := by decide +kernel
theorem dX12_goRound_186 : decode cX12_goRound 186 = .ok (.goto 9, 3) := by decide +kernel
theorem dX12_goRound_189 : decode cX12_goRound 189 = .ok (.aload_n 0, 1) := by decide +kernel
theorem dX12_goRound_190 : decode cX12_goRound 190 = .ok (.getfield 80, 3) := by decide +kernel
theorem dX12_goRound_193 : decode cX12_goRound 193 = .ok (.iload_n 2, 1) := by decide +kernel
theorem dX12_goRound_194 : decode cX12_goRound 194 = .ok (.laload, 1) := by decide +kernel
theorem dX12_goRound_195 : decode cX12_goRound 195 = .ok (.lastore, 1) := by decide +kernel
theorem dX12_goRound_196 : decode cX12_goRound 196 = .ok (.iinc 2 1, 3) := by decide +kernel
theorem dX12_goRound_199 : decode cX12_goRound 199 = .ok (.goto (-138), 3) := by decide +kernel
theorem dX12_goRound_202 : decode cX12_goRound 202 = .ok (.iinc 1 1, 3) := by decide +kernel
theorem dX12_goRound_205 : decode cX12_goRound 205 = .ok (.goto (-165), 3) := by decide +kernel
theorem dX12_goRound_208 : decode cX12_goRound 208 = .ok (.iconst 0, 1) := by decide +kernel
theorem dX12_goRound_209 : decode cX12_goRound 209 = .ok (.istore_n 1, 1) := by decide +kernel
theorem dX12_goRound_210 : decode cX12_goRound 210 = .ok (.iconst 0, 1) := by decide +kernel
theorem dX12_goRound_211 : decode cX12_goRound 211 = .ok (.istore_n 2, 1) := by decide +kernel
theorem dX12_goRound_212 : decode cX12_goRound 212 = .ok (.iload_n 2, 1) := by decide +kernel
theorem dX12_goRound_213 : decode cX12_goRound 213 = .ok (.iconst 2, 1) := by decide +kernel
theorem dX12_goRound_214 : decode cX12_goRound 214 = .ok (.aload_n 0, 1) := by decide +kernel
theorem dX12_goRound_215 : decode cX12_goRound 215 = .ok (.getfield 7, 3) := by decide +kernel
theorem dX12_goRound_218 : decode cX12_goRound 218 = .ok (.imul, 1) := by decide +kernel
theorem dX12_goRound_219 : decode cX12_goRound 219 = .ok (.if_icmp .ge 27, 3) := by decide +kernel
theorem dX12_goRound_222 : decode cX12_goRound 222 = .ok (.iload_n 1, 1) := by decide +kernel
theorem dX12_goRound_223 : decode cX12_goRound 223 = .ok (.ifCond .ne 11, 3) := by decide +kernel
theorem dX12_goRound_226 : decode cX12_goRound 226 = .ok (.aload_n 0, 1) := by decide +kernel
theorem dX12_goRound_227 : decode cX12_goRound 227 = .ok (.iload_n 2, 1) := by decide +kernel
theorem dX12_goRound_228 : decode cX12_goRound 228 = .ok (.invokevirtual 335, 3) := by decide +kernel
theorem dX12_goRound_231 : decode cX12_goRound 231 = .ok (.ifCond .eq 7, 3) := by decide +kernel
theorem dX12_goRound_234 : decode cX12_goRound 234 = .ok (.iconst 1, 1) := by decide +kernel
theorem dX12_goRound_235 : decode cX12_goRound 235 = .ok (.goto 4, 3) := by decide +kernel
theorem dX12_goRound_238 : decode cX12_goRound 238 = .ok (.iconst 0, 1) := by decide +kernel
theorem dX12_goRound_239 : decode cX12_goRound 239 = .ok (.istore_n 1, 1) := by decide +kernel
theorem dX12_goRound_240 : decode cX12_goRound 240 = .ok (.iinc 2 1, 3) := by decide +kernel
theorem dX12_goRound_243 : decode cX12_goRound 243 = .ok (.goto (-31), 3) := by decide +kernel
theorem dX12_goRound_246 : decode cX12_goRound 246 = .ok (.iload_n 1, 1) := by decide +kernel
theorem dX12_goRound_247 : decode cX12_goRound 247 = .ok (.ireturn, 1) := by decide +kernel
theorem dX12_round_0 : decode cX12_round 0 = .ok (.iload_n 1, 1) := by decide +kernel
theorem dX12_round_1 : decode cX12_round 1 = .ok (.iconst 1, 1) := by decide +kernel
theorem dX12_round_2 : decode cX12_round 2 = .ok (.if_icmp .lt 9, 3) := by decide +kernel
theorem dX12_round_5 : decode cX12_round 5 = .ok (.iload_n 1, 1) := by decide +kernel
theorem dX12_round_6 : decode cX12_round 6 = .ok (.bipush 20, 2) := by decide +kernel
theorem dX12_round_8 : decode cX12_round 8 = .ok (.if_icmp .le 5, 3) := by decide +kernel
theorem dX12_round_11 : decode cX12_round 11 = .ok (.iconst (-1), 1) := by decide +kernel
theorem dX12_round_12 : decode cX12_round 12 = .ok (.ireturn, 1) := by decide +kernel
theorem dX12_round_13 : decode cX12_round 13 = .ok (.iconst 0, 1) := by decide +kernel
theorem dX12_round_14 : decode cX12_round 14 = .ok (.istore_n 2, 1) := by decide +kernel
theorem dX12_round_15 : decode cX12_round 15 = .ok (.iload_n 2, 1) := by decide +kernel
theorem dX12_round_16 : decode cX12_round 16 = .ok (.aload_n 0, 1) := by decide +kernel
theorem dX12_round_17 : decode cX12_round 17 = .ok (.getfield 7, 3) := by decide +kernel
theorem dX12_round_20 : decode cX12_round 20 = .ok (.if_icmp .ge 57, 3) := by decide +kernel
theorem dX12_round_23 : decode cX12_round 23 = .ok (.aload_n 0, 1) := by decide +kernel
theorem dX12_round_24 : decode cX12_round 24 = .ok (.getfield 37, 3) := by decide +kernel
theorem dX12_round_27 : decode cX12_round 27 = .ok (.iconst 2, 1) := by decide +kernel
theorem dX12_round_28 : decode cX12_round 28 = .ok (.iload_n 2, 1) := by decide +kernel
theorem dX12_round_29 : decode cX12_round 29 = .ok (.imul, 1) := by decide +kernel
theorem dX12_round_30 : decode cX12_round 30 = .ok (.baload, 1) := by decide +kernel
theorem dX12_round_31 : decode cX12_round 31 = .ok (.ifCond .ne 40, 3) := by decide +kernel
theorem dX12_round_34 : decode cX12_round 34 = .ok (.aload_n 0, 1) := by decide +kernel
theorem dX12_round_35 : decode cX12_round 35 = .ok (.getfield 37, 3) := by decide +kernel
theorem dX12_round_38 : decode cX12_round 38 = .ok (.iconst 2, 1) := by decide +kernel
theorem dX12_round_39 : decode cX12_round 39 = .ok (.iload_n 2, 1) := by decide +kernel
theorem dX12_round_40 : decode cX12_round 40 = .ok (.imul, 1) := by decide +kernel
theorem dX12_round_41 : decode cX12_round 41 = .ok (.iconst 1, 1) := by decide +kernel
theorem dX12_round_42 : decode cX12_round 42 = .ok (.iadd, 1) := by decide +kernel
theorem dX12_round_43 : decode cX12_round 43 = .ok (.baload, 1) := by decide +kernel
theorem dX12_round_44 : decode cX12_round 44 = .ok (.ifCond .ne 27, 3) := by decide +kernel
theorem dX12_round_47 : decode cX12_round 47 = .ok (.aload_n 0, 1) := by decide +kernel
theorem dX12_round_48 : decode cX12_round 48 = .ok (.getfield 34, 3) := by decide +kernel
theorem dX12_round_51 : decode cX12_round 51 = .ok (.iconst 2, 1) := by decide +kernel
theorem dX12_round_52 : decode cX12_round 52 = .ok (.iload_n 2, 1) := by decide +kernel
theorem dX12_round_53 : decode cX12_round 53 = .ok (.imul, 1) := by decide +kernel
theorem dX12_round_54 : decode cX12_round 54 = .ok (.laload, 1) := by decide +kernel
theorem dX12_round_55 : decode cX12_round 55 = .ok (.aload_n 0, 1) := by decide +kernel
theorem dX12_round_56 : decode cX12_round 56 = .ok (.getfield 34, 3) := by decide +kernel
theorem dX12_round_59 : decode cX12_round 59 = .ok (.iconst 2, 1) := by decide +kernel
theorem dX12_round_60 : decode cX12_round 60 = .ok (.iload_n 2, 1) := by decide +kernel
theorem dX12_round_61 : decode cX12_round 61 = .ok (.imul, 1) := by decide +kernel
theorem dX12_round_62 : decode cX12_round 62 = .ok (.iconst 1, 1) := by decide +kernel
theorem dX12_round_63 : decode cX12_round 63 = .ok (.iadd, 1) := by decide +kernel
theorem dX12_round_64 : decode cX12_round 64 = .ok (.laload, 1) := by decide +kernel
theorem dX12_round_65 : decode cX12_round 65 = .ok (.lcmp, 1) := by decide +kernel
theorem dX12_round_66 : decode cX12_round 66 = .ok (.ifCond .le 5, 3) := by decide +kernel
theorem dX12_round_69 : decode cX12_round 69 = .ok (.iconst (-1), 1) := by decide +kernel
theorem dX12_round_70 : decode cX12_round 70 = .ok (.ireturn, 1) := by decide +kernel
theorem dX12_round_71 : decode cX12_round 71 = .ok (.iinc 2 1, 3) := by decide +kernel
theorem dX12_round_74 : decode cX12_round 74 = .ok (.goto (-59), 3) := by decide +kernel
theorem dX12_round_77 : decode cX12_round 77 = .ok (.iconst 0, 1) := by decide +kernel
theorem dX12_round_78 : decode cX12_round 78 = .ok (.istore_n 2, 1) := by decide +kernel
theorem dX12_round_79 : decode cX12_round 79 = .ok (.iload_n 2, 1) := by decide +kernel
theorem dX12_round_80 : decode cX12_round 80 = .ok (.bipush 6, 2) := by decide +kernel
theorem dX12_round_82 : decode cX12_round 82 = .ok (.if_icmp .ge 46, 3) := by decide +kernel
theorem dX12_round_85 : decode cX12_round 85 = .ok (.aload_n 0, 1) := by decide +kernel
theorem dX12_round_86 : decode cX12_round 86 = .ok (.getfield 74, 3) := by decide +kernel
theorem dX12_round_89 : decode cX12_round 89 = .ok (.iload_n 2, 1) := by decide +kernel
theorem dX12_round_90 : decode cX12_round 90 = .ok (.aload_n 0, 1) := by decide +kernel
theorem dX12_round_91 : decode cX12_round 91 = .ok (.getfield 37, 3) := by decide +kernel
theorem dX12_round_94 : decode cX12_round 94 = .ok (.iload_n 2, 1) := by decide +kernel
theorem dX12_round_95 : decode cX12_round 95 = .ok (.baload, 1) := by decide +kernel
theorem dX12_round_96 : decode cX12_round 96 = .ok (.ifCond .eq 7, 3) := by decide +kernel
theorem dX12_round_99 : decode cX12_round 99 = .ok (.lconst 0, 1) := by decide +kernel
theorem dX12_round_100 : decode cX12_round 100 = .ok (.goto 9, 3) := by decide +kernel
theorem dX12_round_103 : decode cX12_round 103 = .ok (.aload_n 0, 1) := by decide +kernel
theorem dX12_round_104 : decode cX12_round 104 = .ok (.getfield 34, 3) := by decide +kernel
theorem dX12_round_107 : decode cX12_round 107 = .ok (.iload_n 2, 1) := by decide +kernel
theorem dX12_round_108 : decode cX12_round 108 = .ok (.laload, 1) := by decide +kernel
theorem dX12_round_109 : decode cX12_round 109 = .ok (.lastore, 1) := by decide +kernel
theorem dX12_round_110 : decode cX12_round 110 = .ok (.aload_n 0, 1) := by decide +kernel
theorem dX12_round_111 : decode cX12_round 111 = .ok (.getfield 77, 3) := by decide +kernel
theorem dX12_round_114 : decode cX12_round 114 = .ok (.iload_n 2, 1) := by decide +kernel
theorem dX12_round_115 : decode cX12_round 115 = .ok (.aload_n 0, 1) := by decide +kernel
theorem dX12_round_116 : decode cX12_round 116 = .ok (.getfield 37, 3) := by decide +kernel
theorem dX12_round_119 : decode cX12_round 119 = .ok (.iload_n 2, 1) := by decide +kernel
theorem dX12_round_120 : decode cX12_round 120 = .ok (.baload, 1) := by decide +kernel
theorem dX12_round_121 : decode cX12_round 121 = .ok (.bastore, 1) := by decide +kernel
theorem dX12_round_122 : decode cX12_round 122 = .ok (.iinc 2 1, 3) := by decide +kernel
theorem dX12_round_125 : decode cX12_round 125 = .ok (.goto (-46), 3) := by decide +kernel
theorem dX12_round_128 : decode cX12_round 128 = .ok (.iconst 1, 1) := by decide +kernel
theorem dX12_round_129 : decode cX12_round 129 = .ok (.istore_n 2, 1) := by decide +kernel
theorem dX12_round_130 : decode cX12_round 130 = .ok (.aload_n 0, 1) := by decide +kernel
theorem dX12_round_131 : decode cX12_round 131 = .ok (.invokevirtual 338, 3) := by decide +kernel
theorem dX12_round_134 : decode cX12_round 134 = .ok (.ifCond .eq 135, 3) := by decide +kernel
theorem dX12_round_137 : decode cX12_round 137 = .ok (.iconst 0, 1) := by decide +kernel
theorem dX12_round_138 : decode cX12_round 138 = .ok (.istore_n 3, 1) := by decide +kernel
theorem dX12_round_139 : decode cX12_round 139 = .ok (.iload_n 3, 1) := by decide +kernel
theorem dX12_round_140 : decode cX12_round 140 = .ok (.iconst 2, 1) := by decide +kernel
theorem dX12_round_141 : decode cX12_round 141 = .ok (.aload_n 0, 1) := by decide +kernel
theorem dX12_round_142 : decode cX12_round 142 = .ok (.getfield 7, 3) := by decide +kernel
theorem dX12_round_145 : decode cX12_round 145 = .ok (.imul, 1) := by decide +kernel
theorem dX12_round_146 : decode cX12_round 146 = .ok (.if_icmp .ge 117, 3) := by decide +kernel
theorem dX12_round_149 : decode cX12_round 149 = .ok (.iload_n 2, 1) := by decide +kernel
theorem dX12_round_150 : decode cX12_round 150 = .ok (.iload_n 1, 1) := by decide +kernel
theorem dX12_round_151 : decode cX12_round 151 = .ok (.if_icmp .lt 15, 3) := by decide +kernel
theorem dX12_round_154 : decode cX12_round 154 = .ok (.aload_n 0, 1) := by decide +kernel
theorem dX12_round_155 : decode cX12_round 155 = .ok (.iload_n 3, 1) := by decide +kernel
theorem dX12_round_156 : decode cX12_round 156 = .ok (.invokevirtual 335, 3) := by decide +kernel
theorem dX12_round_159 : decode cX12_round 159 = .ok (.ifCond .eq 7, 3) := by decide +kernel
theorem dX12_round_162 : decode cX12_round 162 = .ok (.iconst 1, 1) := by decide +kernel
theorem dX12_round_163 : decode cX12_round 163 = .ok (.goto 4, 3) := by decide +kernel
theorem dX12_round_166 : decode cX12_round 166 = .ok (.iconst 0, 1) := by decide +kernel
theorem dX12_round_167 : decode cX12_round 167 = .ok (.istore 4, 2) := by decide +kernel
theorem dX12_round_169 : decode cX12_round 169 = .ok (.aload_n 0, 1) := by decide +kernel
theorem dX12_round_170 : decode cX12_round 170 = .ok (.getfield 77, 3) := by decide +kernel
theorem dX12_round_173 : decode cX12_round 173 = .ok (.iload_n 3, 1) := by decide +kernel
theorem dX12_round_174 : decode cX12_round 174 = .ok (.aload_n 0, 1) := by decide +kernel
theorem dX12_round_175 : decode cX12_round 175 = .ok (.getfield 83, 3) := by decide +kernel
theorem dX12_round_178 : decode cX12_round 178 = .ok (.iload_n 3, 1) := by decide +kernel
theorem dX12_round_179 : decode cX12_round 179 = .ok (.baload, 1) := by decide +kernel
theorem dX12_round_180 : decode cX12_round 180 = .ok (.ifCond .ne 8, 3) := by decide +kernel
theorem dX12_round_183 : decode cX12_round 183 = .ok (.iload 4, 2) := by decide +kernel
theorem dX12_round_185 : decode cX12_round 185 = .ok (.ifCond .eq 7, 3) := by decide +kernel
theorem dX12_round_188 : decode cX12_round 188 = .ok (.iconst 1, 1) := by decide +kernel
theorem dX12_round_189 : decode cX12_round 189 = .ok (.goto 4, 3) := by decide +kernel
theorem dX12_round_192 : decode cX12_round 192 = .ok (.iconst 0, 1) := by decide +kernel
theorem dX12_round_193 : decode cX12_round 193 = .ok (.bastore, 1) := by decide +kernel
theorem dX12_round_194 : decode cX12_round 194 = .ok (.aload_n 0, 1) := by decide +kernel
theorem dX12_round_195 : decode cX12_round 195 = .ok (.getfield 74, 3) := by decide +kernel
theorem dX12_round_198 : decode cX12_round 198 = .ok (.iload_n 3, 1) := by decide +kernel
theorem dX12_round_199 : decode cX12_round 199 = .ok (.aload_n 0, 1) := by decide +kernel
theorem dX12_round_200 : decode cX12_round 200 = .ok (.getfield 77, 3) := by decide +kernel
theorem dX12_round_203 : decode cX12_round 203 = .ok (.iload_n 3, 1) := by decide +kernel
theorem dX12_round_204 : decode cX12_round 204 = .ok (.baload, 1) := by decide +kernel
theorem dX12_round_205 : decode cX12_round 205 = .ok (.ifCond .eq 7, 3) := by decide +kernel
theorem dX12_round_208 : decode cX12_round 208 = .ok (.lconst 0, 1) := by decide +kernel
theorem dX12_round_209 : decode cX12_round 209 = .ok (.goto 9, 3) := by decide +kernel
theorem dX12_round_212 : decode cX12_round 212 = .ok (.aload_n 0, 1) := by decide +kernel
theorem dX12_round_213 : decode cX12_round 213 = .ok (.getfield 80, 3) := by decide +kernel
theorem dX12_round_216 : decode cX12_round 216 = .ok (.iload_n 3, 1) := by decide +kernel
theorem dX12_round_217 : decode cX12_round 217 = .ok (.laload, 1) := by decide +kernel
theorem dX12_round_218 : decode cX12_round 218 = .ok (.lastore, 1) := by decide +kernel
theorem dX12_round_219 : decode cX12_round 219 = .ok (.aload_n 0, 1) := by decide +kernel
theorem dX12_round_220 : decode cX12_round 220 = .ok (.getfield 77, 3) := by decide +kernel
theorem dX12_round_223 : decode cX12_round 223 = .ok (.iload_n 3, 1) := by decide +kernel
theorem dX12_round_224 : decode cX12_round 224 = .ok (.baload, 1) := by decide +kernel
theorem dX12_round_225 : decode cX12_round 225 = .ok (.ifCond .ne 32, 3) := by decide +kernel
theorem dX12_round_228 : decode cX12_round 228 = .ok (.aload_n 0, 1) := by decide +kernel
theorem dX12_round_229 : decode cX12_round 229 = .ok (.getfield 74, 3) := by decide +kernel
theorem dX12_round_232 : decode cX12_round 232 = .ok (.iload_n 3, 1) := by decide +kernel
theorem dX12_round_233 : decode cX12_round 233 = .ok (.laload, 1) := by decide +kernel
theorem dX12_round_234 : decode cX12_round 234 = .ok (.ldc2_w 341, 3) := by decide +kernel
theorem dX12_round_237 : decode cX12_round 237 = .ok (.lcmp, 1) := by decide +kernel
theorem dX12_round_238 : decode cX12_round 238 = .ok (.ifCond .gt 16, 3) := by decide +kernel
theorem dX12_round_241 : decode cX12_round 241 = .ok (.aload_n 0, 1) := by decide +kernel
theorem dX12_round_242 : decode cX12_round 242 = .ok (.getfield 74, 3) := by decide +kernel
theorem dX12_round_245 : decode cX12_round 245 = .ok (.iload_n 3, 1) := by decide +kernel
theorem dX12_round_246 : decode cX12_round 246 = .ok (.laload, 1) := by decide +kernel
theorem dX12_round_247 : decode cX12_round 247 = .ok (.ldc2_w 343, 3) := by decide +kernel
theorem dX12_round_250 : decode cX12_round 250 = .ok (.lcmp, 1) := by decide +kernel
theorem dX12_round_251 : decode cX12_round 251 = .ok (.ifCond .ge 6, 3) := by decide +kernel
theorem dX12_round_254 : decode cX12_round 254 = .ok (.bipush (-4), 2) := by decide +kernel
theorem dX12_round_256 : decode cX12_round 256 = .ok (.ireturn, 1) := by decide +kernel
theorem dX12_round_257 : decode cX12_round 257 = .ok (.iinc 3 1, 3) := by decide +kernel
theorem dX12_round_260 : decode cX12_round 260 = .ok (.goto (-121), 3) := by decide +kernel
theorem dX12_round_263 : decode cX12_round 263 = .ok (.iinc 2 1, 3) := by decide +kernel
theorem dX12_round_266 : decode cX12_round 266 = .ok (.goto (-136), 3) := by decide +kernel
theorem dX12_round_269 : decode cX12_round 269 = .ok (.aload_n 0, 1) := by decide +kernel
theorem dX12_round_270 : decode cX12_round 270 = .ok (.iconst 0, 1) := by decide +kernel
theorem dX12_round_271 : decode cX12_round 271 = .ok (.putfield 131, 3) := by decide +kernel
theorem dX12_round_274 : decode cX12_round 274 = .ok (.iconst 0, 1) := by decide +kernel
theorem dX12_round_275 : decode cX12_round 275 = .ok (.istore_n 3, 1) := by decide +kernel
theorem dX12_round_276 : decode cX12_round 276 = .ok (.iload_n 3, 1) := by decide +kernel
theorem dX12_round_277 : decode cX12_round 277 = .ok (.bipush 6, 2) := by decide +kernel
theorem dX12_round_279 : decode cX12_round 279 = .ok (.if_icmp .ge 51, 3) := by decide +kernel
theorem dX12_round_282 : decode cX12_round 282 = .ok (.aload_n 0, 1) := by decide +kernel
theorem dX12_round_283 : decode cX12_round 283 = .ok (.getfield 27, 3) := by decide +kernel
theorem dX12_round_286 : decode cX12_round 286 = .ok (.iload_n 3, 1) := by decide +kernel
theorem dX12_round_287 : decode cX12_round 287 = .ok (.aload_n 0, 1) := by decide +kernel
theorem dX12_round_288 : decode cX12_round 288 = .ok (.getfield 74, 3) := by decide +kernel
theorem dX12_round_291 : decode cX12_round 291 = .ok (.iload_n 3, 1) := by decide +kernel
theorem dX12_round_292 : decode cX12_round 292 = .ok (.laload, 1) := by decide +kernel
theorem dX12_round_293 : decode cX12_round 293 = .ok (.lastore, 1) := by decide +kernel
theorem dX12_round_294 : decode cX12_round 294 = .ok (.aload_n 0, 1) := by decide +kernel
theorem dX12_round_295 : decode cX12_round 295 = .ok (.getfield 30, 3) := by decide +kernel
theorem dX12_round_298 : decode cX12_round 298 = .ok (.iload_n 3, 1) := by decide +kernel
theorem dX12_round_299 : decode cX12_round 299 = .ok (.iload_n 3, 1) := by decide +kernel
theorem dX12_round_300 : decode cX12_round 300 = .ok (.iconst 2, 1) := by decide +kernel
theorem dX12_round_301 : decode cX12_round 301 = .ok (.aload_n 0, 1) := by decide +kernel
theorem dX12_round_302 : decode cX12_round 302 = .ok (.getfield 7, 3) := by decide +kernel
theorem dX12_round_305 : decode cX12_round 305 = .ok (.imul, 1) := by decide +kernel
theorem dX12_round_306 : decode cX12_round 306 = .ok (.if_icmp .ge 12, 3) := by decide +kernel
theorem dX12_round_309 : decode cX12_round 309 = .ok (.aload_n 0, 1) := by decide +kernel
theorem dX12_round_310 : decode cX12_round 310 = .ok (.getfield 77, 3) := by decide +kernel
theorem dX12_round_313 : decode cX12_round 313 = .ok (.iload_n 3, 1) := by decide +kernel
theorem dX12_round_314 : decode cX12_round 314 = .ok (.baload, 1) := by decide +kernel
theorem dX12_round_315 : decode cX12_round 315 = .ok (.ifCond .eq 7, 3) := by decide +kernel
theorem dX12_round_318 : decode cX12_round 318 = .ok (.iconst 1, 1) := by decide +kernel
theorem dX12_round_319 : decode cX12_round 319 = .ok (.goto 4, 3) := by decide +kernel
theorem dX12_round_322 : decode cX12_round 322 = .ok (.iconst 0, 1) := by decide +kernel
theorem dX12_round_323 : decode cX12_round 323 = .ok (.bastore, 1) := by decide +kernel
theorem dX12_round_324 : decode cX12_round 324 = .ok (.iinc 3 1, 3) := by decide +kernel
theorem dX12_round_327 : decode cX12_round 327 = .ok (.goto (-51), 3) := by decide +kernel
theorem dX12_round_330 : decode cX12_round 330 = .ok (.iload_n 2, 1) := by decide +kernel
theorem dX12_round_331 : decode cX12_round 331 = .ok (.ireturn, 1) := by decide +kernel
theorem dX12_box_0 : decode cX12_box 0 = .ok (.iload_n 1, 1) := by decide +kernel
theorem dX12_box_1 : decode cX12_box 1 = .ok (.ifCond .lt 33, 3) := by decide +kernel
theorem dX12_box_4 : decode cX12_box 4 = .ok (.iload_n 1, 1) := by decide +kernel
theorem dX12_box_5 : decode cX12_box 5 = .ok (.aload_n 0, 1) := by decide +kernel
theorem dX12_box_6 : decode cX12_box 6 = .ok (.getfield 7, 3) := by decide +kernel
theorem dX12_box_9 : decode cX12_box 9 = .ok (.if_icmp .ge 25, 3) := by decide +kernel
theorem dX12_box_12 : decode cX12_box 12 = .ok (.iload_n 2, 1) := by decide +kernel
theorem dX12_box_13 : decode cX12_box 13 = .ok (.ifCond .lt 21, 3) := by decide +kernel
theorem dX12_box_16 : decode cX12_box 16 = .ok (.iload_n 2, 1) := by decide +kernel
theorem dX12_box_17 : decode cX12_box 17 = .ok (.iconst 1, 1) := by decide +kernel
theorem dX12_box_18 : decode cX12_box 18 = .ok (.if_icmp .gt 16, 3) := by decide +kernel
theorem dX12_box_21 : decode cX12_box 21 = .ok (.aload_n 0, 1) := by decide +kernel
theorem dX12_box_22 : decode cX12_box 22 = .ok (.getfield 30, 3) := by decide +kernel
theorem dX12_box_25 : decode cX12_box 25 = .ok (.iconst 2, 1) := by decide +kernel
theorem dX12_box_26 : decode cX12_box 26 = .ok (.iload_n 1, 1) := by decide +kernel
theorem dX12_box_27 : decode cX12_box 27 = .ok (.imul, 1) := by decide +kernel
theorem dX12_box_28 : decode cX12_box 28 = .ok (.iload_n 2, 1) := by decide +kernel
theorem dX12_box_29 : decode cX12_box 29 = .ok (.iadd, 1) := by decide +kernel
theorem dX12_box_30 : decode cX12_box 30 = .ok (.baload, 1) := by decide +kernel
theorem dX12_box_31 : decode cX12_box 31 = .ok (.ifCond .eq 9, 3) := by decide +kernel
theorem dX12_box_34 : decode cX12_box 34 = .ok (.ldc2_w 345, 3) := by decide +kernel
theorem dX12_box_37 : decode cX12_box 37 = .ok (.goto 13, 3) := by decide +kernel
theorem dX12_box_40 : decode cX12_box 40 = .ok (.aload_n 0, 1) := by decide +kernel
theorem dX12_box_41 : decode cX12_box 41 = .ok (.getfield 27, 3) := by decide +kernel
theorem dX12_box_44 : decode cX12_box 44 = .ok (.iconst 2, 1) := by decide +kernel
theorem dX12_box_45 : decode cX12_box 45 = .ok (.iload_n 1, 1) := by decide +kernel
theorem dX12_box_46 : decode cX12_box 46 = .ok (.imul, 1) := by decide +kernel
theorem dX12_box_47 : decode cX12_box 47 = .ok (.iload_n 2, 1) := by decide +kernel
theorem dX12_box_48 : decode cX12_box 48 = .ok (.iadd, 1) := by decide +kernel
theorem dX12_box_49 : decode cX12_box 49 = .ok (.laload, 1) := by decide +kernel
theorem dX12_box_50 : decode cX12_box 50 = .ok (.lreturn, 1) := by decide +kernel
theorem dX12_open_0 : decode cX12_open 0 = .ok (.aload_n 0, 1) := by decide +kernel
theorem dX12_open_1 : decode cX12_open 1 = .ok (.invokevirtual 128, 3) := by decide +kernel
theorem dX12_open_4 : decode cX12_open 4 = .ok (.iconst 0, 1) := by decide +kernel
theorem dX12_open_5 : decode cX12_open 5 = .ok (.ireturn, 1) := by decide +kernel
theorem dX12_call_0 : decode cX12_call 0 = .ok (.iload_n 1, 1) := by decide +kernel
theorem dX12_call_1 : decode cX12_call 1 = .ok (.ifCond .lt 30, 3) := by decide +kernel
theorem dX12_call_4 : decode cX12_call 4 = .ok (.iload_n 1, 1) := by decide +kernel
theorem dX12_call_5 : decode cX12_call 5 = .ok (.bipush 7, 2) := by decide +kernel
theorem dX12_call_7 : decode cX12_call 7 = .ok (.if_icmp .gt 24, 3) := by decide +kernel
theorem dX12_call_10 : decode cX12_call 10 = .ok (.iload_n 2, 1) := by decide +kernel
theorem dX12_call_11 : decode cX12_call 11 = .ok (.ifCond .lt 20, 3) := by decide +kernel
theorem dX12_call_14 : decode cX12_call 14 = .ok (.iload_n 2, 1) := by decide +kernel
theorem dX12_call_15 : decode cX12_call 15 = .ok (.bipush 7, 2) := by decide +kernel
theorem dX12_call_17 : decode cX12_call 17 = .ok (.if_icmp .gt 14, 3) := by decide +kernel
theorem dX12_call_20 : decode cX12_call 20 = .ok (.iload_n 3, 1) := by decide +kernel
theorem dX12_call_21 : decode cX12_call 21 = .ok (.ifCond .lt 10, 3) := by decide +kernel
theorem dX12_call_24 : decode cX12_call 24 = .ok (.iload_n 3, 1) := by decide +kernel
theorem dX12_call_25 : decode cX12_call 25 = .ok (.ldc_w 347, 3) := by decide +kernel
theorem dX12_call_28 : decode cX12_call 28 = .ok (.if_icmp .lt 5, 3) := by decide +kernel
theorem dX12_call_31 : decode cX12_call 31 = .ok (.iconst (-1), 1) := by decide +kernel
theorem dX12_call_32 : decode cX12_call 32 = .ok (.ireturn, 1) := by decide +kernel
theorem dX12_call_33 : decode cX12_call 33 = .ok (.aload_n 0, 1) := by decide +kernel
theorem dX12_call_34 : decode cX12_call 34 = .ok (.getfield 348, 3) := by decide +kernel
theorem dX12_call_37 : decode cX12_call 37 = .ok (.bipush 40, 2) := by decide +kernel
theorem dX12_call_39 : decode cX12_call 39 = .ok (.if_icmp .ne 6, 3) := by decide +kernel
theorem dX12_call_42 : decode cX12_call 42 = .ok (.bipush (-2), 2) := by decide +kernel
theorem dX12_call_44 : decode cX12_call 44 = .ok (.ireturn, 1) := by decide +kernel
theorem dX12_call_45 : decode cX12_call 45 = .ok (.aload_n 0, 1) := by decide +kernel
theorem dX12_call_46 : decode cX12_call 46 = .ok (.getfield 86, 3) := by decide +kernel
theorem dX12_call_49 : decode cX12_call 49 = .ok (.aload_n 0, 1) := by decide +kernel
theorem dX12_call_50 : decode cX12_call 50 = .ok (.getfield 348, 3) := by decide +kernel
theorem dX12_call_53 : decode cX12_call 53 = .ok (.iload_n 1, 1) := by decide +kernel
theorem dX12_call_54 : decode cX12_call 54 = .ok (.iastore, 1) := by decide +kernel
theorem dX12_call_55 : decode cX12_call 55 = .ok (.aload_n 0, 1) := by decide +kernel
theorem dX12_call_56 : decode cX12_call 56 = .ok (.getfield 89, 3) := by decide +kernel
theorem dX12_call_59 : decode cX12_call 59 = .ok (.aload_n 0, 1) := by decide +kernel
theorem dX12_call_60 : decode cX12_call 60 = .ok (.getfield 348, 3) := by decide +kernel
theorem dX12_call_63 : decode cX12_call 63 = .ok (.iload_n 2, 1) := by decide +kernel
theorem dX12_call_64 : decode cX12_call 64 = .ok (.iastore, 1) := by decide +kernel
theorem dX12_call_65 : decode cX12_call 65 = .ok (.aload_n 0, 1) := by decide +kernel
theorem dX12_call_66 : decode cX12_call 66 = .ok (.getfield 92, 3) := by decide +kernel
theorem dX12_call_69 : decode cX12_call 69 = .ok (.aload_n 0, 1) := by decide +kernel
theorem dX12_call_70 : decode cX12_call 70 = .ok (.getfield 348, 3) := by decide +kernel
theorem dX12_call_73 : decode cX12_call 73 = .ok (.iload_n 3, 1) := by decide +kernel
theorem dX12_call_74 : decode cX12_call 74 = .ok (.iastore, 1) := by decide +kernel
theorem dX12_call_75 : decode cX12_call 75 = .ok (.aload_n 0, 1) := by decide +kernel
theorem dX12_call_76 : decode cX12_call 76 = .ok (.dup, 1) := by decide +kernel
theorem dX12_call_77 : decode cX12_call 77 = .ok (.getfield 348, 3) := by decide +kernel
theorem dX12_call_80 : decode cX12_call 80 = .ok (.iconst 1, 1) := by decide +kernel
theorem dX12_call_81 : decode cX12_call 81 = .ok (.iadd, 1) := by decide +kernel
theorem dX12_call_82 : decode cX12_call 82 = .ok (.putfield 348, 3) := by decide +kernel
theorem dX12_call_85 : decode cX12_call 85 = .ok (.aload_n 0, 1) := by decide +kernel
theorem dX12_call_86 : decode cX12_call 86 = .ok (.getfield 348, 3) := by decide +kernel
theorem dX12_call_89 : decode cX12_call 89 = .ok (.iconst 1, 1) := by decide +kernel
theorem dX12_call_90 : decode cX12_call 90 = .ok (.isub, 1) := by decide +kernel
theorem dX12_call_91 : decode cX12_call 91 = .ok (.ireturn, 1) := by decide +kernel
theorem dX12_clear_0 : decode cX12_clear 0 = .ok (.aload_n 0, 1) := by decide +kernel
theorem dX12_clear_1 : decode cX12_clear 1 = .ok (.getfield 348, 3) := by decide +kernel
theorem dX12_clear_4 : decode cX12_clear 4 = .ok (.istore_n 1, 1) := by decide +kernel
theorem dX12_clear_5 : decode cX12_clear 5 = .ok (.aload_n 0, 1) := by decide +kernel
theorem dX12_clear_6 : decode cX12_clear 6 = .ok (.iconst 0, 1) := by decide +kernel
theorem dX12_clear_7 : decode cX12_clear 7 = .ok (.putfield 348, 3) := by decide +kernel
theorem dX12_clear_10 : decode cX12_clear 10 = .ok (.iload_n 1, 1) := by decide +kernel
theorem dX12_clear_11 : decode cX12_clear 11 = .ok (.ireturn, 1) := by decide +kernel
theorem dX12_spread_0 : decode cX12_spread 0 = .ok (.iload_n 0, 1) := by decide +kernel
theorem dX12_spread_1 : decode cX12_spread 1 = .ok (.istore_n 2, 1) := by decide +kernel
theorem dX12_spread_2 : decode cX12_spread 2 = .ok (.bipush 15, 2) := by decide +kernel
theorem dX12_spread_4 : decode cX12_spread 4 = .ok (.istore_n 3, 1) := by decide +kernel
theorem dX12_spread_5 : decode cX12_spread 5 = .ok (.iload_n 3, 1) := by decide +kernel
theorem dX12_spread_6 : decode cX12_spread 6 = .ok (.ifCond .lt 19, 3) := by decide +kernel
theorem dX12_spread_9 : decode cX12_spread 9 = .ok (.aload_n 1, 1) := by decide +kernel
theorem dX12_spread_10 : decode cX12_spread 10 = .ok (.iload_n 3, 1) := by decide +kernel
theorem dX12_spread_11 : decode cX12_spread 11 = .ok (.iload_n 2, 1) := by decide +kernel
theorem dX12_spread_12 : decode cX12_spread 12 = .ok (.iconst 3, 1) := by decide +kernel
theorem dX12_spread_13 : decode cX12_spread 13 = .ok (.irem, 1) := by decide +kernel
theorem dX12_spread_14 : decode cX12_spread 14 = .ok (.iastore, 1) := by decide +kernel
theorem dX12_spread_15 : decode cX12_spread 15 = .ok (.iload_n 2, 1) := by decide +kernel
theorem dX12_spread_16 : decode cX12_spread 16 = .ok (.iconst 3, 1) := by decide +kernel
theorem dX12_spread_17 : decode cX12_spread 17 = .ok (.idiv, 1) := by decide +kernel
theorem dX12_spread_18 : decode cX12_spread 18 = .ok (.istore_n 2, 1) := by decide +kernel
theorem dX12_spread_19 : decode cX12_spread 19 = .ok (.iinc 3 (-1), 3) := by decide +kernel
theorem dX12_spread_22 : decode cX12_spread 22 = .ok (.goto (-17), 3) := by decide +kernel
theorem dX12_spread_25 : decode cX12_spread 25 = .ok (.return_, 1) := by decide +kernel
theorem dX12_together_0 : decode cX12_together 0 = .ok (.iload_n 1, 1) := by decide +kernel
theorem dX12_together_1 : decode cX12_together 1 = .ok (.aload_n 0, 1) := by decide +kernel
theorem dX12_together_2 : decode cX12_together 2 = .ok (.getfield 116, 3) := by decide +kernel
theorem dX12_together_5 : decode cX12_together 5 = .ok (.invokestatic 351, 3) := by decide +kernel
theorem dX12_together_8 : decode cX12_together 8 = .ok (.iload_n 2, 1) := by decide +kernel
theorem dX12_together_9 : decode cX12_together 9 = .ok (.aload_n 0, 1) := by decide +kernel
theorem dX12_together_10 : decode cX12_together 10 = .ok (.getfield 119, 3) := by decide +kernel
theorem dX12_together_13 : decode cX12_together 13 = .ok (.invokestatic 351, 3) := by decide +kernel
theorem dX12_together_16 : decode cX12_together 16 = .ok (.iconst 0, 1) := by decide +kernel
theorem dX12_together_17 : decode cX12_together 17 = .ok (.istore_n 3, 1) := by decide +kernel
theorem dX12_together_18 : decode cX12_together 18 = .ok (.iconst 0, 1) := by decide +kernel
theorem dX12_together_19 : decode cX12_together 19 = .ok (.istore 4, 2) := by decide +kernel
theorem dX12_together_21 : decode cX12_together 21 = .ok (.iload 4, 2) := by decide +kernel
theorem dX12_together_23 : decode cX12_together 23 = .ok (.iconst 4, 1) := by decide +kernel
theorem dX12_together_24 : decode cX12_together 24 = .ok (.if_icmp .ge 126, 3) := by decide +kernel
theorem dX12_together_27 : decode cX12_together 27 = .ok (.iconst 0, 1) := by decide +kernel
theorem dX12_together_28 : decode cX12_together 28 = .ok (.istore 5, 2) := by decide +kernel
theorem dX12_together_30 : decode cX12_together 30 = .ok (.iload 5, 2) := by decide +kernel
theorem dX12_together_32 : decode cX12_together 32 = .ok (.iconst 4, 1) := by decide +kernel
theorem dX12_together_33 : decode cX12_together 33 = .ok (.if_icmp .ge 111, 3) := by decide +kernel
theorem dX12_together_36 : decode cX12_together 36 = .ok (.iconst 0, 1) := by decide +kernel
theorem dX12_together_37 : decode cX12_together 37 = .ok (.istore 6, 2) := by decide +kernel
theorem dX12_together_39 : decode cX12_together 39 = .ok (.iconst 0, 1) := by decide +kernel
theorem dX12_together_40 : decode cX12_together 40 = .ok (.istore 7, 2) := by decide +kernel
theorem dX12_together_42 : decode cX12_together 42 = .ok (.iload 7, 2) := by decide +kernel
theorem dX12_together_44 : decode cX12_together 44 = .ok (.iconst 4, 1) := by decide +kernel
theorem dX12_together_45 : decode cX12_together 45 = .ok (.if_icmp .ge 86, 3) := by decide +kernel
theorem dX12_together_48 : decode cX12_together 48 = .ok (.aload_n 0, 1) := by decide +kernel
theorem dX12_together_49 : decode cX12_together 49 = .ok (.getfield 116, 3) := by decide +kernel
theorem dX12_together_52 : decode cX12_together 52 = .ok (.iconst 4, 1) := by decide +kernel
theorem dX12_together_53 : decode cX12_together 53 = .ok (.iload 4, 2) := by decide +kernel
theorem dX12_together_55 : decode cX12_together 55 = .ok (.imul, 1) := by decide +kernel
theorem dX12_together_56 : decode cX12_together 56 = .ok (.iload 7, 2) := by decide +kernel
theorem dX12_together_58 : decode cX12_together 58 = .ok (.iadd, 1) := by decide +kernel
theorem dX12_together_59 : decode cX12_together 59 = .ok (.iaload, 1) := by decide +kernel
theorem dX12_together_60 : decode cX12_together 60 = .ok (.istore 8, 2) := by decide +kernel
theorem dX12_together_62 : decode cX12_together 62 = .ok (.aload_n 0, 1) := by decide +kernel
theorem dX12_together_63 : decode cX12_together 63 = .ok (.getfield 119, 3) := by decide +kernel
theorem dX12_together_66 : decode cX12_together 66 = .ok (.iconst 4, 1) := by decide +kernel
theorem dX12_together_67 : decode cX12_together 67 = .ok (.iload 7, 2) := by decide +kernel
theorem dX12_together_69 : decode cX12_together 69 = .ok (.imul, 1) := by decide +kernel
theorem dX12_together_70 : decode cX12_together 70 = .ok (.iload 5, 2) := by decide +kernel
theorem dX12_together_72 : decode cX12_together 72 = .ok (.iadd, 1) := by decide +kernel
theorem dX12_together_73 : decode cX12_together 73 = .ok (.iaload, 1) := by decide +kernel
theorem dX12_together_74 : decode cX12_together 74 = .ok (.istore 9, 2) := by decide +kernel
theorem dX12_together_76 : decode cX12_together 76 = .ok (.iload 8, 2) := by decide +kernel
theorem dX12_together_78 : decode cX12_together 78 = .ok (.ifCond .eq 8, 3) := by decide +kernel
theorem dX12_together_81 : decode cX12_together 81 = .ok (.iload 9, 2) := by decide +kernel
theorem dX12_together_83 : decode cX12_together 83 = .ok (.ifCond .ne 7, 3) := by decide +kernel
theorem dX12_together_86 : decode cX12_together 86 = .ok (.iconst 0, 1) := by decide +kernel
theorem dX12_together_87 : decode cX12_together 87 = .ok (.goto 20, 3) := by decide +kernel
theorem dX12_together_90 : decode cX12_together 90 = .ok (.iload 8, 2) := by decide +kernel
theorem dX12_together_92 : decode cX12_together 92 = .ok (.iconst 2, 1) := by decide +kernel
theorem dX12_together_93 : decode cX12_together 93 = .ok (.if_icmp .eq 9, 3) := by decide +kernel
theorem dX12_together_96 : decode cX12_together 96 = .ok (.iload 9, 2) := by decide +kernel
theorem dX12_together_98 : decode cX12_together 98 = .ok (.iconst 2, 1) := by decide +kernel
theorem dX12_together_99 : decode cX12_together 99 = .ok (.if_icmp .ne 7, 3) := by decide +kernel
theorem dX12_together_102 : decode cX12_together 102 = .ok (.iconst 2, 1) := by decide +kernel
theorem dX12_together_103 : decode cX12_together 103 = .ok (.goto 4, 3) := by decide +kernel
theorem dX12_together_106 : decode cX12_together 106 = .ok (.iconst 1, 1) := by decide +kernel
theorem dX12_together_107 : decode cX12_together 107 = .ok (.istore 10, 2) := by decide +kernel
theorem dX12_together_109 : decode cX12_together 109 = .ok (.iload 10, 2) := by decide +kernel
theorem dX12_together_111 : decode cX12_together 111 = .ok (.iload 6, 2) := by decide +kernel
theorem dX12_together_113 : decode cX12_together 113 = .ok (.if_icmp .le 8, 3) := by decide +kernel
theorem dX12_together_116 : decode cX12_together 116 = .ok (.iload 10, 2) := by decide +kernel
theorem dX12_together_118 : decode cX12_together 118 = .ok (.goto 5, 3) := by decide +kernel
theorem dX12_together_121 : decode cX12_together 121 = .ok (.iload 6, 2) := by decide +kernel
theorem dX12_together_123 : decode cX12_together 123 = .ok (.istore 6, 2) := by decide +kernel
theorem dX12_together_125 : decode cX12_together 125 = .ok (.iinc 7 1, 3) := by decide +kernel
theorem dX12_together_128 : decode cX12_together 128 = .ok (.goto (-86), 3) := by decide +kernel
theorem dX12_together_131 : decode cX12_together 131 = .ok (.iconst 3, 1) := by decide +kernel
theorem dX12_together_132 : decode cX12_together 132 = .ok (.iload_n 3, 1) := by decide +kernel
theorem dX12_together_133 : decode cX12_together 133 = .ok (.imul, 1) := by decide +kernel
theorem dX12_together_134 : decode cX12_together 134 = .ok (.iload 6, 2) := by decide +kernel
theorem dX12_together_136 : decode cX12_together 136 = .ok (.iadd, 1) := by decide +kernel
theorem dX12_together_137 : decode cX12_together 137 = .ok (.istore_n 3, 1) := by decide +kernel
theorem dX12_together_138 : decode cX12_together 138 = .ok (.iinc 5 1, 3) := by decide +kernel
theorem dX12_together_141 : decode cX12_together 141 = .ok (.goto (-111), 3) := by decide +kernel
theorem dX12_together_144 : decode cX12_together 144 = .ok (.iinc 4 1, 3) := by decide +kernel
theorem dX12_together_147 : decode cX12_together 147 = .ok (.goto (-126), 3) := by decide +kernel
theorem dX12_together_150 : decode cX12_together 150 = .ok (.iload_n 3, 1) := by decide +kernel
theorem dX12_together_151 : decode cX12_together 151 = .ok (.ireturn, 1) := by decide +kernel
theorem dX12_make_0 : decode cX12_make 0 = .ok (.iconst 0, 1) := by decide +kernel
theorem dX12_make_1 : decode cX12_make 1 = .ok (.istore 4, 2) := by decide +kernel
theorem dX12_make_3 : decode cX12_make 3 = .ok (.iload 4, 2) := by decide +kernel
theorem dX12_make_5 : decode cX12_make 5 = .ok (.aload_n 0, 1) := by decide +kernel
theorem dX12_make_6 : decode cX12_make 6 = .ok (.getfield 104, 3) := by decide +kernel
theorem dX12_make_9 : decode cX12_make 9 = .ok (.if_icmp .ge 44, 3) := by decide +kernel
theorem dX12_make_12 : decode cX12_make 12 = .ok (.aload_n 0, 1) := by decide +kernel
theorem dX12_make_13 : decode cX12_make 13 = .ok (.getfield 95, 3) := by decide +kernel
theorem dX12_make_16 : decode cX12_make 16 = .ok (.iload 4, 2) := by decide +kernel
theorem dX12_make_18 : decode cX12_make 18 = .ok (.iaload, 1) := by decide +kernel
theorem dX12_make_19 : decode cX12_make 19 = .ok (.iload_n 1, 1) := by decide +kernel
theorem dX12_make_20 : decode cX12_make 20 = .ok (.if_icmp .ne 27, 3) := by decide +kernel
theorem dX12_make_23 : decode cX12_make 23 = .ok (.aload_n 0, 1) := by decide +kernel
theorem dX12_make_24 : decode cX12_make 24 = .ok (.getfield 98, 3) := by decide +kernel
theorem dX12_make_27 : decode cX12_make 27 = .ok (.iload 4, 2) := by decide +kernel
theorem dX12_make_29 : decode cX12_make 29 = .ok (.iaload, 1) := by decide +kernel
theorem dX12_make_30 : decode cX12_make 30 = .ok (.iload_n 2, 1) := by decide +kernel
theorem dX12_make_31 : decode cX12_make 31 = .ok (.if_icmp .ne 16, 3) := by decide +kernel
theorem dX12_make_34 : decode cX12_make 34 = .ok (.aload_n 0, 1) := by decide +kernel
theorem dX12_make_35 : decode cX12_make 35 = .ok (.getfield 101, 3) := by decide +kernel
theorem dX12_make_38 : decode cX12_make 38 = .ok (.iload 4, 2) := by decide +kernel
theorem dX12_make_40 : decode cX12_make 40 = .ok (.iaload, 1) := by decide +kernel
theorem dX12_make_41 : decode cX12_make 41 = .ok (.iload_n 3, 1) := by decide +kernel
theorem dX12_make_42 : decode cX12_make 42 = .ok (.if_icmp .ne 5, 3) := by decide +kernel
theorem dX12_make_45 : decode cX12_make 45 = .ok (.iconst 1, 1) := by decide +kernel
theorem dX12_make_46 : decode cX12_make 46 = .ok (.ireturn, 1) := by decide +kernel
theorem dX12_make_47 : decode cX12_make 47 = .ok (.iinc 4 1, 3) := by decide +kernel
theorem dX12_make_50 : decode cX12_make 50 = .ok (.goto (-47), 3) := by decide +kernel
theorem dX12_make_53 : decode cX12_make 53 = .ok (.aload_n 0, 1) := by decide +kernel
theorem dX12_make_54 : decode cX12_make 54 = .ok (.getfield 104, 3) := by decide +kernel
theorem dX12_make_57 : decode cX12_make 57 = .ok (.sipush 1000, 3) := by decide +kernel
theorem dX12_make_60 : decode cX12_make 60 = .ok (.if_icmp .ne 5, 3) := by decide +kernel
theorem dX12_make_63 : decode cX12_make 63 = .ok (.iconst 0, 1) := by decide +kernel
theorem dX12_make_64 : decode cX12_make 64 = .ok (.ireturn, 1) := by decide +kernel
theorem dX12_make_65 : decode cX12_make 65 = .ok (.aload_n 0, 1) := by decide +kernel
theorem dX12_make_66 : decode cX12_make 66 = .ok (.getfield 95, 3) := by decide +kernel
theorem dX12_make_69 : decode cX12_make 69 = .ok (.aload_n 0, 1) := by decide +kernel
theorem dX12_make_70 : decode cX12_make 70 = .ok (.getfield 104, 3) := by decide +kernel
theorem dX12_make_73 : decode cX12_make 73 = .ok (.iload_n 1, 1) := by decide +kernel
theorem dX12_make_74 : decode cX12_make 74 = .ok (.iastore, 1) := by decide +kernel
theorem dX12_make_75 : decode cX12_make 75 = .ok (.aload_n 0, 1) := by decide +kernel
theorem dX12_make_76 : decode cX12_make 76 = .ok (.getfield 98, 3) := by decide +kernel
theorem dX12_make_79 : decode cX12_make 79 = .ok (.aload_n 0, 1) := by decide +kernel
theorem dX12_make_80 : decode cX12_make 80 = .ok (.getfield 104, 3) := by decide +kernel
theorem dX12_make_83 : decode cX12_make 83 = .ok (.iload_n 2, 1) := by decide +kernel
theorem dX12_make_84 : decode cX12_make 84 = .ok (.iastore, 1) := by decide +kernel
theorem dX12_make_85 : decode cX12_make 85 = .ok (.aload_n 0, 1) := by decide +kernel
theorem dX12_make_86 : decode cX12_make 86 = .ok (.getfield 101, 3) := by decide +kernel
theorem dX12_make_89 : decode cX12_make 89 = .ok (.aload_n 0, 1) := by decide +kernel
theorem dX12_make_90 : decode cX12_make 90 = .ok (.getfield 104, 3) := by decide +kernel
theorem dX12_make_93 : decode cX12_make 93 = .ok (.iload_n 3, 1) := by decide +kernel
theorem dX12_make_94 : decode cX12_make 94 = .ok (.iastore, 1) := by decide +kernel
theorem dX12_make_95 : decode cX12_make 95 = .ok (.aload_n 0, 1) := by decide +kernel
theorem dX12_make_96 : decode cX12_make 96 = .ok (.dup, 1) := by decide +kernel
theorem dX12_make_97 : decode cX12_make 97 = .ok (.getfield 104, 3) := by decide +kernel
theorem dX12_make_100 : decode cX12_make 100 = .ok (.iconst 1, 1) := by decide +kernel
theorem dX12_make_101 : decode cX12_make 101 = .ok (.iadd, 1) := by decide +kernel
theorem dX12_make_102 : decode cX12_make 102 = .ok (.putfield 104, 3) := by decide +kernel
theorem dX12_make_105 : decode cX12_make 105 = .ok (.iconst 1, 1) := by decide +kernel
theorem dX12_make_106 : decode cX12_make 106 = .ok (.ireturn, 1) := by decide +kernel
theorem dX12_makeAll_0 : decode cX12_makeAll 0 = .ok (.aload_n 0, 1) := by decide +kernel
theorem dX12_makeAll_1 : decode cX12_makeAll 1 = .ok (.iconst 0, 1) := by decide +kernel
theorem dX12_makeAll_2 : decode cX12_makeAll 2 = .ok (.putfield 104, 3) := by decide +kernel
theorem dX12_makeAll_5 : decode cX12_makeAll 5 = .ok (.iconst 1, 1) := by decide +kernel
theorem dX12_makeAll_6 : decode cX12_makeAll 6 = .ok (.istore_n 1, 1) := by decide +kernel
theorem dX12_makeAll_7 : decode cX12_makeAll 7 = .ok (.iconst 0, 1) := by decide +kernel
theorem dX12_makeAll_8 : decode cX12_makeAll 8 = .ok (.istore_n 2, 1) := by decide +kernel
theorem dX12_makeAll_9 : decode cX12_makeAll 9 = .ok (.iload_n 2, 1) := by decide +kernel
theorem dX12_makeAll_10 : decode cX12_makeAll 10 = .ok (.aload_n 0, 1) := by decide +kernel
theorem dX12_makeAll_11 : decode cX12_makeAll 11 = .ok (.getfield 348, 3) := by decide +kernel
theorem dX12_makeAll_14 : decode cX12_makeAll 14 = .ok (.if_icmp .ge 36, 3) := by decide +kernel
theorem dX12_makeAll_17 : decode cX12_makeAll 17 = .ok (.iload_n 1, 1) := by decide +kernel
theorem dX12_makeAll_18 : decode cX12_makeAll 18 = .ok (.ifCond .eq 32, 3) := by decide +kernel
theorem dX12_makeAll_21 : decode cX12_makeAll 21 = .ok (.aload_n 0, 1) := by decide +kernel
theorem dX12_makeAll_22 : decode cX12_makeAll 22 = .ok (.aload_n 0, 1) := by decide +kernel
theorem dX12_makeAll_23 : decode cX12_makeAll 23 = .ok (.getfield 86, 3) := by decide +kernel
theorem dX12_makeAll_26 : decode cX12_makeAll 26 = .ok (.iload_n 2, 1) := by decide +kernel
theorem dX12_makeAll_27 : decode cX12_makeAll 27 = .ok (.iaload, 1) := by decide +kernel
theorem dX12_makeAll_28 : decode cX12_makeAll 28 = .ok (.aload_n 0, 1) := by decide +kernel
theorem dX12_makeAll_29 : decode cX12_makeAll 29 = .ok (.getfield 89, 3) := by decide +kernel
theorem dX12_makeAll_32 : decode cX12_makeAll 32 = .ok (.iload_n 2, 1) := by decide +kernel
theorem dX12_makeAll_33 : decode cX12_makeAll 33 = .ok (.iaload, 1) := by decide +kernel
theorem dX12_makeAll_34 : decode cX12_makeAll 34 = .ok (.aload_n 0, 1) := by decide +kernel
theorem dX12_makeAll_35 : decode cX12_makeAll 35 = .ok (.getfield 92, 3) := by decide +kernel
theorem dX12_makeAll_38 : decode cX12_makeAll 38 = .ok (.iload_n 2, 1) := by decide +kernel
theorem dX12_makeAll_39 : decode cX12_makeAll 39 = .ok (.iaload, 1) := by decide +kernel
theorem dX12_makeAll_40 : decode cX12_makeAll 40 = .ok (.invokevirtual 355, 3) := by decide +kernel
theorem dX12_makeAll_43 : decode cX12_makeAll 43 = .ok (.istore_n 1, 1) := by decide +kernel
theorem dX12_makeAll_44 : decode cX12_makeAll 44 = .ok (.iinc 2 1, 3) := by decide +kernel
theorem dX12_makeAll_47 : decode cX12_makeAll 47 = .ok (.goto (-38), 3) := by decide +kernel
theorem dX12_makeAll_50 : decode cX12_makeAll 50 = .ok (.iconst 0, 1) := by decide +kernel
theorem dX12_makeAll_51 : decode cX12_makeAll 51 = .ok (.istore_n 2, 1) := by decide +kernel
theorem dX12_makeAll_52 : decode cX12_makeAll 52 = .ok (.iload_n 2, 1) := by decide +kernel
theorem dX12_makeAll_53 : decode cX12_makeAll 53 = .ok (.aload_n 0, 1) := by decide +kernel
theorem dX12_makeAll_54 : decode cX12_makeAll 54 = .ok (.getfield 104, 3) := by decide +kernel
theorem dX12_makeAll_57 : decode cX12_makeAll 57 = .ok (.if_icmp .ge 81, 3) := by decide +kernel
theorem dX12_makeAll_60 : decode cX12_makeAll 60 = .ok (.iload_n 1, 1) := by decide +kernel
theorem dX12_makeAll_61 : decode cX12_makeAll 61 = .ok (.ifCond .eq 77, 3) := by decide +kernel
theorem dX12_makeAll_64 : decode cX12_makeAll 64 = .ok (.iconst 0, 1) := by decide +kernel
theorem dX12_makeAll_65 : decode cX12_makeAll 65 = .ok (.istore_n 3, 1) := by decide +kernel
theorem dX12_makeAll_66 : decode cX12_makeAll 66 = .ok (.iload_n 3, 1) := by decide +kernel
theorem dX12_makeAll_67 : decode cX12_makeAll 67 = .ok (.aload_n 0, 1) := by decide +kernel
theorem dX12_makeAll_68 : decode cX12_makeAll 68 = .ok (.getfield 348, 3) := by decide +kernel
theorem dX12_makeAll_71 : decode cX12_makeAll 71 = .ok (.if_icmp .ge 61, 3) := by decide +kernel
theorem dX12_makeAll_74 : decode cX12_makeAll 74 = .ok (.iload_n 1, 1) := by decide +kernel
theorem dX12_makeAll_75 : decode cX12_makeAll 75 = .ok (.ifCond .eq 57, 3) := by decide +kernel
theorem dX12_makeAll_78 : decode cX12_makeAll 78 = .ok (.aload_n 0, 1) := by decide +kernel
theorem dX12_makeAll_79 : decode cX12_makeAll 79 = .ok (.getfield 98, 3) := by decide +kernel
theorem dX12_makeAll_82 : decode cX12_makeAll 82 = .ok (.iload_n 2, 1) := by decide +kernel
theorem dX12_makeAll_83 : decode cX12_makeAll 83 = .ok (.iaload, 1) := by decide +kernel
theorem dX12_makeAll_84 : decode cX12_makeAll 84 = .ok (.aload_n 0, 1) := by decide +kernel
theorem dX12_makeAll_85 : decode cX12_makeAll 85 = .ok (.getfield 86, 3) := by decide +kernel
theorem dX12_makeAll_88 : decode cX12_makeAll 88 = .ok (.iload_n 3, 1) := by decide +kernel
theorem dX12_makeAll_89 : decode cX12_makeAll 89 = .ok (.iaload, 1) := by decide +kernel
theorem dX12_makeAll_90 : decode cX12_makeAll 90 = .ok (.if_icmp .ne 36, 3) := by decide +kernel
theorem dX12_makeAll_93 : decode cX12_makeAll 93 = .ok (.aload_n 0, 1) := by decide +kernel
theorem dX12_makeAll_94 : decode cX12_makeAll 94 = .ok (.aload_n 0, 1) := by decide +kernel
theorem dX12_makeAll_95 : decode cX12_makeAll 95 = .ok (.getfield 95, 3) := by decide +kernel
theorem dX12_makeAll_98 : decode cX12_makeAll 98 = .ok (.iload_n 2, 1) := by decide +kernel
theorem dX12_makeAll_99 : decode cX12_makeAll 99 = .ok (.iaload, 1) := by decide +kernel
theorem dX12_makeAll_100 : decode cX12_makeAll 100 = .ok (.aload_n 0, 1) := by decide +kernel
theorem dX12_makeAll_101 : decode cX12_makeAll 101 = .ok (.getfield 89, 3) := by decide +kernel
theorem dX12_makeAll_104 : decode cX12_makeAll 104 = .ok (.iload_n 3, 1) := by decide +kernel
theorem dX12_makeAll_105 : decode cX12_makeAll 105 = .ok (.iaload, 1) := by decide +kernel
theorem dX12_makeAll_106 : decode cX12_makeAll 106 = .ok (.aload_n 0, 1) := by decide +kernel
theorem dX12_makeAll_107 : decode cX12_makeAll 107 = .ok (.aload_n 0, 1) := by decide +kernel
theorem dX12_makeAll_108 : decode cX12_makeAll 108 = .ok (.getfield 101, 3) := by decide +kernel
theorem dX12_makeAll_111 : decode cX12_makeAll 111 = .ok (.iload_n 2, 1) := by decide +kernel
theorem dX12_makeAll_112 : decode cX12_makeAll 112 = .ok (.iaload, 1) := by decide +kernel
theorem dX12_makeAll_113 : decode cX12_makeAll 113 = .ok (.aload_n 0, 1) := by decide +kernel
theorem dX12_makeAll_114 : decode cX12_makeAll 114 = .ok (.getfield 92, 3) := by decide +kernel
theorem dX12_makeAll_117 : decode cX12_makeAll 117 = .ok (.iload_n 3, 1) := by decide +kernel
theorem dX12_makeAll_118 : decode cX12_makeAll 118 = .ok (.iaload, 1) := by decide +kernel
theorem dX12_makeAll_119 : decode cX12_makeAll 119 = .ok (.invokevirtual 358, 3) := by decide +kernel
theorem dX12_makeAll_122 : decode cX12_makeAll 122 = .ok (.invokevirtual 355, 3) := by decide +kernel
theorem dX12_makeAll_125 : decode cX12_makeAll 125 = .ok (.istore_n 1, 1) := by decide +kernel
theorem dX12_makeAll_126 : decode cX12_makeAll 126 = .ok (.iinc 3 1, 3) := by decide +kernel
theorem dX12_makeAll_129 : decode cX12_makeAll 129 = .ok (.goto (-63), 3) := by decide +kernel
theorem dX12_makeAll_132 : decode cX12_makeAll 132 = .ok (.iinc 2 1, 3) := by decide +kernel
theorem dX12_makeAll_135 : decode cX12_makeAll 135 = .ok (.goto (-83), 3) := by decide +kernel
theorem dX12_makeAll_138 : decode cX12_makeAll 138 = .ok (.iload_n 1, 1) := by decide +kernel
theorem dX12_makeAll_139 : decode cX12_makeAll 139 = .ok (.ireturn, 1) := by decide +kernel
theorem dX12_isAsked_0 : decode cX12_isAsked 0 = .ok (.aload_n 0, 1) := by decide +kernel
theorem dX12_isAsked_1 : decode cX12_isAsked 1 = .ok (.getfield 95, 3) := by decide +kernel
theorem dX12_isAsked_4 : decode cX12_isAsked 4 = .ok (.iload_n 1, 1) := by decide +kernel
theorem dX12_isAsked_5 : decode cX12_isAsked 5 = .ok (.iaload, 1) := by decide +kernel
theorem dX12_isAsked_6 : decode cX12_isAsked 6 = .ok (.aload_n 0, 1) := by decide +kernel
theorem dX12_isAsked_7 : decode cX12_isAsked 7 = .ok (.getfield 98, 3) := by decide +kernel
theorem dX12_isAsked_10 : decode cX12_isAsked 10 = .ok (.iload_n 1, 1) := by decide +kernel
theorem dX12_isAsked_11 : decode cX12_isAsked 11 = .ok (.iaload, 1) := by decide +kernel
theorem dX12_isAsked_12 : decode cX12_isAsked 12 = .ok (.if_icmp .ne 28, 3) := by decide +kernel
theorem dX12_isAsked_15 : decode cX12_isAsked 15 = .ok (.aload_n 0, 1) := by decide +kernel
theorem dX12_isAsked_16 : decode cX12_isAsked 16 = .ok (.aload_n 0, 1) := by decide +kernel
theorem dX12_isAsked_17 : decode cX12_isAsked 17 = .ok (.getfield 101, 3) := by decide +kernel
theorem dX12_isAsked_20 : decode cX12_isAsked 20 = .ok (.iload_n 1, 1) := by decide +kernel
theorem dX12_isAsked_21 : decode cX12_isAsked 21 = .ok (.iaload, 1) := by decide +kernel
theorem dX12_isAsked_22 : decode cX12_isAsked 22 = .ok (.aload_n 0, 1) := by decide +kernel
theorem dX12_isAsked_23 : decode cX12_isAsked 23 = .ok (.getfield 101, 3) := by decide +kernel
theorem dX12_isAsked_26 : decode cX12_isAsked 26 = .ok (.iload_n 1, 1) := by decide +kernel
theorem dX12_isAsked_27 : decode cX12_isAsked 27 = .ok (.iaload, 1) := by decide +kernel
theorem dX12_isAsked_28 : decode cX12_isAsked 28 = .ok (.invokevirtual 358, 3) := by decide +kernel
theorem dX12_isAsked_31 : decode cX12_isAsked 31 = .ok (.aload_n 0, 1) := by decide +kernel
theorem dX12_isAsked_32 : decode cX12_isAsked 32 = .ok (.getfield 101, 3) := by decide +kernel
theorem dX12_isAsked_35 : decode cX12_isAsked 35 = .ok (.iload_n 1, 1) := by decide +kernel
theorem dX12_isAsked_36 : decode cX12_isAsked 36 = .ok (.iaload, 1) := by decide +kernel
theorem dX12_isAsked_37 : decode cX12_isAsked 37 = .ok (.if_icmp .eq 5, 3) := by decide +kernel
theorem dX12_isAsked_40 : decode cX12_isAsked 40 = .ok (.iconst 1, 1) := by decide +kernel
theorem dX12_isAsked_41 : decode cX12_isAsked 41 = .ok (.ireturn, 1) := by decide +kernel
theorem dX12_isAsked_42 : decode cX12_isAsked 42 = .ok (.aload_n 0, 1) := by decide +kernel
theorem dX12_isAsked_43 : decode cX12_isAsked 43 = .ok (.getfield 101, 3) := by decide +kernel
theorem dX12_isAsked_46 : decode cX12_isAsked 46 = .ok (.iload_n 1, 1) := by decide +kernel
theorem dX12_isAsked_47 : decode cX12_isAsked 47 = .ok (.iaload, 1) := by decide +kernel
theorem dX12_isAsked_48 : decode cX12_isAsked 48 = .ok (.aload_n 0, 1) := by decide +kernel
theorem dX12_isAsked_49 : decode cX12_isAsked 49 = .ok (.getfield 116, 3) := by decide +kernel
theorem dX12_isAsked_52 : decode cX12_isAsked 52 = .ok (.invokestatic 351, 3) := by decide +kernel
theorem dX12_isAsked_55 : decode cX12_isAsked 55 = .ok (.aload_n 0, 1) := by decide +kernel
theorem dX12_isAsked_56 : decode cX12_isAsked 56 = .ok (.getfield 116, 3) := by decide +kernel
theorem dX12_isAsked_59 : decode cX12_isAsked 59 = .ok (.iconst 0, 1) := by decide +kernel
theorem dX12_isAsked_60 : decode cX12_isAsked 60 = .ok (.iaload, 1) := by decide +kernel
theorem dX12_isAsked_61 : decode cX12_isAsked 61 = .ok (.iconst 2, 1) := by decide +kernel
theorem dX12_isAsked_62 : decode cX12_isAsked 62 = .ok (.if_icmp .eq 35, 3) := by decide +kernel
theorem dX12_isAsked_65 : decode cX12_isAsked 65 = .ok (.aload_n 0, 1) := by decide +kernel
theorem dX12_isAsked_66 : decode cX12_isAsked 66 = .ok (.getfield 116, 3) := by decide +kernel
theorem dX12_isAsked_69 : decode cX12_isAsked 69 = .ok (.iconst 5, 1) := by decide +kernel
theorem dX12_isAsked_70 : decode cX12_isAsked 70 = .ok (.iaload, 1) := by decide +kernel
theorem dX12_isAsked_71 : decode cX12_isAsked 71 = .ok (.iconst 2, 1) := by decide +kernel
theorem dX12_isAsked_72 : decode cX12_isAsked 72 = .ok (.if_icmp .eq 25, 3) := by decide +kernel
theorem dX12_isAsked_75 : decode cX12_isAsked 75 = .ok (.aload_n 0, 1) := by decide +kernel
theorem dX12_isAsked_76 : decode cX12_isAsked 76 = .ok (.getfield 116, 3) := by decide +kernel
theorem dX12_isAsked_79 : decode cX12_isAsked 79 = .ok (.bipush 10, 2) := by decide +kernel
theorem dX12_isAsked_81 : decode cX12_isAsked 81 = .ok (.iaload, 1) := by decide +kernel
theorem dX12_isAsked_82 : decode cX12_isAsked 82 = .ok (.iconst 2, 1) := by decide +kernel
theorem dX12_isAsked_83 : decode cX12_isAsked 83 = .ok (.if_icmp .eq 14, 3) := by decide +kernel
theorem dX12_isAsked_86 : decode cX12_isAsked 86 = .ok (.aload_n 0, 1) := by decide +kernel
theorem dX12_isAsked_87 : decode cX12_isAsked 87 = .ok (.getfield 116, 3) := by decide +kernel
theorem dX12_isAsked_90 : decode cX12_isAsked 90 = .ok (.bipush 15, 2) := by decide +kernel
theorem dX12_isAsked_92 : decode cX12_isAsked 92 = .ok (.iaload, 1) := by decide +kernel
theorem dX12_isAsked_93 : decode cX12_isAsked 93 = .ok (.iconst 2, 1) := by decide +kernel
theorem dX12_isAsked_94 : decode cX12_isAsked 94 = .ok (.if_icmp .ne 7, 3) := by decide +kernel
theorem dX12_isAsked_97 : decode cX12_isAsked 97 = .ok (.iconst 1, 1) := by decide +kernel
theorem dX12_isAsked_98 : decode cX12_isAsked 98 = .ok (.goto 4, 3) := by decide +kernel
theorem dX12_isAsked_101 : decode cX12_isAsked 101 = .ok (.iconst 0, 1) := by decide +kernel
theorem dX12_isAsked_102 : decode cX12_isAsked 102 = .ok (.ireturn, 1) := by decide +kernel
theorem dX12_ending_0 : decode cX12_ending 0 = .ok (.aload_n 0, 1) := by decide +kernel
theorem dX12_ending_1 : decode cX12_ending 1 = .ok (.invokevirtual 362, 3) := by decide +kernel
theorem dX12_ending_4 : decode cX12_ending 4 = .ok (.ifCond .ne 13, 3) := by decide +kernel
theorem dX12_ending_7 : decode cX12_ending 7 = .ok (.aload_n 0, 1) := by decide +kernel
theorem dX12_ending_8 : decode cX12_ending 8 = .ok (.sipush 1000, 3) := by decide +kernel
theorem dX12_ending_11 : decode cX12_ending 11 = .ok (.putfield 104, 3) := by decide +kernel
theorem dX12_ending_14 : decode cX12_ending 14 = .ok (.bipush (-3), 2) := by decide +kernel
theorem dX12_ending_16 : decode cX12_ending 16 = .ok (.ireturn, 1) := by decide +kernel
theorem dX12_ending_17 : decode cX12_ending 17 = .ok (.aload_n 0, 1) := by decide +kernel
theorem dX12_ending_18 : decode cX12_ending 18 = .ok (.iconst (-1), 1) := by decide +kernel
theorem dX12_ending_19 : decode cX12_ending 19 = .ok (.putfield 107, 3) := by decide +kernel
theorem dX12_ending_22 : decode cX12_ending 22 = .ok (.iconst 0, 1) := by decide +kernel
theorem dX12_ending_23 : decode cX12_ending 23 = .ok (.istore_n 1, 1) := by decide +kernel
theorem dX12_ending_24 : decode cX12_ending 24 = .ok (.iload_n 1, 1) := by decide +kernel
theorem dX12_ending_25 : decode cX12_ending 25 = .ok (.aload_n 0, 1) := by decide +kernel
theorem dX12_ending_26 : decode cX12_ending 26 = .ok (.getfield 104, 3) := by decide +kernel
theorem dX12_ending_29 : decode cX12_ending 29 = .ok (.if_icmp .ge 100, 3) := by decide +kernel
theorem dX12_ending_32 : decode cX12_ending 32 = .ok (.aload_n 0, 1) := by decide +kernel
theorem dX12_ending_33 : decode cX12_ending 33 = .ok (.getfield 107, 3) := by decide +kernel
theorem dX12_ending_36 : decode cX12_ending 36 = .ok (.ifCond .lt 57, 3) := by decide +kernel
theorem dX12_ending_39 : decode cX12_ending 39 = .ok (.aload_n 0, 1) := by decide +kernel
theorem dX12_ending_40 : decode cX12_ending 40 = .ok (.getfield 95, 3) := by decide +kernel
theorem dX12_ending_43 : decode cX12_ending 43 = .ok (.iload_n 1, 1) := by decide +kernel
theorem dX12_ending_44 : decode cX12_ending 44 = .ok (.iaload, 1) := by decide +kernel
theorem dX12_ending_45 : decode cX12_ending 45 = .ok (.aload_n 0, 1) := by decide +kernel
theorem dX12_ending_46 : decode cX12_ending 46 = .ok (.getfield 95, 3) := by decide +kernel
theorem dX12_ending_49 : decode cX12_ending 49 = .ok (.aload_n 0, 1) := by decide +kernel
theorem dX12_ending_50 : decode cX12_ending 50 = .ok (.getfield 107, 3) := by decide +kernel
theorem dX12_ending_53 : decode cX12_ending 53 = .ok (.iaload, 1) := by decide +kernel
theorem dX12_ending_54 : decode cX12_ending 54 = .ok (.if_icmp .lt 39, 3) := by decide +kernel
theorem dX12_ending_57 : decode cX12_ending 57 = .ok (.aload_n 0, 1) := by decide +kernel
theorem dX12_ending_58 : decode cX12_ending 58 = .ok (.getfield 95, 3) := by decide +kernel
theorem dX12_ending_61 : decode cX12_ending 61 = .ok (.iload_n 1, 1) := by decide +kernel
theorem dX12_ending_62 : decode cX12_ending 62 = .ok (.iaload, 1) := by decide +kernel
theorem dX12_ending_63 : decode cX12_ending 63 = .ok (.aload_n 0, 1) := by decide +kernel
theorem dX12_ending_64 : decode cX12_ending 64 = .ok (.getfield 95, 3) := by decide +kernel
theorem dX12_ending_67 : decode cX12_ending 67 = .ok (.aload_n 0, 1) := by decide +kernel
theorem dX12_ending_68 : decode cX12_ending 68 = .ok (.getfield 107, 3) := by decide +kernel
theorem dX12_ending_71 : decode cX12_ending 71 = .ok (.iaload, 1) := by decide +kernel
theorem dX12_ending_72 : decode cX12_ending 72 = .ok (.if_icmp .ne 25, 3) := by decide +kernel
theorem dX12_ending_75 : decode cX12_ending 75 = .ok (.aload_n 0, 1) := by decide +kernel
theorem dX12_ending_76 : decode cX12_ending 76 = .ok (.getfield 101, 3) := by decide +kernel
theorem dX12_ending_79 : decode cX12_ending 79 = .ok (.iload_n 1, 1) := by decide +kernel
theorem dX12_ending_80 : decode cX12_ending 80 = .ok (.iaload, 1) := by decide +kernel
theorem dX12_ending_81 : decode cX12_ending 81 = .ok (.aload_n 0, 1) := by decide +kernel
theorem dX12_ending_82 : decode cX12_ending 82 = .ok (.getfield 101, 3) := by decide +kernel
theorem dX12_ending_85 : decode cX12_ending 85 = .ok (.aload_n 0, 1) := by decide +kernel
theorem dX12_ending_86 : decode cX12_ending 86 = .ok (.getfield 107, 3) := by decide +kernel
theorem dX12_ending_89 : decode cX12_ending 89 = .ok (.iaload, 1) := by decide +kernel
theorem dX12_ending_90 : decode cX12_ending 90 = .ok (.if_icmp .ge 7, 3) := by decide +kernel
theorem dX12_ending_93 : decode cX12_ending 93 = .ok (.iconst 1, 1) := by decide +kernel
theorem dX12_ending_94 : decode cX12_ending 94 = .ok (.goto 4, 3) := by decide +kernel
theorem dX12_ending_97 : decode cX12_ending 97 = .ok (.iconst 0, 1) := by decide +kernel
theorem dX12_ending_98 : decode cX12_ending 98 = .ok (.istore_n 2, 1) := by decide +kernel
theorem dX12_ending_99 : decode cX12_ending 99 = .ok (.aload_n 0, 1) := by decide +kernel
theorem dX12_ending_100 : decode cX12_ending 100 = .ok (.aload_n 0, 1) := by decide +kernel
theorem dX12_ending_101 : decode cX12_ending 101 = .ok (.iload_n 1, 1) := by decide +kernel
theorem dX12_ending_102 : decode cX12_ending 102 = .ok (.invokevirtual 365, 3) := by decide +kernel
theorem dX12_ending_105 : decode cX12_ending 105 = .ok (.ifCond .ne 11, 3) := by decide +kernel
theorem dX12_ending_108 : decode cX12_ending 108 = .ok (.iload_n 2, 1) := by decide +kernel
theorem dX12_ending_109 : decode cX12_ending 109 = .ok (.ifCond .eq 7, 3) := by decide +kernel
theorem dX12_ending_112 : decode cX12_ending 112 = .ok (.iload_n 1, 1) := by decide +kernel
theorem dX12_ending_113 : decode cX12_ending 113 = .ok (.goto 7, 3) := by decide +kernel
theorem dX12_ending_116 : decode cX12_ending 116 = .ok (.aload_n 0, 1) := by decide +kernel
theorem dX12_ending_117 : decode cX12_ending 117 = .ok (.getfield 107, 3) := by decide +kernel
theorem dX12_ending_120 : decode cX12_ending 120 = .ok (.putfield 107, 3) := by decide +kernel
theorem dX12_ending_123 : decode cX12_ending 123 = .ok (.iinc 1 1, 3) := by decide +kernel
theorem dX12_ending_126 : decode cX12_ending 126 = .ok (.goto (-102), 3) := by decide +kernel
theorem dX12_ending_129 : decode cX12_ending 129 = .ok (.aload_n 0, 1) := by decide +kernel
theorem dX12_ending_130 : decode cX12_ending 130 = .ok (.getfield 107, 3) := by decide +kernel
theorem dX12_ending_133 : decode cX12_ending 133 = .ok (.ifCond .ge 5, 3) := by decide +kernel
theorem dX12_ending_136 : decode cX12_ending 136 = .ok (.iconst 1, 1) := by decide +kernel
theorem dX12_ending_137 : decode cX12_ending 137 = .ok (.ireturn, 1) := by decide +kernel
theorem dX12_ending_138 : decode cX12_ending 138 = .ok (.aload_n 0, 1) := by decide +kernel
theorem dX12_ending_139 : decode cX12_ending 139 = .ok (.aload_n 0, 1) := by decide +kernel
theorem dX12_ending_140 : decode cX12_ending 140 = .ok (.getfield 95, 3) := by decide +kernel
theorem dX12_ending_143 : decode cX12_ending 143 = .ok (.aload_n 0, 1) := by decide +kernel
theorem dX12_ending_144 : decode cX12_ending 144 = .ok (.getfield 107, 3) := by decide +kernel
theorem dX12_ending_147 : decode cX12_ending 147 = .ok (.iaload, 1) := by decide +kernel
theorem dX12_ending_148 : decode cX12_ending 148 = .ok (.putfield 110, 3) := by decide +kernel
theorem dX12_ending_151 : decode cX12_ending 151 = .ok (.aload_n 0, 1) := by decide +kernel
theorem dX12_ending_152 : decode cX12_ending 152 = .ok (.aload_n 0, 1) := by decide +kernel
theorem dX12_ending_153 : decode cX12_ending 153 = .ok (.getfield 101, 3) := by decide +kernel
theorem dX12_ending_156 : decode cX12_ending 156 = .ok (.aload_n 0, 1) := by decide +kernel
theorem dX12_ending_157 : decode cX12_ending 157 = .ok (.getfield 107, 3) := by decide +kernel
theorem dX12_ending_160 : decode cX12_ending 160 = .ok (.iaload, 1) := by decide +kernel
theorem dX12_ending_161 : decode cX12_ending 161 = .ok (.putfield 113, 3) := by decide +kernel
theorem dX12_ending_164 : decode cX12_ending 164 = .ok (.iconst 0, 1) := by decide +kernel
theorem dX12_ending_165 : decode cX12_ending 165 = .ok (.ireturn, 1) := by decide +kernel
theorem dX12_made_0 : decode cX12_made 0 = .ok (.aload_n 0, 1) := by decide +kernel
theorem dX12_made_1 : decode cX12_made 1 = .ok (.getfield 104, 3) := by decide +kernel
theorem dX12_made_4 : decode cX12_made 4 = .ok (.ireturn, 1) := by decide +kernel
theorem dX12_witness_0 : decode cX12_witness 0 = .ok (.iload_n 1, 1) := by decide +kernel
theorem dX12_witness_1 : decode cX12_witness 1 = .ok (.ifCond .ne 10, 3) := by decide +kernel
theorem dX12_witness_4 : decode cX12_witness 4 = .ok (.aload_n 0, 1) := by decide +kernel
theorem dX12_witness_5 : decode cX12_witness 5 = .ok (.getfield 110, 3) := by decide +kernel
theorem dX12_witness_8 : decode cX12_witness 8 = .ok (.goto 16, 3) := by decide +kernel
theorem dX12_witness_11 : decode cX12_witness 11 = .ok (.iload_n 1, 1) := by decide +kernel
theorem dX12_witness_12 : decode cX12_witness 12 = .ok (.iconst 1, 1) := by decide +kernel
theorem dX12_witness_13 : decode cX12_witness 13 = .ok (.if_icmp .ne 10, 3) := by decide +kernel
theorem dX12_witness_16 : decode cX12_witness 16 = .ok (.aload_n 0, 1) := by decide +kernel
theorem dX12_witness_17 : decode cX12_witness 17 = .ok (.getfield 113, 3) := by decide +kernel
theorem dX12_witness_20 : decode cX12_witness 20 = .ok (.goto 4, 3) := by decide +kernel
theorem dX12_witness_23 : decode cX12_witness 23 = .ok (.iconst (-1), 1) := by decide +kernel
theorem dX12_witness_24 : decode cX12_witness 24 = .ok (.ireturn, 1) := by decide +kernel
