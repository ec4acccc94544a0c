theorem dX12_byTwo_50 : decode cX12_byTwo 50 = .ok (.lload 4, 2) := by decide +kernel
theorem dX12_byTwo_52 : decode cX12_byTwo 52 = .ok (.iload_n 1, 1) := by decide +kernel
theorem dX12_byTwo_53 : decode cX12_byTwo 53 = .ok (.iload_n 2, 1) := by decide +kernel
theorem dX12_byTwo_54 : decode cX12_byTwo 54 = .ok (.iload_n 1, 1) := by decide +kernel
theorem dX12_byTwo_55 : decode cX12_byTwo 55 = .ok (.invokevirtual 269, 3) := by decide +kernel
theorem dX12_byTwo_58 : decode cX12_byTwo 58 = .ok (.return_, 1) := by decide +kernel
theorem dX12_byTwo_59 : decode cX12_byTwo 59 = .ok (.iinc 3 1, 3) := by decide +kernel
theorem dX12_byTwo_62 : decode cX12_byTwo 62 = .ok (.goto (-48), 3) := by decide +kernel
theorem dX12_byTwo_65 : decode cX12_byTwo 65 = .ok (.return_, 1) := by decide +kernel
theorem dX12_findLeast_0 : decode cX12_findLeast 0 = .ok (.aload_n 0, 1) := by decide +kernel
theorem dX12_findLeast_1 : decode cX12_findLeast 1 = .ok (.aload_n 0, 1) := by decide +kernel
theorem dX12_findLeast_2 : decode cX12_findLeast 2 = .ok (.getfield 122, 3) := by decide +kernel
theorem dX12_findLeast_5 : decode cX12_findLeast 5 = .ok (.iconst 0, 1) := by decide +kernel
theorem dX12_findLeast_6 : decode cX12_findLeast 6 = .ok (.laload, 1) := by decide +kernel
theorem dX12_findLeast_7 : decode cX12_findLeast 7 = .ok (.lconst 0, 1) := by decide +kernel
theorem dX12_findLeast_8 : decode cX12_findLeast 8 = .ok (.lcmp, 1) := by decide +kernel
theorem dX12_findLeast_9 : decode cX12_findLeast 9 = .ok (.ifCond .ne 29, 3) := by decide +kernel
theorem dX12_findLeast_12 : decode cX12_findLeast 12 = .ok (.aload_n 0, 1) := by decide +kernel
theorem dX12_findLeast_13 : decode cX12_findLeast 13 = .ok (.getfield 122, 3) := by decide +kernel
theorem dX12_findLeast_16 : decode cX12_findLeast 16 = .ok (.iconst 1, 1) := by decide +kernel
theorem dX12_findLeast_17 : decode cX12_findLeast 17 = .ok (.laload, 1) := by decide +kernel
theorem dX12_findLeast_18 : decode cX12_findLeast 18 = .ok (.lconst 0, 1) := by decide +kernel
theorem dX12_findLeast_19 : decode cX12_findLeast 19 = .ok (.lcmp, 1) := by decide +kernel
theorem dX12_findLeast_20 : decode cX12_findLeast 20 = .ok (.ifCond .ne 18, 3) := by decide +kernel
theorem dX12_findLeast_23 : decode cX12_findLeast 23 = .ok (.aload_n 0, 1) := by decide +kernel
theorem dX12_findLeast_24 : decode cX12_findLeast 24 = .ok (.getfield 122, 3) := by decide +kernel
theorem dX12_findLeast_27 : decode cX12_findLeast 27 = .ok (.iconst 2, 1) := by decide +kernel
theorem dX12_findLeast_28 : decode cX12_findLeast 28 = .ok (.laload, 1) := by decide +kernel
theorem dX12_findLeast_29 : decode cX12_findLeast 29 = .ok (.lconst 0, 1) := by decide +kernel
theorem dX12_findLeast_30 : decode cX12_findLeast 30 = .ok (.lcmp, 1) := by decide +kernel
theorem dX12_findLeast_31 : decode cX12_findLeast 31 = .ok (.ifCond .ne 7, 3) := by decide +kernel
theorem dX12_findLeast_34 : decode cX12_findLeast 34 = .ok (.iconst 1, 1) := by decide +kernel
theorem dX12_findLeast_35 : decode cX12_findLeast 35 = .ok (.goto 4, 3) := by decide +kernel
theorem dX12_findLeast_38 : decode cX12_findLeast 38 = .ok (.iconst 0, 1) := by decide +kernel
theorem dX12_findLeast_39 : decode cX12_findLeast 39 = .ok (.putfield 240, 3) := by decide +kernel
theorem dX12_findLeast_42 : decode cX12_findLeast 42 = .ok (.aload_n 0, 1) := by decide +kernel
theorem dX12_findLeast_43 : decode cX12_findLeast 43 = .ok (.lconst 0, 1) := by decide +kernel
theorem dX12_findLeast_44 : decode cX12_findLeast 44 = .ok (.putfield 243, 3) := by decide +kernel
theorem dX12_findLeast_47 : decode cX12_findLeast 47 = .ok (.aload_n 0, 1) := by decide +kernel
theorem dX12_findLeast_48 : decode cX12_findLeast 48 = .ok (.lconst 0, 1) := by decide +kernel
theorem dX12_findLeast_49 : decode cX12_findLeast 49 = .ok (.putfield 247, 3) := by decide +kernel
theorem dX12_findLeast_52 : decode cX12_findLeast 52 = .ok (.aload_n 0, 1) := by decide +kernel
theorem dX12_findLeast_53 : decode cX12_findLeast 53 = .ok (.lconst 1, 1) := by decide +kernel
theorem dX12_findLeast_54 : decode cX12_findLeast 54 = .ok (.putfield 250, 3) := by decide +kernel
theorem dX12_findLeast_57 : decode cX12_findLeast 57 = .ok (.aload_n 0, 1) := by decide +kernel
theorem dX12_findLeast_58 : decode cX12_findLeast 58 = .ok (.getfield 240, 3) := by decide +kernel
theorem dX12_findLeast_61 : decode cX12_findLeast 61 = .ok (.ifCond .eq 4, 3) := by decide +kernel
theorem dX12_findLeast_64 : decode cX12_findLeast 64 = .ok (.return_, 1) := by decide +kernel
theorem dX12_findLeast_65 : decode cX12_findLeast 65 = .ok (.iconst 0, 1) := by decide +kernel
theorem dX12_findLeast_66 : decode cX12_findLeast 66 = .ok (.istore_n 1, 1) := by decide +kernel
theorem dX12_findLeast_67 : decode cX12_findLeast 67 = .ok (.iload_n 1, 1) := by decide +kernel
theorem dX12_findLeast_68 : decode cX12_findLeast 68 = .ok (.aload_n 0, 1) := by decide +kernel
theorem dX12_findLeast_69 : decode cX12_findLeast 69 = .ok (.getfield 185, 3) := by decide +kernel
theorem dX12_findLeast_72 : decode cX12_findLeast 72 = .ok (.if_icmp .ge 99, 3) := by decide +kernel
theorem dX12_findLeast_75 : decode cX12_findLeast 75 = .ok (.aload_n 0, 1) := by decide +kernel
theorem dX12_findLeast_76 : decode cX12_findLeast 76 = .ok (.iload_n 1, 1) := by decide +kernel
theorem dX12_findLeast_77 : decode cX12_findLeast 77 = .ok (.invokevirtual 257, 3) := by decide +kernel
theorem dX12_findLeast_80 : decode cX12_findLeast 80 = .ok (.iload_n 1, 1) := by decide +kernel
theorem dX12_findLeast_81 : decode cX12_findLeast 81 = .ok (.iconst 1, 1) := by decide +kernel
theorem dX12_findLeast_82 : decode cX12_findLeast 82 = .ok (.iadd, 1) := by decide +kernel
theorem dX12_findLeast_83 : decode cX12_findLeast 83 = .ok (.istore_n 2, 1) := by decide +kernel
theorem dX12_findLeast_84 : decode cX12_findLeast 84 = .ok (.iload_n 2, 1) := by decide +kernel
theorem dX12_findLeast_85 : decode cX12_findLeast 85 = .ok (.aload_n 0, 1) := by decide +kernel
theorem dX12_findLeast_86 : decode cX12_findLeast 86 = .ok (.getfield 185, 3) := by decide +kernel
theorem dX12_findLeast_89 : decode cX12_findLeast 89 = .ok (.if_icmp .ge 76, 3) := by decide +kernel
theorem dX12_findLeast_92 : decode cX12_findLeast 92 = .ok (.aload_n 0, 1) := by decide +kernel
theorem dX12_findLeast_93 : decode cX12_findLeast 93 = .ok (.iload_n 1, 1) := by decide +kernel
theorem dX12_findLeast_94 : decode cX12_findLeast 94 = .ok (.iload_n 2, 1) := by decide +kernel
theorem dX12_findLeast_95 : decode cX12_findLeast 95 = .ok (.invokevirtual 261, 3) := by decide +kernel
theorem dX12_findLeast_98 : decode cX12_findLeast 98 = .ok (.iload_n 2, 1) := by decide +kernel
theorem dX12_findLeast_99 : decode cX12_findLeast 99 = .ok (.iconst 1, 1) := by decide +kernel
theorem dX12_findLeast_100 : decode cX12_findLeast 100 = .ok (.iadd, 1) := by decide +kernel
theorem dX12_findLeast_101 : decode cX12_findLeast 101 = .ok (.istore_n 3, 1) := by decide +kernel
theorem dX12_findLeast_102 : decode cX12_findLeast 102 = .ok (.iload_n 3, 1) := by decide +kernel
theorem dX12_findLeast_103 : decode cX12_findLeast 103 = .ok (.aload_n 0, 1) := by decide +kernel
theorem dX12_findLeast_104 : decode cX12_findLeast 104 = .ok (.getfield 185, 3) := by decide +kernel
theorem dX12_findLeast_107 : decode cX12_findLeast 107 = .ok (.if_icmp .ge 52, 3) := by decide +kernel
theorem dX12_findLeast_110 : decode cX12_findLeast 110 = .ok (.aload_n 0, 1) := by decide +kernel
theorem dX12_findLeast_111 : decode cX12_findLeast 111 = .ok (.iload_n 1, 1) := by decide +kernel
theorem dX12_findLeast_112 : decode cX12_findLeast 112 = .ok (.iload_n 2, 1) := by decide +kernel
theorem dX12_findLeast_113 : decode cX12_findLeast 113 = .ok (.iload_n 3, 1) := by decide +kernel
theorem dX12_findLeast_114 : decode cX12_findLeast 114 = .ok (.invokevirtual 224, 3) := by decide +kernel
theorem dX12_findLeast_117 : decode cX12_findLeast 117 = .ok (.lstore 4, 2) := by decide +kernel
theorem dX12_findLeast_119 : decode cX12_findLeast 119 = .ok (.lload 4, 2) := by decide +kernel
theorem dX12_findLeast_121 : decode cX12_findLeast 121 = .ok (.lconst 0, 1) := by decide +kernel
theorem dX12_findLeast_122 : decode cX12_findLeast 122 = .ok (.lcmp, 1) := by decide +kernel
theorem dX12_findLeast_123 : decode cX12_findLeast 123 = .ok (.ifCond .eq 30, 3) := by decide +kernel
theorem dX12_findLeast_126 : decode cX12_findLeast 126 = .ok (.aload_n 0, 1) := by decide +kernel
theorem dX12_findLeast_127 : decode cX12_findLeast 127 = .ok (.aload_n 0, 1) := by decide +kernel
theorem dX12_findLeast_128 : decode cX12_findLeast 128 = .ok (.iload_n 2, 1) := by decide +kernel
theorem dX12_findLeast_129 : decode cX12_findLeast 129 = .ok (.iload_n 3, 1) := by decide +kernel
theorem dX12_findLeast_130 : decode cX12_findLeast 130 = .ok (.invokevirtual 265, 3) := by decide +kernel
theorem dX12_findLeast_133 : decode cX12_findLeast 133 = .ok (.aload_n 0, 1) := by decide +kernel
theorem dX12_findLeast_134 : decode cX12_findLeast 134 = .ok (.iload_n 3, 1) := by decide +kernel
theorem dX12_findLeast_135 : decode cX12_findLeast 135 = .ok (.iload_n 1, 1) := by decide +kernel
theorem dX12_findLeast_136 : decode cX12_findLeast 136 = .ok (.invokevirtual 265, 3) := by decide +kernel
theorem dX12_findLeast_139 : decode cX12_findLeast 139 = .ok (.aload_n 0, 1) := by decide +kernel
theorem dX12_findLeast_140 : decode cX12_findLeast 140 = .ok (.iload_n 1, 1) := by decide +kernel
theorem dX12_findLeast_141 : decode cX12_findLeast 141 = .ok (.iload_n 2, 1) := by decide +kernel
theorem dX12_findLeast_142 : decode cX12_findLeast 142 = .ok (.invokevirtual 265, 3) := by decide +kernel
theorem dX12_findLeast_145 : decode cX12_findLeast 145 = .ok (.lload 4, 2) := by decide +kernel
theorem dX12_findLeast_147 : decode cX12_findLeast 147 = .ok (.iload_n 1, 1) := by decide +kernel
theorem dX12_findLeast_148 : decode cX12_findLeast 148 = .ok (.iload_n 2, 1) := by decide +kernel
theorem dX12_findLeast_149 : decode cX12_findLeast 149 = .ok (.iload_n 3, 1) := by decide +kernel
theorem dX12_findLeast_150 : decode cX12_findLeast 150 = .ok (.invokevirtual 269, 3) := by decide +kernel
theorem dX12_findLeast_153 : decode cX12_findLeast 153 = .ok (.iinc 3 1, 3) := by decide +kernel
theorem dX12_findLeast_156 : decode cX12_findLeast 156 = .ok (.goto (-54), 3) := by decide +kernel
theorem dX12_findLeast_159 : decode cX12_findLeast 159 = .ok (.iinc 2 1, 3) := by decide +kernel
theorem dX12_findLeast_162 : decode cX12_findLeast 162 = .ok (.goto (-78), 3) := by decide +kernel
theorem dX12_findLeast_165 : decode cX12_findLeast 165 = .ok (.iinc 1 1, 3) := by decide +kernel
theorem dX12_findLeast_168 : decode cX12_findLeast 168 = .ok (.goto (-101), 3) := by decide +kernel
theorem dX12_findLeast_171 : decode cX12_findLeast 171 = .ok (.return_, 1) := by decide +kernel
theorem dX12_isLeastAtLeast_0 : decode cX12_isLeastAtLeast 0 = .ok (.aload_n 0, 1) := by decide +kernel
theorem dX12_isLeastAtLeast_1 : decode cX12_isLeastAtLeast 1 = .ok (.getfield 240, 3) := by decide +kernel
theorem dX12_isLeastAtLeast_4 : decode cX12_isLeastAtLeast 4 = .ok (.ifCond .eq 51, 3) := by decide +kernel
theorem dX12_isLeastAtLeast_7 : decode cX12_isLeastAtLeast 7 = .ok (.lconst 0, 1) := by decide +kernel
theorem dX12_isLeastAtLeast_8 : decode cX12_isLeastAtLeast 8 = .ok (.lconst 0, 1) := by decide +kernel
theorem dX12_isLeastAtLeast_9 : decode cX12_isLeastAtLeast 9 = .ok (.lconst 1, 1) := by decide +kernel
theorem dX12_isLeastAtLeast_10 : decode cX12_isLeastAtLeast 10 = .ok (.aload_n 0, 1) := by decide +kernel
theorem dX12_isLeastAtLeast_11 : decode cX12_isLeastAtLeast 11 = .ok (.getfield 243, 3) := by decide +kernel
theorem dX12_isLeastAtLeast_14 : decode cX12_isLeastAtLeast 14 = .ok (.lload_n 1, 1) := by decide +kernel
theorem dX12_isLeastAtLeast_15 : decode cX12_isLeastAtLeast 15 = .ok (.aload_n 0, 1) := by decide +kernel
theorem dX12_isLeastAtLeast_16 : decode cX12_isLeastAtLeast 16 = .ok (.getfield 250, 3) := by decide +kernel
theorem dX12_isLeastAtLeast_19 : decode cX12_isLeastAtLeast 19 = .ok (.lmul, 1) := by decide +kernel
theorem dX12_isLeastAtLeast_20 : decode cX12_isLeastAtLeast 20 = .ok (.ldc2_w 231, 3) := by decide +kernel
theorem dX12_isLeastAtLeast_23 : decode cX12_isLeastAtLeast 23 = .ok (.invokestatic 233, 3) := by decide +kernel
theorem dX12_isLeastAtLeast_26 : decode cX12_isLeastAtLeast 26 = .ok (.lsub, 1) := by decide +kernel
theorem dX12_isLeastAtLeast_27 : decode cX12_isLeastAtLeast 27 = .ok (.aload_n 0, 1) := by decide +kernel
theorem dX12_isLeastAtLeast_28 : decode cX12_isLeastAtLeast 28 = .ok (.getfield 247, 3) := by decide +kernel
theorem dX12_isLeastAtLeast_31 : decode cX12_isLeastAtLeast 31 = .ok (.lload_n 1, 1) := by decide +kernel
theorem dX12_isLeastAtLeast_32 : decode cX12_isLeastAtLeast 32 = .ok (.aload_n 0, 1) := by decide +kernel
theorem dX12_isLeastAtLeast_33 : decode cX12_isLeastAtLeast 33 = .ok (.getfield 250, 3) := by decide +kernel
theorem dX12_isLeastAtLeast_36 : decode cX12_isLeastAtLeast 36 = .ok (.lmul, 1) := by decide +kernel
theorem dX12_isLeastAtLeast_37 : decode cX12_isLeastAtLeast 37 = .ok (.ldc2_w 231, 3) := by decide +kernel
theorem dX12_isLeastAtLeast_40 : decode cX12_isLeastAtLeast 40 = .ok (.invokestatic 237, 3) := by decide +kernel
theorem dX12_isLeastAtLeast_43 : decode cX12_isLeastAtLeast 43 = .ok (.lsub, 1) := by decide +kernel
theorem dX12_isLeastAtLeast_44 : decode cX12_isLeastAtLeast 44 = .ok (.lconst 1, 1) := by decide +kernel
theorem dX12_isLeastAtLeast_45 : decode cX12_isLeastAtLeast 45 = .ok (.invokestatic 253, 3) := by decide +kernel
theorem dX12_isLeastAtLeast_48 : decode cX12_isLeastAtLeast 48 = .ok (.ifCond .ne 7, 3) := by decide +kernel
theorem dX12_isLeastAtLeast_51 : decode cX12_isLeastAtLeast 51 = .ok (.iconst 1, 1) := by decide +kernel
theorem dX12_isLeastAtLeast_52 : decode cX12_isLeastAtLeast 52 = .ok (.goto 4, 3) := by decide +kernel
theorem dX12_isLeastAtLeast_55 : decode cX12_isLeastAtLeast 55 = .ok (.iconst 0, 1) := by decide +kernel
theorem dX12_isLeastAtLeast_56 : decode cX12_isLeastAtLeast 56 = .ok (.ireturn, 1) := by decide +kernel
theorem dX12_isSum_0 : decode cX12_isSum 0 = .ok (.iconst 1, 1) := by decide +kernel
theorem dX12_isSum_1 : decode cX12_isSum 1 = .ok (.istore 4, 2) := by decide +kernel
theorem dX12_isSum_3 : decode cX12_isSum 3 = .ok (.iconst 0, 1) := by decide +kernel
theorem dX12_isSum_4 : decode cX12_isSum 4 = .ok (.istore 5, 2) := by decide +kernel
theorem dX12_isSum_6 : decode cX12_isSum 6 = .ok (.iload 5, 2) := by decide +kernel
theorem dX12_isSum_8 : decode cX12_isSum 8 = .ok (.iconst 3, 1) := by decide +kernel
theorem dX12_isSum_9 : decode cX12_isSum 9 = .ok (.if_icmp .ge 71, 3) := by decide +kernel
theorem dX12_isSum_12 : decode cX12_isSum 12 = .ok (.iload 5, 2) := by decide +kernel
theorem dX12_isSum_14 : decode cX12_isSum 14 = .ok (.ifCond .ne 7, 3) := by decide +kernel
theorem dX12_isSum_17 : decode cX12_isSum 17 = .ok (.iload_n 1, 1) := by decide +kernel
theorem dX12_isSum_18 : decode cX12_isSum 18 = .ok (.goto 14, 3) := by decide +kernel
theorem dX12_isSum_21 : decode cX12_isSum 21 = .ok (.iload 5, 2) := by decide +kernel
theorem dX12_isSum_23 : decode cX12_isSum 23 = .ok (.iconst 1, 1) := by decide +kernel
theorem dX12_isSum_24 : decode cX12_isSum 24 = .ok (.if_icmp .ne 7, 3) := by decide +kernel
theorem dX12_isSum_27 : decode cX12_isSum 27 = .ok (.iload_n 2, 1) := by decide +kernel
theorem dX12_isSum_28 : decode cX12_isSum 28 = .ok (.goto 4, 3) := by decide +kernel
theorem dX12_isSum_31 : decode cX12_isSum 31 = .ok (.iload_n 3, 1) := by decide +kernel
theorem dX12_isSum_32 : decode cX12_isSum 32 = .ok (.istore 6, 2) := by decide +kernel
theorem dX12_isSum_34 : decode cX12_isSum 34 = .ok (.iload 4, 2) := by decide +kernel
theorem dX12_isSum_36 : decode cX12_isSum 36 = .ok (.ifCond .eq 35, 3) := by decide +kernel
theorem dX12_isSum_39 : decode cX12_isSum 39 = .ok (.iload 6, 2) := by decide +kernel
theorem dX12_isSum_41 : decode cX12_isSum 41 = .ok (.bipush (-100), 2) := by decide +kernel
theorem dX12_isSum_43 : decode cX12_isSum 43 = .ok (.if_icmp .lt 28, 3) := by decide +kernel
theorem dX12_isSum_46 : decode cX12_isSum 46 = .ok (.iload 6, 2) := by decide +kernel
theorem dX12_isSum_48 : decode cX12_isSum 48 = .ok (.bipush 100, 2) := by decide +kernel
theorem dX12_isSum_50 : decode cX12_isSum 50 = .ok (.if_icmp .gt 21, 3) := by decide +kernel
theorem dX12_isSum_53 : decode cX12_isSum 53 = .ok (.iload 5, 2) := by decide +kernel
theorem dX12_isSum_55 : decode cX12_isSum 55 = .ok (.aload_n 0, 1) := by decide +kernel
theorem dX12_isSum_56 : decode cX12_isSum 56 = .ok (.getfield 7, 3) := by decide +kernel
theorem dX12_isSum_59 : decode cX12_isSum 59 = .ok (.if_icmp .lt 8, 3) := by decide +kernel
theorem dX12_isSum_62 : decode cX12_isSum 62 = .ok (.iload 6, 2) := by decide +kernel
theorem dX12_isSum_64 : decode cX12_isSum 64 = .ok (.ifCond .ne 7, 3) := by decide +kernel
theorem dX12_isSum_67 : decode cX12_isSum 67 = .ok (.iconst 1, 1) := by decide +kernel
theorem dX12_isSum_68 : decode cX12_isSum 68 = .ok (.goto 4, 3) := by decide +kernel
theorem dX12_isSum_71 : decode cX12_isSum 71 = .ok (.iconst 0, 1) := by decide +kernel
theorem dX12_isSum_72 : decode cX12_isSum 72 = .ok (.istore 4, 2) := by decide +kernel
theorem dX12_isSum_74 : decode cX12_isSum 74 = .ok (.iinc 5 1, 3) := by decide +kernel
theorem dX12_isSum_77 : decode cX12_isSum 77 = .ok (.goto (-71), 3) := by decide +kernel
theorem dX12_isSum_80 : decode cX12_isSum 80 = .ok (.iload 4, 2) := by decide +kernel
theorem dX12_isSum_82 : decode cX12_isSum 82 = .ok (.ireturn, 1) := by decide +kernel
theorem dX12_tellsOf_0 : decode cX12_tellsOf 0 = .ok (.aload_n 0, 1) := by decide +kernel
theorem dX12_tellsOf_1 : decode cX12_tellsOf 1 = .ok (.iload_n 1, 1) := by decide +kernel
theorem dX12_tellsOf_2 : decode cX12_tellsOf 2 = .ok (.invokevirtual 276, 3) := by decide +kernel
theorem dX12_tellsOf_5 : decode cX12_tellsOf 5 = .ok (.aload_n 0, 1) := by decide +kernel
theorem dX12_tellsOf_6 : decode cX12_tellsOf 6 = .ok (.getfield 194, 3) := by decide +kernel
theorem dX12_tellsOf_9 : decode cX12_tellsOf 9 = .ok (.ifCond .eq 6, 3) := by decide +kernel
theorem dX12_tellsOf_12 : decode cX12_tellsOf 12 = .ok (.bipush 7, 2) := by decide +kernel
theorem dX12_tellsOf_14 : decode cX12_tellsOf 14 = .ok (.ireturn, 1) := by decide +kernel
theorem dX12_tellsOf_15 : decode cX12_tellsOf 15 = .ok (.aload_n 0, 1) := by decide +kernel
theorem dX12_tellsOf_16 : decode cX12_tellsOf 16 = .ok (.getfield 122, 3) := by decide +kernel
theorem dX12_tellsOf_19 : decode cX12_tellsOf 19 = .ok (.iconst 0, 1) := by decide +kernel
theorem dX12_tellsOf_20 : decode cX12_tellsOf 20 = .ok (.iload_n 2, 1) := by decide +kernel
theorem dX12_tellsOf_21 : decode cX12_tellsOf 21 = .ok (.i2l, 1) := by decide +kernel
theorem dX12_tellsOf_22 : decode cX12_tellsOf 22 = .ok (.lastore, 1) := by decide +kernel
theorem dX12_tellsOf_23 : decode cX12_tellsOf 23 = .ok (.aload_n 0, 1) := by decide +kernel
theorem dX12_tellsOf_24 : decode cX12_tellsOf 24 = .ok (.getfield 122, 3) := by decide +kernel
theorem dX12_tellsOf_27 : decode cX12_tellsOf 27 = .ok (.iconst 1, 1) := by decide +kernel
theorem dX12_tellsOf_28 : decode cX12_tellsOf 28 = .ok (.iload_n 3, 1) := by decide +kernel
theorem dX12_tellsOf_29 : decode cX12_tellsOf 29 = .ok (.i2l, 1) := by decide +kernel
theorem dX12_tellsOf_30 : decode cX12_tellsOf 30 = .ok (.lastore, 1) := by decide +kernel
theorem dX12_tellsOf_31 : decode cX12_tellsOf 31 = .ok (.aload_n 0, 1) := by decide +kernel
theorem dX12_tellsOf_32 : decode cX12_tellsOf 32 = .ok (.getfield 122, 3) := by decide +kernel
theorem dX12_tellsOf_35 : decode cX12_tellsOf 35 = .ok (.iconst 2, 1) := by decide +kernel
theorem dX12_tellsOf_36 : decode cX12_tellsOf 36 = .ok (.iload 4, 2) := by decide +kernel
theorem dX12_tellsOf_38 : decode cX12_tellsOf 38 = .ok (.i2l, 1) := by decide +kernel
theorem dX12_tellsOf_39 : decode cX12_tellsOf 39 = .ok (.lastore, 1) := by decide +kernel
theorem dX12_tellsOf_40 : decode cX12_tellsOf 40 = .ok (.aload_n 0, 1) := by decide +kernel
theorem dX12_tellsOf_41 : decode cX12_tellsOf 41 = .ok (.invokevirtual 279, 3) := by decide +kernel
theorem dX12_tellsOf_44 : decode cX12_tellsOf 44 = .ok (.aload_n 0, 1) := by decide +kernel
theorem dX12_tellsOf_45 : decode cX12_tellsOf 45 = .ok (.getfield 240, 3) := by decide +kernel
theorem dX12_tellsOf_48 : decode cX12_tellsOf 48 = .ok (.ifCond .eq 7, 3) := by decide +kernel
theorem dX12_tellsOf_51 : decode cX12_tellsOf 51 = .ok (.iconst 4, 1) := by decide +kernel
theorem dX12_tellsOf_52 : decode cX12_tellsOf 52 = .ok (.goto 4, 3) := by decide +kernel
theorem dX12_tellsOf_55 : decode cX12_tellsOf 55 = .ok (.iconst 0, 1) := by decide +kernel
theorem dX12_tellsOf_56 : decode cX12_tellsOf 56 = .ok (.istore 5, 2) := by decide +kernel
theorem dX12_tellsOf_58 : decode cX12_tellsOf 58 = .ok (.lconst 0, 1) := by decide +kernel
theorem dX12_tellsOf_59 : decode cX12_tellsOf 59 = .ok (.lstore 6, 2) := by decide +kernel
theorem dX12_tellsOf_61 : decode cX12_tellsOf 61 = .ok (.iconst 0, 1) := by decide +kernel
theorem dX12_tellsOf_62 : decode cX12_tellsOf 62 = .ok (.istore 8, 2) := by decide +kernel
theorem dX12_tellsOf_64 : decode cX12_tellsOf 64 = .ok (.iload 8, 2) := by decide +kernel
theorem dX12_tellsOf_66 : decode cX12_tellsOf 66 = .ok (.aload_n 0, 1) := by decide +kernel
theorem dX12_tellsOf_67 : decode cX12_tellsOf 67 = .ok (.getfield 7, 3) := by decide +kernel
theorem dX12_tellsOf_70 : decode cX12_tellsOf 70 = .ok (.if_icmp .ge 101, 3) := by decide +kernel
theorem dX12_tellsOf_73 : decode cX12_tellsOf 73 = .ok (.iload 8, 2) := by decide +kernel
theorem dX12_tellsOf_75 : decode cX12_tellsOf 75 = .ok (.ifCond .ne 7, 3) := by decide +kernel
theorem dX12_tellsOf_78 : decode cX12_tellsOf 78 = .ok (.iload_n 2, 1) := by decide +kernel
theorem dX12_tellsOf_79 : decode cX12_tellsOf 79 = .ok (.goto 15, 3) := by decide +kernel
theorem dX12_tellsOf_82 : decode cX12_tellsOf 82 = .ok (.iload 8, 2) := by decide +kernel
theorem dX12_tellsOf_84 : decode cX12_tellsOf 84 = .ok (.iconst 1, 1) := by decide +kernel
theorem dX12_tellsOf_85 : decode cX12_tellsOf 85 = .ok (.if_icmp .ne 7, 3) := by decide +kernel
theorem dX12_tellsOf_88 : decode cX12_tellsOf 88 = .ok (.iload_n 3, 1) := by decide +kernel
theorem dX12_tellsOf_89 : decode cX12_tellsOf 89 = .ok (.goto 5, 3) := by decide +kernel
theorem dX12_tellsOf_92 : decode cX12_tellsOf 92 = .ok (.iload 4, 2) := by decide +kernel
theorem dX12_tellsOf_94 : decode cX12_tellsOf 94 = .ok (.istore 9, 2) := by decide +kernel
theorem dX12_tellsOf_96 : decode cX12_tellsOf 96 = .ok (.iconst 3, 1) := by decide +kernel
theorem dX12_tellsOf_97 : decode cX12_tellsOf 97 = .ok (.iload_n 1, 1) := by decide +kernel
theorem dX12_tellsOf_98 : decode cX12_tellsOf 98 = .ok (.imul, 1) := by decide +kernel
theorem dX12_tellsOf_99 : decode cX12_tellsOf 99 = .ok (.iload 8, 2) := by decide +kernel
theorem dX12_tellsOf_101 : decode cX12_tellsOf 101 = .ok (.iadd, 1) := by decide +kernel
theorem dX12_tellsOf_102 : decode cX12_tellsOf 102 = .ok (.iconst 4, 1) := by decide +kernel
theorem dX12_tellsOf_103 : decode cX12_tellsOf 103 = .ok (.imul, 1) := by decide +kernel
theorem dX12_tellsOf_104 : decode cX12_tellsOf 104 = .ok (.istore 10, 2) := by decide +kernel
theorem dX12_tellsOf_106 : decode cX12_tellsOf 106 = .ok (.iconst 0, 1) := by decide +kernel
theorem dX12_tellsOf_107 : decode cX12_tellsOf 107 = .ok (.istore 11, 2) := by decide +kernel
theorem dX12_tellsOf_109 : decode cX12_tellsOf 109 = .ok (.iload 11, 2) := by decide +kernel
theorem dX12_tellsOf_111 : decode cX12_tellsOf 111 = .ok (.iconst 3, 1) := by decide +kernel
theorem dX12_tellsOf_112 : decode cX12_tellsOf 112 = .ok (.if_icmp .ge 34, 3) := by decide +kernel
theorem dX12_tellsOf_115 : decode cX12_tellsOf 115 = .ok (.aload_n 0, 1) := by decide +kernel
theorem dX12_tellsOf_116 : decode cX12_tellsOf 116 = .ok (.getfield 122, 3) := by decide +kernel
theorem dX12_tellsOf_119 : decode cX12_tellsOf 119 = .ok (.iload 11, 2) := by decide +kernel
theorem dX12_tellsOf_121 : decode cX12_tellsOf 121 = .ok (.dup2, 1) := by decide +kernel
theorem dX12_tellsOf_122 : decode cX12_tellsOf 122 = .ok (.laload, 1) := by decide +kernel
theorem dX12_tellsOf_123 : decode cX12_tellsOf 123 = .ok (.iload 9, 2) := by decide +kernel
theorem dX12_tellsOf_125 : decode cX12_tellsOf 125 = .ok (.i2l, 1) := by decide +kernel
theorem dX12_tellsOf_126 : decode cX12_tellsOf 126 = .ok (.aload_n 0, 1) := by decide +kernel
theorem dX12_tellsOf_127 : decode cX12_tellsOf 127 = .ok (.getfield 20, 3) := by decide +kernel
theorem dX12_tellsOf_130 : decode cX12_tellsOf 130 = .ok (.iload 10, 2) := by decide +kernel
theorem dX12_tellsOf_132 : decode cX12_tellsOf 132 = .ok (.iload 11, 2) := by decide +kernel
theorem dX12_tellsOf_134 : decode cX12_tellsOf 134 = .ok (.iadd, 1) := by decide +kernel
theorem dX12_tellsOf_135 : decode cX12_tellsOf 135 = .ok (.iaload, 1) := by decide +kernel
theorem dX12_tellsOf_136 : decode cX12_tellsOf 136 = .ok (.i2l, 1) := by decide +kernel
theorem dX12_tellsOf_137 : decode cX12_tellsOf 137 = .ok (.lmul, 1) := by decide +kernel
theorem dX12_tellsOf_138 : decode cX12_tellsOf 138 = .ok (.lsub, 1) := by decide +kernel
theorem dX12_tellsOf_139 : decode cX12_tellsOf 139 = .ok (.lastore, 1) := by decide +kernel
theorem dX12_tellsOf_140 : decode cX12_tellsOf 140 = .ok (.iinc 11 1, 3) := by decide +kernel
theorem dX12_tellsOf_143 : decode cX12_tellsOf 143 = .ok (.goto (-34), 3) := by decide +kernel
theorem dX12_tellsOf_146 : decode cX12_tellsOf 146 = .ok (.lload 6, 2) := by decide +kernel
theorem dX12_tellsOf_148 : decode cX12_tellsOf 148 = .ok (.iload 9, 2) := by decide +kernel
theorem dX12_tellsOf_150 : decode cX12_tellsOf 150 = .ok (.i2l, 1) := by decide +kernel
theorem dX12_tellsOf_151 : decode cX12_tellsOf 151 = .ok (.aload_n 0, 1) := by decide +kernel
theorem dX12_tellsOf_152 : decode cX12_tellsOf 152 = .ok (.getfield 20, 3) := by decide +kernel
theorem dX12_tellsOf_155 : decode cX12_tellsOf 155 = .ok (.iload 10, 2) := by decide +kernel
theorem dX12_tellsOf_157 : decode cX12_tellsOf 157 = .ok (.iconst 3, 1) := by decide +kernel
theorem dX12_tellsOf_158 : decode cX12_tellsOf 158 = .ok (.iadd, 1) := by decide +kernel
theorem dX12_tellsOf_159 : decode cX12_tellsOf 159 = .ok (.iaload, 1) := by decide +kernel
theorem dX12_tellsOf_160 : decode cX12_tellsOf 160 = .ok (.i2l, 1) := by decide +kernel
theorem dX12_tellsOf_161 : decode cX12_tellsOf 161 = .ok (.lmul, 1) := by decide +kernel
theorem dX12_tellsOf_162 : decode cX12_tellsOf 162 = .ok (.ladd, 1) := by decide +kernel
theorem dX12_tellsOf_163 : decode cX12_tellsOf 163 = .ok (.lstore 6, 2) := by decide +kernel
theorem dX12_tellsOf_165 : decode cX12_tellsOf 165 = .ok (.iinc 8 1, 3) := by decide +kernel
theorem dX12_tellsOf_168 : decode cX12_tellsOf 168 = .ok (.goto (-104), 3) := by decide +kernel
theorem dX12_tellsOf_171 : decode cX12_tellsOf 171 = .ok (.aload_n 0, 1) := by decide +kernel
theorem dX12_tellsOf_172 : decode cX12_tellsOf 172 = .ok (.invokevirtual 279, 3) := by decide +kernel
theorem dX12_tellsOf_175 : decode cX12_tellsOf 175 = .ok (.iload 5, 2) := by decide +kernel
theorem dX12_tellsOf_177 : decode cX12_tellsOf 177 = .ok (.aload_n 0, 1) := by decide +kernel
theorem dX12_tellsOf_178 : decode cX12_tellsOf 178 = .ok (.lconst 1, 1) := by decide +kernel
theorem dX12_tellsOf_179 : decode cX12_tellsOf 179 = .ok (.lload 6, 2) := by decide +kernel
theorem dX12_tellsOf_181 : decode cX12_tellsOf 181 = .ok (.ladd, 1) := by decide +kernel
theorem dX12_tellsOf_182 : decode cX12_tellsOf 182 = .ok (.invokevirtual 282, 3) := by decide +kernel
theorem dX12_tellsOf_185 : decode cX12_tellsOf 185 = .ok (.ifCond .eq 7, 3) := by decide +kernel
theorem dX12_tellsOf_188 : decode cX12_tellsOf 188 = .ok (.iconst 2, 1) := by decide +kernel
theorem dX12_tellsOf_189 : decode cX12_tellsOf 189 = .ok (.goto 4, 3) := by decide +kernel
theorem dX12_tellsOf_192 : decode cX12_tellsOf 192 = .ok (.iconst 0, 1) := by decide +kernel
theorem dX12_tellsOf_193 : decode cX12_tellsOf 193 = .ok (.iadd, 1) := by decide +kernel
theorem dX12_tellsOf_194 : decode cX12_tellsOf 194 = .ok (.istore 5, 2) := by decide +kernel
theorem dX12_tellsOf_196 : decode cX12_tellsOf 196 = .ok (.iload 5, 2) := by decide +kernel
theorem dX12_tellsOf_198 : decode cX12_tellsOf 198 = .ok (.aload_n 0, 1) := by decide +kernel
theorem dX12_tellsOf_199 : decode cX12_tellsOf 199 = .ok (.lload 6, 2) := by decide +kernel
theorem dX12_tellsOf_201 : decode cX12_tellsOf 201 = .ok (.invokevirtual 282, 3) := by decide +kernel
theorem dX12_tellsOf_204 : decode cX12_tellsOf 204 = .ok (.ifCond .eq 7, 3) := by decide +kernel
theorem dX12_tellsOf_207 : decode cX12_tellsOf 207 = .ok (.iconst 1, 1) := by decide +kernel
theorem dX12_tellsOf_208 : decode cX12_tellsOf 208 = .ok (.goto 4, 3) := by decide +kernel
theorem dX12_tellsOf_211 : decode cX12_tellsOf 211 = .ok (.iconst 0, 1) := by decide +kernel
theorem dX12_tellsOf_212 : decode cX12_tellsOf 212 = .ok (.iadd, 1) := by decide +kernel
theorem dX12_tellsOf_213 : decode cX12_tellsOf 213 = .ok (.ireturn, 1) := by decide +kernel
theorem dX12_doesRank_0 : decode cX12_doesRank 0 = .ok (.iconst 1, 1) := by decide +kernel
theorem dX12_doesRank_1 : decode cX12_doesRank 1 = .ok (.istore 4, 2) := by decide +kernel
theorem dX12_doesRank_3 : decode cX12_doesRank 3 = .ok (.iconst 0, 1) := by decide +kernel
theorem dX12_doesRank_4 : decode cX12_doesRank 4 = .ok (.istore 5, 2) := by decide +kernel
theorem dX12_doesRank_6 : decode cX12_doesRank 6 = .ok (.iload 5, 2) := by decide +kernel
theorem dX12_doesRank_8 : decode cX12_doesRank 8 = .ok (.aload_n 0, 1) := by decide +kernel
theorem dX12_doesRank_9 : decode cX12_doesRank 9 = .ok (.getfield 135, 3) := by decide +kernel
theorem dX12_doesRank_12 : decode cX12_doesRank 12 = .ok (.if_icmp .ge 35, 3) := by decide +kernel
theorem dX12_doesRank_15 : decode cX12_doesRank 15 = .ok (.iload 4, 2) := by decide +kernel
theorem dX12_doesRank_17 : decode cX12_doesRank 17 = .ok (.ifCond .eq 30, 3) := by decide +kernel
theorem dX12_doesRank_20 : decode cX12_doesRank 20 = .ok (.aload_n 0, 1) := by decide +kernel
theorem dX12_doesRank_21 : decode cX12_doesRank 21 = .ok (.iload 5, 2) := by decide +kernel
theorem dX12_doesRank_23 : decode cX12_doesRank 23 = .ok (.iload_n 1, 1) := by decide +kernel
theorem dX12_doesRank_24 : decode cX12_doesRank 24 = .ok (.iload_n 2, 1) := by decide +kernel
theorem dX12_doesRank_25 : decode cX12_doesRank 25 = .ok (.iload_n 3, 1) := by decide +kernel
theorem dX12_doesRank_26 : decode cX12_doesRank 26 = .ok (.invokevirtual 285, 3) := by decide +kernel
theorem dX12_doesRank_29 : decode cX12_doesRank 29 = .ok (.bipush 6, 2) := by decide +kernel
theorem dX12_doesRank_31 : decode cX12_doesRank 31 = .ok (.if_icmp .lt 7, 3) := by decide +kernel
theorem dX12_doesRank_34 : decode cX12_doesRank 34 = .ok (.iconst 1, 1) := by decide +kernel
theorem dX12_doesRank_35 : decode cX12_doesRank 35 = .ok (.goto 4, 3) := by decide +kernel
theorem dX12_doesRank_38 : decode cX12_doesRank 38 = .ok (.iconst 0, 1) := by decide +kernel
theorem dX12_doesRank_39 : decode cX12_doesRank 39 = .ok (.istore 4, 2) := by decide +kernel
theorem dX12_doesRank_41 : decode cX12_doesRank 41 = .ok (.iinc 5 1, 3) := by decide +kernel
theorem dX12_doesRank_44 : decode cX12_doesRank 44 = .ok (.goto (-38), 3) := by decide +kernel
theorem dX12_doesRank_47 : decode cX12_doesRank 47 = .ok (.iload 4, 2) := by decide +kernel
theorem dX12_doesRank_49 : decode cX12_doesRank 49 = .ok (.ireturn, 1) := by decide +kernel
theorem dX12_ranks_0 : decode cX12_ranks 0 = .ok (.aload_n 0, 1) := by decide +kernel
theorem dX12_ranks_1 : decode cX12_ranks 1 = .ok (.iload_n 1, 1) := by decide +kernel
theorem dX12_ranks_2 : decode cX12_ranks 2 = .ok (.iload_n 2, 1) := by decide +kernel
theorem dX12_ranks_3 : decode cX12_ranks 3 = .ok (.iload_n 3, 1) := by decide +kernel
theorem dX12_ranks_4 : decode cX12_ranks 4 = .ok (.invokevirtual 289, 3) := by decide +kernel
theorem dX12_ranks_7 : decode cX12_ranks 7 = .ok (.ifCond .eq 21, 3) := by decide +kernel
theorem dX12_ranks_10 : decode cX12_ranks 10 = .ok (.aload_n 0, 1) := by decide +kernel
theorem dX12_ranks_11 : decode cX12_ranks 11 = .ok (.iload_n 1, 1) := by decide +kernel
theorem dX12_ranks_12 : decode cX12_ranks 12 = .ok (.iload_n 2, 1) := by decide +kernel
theorem dX12_ranks_13 : decode cX12_ranks 13 = .ok (.iload_n 3, 1) := by decide +kernel
theorem dX12_ranks_14 : decode cX12_ranks 14 = .ok (.invokevirtual 292, 3) := by decide +kernel
theorem dX12_ranks_17 : decode cX12_ranks 17 = .ok (.ifCond .eq 7, 3) := by decide +kernel
theorem dX12_ranks_20 : decode cX12_ranks 20 = .ok (.iconst 1, 1) := by decide +kernel
theorem dX12_ranks_21 : decode cX12_ranks 21 = .ok (.goto 8, 3) := by decide +kernel
theorem dX12_ranks_24 : decode cX12_ranks 24 = .ok (.iconst 0, 1) := by decide +kernel
theorem dX12_ranks_25 : decode cX12_ranks 25 = .ok (.goto 4, 3) := by decide +kernel
theorem dX12_ranks_28 : decode cX12_ranks 28 = .ok (.iconst (-1), 1) := by decide +kernel
theorem dX12_ranks_29 : decode cX12_ranks 29 = .ok (.ireturn, 1) := by decide +kernel
theorem dX12_tells_0 : decode cX12_tells 0 = .ok (.aload_n 0, 1) := by decide +kernel
theorem dX12_tells_1 : decode cX12_tells 1 = .ok (.iload_n 1, 1) := by decide +kernel
theorem dX12_tells_2 : decode cX12_tells 2 = .ok (.invokevirtual 142, 3) := by decide +kernel
theorem dX12_tells_5 : decode cX12_tells 5 = .ok (.ifCond .eq 26, 3) := by decide +kernel
theorem dX12_tells_8 : decode cX12_tells 8 = .ok (.aload_n 0, 1) := by decide +kernel
theorem dX12_tells_9 : decode cX12_tells 9 = .ok (.iload_n 2, 1) := by decide +kernel
theorem dX12_tells_10 : decode cX12_tells 10 = .ok (.iload_n 3, 1) := by decide +kernel
theorem dX12_tells_11 : decode cX12_tells 11 = .ok (.iload 4, 2) := by decide +kernel
theorem dX12_tells_13 : decode cX12_tells 13 = .ok (.invokevirtual 289, 3) := by decide +kernel
theorem dX12_tells_16 : decode cX12_tells 16 = .ok (.ifCond .eq 15, 3) := by decide +kernel
theorem dX12_tells_19 : decode cX12_tells 19 = .ok (.aload_n 0, 1) := by decide +kernel
theorem dX12_tells_20 : decode cX12_tells 20 = .ok (.iload_n 1, 1) := by decide +kernel
theorem dX12_tells_21 : decode cX12_tells 21 = .ok (.iload_n 2, 1) := by decide +kernel
theorem dX12_tells_22 : decode cX12_tells 22 = .ok (.iload_n 3, 1) := by decide +kernel
theorem dX12_tells_23 : decode cX12_tells 23 = .ok (.iload 4, 2) := by decide +kernel
theorem dX12_tells_25 : decode cX12_tells 25 = .ok (.invokevirtual 285, 3) := by decide +kernel
theorem dX12_tells_28 : decode cX12_tells 28 = .ok (.goto 4, 3) := by decide +kernel
theorem dX12_tells_31 : decode cX12_tells 31 = .ok (.iconst (-1), 1) := by decide +kernel
theorem dX12_tells_32 : decode cX12_tells 32 = .ok (.ireturn, 1) := by decide +kernel
theorem dX12_floorOf_0 : decode cX12_floorOf 0 = .ok (.lconst 0, 1) := by decide +kernel
theorem dX12_floorOf_1 : decode cX12_floorOf 1 = .ok (.lstore 4, 2) := by decide +kernel
theorem dX12_floorOf_3 : decode cX12_floorOf 3 = .ok (.iconst 0, 1) := by decide +kernel
theorem dX12_floorOf_4 : decode cX12_floorOf 4 = .ok (.istore 6, 2) := by decide +kernel
theorem dX12_floorOf_6 : decode cX12_floorOf 6 = .ok (.iconst 0, 1) := by decide +kernel
theorem dX12_floorOf_7 : decode cX12_floorOf 7 = .ok (.istore 7, 2) := by decide +kernel
theorem dX12_floorOf_9 : decode cX12_floorOf 9 = .ok (.iload 7, 2) := by decide +kernel
theorem dX12_floorOf_11 : decode cX12_floorOf 11 = .ok (.aload_n 0, 1) := by decide +kernel
theorem dX12_floorOf_12 : decode cX12_floorOf 12 = .ok (.getfield 135, 3) := by decide +kernel
theorem dX12_floorOf_15 : decode cX12_floorOf 15 = .ok (.if_icmp .ge 100, 3) := by decide +kernel
theorem dX12_floorOf_18 : decode cX12_floorOf 18 = .ok (.aload_n 0, 1) := by decide +kernel
theorem dX12_floorOf_19 : decode cX12_floorOf 19 = .ok (.iload 7, 2) := by decide +kernel
theorem dX12_floorOf_21 : decode cX12_floorOf 21 = .ok (.invokevirtual 276, 3) := by decide +kernel
theorem dX12_floorOf_24 : decode cX12_floorOf 24 = .ok (.aload_n 0, 1) := by decide +kernel
theorem dX12_floorOf_25 : decode cX12_floorOf 25 = .ok (.getfield 194, 3) := by decide +kernel
theorem dX12_floorOf_28 : decode cX12_floorOf 28 = .ok (.ifCond .eq 6, 3) := by decide +kernel
theorem dX12_floorOf_31 : decode cX12_floorOf 31 = .ok (.goto 78, 3) := by decide +kernel
theorem dX12_floorOf_34 : decode cX12_floorOf 34 = .ok (.aload_n 0, 1) := by decide +kernel
theorem dX12_floorOf_35 : decode cX12_floorOf 35 = .ok (.getfield 122, 3) := by decide +kernel
theorem dX12_floorOf_38 : decode cX12_floorOf 38 = .ok (.iconst 0, 1) := by decide +kernel
theorem dX12_floorOf_39 : decode cX12_floorOf 39 = .ok (.iload_n 1, 1) := by decide +kernel
theorem dX12_floorOf_40 : decode cX12_floorOf 40 = .ok (.i2l, 1) := by decide +kernel
theorem dX12_floorOf_41 : decode cX12_floorOf 41 = .ok (.lastore, 1) := by decide +kernel
theorem dX12_floorOf_42 : decode cX12_floorOf 42 = .ok (.aload_n 0, 1) := by decide +kernel
theorem dX12_floorOf_43 : decode cX12_floorOf 43 = .ok (.getfield 122, 3) := by decide +kernel
theorem dX12_floorOf_46 : decode cX12_floorOf 46 = .ok (.iconst 1, 1) := by decide +kernel
theorem dX12_floorOf_47 : decode cX12_floorOf 47 = .ok (.iload_n 2, 1) := by decide +kernel
theorem dX12_floorOf_48 : decode cX12_floorOf 48 = .ok (.i2l, 1) := by decide +kernel
theorem dX12_floorOf_49 : decode cX12_floorOf 49 = .ok (.lastore, 1) := by decide +kernel
theorem dX12_floorOf_50 : decode cX12_floorOf 50 = .ok (.aload_n 0, 1) := by decide +kernel
theorem dX12_floorOf_51 : decode cX12_floorOf 51 = .ok (.getfield 122, 3) := by decide +kernel
theorem dX12_floorOf_54 : decode cX12_floorOf 54 = .ok (.iconst 2, 1) := by decide +kernel
theorem dX12_floorOf_55 : decode cX12_floorOf 55 = .ok (.iload_n 3, 1) := by decide +kernel
theorem dX12_floorOf_56 : decode cX12_floorOf 56 = .ok (.i2l, 1) := by decide +kernel
theorem dX12_floorOf_57 : decode cX12_floorOf 57 = .ok (.lastore, 1) := by decide +kernel
theorem dX12_floorOf_58 : decode cX12_floorOf 58 = .ok (.aload_n 0, 1) := by decide +kernel
theorem dX12_floorOf_59 : decode cX12_floorOf 59 = .ok (.invokevirtual 279, 3) := by decide +kernel
theorem dX12_floorOf_62 : decode cX12_floorOf 62 = .ok (.aload_n 0, 1) := by decide +kernel
theorem dX12_floorOf_63 : decode cX12_floorOf 63 = .ok (.getfield 243, 3) := by decide +kernel
theorem dX12_floorOf_66 : decode cX12_floorOf 66 = .ok (.ldc2_w 231, 3) := by decide +kernel
theorem dX12_floorOf_69 : decode cX12_floorOf 69 = .ok (.lmul, 1) := by decide +kernel
theorem dX12_floorOf_70 : decode cX12_floorOf 70 = .ok (.aload_n 0, 1) := by decide +kernel
theorem dX12_floorOf_71 : decode cX12_floorOf 71 = .ok (.getfield 247, 3) := by decide +kernel
theorem dX12_floorOf_74 : decode cX12_floorOf 74 = .ok (.ladd, 1) := by decide +kernel
theorem dX12_floorOf_75 : decode cX12_floorOf 75 = .ok (.aload_n 0, 1) := by decide +kernel
theorem dX12_floorOf_76 : decode cX12_floorOf 76 = .ok (.getfield 250, 3) := by decide +kernel
theorem dX12_floorOf_79 : decode cX12_floorOf 79 = .ok (.invokestatic 233, 3) := by decide +kernel
theorem dX12_floorOf_82 : decode cX12_floorOf 82 = .ok (.lstore 8, 2) := by decide +kernel
theorem dX12_floorOf_84 : decode cX12_floorOf 84 = .ok (.iload 6, 2) := by decide +kernel
theorem dX12_floorOf_86 : decode cX12_floorOf 86 = .ok (.ifCond .eq 11, 3) := by decide +kernel
theorem dX12_floorOf_89 : decode cX12_floorOf 89 = .ok (.lload 8, 2) := by decide +kernel
theorem dX12_floorOf_91 : decode cX12_floorOf 91 = .ok (.lload 4, 2) := by decide +kernel
theorem dX12_floorOf_93 : decode cX12_floorOf 93 = .ok (.lcmp, 1) := by decide +kernel
theorem dX12_floorOf_94 : decode cX12_floorOf 94 = .ok (.ifCond .ge 8, 3) := by decide +kernel
theorem dX12_floorOf_97 : decode cX12_floorOf 97 = .ok (.lload 8, 2) := by decide +kernel
theorem dX12_floorOf_99 : decode cX12_floorOf 99 = .ok (.goto 5, 3) := by decide +kernel
theorem dX12_floorOf_102 : decode cX12_floorOf 102 = .ok (.lload 4, 2) := by decide +kernel
theorem dX12_floorOf_104 : decode cX12_floorOf 104 = .ok (.lstore 4, 2) := by decide +kernel
theorem dX12_floorOf_106 : decode cX12_floorOf 106 = .ok (.iconst 1, 1) := by decide +kernel
theorem dX12_floorOf_107 : decode cX12_floorOf 107 = .ok (.istore 6, 2) := by decide +kernel
theorem dX12_floorOf_109 : decode cX12_floorOf 109 = .ok (.iinc 7 1, 3) := by decide +kernel
theorem dX12_floorOf_112 : decode cX12_floorOf 112 = .ok (.goto (-103), 3) := by decide +kernel
theorem dX12_floorOf_115 : decode cX12_floorOf 115 = .ok (.lload 4, 2) := by decide +kernel
theorem dX12_floorOf_117 : decode cX12_floorOf 117 = .ok (.lreturn, 1) := by decide +kernel
theorem dX12_floor_0 : decode cX12_floor 0 = .ok (.aload_n 0, 1) := by decide +kernel
theorem dX12_floor_1 : decode cX12_floor 1 = .ok (.iload_n 1, 1) := by decide +kernel
theorem dX12_floor_2 : decode cX12_floor 2 = .ok (.iload_n 2, 1) := by decide +kernel
theorem dX12_floor_3 : decode cX12_floor 3 = .ok (.iload_n 3, 1) := by decide +kernel
theorem dX12_floor_4 : decode cX12_floor 4 = .ok (.invokevirtual 289, 3) := by decide +kernel
theorem dX12_floor_7 : decode cX12_floor 7 = .ok (.ifCond .eq 23, 3) := by decide +kernel
theorem dX12_floor_10 : decode cX12_floor 10 = .ok (.aload_n 0, 1) := by decide +kernel
theorem dX12_floor_11 : decode cX12_floor 11 = .ok (.iload_n 1, 1) := by decide +kernel
theorem dX12_floor_12 : decode cX12_floor 12 = .ok (.iload_n 2, 1) := by decide +kernel
theorem dX12_floor_13 : decode cX12_floor 13 = .ok (.iload_n 3, 1) := by decide +kernel
theorem dX12_floor_14 : decode cX12_floor 14 = .ok (.invokevirtual 292, 3) := by decide +kernel
theorem dX12_floor_17 : decode cX12_floor 17 = .ok (.ifCond .eq 13, 3) := by decide +kernel
theorem dX12_floor_20 : decode cX12_floor 20 = .ok (.aload_n 0, 1) := by decide +kernel
theorem dX12_floor_21 : decode cX12_floor 21 = .ok (.iload_n 1, 1) := by decide +kernel
theorem dX12_floor_22 : decode cX12_floor 22 = .ok (.iload_n 2, 1) := by decide +kernel
theorem dX12_floor_23 : decode cX12_floor 23 = .ok (.iload_n 3, 1) := by decide +kernel
theorem dX12_floor_24 : decode cX12_floor 24 = .ok (.invokevirtual 295, 3) := by decide +kernel
theorem dX12_floor_27 : decode cX12_floor 27 = .ok (.goto 6, 3) := by decide +kernel
theorem dX12_floor_30 : decode cX12_floor 30 = .ok (.ldc2_w 298, 3) := by decide +kernel
theorem dX12_floor_33 : decode cX12_floor 33 = .ok (.lreturn, 1) := by decide +kernel
theorem dX12_step_0 : decode cX12_step 0 = .ok (.aload_n 0, 1) := by decide +kernel
theorem dX12_step_1 : decode cX12_step 1 = .ok (.getfield 7, 3) := by decide +kernel
theorem dX12_step_4 : decode cX12_step 4 = .ok (.iconst 1, 1) := by decide +kernel
theorem dX12_step_5 : decode cX12_step 5 = .ok (.isub, 1) := by decide +kernel
theorem dX12_step_6 : decode cX12_step 6 = .ok (.istore_n 2, 1) := by decide +kernel
theorem dX12_step_7 : decode cX12_step 7 = .ok (.iload_n 2, 1) := by decide +kernel
theorem dX12_step_8 : decode cX12_step 8 = .ok (.ifCond .lt 39, 3) := by decide +kernel
theorem dX12_step_11 : decode cX12_step 11 = .ok (.aload_n 0, 1) := by decide +kernel
theorem dX12_step_12 : decode cX12_step 12 = .ok (.getfield 125, 3) := by decide +kernel
theorem dX12_step_15 : decode cX12_step 15 = .ok (.iload_n 2, 1) := by decide +kernel
theorem dX12_step_16 : decode cX12_step 16 = .ok (.iaload, 1) := by decide +kernel
theorem dX12_step_17 : decode cX12_step 17 = .ok (.iload_n 1, 1) := by decide +kernel
theorem dX12_step_18 : decode cX12_step 18 = .ok (.if_icmp .ge 15, 3) := by decide +kernel
theorem dX12_step_21 : decode cX12_step 21 = .ok (.aload_n 0, 1) := by decide +kernel
theorem dX12_step_22 : decode cX12_step 22 = .ok (.getfield 125, 3) := by decide +kernel
theorem dX12_step_25 : decode cX12_step 25 = .ok (.iload_n 2, 1) := by decide +kernel
theorem dX12_step_26 : decode cX12_step 26 = .ok (.dup2, 1) := by decide +kernel
theorem dX12_step_27 : decode cX12_step 27 = .ok (.iaload, 1) := by decide +kernel
theorem dX12_step_28 : decode cX12_step 28 = .ok (.iconst 1, 1) := by decide +kernel
theorem dX12_step_29 : decode cX12_step 29 = .ok (.iadd, 1) := by decide +kernel
theorem dX12_step_30 : decode cX12_step 30 = .ok (.iastore, 1) := by decide +kernel
theorem dX12_step_31 : decode cX12_step 31 = .ok (.iconst 1, 1) := by decide +kernel
theorem dX12_step_32 : decode cX12_step 32 = .ok (.ireturn, 1) := by decide +kernel
theorem dX12_step_33 : decode cX12_step 33 = .ok (.aload_n 0, 1) := by decide +kernel
theorem dX12_step_34 : decode cX12_step 34 = .ok (.getfield 125, 3) := by decide +kernel
theorem dX12_step_37 : decode cX12_step 37 = .ok (.iload_n 2, 1) := by decide +kernel
theorem dX12_step_38 : decode cX12_step 38 = .ok (.iload_n 1, 1) := by decide +kernel
theorem dX12_step_39 : decode cX12_step 39 = .ok (.ineg, 1) := by decide +kernel
theorem dX12_step_40 : decode cX12_step 40 = .ok (.iastore, 1) := by decide +kernel
theorem dX12_step_41 : decode cX12_step 41 = .ok (.iinc 2 (-1), 3) := by decide +kernel
theorem dX12_step_44 : decode cX12_step 44 = .ok (.goto (-37), 3) := by decide +kernel
theorem dX12_step_47 : decode cX12_step 47 = .ok (.iconst 0, 1) := by decide +kernel
theorem dX12_step_48 : decode cX12_step 48 = .ok (.ireturn, 1) := by decide +kernel
theorem dX12_nextSum_0 : decode cX12_nextSum 0 = .ok (.aload_n 0, 1) := by decide +kernel
theorem dX12_nextSum_1 : decode cX12_nextSum 1 = .ok (.getfield 125, 3) := by decide +kernel
theorem dX12_nextSum_4 : decode cX12_nextSum 4 = .ok (.iconst 0, 1) := by decide +kernel
theorem dX12_nextSum_5 : decode cX12_nextSum 5 = .ok (.iaload, 1) := by decide +kernel
theorem dX12_nextSum_6 : decode cX12_nextSum 6 = .ok (.invokestatic 300, 3) := by decide +kernel
theorem dX12_nextSum_9 : decode cX12_nextSum 9 = .ok (.aload_n 0, 1) := by decide +kernel
theorem dX12_nextSum_10 : decode cX12_nextSum 10 = .ok (.getfield 125, 3) := by decide +kernel
theorem dX12_nextSum_13 : decode cX12_nextSum 13 = .ok (.iconst 1, 1) := by decide +kernel
theorem dX12_nextSum_14 : decode cX12_nextSum 14 = .ok (.iaload, 1) := by decide +kernel
theorem dX12_nextSum_15 : decode cX12_nextSum 15 = .ok (.invokestatic 300, 3) := by decide +kernel
theorem dX12_nextSum_18 : decode cX12_nextSum 18 = .ok (.iadd, 1) := by decide +kernel
theorem dX12_nextSum_19 : decode cX12_nextSum 19 = .ok (.aload_n 0, 1) := by decide +kernel
theorem dX12_nextSum_20 : decode cX12_nextSum 20 = .ok (.getfield 125, 3) := by decide +kernel
theorem dX12_nextSum_23 : decode cX12_nextSum 23 = .ok (.iconst 2, 1) := by decide +kernel
theorem dX12_nextSum_24 : decode cX12_nextSum 24 = .ok (.iaload, 1) := by decide +kernel
theorem dX12_nextSum_25 : decode cX12_nextSum 25 = .ok (.invokestatic 300, 3) := by decide +kernel
theorem dX12_nextSum_28 : decode cX12_nextSum 28 = .ok (.iadd, 1) := by decide +kernel
theorem dX12_nextSum_29 : decode cX12_nextSum 29 = .ok (.istore_n 2, 1) := by decide +kernel
theorem dX12_nextSum_30 : decode cX12_nextSum 30 = .ok (.iload_n 2, 1) := by decide +kernel
theorem dX12_nextSum_31 : decode cX12_nextSum 31 = .ok (.iconst 3, 1) := by decide +kernel
theorem dX12_nextSum_32 : decode cX12_nextSum 32 = .ok (.iload_n 1, 1) := by decide +kernel
theorem dX12_nextSum_33 : decode cX12_nextSum 33 = .ok (.imul, 1) := by decide +kernel
theorem dX12_nextSum_34 : decode cX12_nextSum 34 = .ok (.if_icmp .gt 117, 3) := by decide +kernel
theorem dX12_nextSum_37 : decode cX12_nextSum 37 = .ok (.aload_n 0, 1) := by decide +kernel
theorem dX12_nextSum_38 : decode cX12_nextSum 38 = .ok (.iload_n 1, 1) := by decide +kernel
theorem dX12_nextSum_39 : decode cX12_nextSum 39 = .ok (.invokevirtual 303, 3) := by decide +kernel
theorem dX12_nextSum_42 : decode cX12_nextSum 42 = .ok (.ifCond .eq 38, 3) := by decide +kernel
theorem dX12_nextSum_45 : decode cX12_nextSum 45 = .ok (.aload_n 0, 1) := by decide +kernel
theorem dX12_nextSum_46 : decode cX12_nextSum 46 = .ok (.getfield 125, 3) := by decide +kernel
theorem dX12_nextSum_49 : decode cX12_nextSum 49 = .ok (.iconst 0, 1) := by decide +kernel
theorem dX12_nextSum_50 : decode cX12_nextSum 50 = .ok (.iaload, 1) := by decide +kernel
theorem dX12_nextSum_51 : decode cX12_nextSum 51 = .ok (.invokestatic 300, 3) := by decide +kernel
theorem dX12_nextSum_54 : decode cX12_nextSum 54 = .ok (.aload_n 0, 1) := by decide +kernel
theorem dX12_nextSum_55 : decode cX12_nextSum 55 = .ok (.getfield 125, 3) := by decide +kernel
theorem dX12_nextSum_58 : decode cX12_nextSum 58 = .ok (.iconst 1, 1) := by decide +kernel
theorem dX12_nextSum_59 : decode cX12_nextSum 59 = .ok (.iaload, 1) := by decide +kernel
theorem dX12_nextSum_60 : decode cX12_nextSum 60 = .ok (.invokestatic 300, 3) := by decide +kernel
theorem dX12_nextSum_63 : decode cX12_nextSum 63 = .ok (.iadd, 1) := by decide +kernel
theorem dX12_nextSum_64 : decode cX12_nextSum 64 = .ok (.aload_n 0, 1) := by decide +kernel
theorem dX12_nextSum_65 : decode cX12_nextSum 65 = .ok (.getfield 125, 3) := by decide +kernel
theorem dX12_nextSum_68 : decode cX12_nextSum 68 = .ok (.iconst 2, 1) := by decide +kernel
theorem dX12_nextSum_69 : decode cX12_nextSum 69 = .ok (.iaload, 1) := by decide +kernel
theorem dX12_nextSum_70 : decode cX12_nextSum 70 = .ok (.invokestatic 300, 3) := by decide +kernel
theorem dX12_nextSum_73 : decode cX12_nextSum 73 = .ok (.iadd, 1) := by decide +kernel
theorem dX12_nextSum_74 : decode cX12_nextSum 74 = .ok (.iload_n 2, 1) := by decide +kernel
theorem dX12_nextSum_75 : decode cX12_nextSum 75 = .ok (.if_icmp .ne (-38), 3) := by decide +kernel
theorem dX12_nextSum_78 : decode cX12_nextSum 78 = .ok (.iconst 1, 1) := by decide +kernel
theorem dX12_nextSum_79 : decode cX12_nextSum 79 = .ok (.ireturn, 1) := by decide +kernel
theorem dX12_nextSum_80 : decode cX12_nextSum 80 = .ok (.iinc 2 1, 3) := by decide +kernel
theorem dX12_nextSum_83 : decode cX12_nextSum 83 = .ok (.iconst 0, 1) := by decide +kernel
theorem dX12_nextSum_84 : decode cX12_nextSum 84 = .ok (.istore_n 3, 1) := by decide +kernel
theorem dX12_nextSum_85 : decode cX12_nextSum 85 = .ok (.iload_n 3, 1) := by decide +kernel
theorem dX12_nextSum_86 : decode cX12_nextSum 86 = .ok (.iconst 3, 1) := by decide +kernel
theorem dX12_nextSum_87 : decode cX12_nextSum 87 = .ok (.if_icmp .ge 29, 3) := by decide +kernel
theorem dX12_nextSum_90 : decode cX12_nextSum 90 = .ok (.aload_n 0, 1) := by decide +kernel
theorem dX12_nextSum_91 : decode cX12_nextSum 91 = .ok (.getfield 125, 3) := by decide +kernel
theorem dX12_nextSum_94 : decode cX12_nextSum 94 = .ok (.iload_n 3, 1) := by decide +kernel
theorem dX12_nextSum_95 : decode cX12_nextSum 95 = .ok (.iload_n 3, 1) := by decide +kernel
theorem dX12_nextSum_96 : decode cX12_nextSum 96 = .ok (.aload_n 0, 1) := by decide +kernel
theorem dX12_nextSum_97 : decode cX12_nextSum 97 = .ok (.getfield 7, 3) := by decide +kernel
theorem dX12_nextSum_100 : decode cX12_nextSum 100 = .ok (.if_icmp .ge 8, 3) := by decide +kernel
theorem dX12_nextSum_103 : decode cX12_nextSum 103 = .ok (.iload_n 1, 1) := by decide +kernel
theorem dX12_nextSum_104 : decode cX12_nextSum 104 = .ok (.ineg, 1) := by decide +kernel
theorem dX12_nextSum_105 : decode cX12_nextSum 105 = .ok (.goto 4, 3) := by decide +kernel
theorem dX12_nextSum_108 : decode cX12_nextSum 108 = .ok (.iconst 0, 1) := by decide +kernel
theorem dX12_nextSum_109 : decode cX12_nextSum 109 = .ok (.iastore, 1) := by decide +kernel
theorem dX12_nextSum_110 : decode cX12_nextSum 110 = .ok (.iinc 3 1, 3) := by decide +kernel
theorem dX12_nextSum_113 : decode cX12_nextSum 113 = .ok (.goto (-28), 3) := by decide +kernel
theorem dX12_nextSum_116 : decode cX12_nextSum 116 = .ok (.aload_n 0, 1) := by decide +kernel
theorem dX12_nextSum_117 : decode cX12_nextSum 117 = .ok (.getfield 125, 3) := by decide +kernel
theorem dX12_nextSum_120 : decode cX12_nextSum 120 = .ok (.iconst 0, 1) := by decide +kernel
theorem dX12_nextSum_121 : decode cX12_nextSum 121 = .ok (.iaload, 1) := by decide +kernel
theorem dX12_nextSum_122 : decode cX12_nextSum 122 = .ok (.invokestatic 300, 3) := by decide +kernel
theorem dX12_nextSum_125 : decode cX12_nextSum 125 = .ok (.aload_n 0, 1) := by decide +kernel
theorem dX12_nextSum_126 : decode cX12_nextSum 126 = .ok (.getfield 125, 3) := by decide +kernel
theorem dX12_nextSum_129 : decode cX12_nextSum 129 = .ok (.iconst 1, 1) := by decide +kernel
theorem dX12_nextSum_130 : decode cX12_nextSum 130 = .ok (.iaload, 1) := by decide +kernel
theorem dX12_nextSum_131 : decode cX12_nextSum 131 = .ok (.invokestatic 300, 3) := by decide +kernel
theorem dX12_nextSum_134 : decode cX12_nextSum 134 = .ok (.iadd, 1) := by decide +kernel
theorem dX12_nextSum_135 : decode cX12_nextSum 135 = .ok (.aload_n 0, 1) := by decide +kernel
theorem dX12_nextSum_136 : decode cX12_nextSum 136 = .ok (.getfield 125, 3) := by decide +kernel
theorem dX12_nextSum_139 : decode cX12_nextSum 139 = .ok (.iconst 2, 1) := by decide +kernel
theorem dX12_nextSum_140 : decode cX12_nextSum 140 = .ok (.iaload, 1) := by decide +kernel
theorem dX12_nextSum_141 : decode cX12_nextSum 141 = .ok (.invokestatic 300, 3) := by decide +kernel
theorem dX12_nextSum_144 : decode cX12_nextSum 144 = .ok (.iadd, 1) := by decide +kernel
theorem dX12_nextSum_145 : decode cX12_nextSum 145 = .ok (.iload_n 2, 1) := by decide +kernel
theorem dX12_nextSum_146 : decode cX12_nextSum 146 = .ok (.if_icmp .ne (-116), 3) := by decide +kernel
theorem dX12_nextSum_149 : decode cX12_nextSum 149 = .ok (.iconst 1, 1) := by decide +kernel
theorem dX12_nextSum_150 : decode cX12_nextSum 150 = .ok (.ireturn, 1) := by decide +kernel
theorem dX12_nextSum_151 : decode cX12_nextSum 151 = .ok (.iconst 0, 1) := by decide +kernel
theorem dX12_nextSum_152 : decode cX12_nextSum 152 = .ok (.ireturn, 1) := by decide +kernel
theorem dX12_firstSum_0 : decode cX12_firstSum 0 = .ok (.iconst 0, 1) := by decide +kernel
theorem dX12_firstSum_1 : decode cX12_firstSum 1 = .ok (.istore_n 2, 1) := by decide +kernel
theorem dX12_firstSum_2 : decode cX12_firstSum 2 = .ok (.iload_n 2, 1) := by decide +kernel
theorem dX12_firstSum_3 : decode cX12_firstSum 3 = .ok (.iconst 3, 1) := by decide +kernel
theorem dX12_firstSum_4 : decode cX12_firstSum 4 = .ok (.if_icmp .ge 16, 3) := by decide +kernel
theorem dX12_firstSum_7 : decode cX12_firstSum 7 = .ok (.aload_n 0, 1) := by decide +kernel
theorem dX12_firstSum_8 : decode cX12_firstSum 8 = .ok (.getfield 125, 3) := by decide +kernel
theorem dX12_firstSum_11 : decode cX12_firstSum 11 = .ok (.iload_n 2, 1) := by decide +kernel
theorem dX12_firstSum_12 : decode cX12_firstSum 12 = .ok (.iconst 0, 1) := by decide +kernel
theorem dX12_firstSum_13 : decode cX12_firstSum 13 = .ok (.iastore, 1) := by decide +kernel
theorem dX12_firstSum_14 : decode cX12_firstSum 14 = .ok (.iinc 2 1, 3) := by decide +kernel
theorem dX12_firstSum_17 : decode cX12_firstSum 17 = .ok (.goto (-15), 3) := by decide +kernel
theorem dX12_firstSum_20 : decode cX12_firstSum 20 = .ok (.aload_n 0, 1) := by decide +kernel
theorem dX12_firstSum_21 : decode cX12_firstSum 21 = .ok (.iload_n 1, 1) := by decide +kernel
theorem dX12_firstSum_22 : decode cX12_firstSum 22 = .ok (.invokevirtual 306, 3) := by decide +kernel
theorem dX12_firstSum_25 : decode cX12_firstSum 25 = .ok (.istore_n 2, 1) := by decide +kernel
theorem dX12_firstSum_26 : decode cX12_firstSum 26 = .ok (.return_, 1) := by decide +kernel
theorem dX12_isSize_0 : decode cX12_isSize 0 = .ok (.iload_n 0, 1) := by decide +kernel
theorem dX12_isSize_1 : decode cX12_isSize 1 = .ok (.iconst 1, 1) := by decide +kernel
theorem dX12_isSize_2 : decode cX12_isSize 2 = .ok (.if_icmp .lt 12, 3) := by decide +kernel
theorem dX12_isSize_5 : decode cX12_isSize 5 = .ok (.iload_n 0, 1) := by decide +kernel
theorem dX12_isSize_6 : decode cX12_isSize 6 = .ok (.iconst 5, 1) := by decide +kernel
theorem dX12_isSize_7 : decode cX12_isSize 7 = .ok (.if_icmp .gt 7, 3) := by decide +kernel
theorem dX12_isSize_10 : decode cX12_isSize 10 = .ok (.iconst 1, 1) := by decide +kernel
theorem dX12_isSize_11 : decode cX12_isSize 11 = .ok (.goto 4, 3) := by decide +kernel
theorem dX12_isSize_14 : decode cX12_isSize 14 = .ok (.iconst 0, 1) := by decide +kernel
theorem dX12_isSize_15 : decode cX12_isSize 15 = .ok (.ireturn, 1) := by decide +kernel
theorem dX12_rank_0 : decode cX12_rank 0 = .ok (.iload_n 1, 1) := by decide +kernel
theorem dX12_rank_1 : decode cX12_rank 1 = .ok (.invokestatic 309, 3) := by decide +kernel
theorem dX12_rank_4 : decode cX12_rank 4 = .ok (.ifCond .ne 5, 3) := by decide +kernel
theorem dX12_rank_7 : decode cX12_rank 7 = .ok (.iconst (-1), 1) := by decide +kernel
theorem dX12_rank_8 : decode cX12_rank 8 = .ok (.ireturn, 1) := by decide +kernel
theorem dX12_rank_9 : decode cX12_rank 9 = .ok (.aload_n 0, 1) := by decide +kernel
theorem dX12_rank_10 : decode cX12_rank 10 = .ok (.iconst 0, 1) := by decide +kernel
theorem dX12_rank_11 : decode cX12_rank 11 = .ok (.putfield 131, 3) := by decide +kernel
theorem dX12_rank_14 : decode cX12_rank 14 = .ok (.aload_n 0, 1) := by decide +kernel
theorem dX12_rank_15 : decode cX12_rank 15 = .ok (.iload_n 1, 1) := by decide +kernel
theorem dX12_rank_16 : decode cX12_rank 16 = .ok (.invokevirtual 312, 3) := by decide +kernel
theorem dX12_rank_19 : decode cX12_rank 19 = .ok (.iconst 1, 1) := by decide +kernel
theorem dX12_rank_20 : decode cX12_rank 20 = .ok (.istore_n 2, 1) := by decide +kernel
theorem dX12_rank_21 : decode cX12_rank 21 = .ok (.iload_n 2, 1) := by decide +kernel
theorem dX12_rank_22 : decode cX12_rank 22 = .ok (.ifCond .eq 86, 3) := by decide +kernel
theorem dX12_rank_25 : decode cX12_rank 25 = .ok (.aload_n 0, 1) := by decide +kernel
theorem dX12_rank_26 : decode cX12_rank 26 = .ok (.aload_n 0, 1) := by decide +kernel
theorem dX12_rank_27 : decode cX12_rank 27 = .ok (.getfield 125, 3) := by decide +kernel
theorem dX12_rank_30 : decode cX12_rank 30 = .ok (.iconst 0, 1) := by decide +kernel
theorem dX12_rank_31 : decode cX12_rank 31 = .ok (.iaload, 1) := by decide +kernel
theorem dX12_rank_32 : decode cX12_rank 32 = .ok (.aload_n 0, 1) := by decide +kernel
theorem dX12_rank_33 : decode cX12_rank 33 = .ok (.getfield 125, 3) := by decide +kernel
theorem dX12_rank_36 : decode cX12_rank 36 = .ok (.iconst 1, 1) := by decide +kernel
theorem dX12_rank_37 : decode cX12_rank 37 = .ok (.iaload, 1) := by decide +kernel
theorem dX12_rank_38 : decode cX12_rank 38 = .ok (.aload_n 0, 1) := by decide +kernel
theorem dX12_rank_39 : decode cX12_rank 39 = .ok (.getfield 125, 3) := by decide +kernel
theorem dX12_rank_42 : decode cX12_rank 42 = .ok (.iconst 2, 1) := by decide +kernel
theorem dX12_rank_43 : decode cX12_rank 43 = .ok (.iaload, 1) := by decide +kernel
theorem dX12_rank_44 : decode cX12_rank 44 = .ok (.invokevirtual 292, 3) := by decide +kernel
theorem dX12_rank_47 : decode cX12_rank 47 = .ok (.ifCond .eq 52, 3) := by decide +kernel
theorem dX12_rank_50 : decode cX12_rank 50 = .ok (.aload_n 0, 1) := by decide +kernel
theorem dX12_rank_51 : decode cX12_rank 51 = .ok (.iconst 1, 1) := by decide +kernel
theorem dX12_rank_52 : decode cX12_rank 52 = .ok (.putfield 131, 3) := by decide +kernel
theorem dX12_rank_55 : decode cX12_rank 55 = .ok (.aload_n 0, 1) := by decide +kernel
theorem dX12_rank_56 : decode cX12_rank 56 = .ok (.iconst 1, 1) := by decide +kernel
theorem dX12_rank_57 : decode cX12_rank 57 = .ok (.putfield 138, 3) := by decide +kernel
theorem dX12_rank_60 : decode cX12_rank 60 = .ok (.iconst 0, 1) := by decide +kernel
theorem dX12_rank_61 : decode cX12_rank 61 = .ok (.istore_n 3, 1) := by decide +kernel
theorem dX12_rank_62 : decode cX12_rank 62 = .ok (.iload_n 3, 1) := by decide +kernel
theorem dX12_rank_63 : decode cX12_rank 63 = .ok (.iconst 3, 1) := by decide +kernel
theorem dX12_rank_64 : decode cX12_rank 64 = .ok (.if_icmp .ge 33, 3) := by decide +kernel
theorem dX12_rank_67 : decode cX12_rank 67 = .ok (.aload_n 0, 1) := by decide +kernel
theorem dX12_rank_68 : decode cX12_rank 68 = .ok (.getfield 49, 3) := by decide +kernel
theorem dX12_rank_71 : decode cX12_rank 71 = .ok (.iload_n 3, 1) := by decide +kernel
theorem dX12_rank_72 : decode cX12_rank 72 = .ok (.aload_n 0, 1) := by decide +kernel
theorem dX12_rank_73 : decode cX12_rank 73 = .ok (.getfield 125, 3) := by decide +kernel
theorem dX12_rank_76 : decode cX12_rank 76 = .ok (.iload_n 3, 1) := by decide +kernel
theorem dX12_rank_77 : decode cX12_rank 77 = .ok (.iaload, 1) := by decide +kernel
theorem dX12_rank_78 : decode cX12_rank 78 = .ok (.iastore, 1) := by decide +kernel
theorem dX12_rank_79 : decode cX12_rank 79 = .ok (.aload_n 0, 1) := by decide +kernel
theorem dX12_rank_80 : decode cX12_rank 80 = .ok (.getfield 46, 3) := by decide +kernel
theorem dX12_rank_83 : decode cX12_rank 83 = .ok (.iload_n 3, 1) := by decide +kernel
theorem dX12_rank_84 : decode cX12_rank 84 = .ok (.aload_n 0, 1) := by decide +kernel
theorem dX12_rank_85 : decode cX12_rank 85 = .ok (.getfield 125, 3) := by decide +kernel
theorem dX12_rank_88 : decode cX12_rank 88 = .ok (.iload_n 3, 1) := by decide +kernel
theorem dX12_rank_89 : decode cX12_rank 89 = .ok (.iaload, 1) := by decide +kernel
theorem dX12_rank_90 : decode cX12_rank 90 = .ok (.iastore, 1) := by decide +kernel
theorem dX12_rank_91 : decode cX12_rank 91 = .ok (.iinc 3 1, 3) := by decide +kernel
theorem dX12_rank_94 : decode cX12_rank 94 = .ok (.goto (-32), 3) := by decide +kernel
theorem dX12_rank_97 : decode cX12_rank 97 = .ok (.iconst 1, 1) := by decide +kernel
theorem dX12_rank_98 : decode cX12_rank 98 = .ok (.ireturn, 1) := by decide +kernel
theorem dX12_rank_99 : decode cX12_rank 99 = .ok (.aload_n 0, 1) := by decide +kernel
theorem dX12_rank_100 : decode cX12_rank 100 = .ok (.iload_n 1, 1) := by decide +kernel
theorem dX12_rank_101 : decode cX12_rank 101 = .ok (.invokevirtual 306, 3) := by decide +kernel
theorem dX12_rank_104 : decode cX12_rank 104 = .ok (.istore_n 2, 1) := by decide +kernel
theorem dX12_rank_105 : decode cX12_rank 105 = .ok (.goto (-84), 3) := by decide +kernel
theorem dX12_rank_108 : decode cX12_rank 108 = .ok (.iconst 0, 1) := by decide +kernel
theorem dX12_rank_109 : decode cX12_rank 109 = .ok (.ireturn, 1) := by decide +kernel
theorem dX12_takes_0 : decode cX12_takes 0 = .ok (.iconst 1, 1) := by decide +kernel
theorem dX12_takes_1 : decode cX12_takes 1 = .ok (.istore_n 1, 1) := by decide +kernel
theorem dX12_takes_2 : decode cX12_takes 2 = .ok (.iconst 0, 1) := by decide +kernel
theorem dX12_takes_3 : decode cX12_takes 3 = .ok (.istore_n 2, 1) := by decide +kernel
theorem dX12_takes_4 : decode cX12_takes 4 = .ok (.iconst 0, 1) := by decide +kernel
theorem dX12_takes_5 : decode cX12_takes 5 = .ok (.istore_n 3, 1) := by decide +kernel
theorem dX12_takes_6 : decode cX12_takes 6 = .ok (.iload_n 3, 1) := by decide +kernel
theorem dX12_takes_7 : decode cX12_takes 7 = .ok (.aload_n 0, 1) := by decide +kernel
theorem dX12_takes_8 : decode cX12_takes 8 = .ok (.getfield 135, 3) := by decide +kernel
theorem dX12_takes_11 : decode cX12_takes 11 = .ok (.if_icmp .ge 78, 3) := by decide +kernel
theorem dX12_takes_14 : decode cX12_takes 14 = .ok (.iload_n 1, 1) := by decide +kernel
theorem dX12_takes_15 : decode cX12_takes 15 = .ok (.ifCond .eq 74, 3) := by decide +kernel
theorem dX12_takes_18 : decode cX12_takes 18 = .ok (.aload_n 0, 1) := by decide +kernel
theorem dX12_takes_19 : decode cX12_takes 19 = .ok (.getfield 55, 3) := by decide +kernel
theorem dX12_takes_22 : decode cX12_takes 22 = .ok (.iload_n 3, 1) := by decide +kernel
theorem dX12_takes_23 : decode cX12_takes 23 = .ok (.baload, 1) := by decide +kernel
theorem dX12_takes_24 : decode cX12_takes 24 = .ok (.ifCond .eq 59, 3) := by decide +kernel
theorem dX12_takes_27 : decode cX12_takes 27 = .ok (.aload_n 0, 1) := by decide +kernel
theorem dX12_takes_28 : decode cX12_takes 28 = .ok (.iload_n 3, 1) := by decide +kernel
theorem dX12_takes_29 : decode cX12_takes 29 = .ok (.aload_n 0, 1) := by decide +kernel
theorem dX12_takes_30 : decode cX12_takes 30 = .ok (.getfield 125, 3) := by decide +kernel
theorem dX12_takes_33 : decode cX12_takes 33 = .ok (.iconst 0, 1) := by decide +kernel
theorem dX12_takes_34 : decode cX12_takes 34 = .ok (.iaload, 1) := by decide +kernel
theorem dX12_takes_35 : decode cX12_takes 35 = .ok (.aload_n 0, 1) := by decide +kernel
theorem dX12_takes_36 : decode cX12_takes 36 = .ok (.getfield 125, 3) := by decide +kernel
theorem dX12_takes_39 : decode cX12_takes 39 = .ok (.iconst 1, 1) := by decide +kernel
theorem dX12_takes_40 : decode cX12_takes 40 = .ok (.iaload, 1) := by decide +kernel
theorem dX12_takes_41 : decode cX12_takes 41 = .ok (.aload_n 0, 1) := by decide +kernel
theorem dX12_takes_42 : decode cX12_takes 42 = .ok (.getfield 125, 3) := by decide +kernel
theorem dX12_takes_45 : decode cX12_takes 45 = .ok (.iconst 2, 1) := by decide +kernel
theorem dX12_takes_46 : decode cX12_takes 46 = .ok (.iaload, 1) := by decide +kernel
theorem dX12_takes_47 : decode cX12_takes 47 = .ok (.invokevirtual 285, 3) := by decide +kernel
theorem dX12_takes_50 : decode cX12_takes 50 = .ok (.istore 4, 2) := by decide +kernel
theorem dX12_takes_52 : decode cX12_takes 52 = .ok (.iload 4, 2) := by decide +kernel
theorem dX12_takes_54 : decode cX12_takes 54 = .ok (.iconst 2, 1) := by decide +kernel
theorem dX12_takes_55 : decode cX12_takes 55 = .ok (.irem, 1) := by decide +kernel
theorem dX12_takes_56 : decode cX12_takes 56 = .ok (.iconst 1, 1) := by decide +kernel
theorem dX12_takes_57 : decode cX12_takes 57 = .ok (.if_icmp .ne 7, 3) := by decide +kernel
theorem dX12_takes_60 : decode cX12_takes 60 = .ok (.iconst 1, 1) := by decide +kernel
theorem dX12_takes_61 : decode cX12_takes 61 = .ok (.goto 4, 3) := by decide +kernel
theorem dX12_takes_64 : decode cX12_takes 64 = .ok (.iconst 0, 1) := by decide +kernel
theorem dX12_takes_65 : decode cX12_takes 65 = .ok (.istore_n 1, 1) := by decide +kernel
theorem dX12_takes_66 : decode cX12_takes 66 = .ok (.iload_n 2, 1) := by decide +kernel
theorem dX12_takes_67 : decode cX12_takes 67 = .ok (.ifCond .ne 10, 3) := by decide +kernel
theorem dX12_takes_70 : decode cX12_takes 70 = .ok (.iload 4, 2) := by decide +kernel
theorem dX12_takes_72 : decode cX12_takes 72 = .ok (.bipush 6, 2) := by decide +kernel
theorem dX12_takes_74 : decode cX12_takes 74 = .ok (.if_icmp .lt 7, 3) := by decide +kernel
theorem dX12_takes_77 : decode cX12_takes 77 = .ok (.iconst 1, 1) := by decide +kernel
theorem dX12_takes_78 : decode cX12_takes 78 = .ok (.goto 4, 3) := by decide +kernel
theorem dX12_takes_81 : decode cX12_takes 81 = .ok (.iconst 0, 1) := by decide +kernel
theorem dX12_takes_82 : decode cX12_takes 82 = .ok (.istore_n 2, 1) := by decide +kernel
theorem dX12_takes_83 : decode cX12_takes 83 = .ok (.iinc 3 1, 3) := by decide +kernel
theorem dX12_takes_86 : decode cX12_takes 86 = .ok (.goto (-80), 3) := by decide +kernel
theorem dX12_takes_89 : decode cX12_takes 89 = .ok (.iload_n 1, 1) := by decide +kernel
theorem dX12_takes_90 : decode cX12_takes 90 = .ok (.ifCond .eq 11, 3) := by decide +kernel
theorem dX12_takes_93 : decode cX12_takes 93 = .ok (.iload_n 2, 1) := by decide +kernel
theorem dX12_takes_94 : decode cX12_takes 94 = .ok (.ifCond .eq 7, 3) := by decide +kernel
theorem dX12_takes_97 : decode cX12_takes 97 = .ok (.iconst 1, 1) := by decide +kernel
theorem dX12_takes_98 : decode cX12_takes 98 = .ok (.goto 4, 3) := by decide +kernel
theorem dX12_takes_101 : decode cX12_takes 101 = .ok (.iconst 0, 1) := by decide +kernel
theorem dX12_takes_102 : decode cX12_takes 102 = .ok (.ireturn, 1) := by decide +kernel
theorem dX12_rows_0 : decode cX12_rows 0 = .ok (.iload_n 1, 1) := by decide +kernel
theorem dX12_rows_1 : decode cX12_rows 1 = .ok (.invokestatic 309, 3) := by decide +kernel
theorem dX12_rows_4 : decode cX12_rows 4 = .ok (.ifCond .ne 5, 3) := by decide +kernel
theorem dX12_rows_7 : decode cX12_rows 7 = .ok (.iconst (-1), 1) := by decide +kernel
theorem dX12_rows_8 : decode cX12_rows 8 = .ok (.ireturn, 1) := by decide +kernel
theorem dX12_rows_9 : decode cX12_rows 9 = .ok (.aload_n 0, 1) := by decide +kernel
theorem dX12_rows_10 : decode cX12_rows 10 = .ok (.getfield 135, 3) := by decide +kernel
theorem dX12_rows_13 : decode cX12_rows 13 = .ok (.istore_n 2, 1) := by decide +kernel
theorem dX12_rows_14 : decode cX12_rows 14 = .ok (.iconst 0, 1) := by decide +kernel
theorem dX12_rows_15 : decode cX12_rows 15 = .ok (.istore_n 3, 1) := by decide +kernel
theorem dX12_rows_16 : decode cX12_rows 16 = .ok (.iload_n 3, 1) := by decide +kernel
theorem dX12_rows_17 : decode cX12_rows 17 = .ok (.iconst 5, 1) := by decide +kernel
theorem dX12_rows_18 : decode cX12_rows 18 = .ok (.if_icmp .ge 35, 3) := by decide +kernel
theorem dX12_rows_21 : decode cX12_rows 21 = .ok (.aload_n 0, 1) := by decide +kernel
theorem dX12_rows_22 : decode cX12_rows 22 = .ok (.getfield 55, 3) := by decide +kernel
theorem dX12_rows_25 : decode cX12_rows 25 = .ok (.iload_n 3, 1) := by decide +kernel
theorem dX12_rows_26 : decode cX12_rows 26 = .ok (.iload_n 3, 1) := by decide +kernel
theorem dX12_rows_27 : decode cX12_rows 27 = .ok (.aload_n 0, 1) := by decide +kernel
theorem dX12_rows_28 : decode cX12_rows 28 = .ok (.getfield 135, 3) := by decide +kernel
theorem dX12_rows_31 : decode cX12_rows 31 = .ok (.if_icmp .ge 7, 3) := by decide +kernel
theorem dX12_rows_34 : decode cX12_rows 34 = .ok (.iconst 1, 1) := by decide +kernel
theorem dX12_rows_35 : decode cX12_rows 35 = .ok (.goto 4, 3) := by decide +kernel
theorem dX12_rows_38 : decode cX12_rows 38 = .ok (.iconst 0, 1) := by decide +kernel
theorem dX12_rows_39 : decode cX12_rows 39 = .ok (.bastore, 1) := by decide +kernel
theorem dX12_rows_40 : decode cX12_rows 40 = .ok (.aload_n 0, 1) := by decide +kernel
theorem dX12_rows_41 : decode cX12_rows 41 = .ok (.getfield 52, 3) := by decide +kernel
theorem dX12_rows_44 : decode cX12_rows 44 = .ok (.iload_n 3, 1) := by decide +kernel
theorem dX12_rows_45 : decode cX12_rows 45 = .ok (.iconst (-1), 1) := by decide +kernel
theorem dX12_rows_46 : decode cX12_rows 46 = .ok (.iastore, 1) := by decide +kernel
theorem dX12_rows_47 : decode cX12_rows 47 = .ok (.iinc 3 1, 3) := by decide +kernel
theorem dX12_rows_50 : decode cX12_rows 50 = .ok (.goto (-34), 3) := by decide +kernel
theorem dX12_rows_53 : decode cX12_rows 53 = .ok (.iconst 0, 1) := by decide +kernel
theorem dX12_rows_54 : decode cX12_rows 54 = .ok (.istore_n 3, 1) := by decide +kernel
theorem dX12_rows_55 : decode cX12_rows 55 = .ok (.iconst 1, 1) := by decide +kernel
theorem dX12_rows_56 : decode cX12_rows 56 = .ok (.istore 4, 2) := by decide +kernel
theorem dX12_rows_58 : decode cX12_rows 58 = .ok (.iload_n 2, 1) := by decide +kernel
theorem dX12_rows_59 : decode cX12_rows 59 = .ok (.ifCond .le 177, 3) := by decide +kernel
theorem dX12_rows_62 : decode cX12_rows 62 = .ok (.iload 4, 2) := by decide +kernel
theorem dX12_rows_64 : decode cX12_rows 64 = .ok (.ifCond .eq 172, 3) := by decide +kernel
theorem dX12_rows_67 : decode cX12_rows 67 = .ok (.aload_n 0, 1) := by decide +kernel
theorem dX12_rows_68 : decode cX12_rows 68 = .ok (.iload_n 1, 1) := by decide +kernel
theorem dX12_rows_69 : decode cX12_rows 69 = .ok (.invokevirtual 312, 3) := by decide +kernel
theorem dX12_rows_72 : decode cX12_rows 72 = .ok (.iconst 1, 1) := by decide +kernel
theorem dX12_rows_73 : decode cX12_rows 73 = .ok (.istore 5, 2) := by decide +kernel
theorem dX12_rows_75 : decode cX12_rows 75 = .ok (.iload 5, 2) := by decide +kernel
theorem dX12_rows_77 : decode cX12_rows 77 = .ok (.ifCond .eq 20, 3) := by decide +kernel
theorem dX12_rows_80 : decode cX12_rows 80 = .ok (.aload_n 0, 1) := by decide +kernel
theorem dX12_rows_81 : decode cX12_rows 81 = .ok (.invokevirtual 315, 3) := by decide +kernel
theorem dX12_rows_84 : decode cX12_rows 84 = .ok (.ifCond .ne 13, 3) := by decide +kernel
theorem dX12_rows_87 : decode cX12_rows 87 = .ok (.aload_n 0, 1) := by decide +kernel
theorem dX12_rows_88 : decode cX12_rows 88 = .ok (.iload_n 1, 1) := by decide +kernel
theorem dX12_rows_89 : decode cX12_rows 89 = .ok (.invokevirtual 306, 3) := by decide +kernel
theorem dX12_rows_92 : decode cX12_rows 92 = .ok (.istore 5, 2) := by decide +kernel
theorem dX12_rows_94 : decode cX12_rows 94 = .ok (.goto (-19), 3) := by decide +kernel
theorem dX12_rows_97 : decode cX12_rows 97 = .ok (.iload 5, 2) := by decide +kernel
theorem dX12_rows_99 : decode cX12_rows 99 = .ok (.istore 4, 2) := by decide +kernel
theorem dX12_rows_101 : decode cX12_rows 101 = .ok (.iconst 0, 1) := by decide +kernel
theorem dX12_rows_102 : decode cX12_rows 102 = .ok (.istore 6, 2) := by decide +kernel
theorem dX12_rows_104 : decode cX12_rows 104 = .ok (.iload 6, 2) := by decide +kernel
theorem dX12_rows_106 : decode cX12_rows 106 = .ok (.aload_n 0, 1) := by decide +kernel
theorem dX12_rows_107 : decode cX12_rows 107 = .ok (.getfield 135, 3) := by decide +kernel
theorem dX12_rows_110 : decode cX12_rows 110 = .ok (.if_icmp .ge 72, 3) := by decide +kernel
theorem dX12_rows_113 : decode cX12_rows 113 = .ok (.iload 5, 2) := by decide +kernel
theorem dX12_rows_115 : decode cX12_rows 115 = .ok (.ifCond .eq 67, 3) := by decide +kernel
theorem dX12_rows_118 : decode cX12_rows 118 = .ok (.aload_n 0, 1) := by decide +kernel
theorem dX12_rows_119 : decode cX12_rows 119 = .ok (.getfield 55, 3) := by decide +kernel
theorem dX12_rows_122 : decode cX12_rows 122 = .ok (.iload 6, 2) := by decide +kernel
theorem dX12_rows_124 : decode cX12_rows 124 = .ok (.baload, 1) := by decide +kernel
theorem dX12_rows_125 : decode cX12_rows 125 = .ok (.ifCond .eq 51, 3) := by decide +kernel
theorem dX12_rows_128 : decode cX12_rows 128 = .ok (.aload_n 0, 1) := by decide +kernel
theorem dX12_rows_129 : decode cX12_rows 129 = .ok (.iload 6, 2) := by decide +kernel
theorem dX12_rows_131 : decode cX12_rows 131 = .ok (.aload_n 0, 1) := by decide +kernel
theorem dX12_rows_132 : decode cX12_rows 132 = .ok (.getfield 125, 3) := by decide +kernel
theorem dX12_rows_135 : decode cX12_rows 135 = .ok (.iconst 0, 1) := by decide +kernel
theorem dX12_rows_136 : decode cX12_rows 136 = .ok (.iaload, 1) := by decide +kernel
theorem dX12_rows_137 : decode cX12_rows 137 = .ok (.aload_n 0, 1) := by decide +kernel
theorem dX12_rows_138 : decode cX12_rows 138 = .ok (.getfield 125, 3) := by decide +kernel
theorem dX12_rows_141 : decode cX12_rows 141 = .ok (.iconst 1, 1) := by decide +kernel
theorem dX12_rows_142 : decode cX12_rows 142 = .ok (.iaload, 1) := by decide +kernel
theorem dX12_rows_143 : decode cX12_rows 143 = .ok (.aload_n 0, 1) := by decide +kernel
theorem dX12_rows_144 : decode cX12_rows 144 = .ok (.getfield 125, 3) := by decide +kernel
theorem dX12_rows_147 : decode cX12_rows 147 = .ok (.iconst 2, 1) := by decide +kernel
theorem dX12_rows_148 : decode cX12_rows 148 = .ok (.iaload, 1) := by decide +kernel
theorem dX12_rows_149 : decode cX12_rows 149 = .ok (.invokevirtual 285, 3) := by decide +kernel
theorem dX12_rows_152 : decode cX12_rows 152 = .ok (.bipush 6, 2) := by decide +kernel
theorem dX12_rows_154 : decode cX12_rows 154 = .ok (.if_icmp .lt 22, 3) := by decide +kernel
theorem dX12_rows_157 : decode cX12_rows 157 = .ok (.aload_n 0, 1) := by decide +kernel
theorem dX12_rows_158 : decode cX12_rows 158 = .ok (.getfield 55, 3) := by decide +kernel
theorem dX12_rows_161 : decode cX12_rows 161 = .ok (.iload 6, 2) := by decide +kernel
theorem dX12_rows_163 : decode cX12_rows 163 = .ok (.iconst 0, 1) := by decide +kernel
theorem dX12_rows_164 : decode cX12_rows 164 = .ok (.bastore, 1) := by decide +kernel
theorem dX12_rows_165 : decode cX12_rows 165 = .ok (.aload_n 0, 1) := by decide +kernel
theorem dX12_rows_166 : decode cX12_rows 166 = .ok (.getfield 52, 3) := by decide +kernel
theorem dX12_rows_169 : decode cX12_rows 169 = .ok (.iload 6, 2) := by decide +kernel
theorem dX12_rows_171 : decode cX12_rows 171 = .ok (.iload_n 3, 1) := by decide +kernel
theorem dX12_rows_172 : decode cX12_rows 172 = .ok (.iastore, 1) := by decide +kernel
theorem dX12_rows_173 : decode cX12_rows 173 = .ok (.iinc 2 (-1), 3) := by decide +kernel
theorem dX12_rows_176 : decode cX12_rows 176 = .ok (.iinc 6 1, 3) := by decide +kernel
theorem dX12_rows_179 : decode cX12_rows 179 = .ok (.goto (-75), 3) := by decide +kernel
theorem dX12_rows_182 : decode cX12_rows 182 = .ok (.iconst 0, 1) := by decide +kernel
theorem dX12_rows_183 : decode cX12_rows 183 = .ok (.istore 6, 2) := by decide +kernel
theorem dX12_rows_185 : decode cX12_rows 185 = .ok (.iload 6, 2) := by decide +kernel
theorem dX12_rows_187 : decode cX12_rows 187 = .ok (.iconst 3, 1) := by decide +kernel
theorem dX12_rows_188 : decode cX12_rows 188 = .ok (.if_icmp .ge 32, 3) := by decide +kernel
theorem dX12_rows_191 : decode cX12_rows 191 = .ok (.iload 5, 2) := by decide +kernel
theorem dX12_rows_193 : decode cX12_rows 193 = .ok (.ifCond .eq 27, 3) := by decide +kernel
theorem dX12_rows_196 : decode cX12_rows 196 = .ok (.aload_n 0, 1) := by decide +kernel
theorem dX12_rows_197 : decode cX12_rows 197 = .ok (.getfield 46, 3) := by decide +kernel
theorem dX12_rows_200 : decode cX12_rows 200 = .ok (.iconst 3, 1) := by decide +kernel
theorem dX12_rows_201 : decode cX12_rows 201 = .ok (.iload_n 3, 1) := by decide +kernel
theorem dX12_rows_202 : decode cX12_rows 202 = .ok (.imul, 1) := by decide +kernel
theorem dX12_rows_203 : decode cX12_rows 203 = .ok (.iload 6, 2) := by decide +kernel
theorem dX12_rows_205 : decode cX12_rows 205 = .ok (.iadd, 1) := by decide +kernel
theorem dX12_rows_206 : decode cX12_rows 206 = .ok (.aload_n 0, 1) := by decide +kernel
theorem dX12_rows_207 : decode cX12_rows 207 = .ok (.getfield 125, 3) := by decide +kernel
theorem dX12_rows_210 : decode cX12_rows 210 = .ok (.iload 6, 2) := by decide +kernel
theorem dX12_rows_212 : decode cX12_rows 212 = .ok (.iaload, 1) := by decide +kernel
theorem dX12_rows_213 : decode cX12_rows 213 = .ok (.iastore, 1) := by decide +kernel
theorem dX12_rows_214 : decode cX12_rows 214 = .ok (.iinc 6 1, 3) := by decide +kernel
theorem dX12_rows_217 : decode cX12_rows 217 = .ok (.goto (-32), 3) := by decide +kernel
theorem dX12_rows_220 : decode cX12_rows 220 = .ok (.iload_n 3, 1) := by decide +kernel
theorem dX12_rows_221 : decode cX12_rows 221 = .ok (.iload 5, 2) := by decide +kernel
theorem dX12_rows_223 : decode cX12_rows 223 = .ok (.ifCond .eq 7, 3) := by decide +kernel
theorem dX12_rows_226 : decode cX12_rows 226 = .ok (.iconst 1, 1) := by decide +kernel
theorem dX12_rows_227 : decode cX12_rows 227 = .ok (.goto 4, 3) := by decide +kernel
theorem dX12_rows_230 : decode cX12_rows 230 = .ok (.iconst 0, 1) := by decide +kernel
theorem dX12_rows_231 : decode cX12_rows 231 = .ok (.iadd, 1) := by decide +kernel
theorem dX12_rows_232 : decode cX12_rows 232 = .ok (.istore_n 3, 1) := by decide +kernel
theorem dX12_rows_233 : decode cX12_rows 233 = .ok (.goto (-175), 3) := by decide +kernel
theorem dX12_rows_236 : decode cX12_rows 236 = .ok (.aload_n 0, 1) := by decide +kernel
theorem dX12_rows_237 : decode cX12_rows 237 = .ok (.iload_n 3, 1) := by decide +kernel
theorem dX12_rows_238 : decode cX12_rows 238 = .ok (.ifCond .le 7, 3) := by decide +kernel
theorem dX12_rows_241 : decode cX12_rows 241 = .ok (.iload_n 3, 1) := by decide +kernel
theorem dX12_rows_242 : decode cX12_rows 242 = .ok (.goto 7, 3) := by decide +kernel
theorem dX12_rows_245 : decode cX12_rows 245 = .ok (.aload_n 0, 1) := by decide +kernel
theorem dX12_rows_246 : decode cX12_rows 246 = .ok (.getfield 138, 3) := by decide +kernel
theorem dX12_rows_249 : decode cX12_rows 249 = .ok (.putfield 138, 3) := by decide +kernel
theorem dX12_rows_252 : decode cX12_rows 252 = .ok (.iload_n 2, 1) := by decide +kernel
theorem dX12_rows_253 : decode cX12_rows 253 = .ok (.ifCond .le 8, 3) := by decide +kernel
theorem dX12_rows_256 : decode cX12_rows 256 = .ok (.bipush (-3), 2) := by decide +kernel
theorem dX12_rows_258 : decode cX12_rows 258 = .ok (.goto 4, 3) := by decide +kernel
theorem dX12_rows_261 : decode cX12_rows 261 = .ok (.iload_n 3, 1) := by decide +kernel
theorem dX12_rows_262 : decode cX12_rows 262 = .ok (.ireturn, 1) := by decide +kernel
theorem dX12_found_0 : decode cX12_found 0 = .ok (.iload_n 1, 1) := by decide +kernel
theorem dX12_found_1 : decode cX12_found 1 = .ok (.ifCond .lt 33, 3) := by decide +kernel
theorem dX12_found_4 : decode cX12_found 4 = .ok (.iload_n 1, 1) := by decide +kernel
theorem dX12_found_5 : decode cX12_found 5 = .ok (.aload_n 0, 1) := by decide +kernel
theorem dX12_found_6 : decode cX12_found 6 = .ok (.getfield 138, 3) := by decide +kernel
theorem dX12_found_9 : decode cX12_found 9 = .ok (.if_icmp .ge 25, 3) := by decide +kernel
theorem dX12_found_12 : decode cX12_found 12 = .ok (.iload_n 2, 1) := by decide +kernel
theorem dX12_found_13 : decode cX12_found 13 = .ok (.ifCond .lt 21, 3) := by decide +kernel
theorem dX12_found_16 : decode cX12_found 16 = .ok (.iload_n 2, 1) := by decide +kernel
theorem dX12_found_17 : decode cX12_found 17 = .ok (.iconst 3, 1) := by decide +kernel
theorem dX12_found_18 : decode cX12_found 18 = .ok (.if_icmp .ge 16, 3) := by decide +kernel
theorem dX12_found_21 : decode cX12_found 21 = .ok (.aload_n 0, 1) := by decide +kernel
theorem dX12_found_22 : decode cX12_found 22 = .ok (.getfield 46, 3) := by decide +kernel
theorem dX12_found_25 : decode cX12_found 25 = .ok (.iconst 3, 1) := by decide +kernel
theorem dX12_found_26 : decode cX12_found 26 = .ok (.iload_n 1, 1) := by decide +kernel
theorem dX12_found_27 : decode cX12_found 27 = .ok (.imul, 1) := by decide +kernel
theorem dX12_found_28 : decode cX12_found 28 = .ok (.iload_n 2, 1) := by decide +kernel
theorem dX12_found_29 : decode cX12_found 29 = .ok (.iadd, 1) := by decide +kernel
theorem dX12_found_30 : decode cX12_found 30 = .ok (.iaload, 1) := by decide +kernel
theorem dX12_found_31 : decode cX12_found 31 = .ok (.goto 6, 3) := by decide +kernel
theorem dX12_found_34 : decode cX12_found 34 = .ok (.sipush (-1000), 3) := by decide +kernel
theorem dX12_found_37 : decode cX12_found 37 = .ok (.ireturn, 1) := by decide +kernel
theorem dX12_by_0 : decode cX12_by 0 = .ok (.aload_n 0, 1) := by decide +kernel
theorem dX12_by_1 : decode cX12_by 1 = .ok (.iload_n 1, 1) := by decide +kernel
theorem dX12_by_2 : decode cX12_by 2 = .ok (.invokevirtual 142, 3) := by decide +kernel
theorem dX12_by_5 : decode cX12_by 5 = .ok (.ifCond .eq 12, 3) := by decide +kernel
theorem dX12_by_8 : decode cX12_by 8 = .ok (.aload_n 0, 1) := by decide +kernel
theorem dX12_by_9 : decode cX12_by 9 = .ok (.getfield 52, 3) := by decide +kernel
theorem dX12_by_12 : decode cX12_by 12 = .ok (.iload_n 1, 1) := by decide +kernel
theorem dX12_by_13 : decode cX12_by 13 = .ok (.iaload, 1) := by decide +kernel
theorem dX12_by_14 : decode cX12_by 14 = .ok (.goto 4, 3) := by decide +kernel
theorem dX12_by_17 : decode cX12_by 17 = .ok (.iconst (-1), 1) := by decide +kernel
theorem dX12_by_18 : decode cX12_by 18 = .ok (.ireturn, 1) := by decide +kernel
theorem dX12_bound_0 : decode cX12_bound 0 = .ok (.aload_n 0, 1) := by decide +kernel
theorem dX12_bound_1 : decode cX12_bound 1 = .ok (.getfield 131, 3) := by decide +kernel
theorem dX12_bound_4 : decode cX12_bound 4 = .ok (.ifCond .ne 7, 3) := by decide +kernel
theorem dX12_bound_7 : decode cX12_bound 7 = .ok (.ldc2_w 192, 3) := by decide +kernel
theorem dX12_bound_10 : decode cX12_bound 10 = .ok (.lreturn, 1) := by decide +kernel
theorem dX12_bound_11 : decode cX12_bound 11 = .ok (.lconst 1, 1) := by decide +kernel
theorem dX12_bound_12 : decode cX12_bound 12 = .ok (.lstore_n 1, 1) := by decide +kernel
theorem dX12_bound_13 : decode cX12_bound 13 = .ok (.iconst 0, 1) := by decide +kernel
theorem dX12_bound_14 : decode cX12_bound 14 = .ok (.istore_n 3, 1) := by decide +kernel
theorem dX12_bound_15 : decode cX12_bound 15 = .ok (.iload_n 3, 1) := by decide +kernel
theorem dX12_bound_16 : decode cX12_bound 16 = .ok (.aload_n 0, 1) := by decide +kernel
theorem dX12_bound_17 : decode cX12_bound 17 = .ok (.getfield 7, 3) := by decide +kernel
theorem dX12_bound_20 : decode cX12_bound 20 = .ok (.if_icmp .ge 92, 3) := by decide +kernel
theorem dX12_bound_23 : decode cX12_bound 23 = .ok (.aload_n 0, 1) := by decide +kernel
theorem dX12_bound_24 : decode cX12_bound 24 = .ok (.getfield 30, 3) := by decide +kernel
theorem dX12_bound_27 : decode cX12_bound 27 = .ok (.iconst 2, 1) := by decide +kernel
theorem dX12_bound_28 : decode cX12_bound 28 = .ok (.iload_n 3, 1) := by decide +kernel
theorem dX12_bound_29 : decode cX12_bound 29 = .ok (.imul, 1) := by decide +kernel
theorem dX12_bound_30 : decode cX12_bound 30 = .ok (.baload, 1) := by decide +kernel
theorem dX12_bound_31 : decode cX12_bound 31 = .ok (.ifCond .ne 21, 3) := by decide +kernel
theorem dX12_bound_34 : decode cX12_bound 34 = .ok (.aload_n 0, 1) := by decide +kernel
theorem dX12_bound_35 : decode cX12_bound 35 = .ok (.getfield 23, 3) := by decide +kernel
theorem dX12_bound_38 : decode cX12_bound 38 = .ok (.iload_n 3, 1) := by decide +kernel
theorem dX12_bound_39 : decode cX12_bound 39 = .ok (.laload, 1) := by decide +kernel
theorem dX12_bound_40 : decode cX12_bound 40 = .ok (.aload_n 0, 1) := by decide +kernel
theorem dX12_bound_41 : decode cX12_bound 41 = .ok (.getfield 27, 3) := by decide +kernel
theorem dX12_bound_44 : decode cX12_bound 44 = .ok (.iconst 2, 1) := by decide +kernel
theorem dX12_bound_45 : decode cX12_bound 45 = .ok (.iload_n 3, 1) := by decide +kernel
theorem dX12_bound_46 : decode cX12_bound 46 = .ok (.imul, 1) := by decide +kernel
theorem dX12_bound_47 : decode cX12_bound 47 = .ok (.laload, 1) := by decide +kernel
theorem dX12_bound_48 : decode cX12_bound 48 = .ok (.lcmp, 1) := by decide +kernel
theorem dX12_bound_49 : decode cX12_bound 49 = .ok (.ifCond .lt 36, 3) := by decide +kernel
theorem dX12_bound_52 : decode cX12_bound 52 = .ok (.aload_n 0, 1) := by decide +kernel
theorem dX12_bound_53 : decode cX12_bound 53 = .ok (.getfield 30, 3) := by decide +kernel
theorem dX12_bound_56 : decode cX12_bound 56 = .ok (.iconst 2, 1) := by decide +kernel
theorem dX12_bound_57 : decode cX12_bound 57 = .ok (.iload_n 3, 1) := by decide +kernel
theorem dX12_bound_58 : decode cX12_bound 58 = .ok (.imul, 1) := by decide +kernel
theorem dX12_bound_59 : decode cX12_bound 59 = .ok (.iconst 1, 1) := by decide +kernel
theorem dX12_bound_60 : decode cX12_bound 60 = .ok (.iadd, 1) := by decide +kernel
theorem dX12_bound_61 : decode cX12_bound 61 = .ok (.baload, 1) := by decide +kernel
theorem dX12_bound_62 : decode cX12_bound 62 = .ok (.ifCond .ne 27, 3) := by decide +kernel
theorem dX12_bound_65 : decode cX12_bound 65 = .ok (.aload_n 0, 1) := by decide +kernel
theorem dX12_bound_66 : decode cX12_bound 66 = .ok (.getfield 23, 3) := by decide +kernel
theorem dX12_bound_69 : decode cX12_bound 69 = .ok (.iload_n 3, 1) := by decide +kernel
theorem dX12_bound_70 : decode cX12_bound 70 = .ok (.laload, 1) := by decide +kernel
theorem dX12_bound_71 : decode cX12_bound 71 = .ok (.aload_n 0, 1) := by decide +kernel
theorem dX12_bound_72 : decode cX12_bound 72 = .ok (.getfield 27, 3) := by decide +kernel
theorem dX12_bound_75 : decode cX12_bound 75 = .ok (.iconst 2, 1) := by decide +kernel
theorem dX12_bound_76 : decode cX12_bound 76 = .ok (.iload_n 3, 1) := by decide +kernel
theorem dX12_bound_77 : decode cX12_bound 77 = .ok (.imul, 1) := by decide +kernel
theorem dX12_bound_78 : decode cX12_bound 78 = .ok (.iconst 1, 1) := by decide +kernel
theorem dX12_bound_79 : decode cX12_bound 79 = .ok (.iadd, 1) := by decide +kernel
theorem dX12_bound_80 : decode cX12_bound 80 = .ok (.laload, 1) := by decide +kernel
theorem dX12_bound_81 : decode cX12_bound 81 = .ok (.lcmp, 1) := by decide +kernel
theorem dX12_bound_82 : decode cX12_bound 82 = .ok (.ifCond .le 7, 3) := by decide +kernel
theorem dX12_bound_85 : decode cX12_bound 85 = .ok (.ldc2_w 319, 3) := by decide +kernel
theorem dX12_bound_88 : decode cX12_bound 88 = .ok (.lreturn, 1) := by decide +kernel
theorem dX12_bound_89 : decode cX12_bound 89 = .ok (.lload_n 1, 1) := by decide +kernel
theorem dX12_bound_90 : decode cX12_bound 90 = .ok (.aload_n 0, 1) := by decide +kernel
theorem dX12_bound_91 : decode cX12_bound 91 = .ok (.getfield 49, 3) := by decide +kernel
theorem dX12_bound_94 : decode cX12_bound 94 = .ok (.iload_n 3, 1) := by decide +kernel
theorem dX12_bound_95 : decode cX12_bound 95 = .ok (.iaload, 1) := by decide +kernel
theorem dX12_bound_96 : decode cX12_bound 96 = .ok (.i2l, 1) := by decide +kernel
theorem dX12_bound_97 : decode cX12_bound 97 = .ok (.aload_n 0, 1) := by decide +kernel
theorem dX12_bound_98 : decode cX12_bound 98 = .ok (.getfield 23, 3) := by decide +kernel
theorem dX12_bound_101 : decode cX12_bound 101 = .ok (.iload_n 3, 1) := by decide +kernel
theorem dX12_bound_102 : decode cX12_bound 102 = .ok (.laload, 1) := by decide +kernel
theorem dX12_bound_103 : decode cX12_bound 103 = .ok (.lmul, 1) := by decide +kernel
theorem dX12_bound_104 : decode cX12_bound 104 = .ok (.ladd, 1) := by decide +kernel
theorem dX12_bound_105 : decode cX12_bound 105 = .ok (.lstore_n 1, 1) := by decide +kernel
theorem dX12_bound_106 : decode cX12_bound 106 = .ok (.iinc 3 1, 3) := by decide +kernel
theorem dX12_bound_109 : decode cX12_bound 109 = .ok (.goto (-94), 3) := by decide +kernel
theorem dX12_bound_112 : decode cX12_bound 112 = .ok (.lload_n 1, 1) := by decide +kernel
theorem dX12_bound_113 : decode cX12_bound 113 = .ok (.aload_n 0, 1) := by decide +kernel
theorem dX12_bound_114 : decode cX12_bound 114 = .ok (.aload_n 0, 1) := by decide +kernel
theorem dX12_bound_115 : decode cX12_bound 115 = .ok (.getfield 49, 3) := by decide +kernel
theorem dX12_bound_118 : decode cX12_bound 118 = .ok (.iconst 0, 1) := by decide +kernel
theorem dX12_bound_119 : decode cX12_bound 119 = .ok (.iaload, 1) := by decide +kernel
theorem dX12_bound_120 : decode cX12_bound 120 = .ok (.aload_n 0, 1) := by decide +kernel
theorem dX12_bound_121 : decode cX12_bound 121 = .ok (.getfield 49, 3) := by decide +kernel
theorem dX12_bound_124 : decode cX12_bound 124 = .ok (.iconst 1, 1) := by decide +kernel
theorem dX12_bound_125 : decode cX12_bound 125 = .ok (.iaload, 1) := by decide +kernel
theorem dX12_bound_126 : decode cX12_bound 126 = .ok (.aload_n 0, 1) := by decide +kernel
theorem dX12_bound_127 : decode cX12_bound 127 = .ok (.getfield 49, 3) := by decide +kernel
theorem dX12_bound_130 : decode cX12_bound 130 = .ok (.iconst 2, 1) := by decide +kernel
theorem dX12_bound_131 : decode cX12_bound 131 = .ok (.iaload, 1) := by decide +kernel
theorem dX12_bound_132 : decode cX12_bound 132 = .ok (.invokevirtual 295, 3) := by decide +kernel
theorem dX12_bound_135 : decode cX12_bound 135 = .ok (.lsub, 1) := by decide +kernel
theorem dX12_bound_136 : decode cX12_bound 136 = .ok (.lstore_n 1, 1) := by decide +kernel
theorem dX12_bound_137 : decode cX12_bound 137 = .ok (.lload_n 1, 1) := by decide +kernel
theorem dX12_bound_138 : decode cX12_bound 138 = .ok (.lconst 0, 1) := by decide +kernel
theorem dX12_bound_139 : decode cX12_bound 139 = .ok (.lcmp, 1) := by decide +kernel
theorem dX12_bound_140 : decode cX12_bound 140 = .ok (.ifCond .ge 7, 3) := by decide +kernel
theorem dX12_bound_143 : decode cX12_bound 143 = .ok (.lconst 0, 1) := by decide +kernel
theorem dX12_bound_144 : decode cX12_bound 144 = .ok (.goto 4, 3) := by decide +kernel
theorem dX12_bound_147 : decode cX12_bound 147 = .ok (.lload_n 1, 1) := by decide +kernel
theorem dX12_bound_148 : decode cX12_bound 148 = .ok (.lreturn, 1) := by decide +kernel
theorem dX12_begin_0 : decode cX12_begin 0 = .ok (.iload_n 1, 1) := by decide +kernel
theorem dX12_begin_1 : decode cX12_begin 1 = .ok (.ifCond .lt 39, 3) := by decide +kernel
theorem dX12_begin_4 : decode cX12_begin 4 = .ok (.iload_n 1, 1) := by decide +kernel
theorem dX12_begin_5 : decode cX12_begin 5 = .ok (.aload_n 0, 1) := by decide +kernel
theorem dX12_begin_6 : decode cX12_begin 6 = .ok (.getfield 7, 3) := by decide +kernel
theorem dX12_begin_9 : decode cX12_begin 9 = .ok (.if_icmp .ge 31, 3) := by decide +kernel
theorem dX12_begin_12 : decode cX12_begin 12 = .ok (.iload_n 2, 1) := by decide +kernel
theorem dX12_begin_13 : decode cX12_begin 13 = .ok (.ifCond .lt 27, 3) := by decide +kernel
theorem dX12_begin_16 : decode cX12_begin 16 = .ok (.iload_n 2, 1) := by decide +kernel
theorem dX12_begin_17 : decode cX12_begin 17 = .ok (.iconst 1, 1) := by decide +kernel
theorem dX12_begin_18 : decode cX12_begin 18 = .ok (.if_icmp .gt 22, 3) := by decide +kernel
theorem dX12_begin_21 : decode cX12_begin 21 = .ok (.iload_n 3, 1) := by decide +kernel
theorem dX12_begin_22 : decode cX12_begin 22 = .ok (.ldc_w 321, 3) := by decide +kernel
theorem dX12_begin_25 : decode cX12_begin 25 = .ok (.if_icmp .eq 17, 3) := by decide +kernel
theorem dX12_begin_28 : decode cX12_begin 28 = .ok (.iload_n 3, 1) := by decide +kernel
theorem dX12_begin_29 : decode cX12_begin 29 = .ok (.ldc 154, 2) := by decide +kernel
theorem dX12_begin_31 : decode cX12_begin 31 = .ok (.if_icmp .lt 9, 3) := by decide +kernel
theorem dX12_begin_34 : decode cX12_begin 34 = .ok (.iload_n 3, 1) := by decide +kernel
theorem dX12_begin_35 : decode cX12_begin 35 = .ok (.ldc 155, 2) := by decide +kernel
theorem dX12_begin_37 : decode cX12_begin 37 = .ok (.if_icmp .le 5, 3) := by decide +kernel
theorem dX12_begin_40 : decode cX12_begin 40 = .ok (.iconst (-1), 1) := by decide +kernel
theorem dX12_begin_41 : decode cX12_begin 41 = .ok (.ireturn, 1) := by decide +kernel
theorem dX12_begin_42 : decode cX12_begin 42 = .ok (.aload_n 0, 1) := by decide +kernel
theorem dX12_begin_43 : decode cX12_begin 43 = .ok (.getfield 34, 3) := by decide +kernel
theorem dX12_begin_46 : decode cX12_begin 46 = .ok (.iconst 2, 1) := by decide +kernel
theorem dX12_begin_47 : decode cX12_begin 47 = .ok (.iload_n 1, 1) := by decide +kernel
theorem dX12_begin_48 : decode cX12_begin 48 = .ok (.imul, 1) := by decide +kernel
theorem dX12_begin_49 : decode cX12_begin 49 = .ok (.iload_n 2, 1) := by decide +kernel
theorem dX12_begin_50 : decode cX12_begin 50 = .ok (.iadd, 1) := by decide +kernel
theorem dX12_begin_51 : decode cX12_begin 51 = .ok (.iload_n 3, 1) := by decide +kernel
theorem dX12_begin_52 : decode cX12_begin 52 = .ok (.i2l, 1) := by decide +kernel
theorem dX12_begin_53 : decode cX12_begin 53 = .ok (.lastore, 1) := by decide +kernel
theorem dX12_begin_54 : decode cX12_begin 54 = .ok (.aload_n 0, 1) := by decide +kernel
theorem dX12_begin_55 : decode cX12_begin 55 = .ok (.getfield 37, 3) := by decide +kernel
theorem dX12_begin_58 : decode cX12_begin 58 = .ok (.iconst 2, 1) := by decide +kernel
theorem dX12_begin_59 : decode cX12_begin 59 = .ok (.iload_n 1, 1) := by decide +kernel
theorem dX12_begin_60 : decode cX12_begin 60 = .ok (.imul, 1) := by decide +kernel
theorem dX12_begin_61 : decode cX12_begin 61 = .ok (.iload_n 2, 1) := by decide +kernel
theorem dX12_begin_62 : decode cX12_begin 62 = .ok (.iadd, 1) := by decide +kernel
theorem dX12_begin_63 : decode cX12_begin 63 = .ok (.iload_n 3, 1) := by decide +kernel
theorem dX12_begin_64 : decode cX12_begin 64 = .ok (.ldc_w 321, 3) := by decide +kernel
theorem dX12_begin_67 : decode cX12_begin 67 = .ok (.if_icmp .ne 7, 3) := by decide +kernel
theorem dX12_begin_70 : decode cX12_begin 70 = .ok (.iconst 1, 1) := by decide +kernel
theorem dX12_begin_71 : decode cX12_begin 71 = .ok (.goto 4, 3) := by decide +kernel
theorem dX12_begin_74 : decode cX12_begin 74 = .ok (.iconst 0, 1) := by decide +kernel
theorem dX12_begin_75 : decode cX12_begin 75 = .ok (.bastore, 1) := by decide +kernel
theorem dX12_begin_76 : decode cX12_begin 76 = .ok (.iconst 0, 1) := by decide +kernel
theorem dX12_begin_77 : decode cX12_begin 77 = .ok (.ireturn, 1) := by decide +kernel
theorem dX12_reach_0 : decode cX12_reach 0 = .ok (.aload_n 0, 1) := by decide +kernel
theorem dX12_reach_1 : decode cX12_reach 1 = .ok (.iconst 0, 1) := by decide +kernel
theorem dX12_reach_2 : decode cX12_reach 2 = .ok (.putfield 322, 3) := by decide +kernel
theorem dX12_reach_5 : decode cX12_reach 5 = .ok (.aload_n 0, 1) := by decide +kernel
theorem dX12_reach_6 : decode cX12_reach 6 = .ok (.aload_n 1, 1) := by decide +kernel
theorem dX12_reach_7 : decode cX12_reach 7 = .ok (.iload_n 2, 1) := by decide +kernel
theorem dX12_reach_8 : decode cX12_reach 8 = .ok (.iconst 3, 1) := by decide +kernel
theorem dX12_reach_9 : decode cX12_reach 9 = .ok (.iadd, 1) := by decide +kernel
theorem dX12_reach_10 : decode cX12_reach 10 = .ok (.iaload, 1) := by decide +kernel
theorem dX12_reach_11 : decode cX12_reach 11 = .ok (.i2l, 1) := by decide +kernel
theorem dX12_reach_12 : decode cX12_reach 12 = .ok (.putfield 325, 3) := by decide +kernel
theorem dX12_reach_15 : decode cX12_reach 15 = .ok (.iconst 0, 1) := by decide +kernel
theorem dX12_reach_16 : decode cX12_reach 16 = .ok (.istore 4, 2) := by decide +kernel
theorem dX12_reach_18 : decode cX12_reach 18 = .ok (.iload 4, 2) := by decide +kernel
theorem dX12_reach_20 : decode cX12_reach 20 = .ok (.aload_n 0, 1) := by decide +kernel
theorem dX12_reach_21 : decode cX12_reach 21 = .ok (.getfield 7, 3) := by decide +kernel
theorem dX12_reach_24 : decode cX12_reach 24 = .ok (.if_icmp .ge 101, 3) := by decide +kernel
theorem dX12_reach_27 : decode cX12_reach 27 = .ok (.aload_n 1, 1) := by decide +kernel
theorem dX12_reach_28 : decode cX12_reach 28 = .ok (.iload_n 2, 1) := by decide +kernel
theorem dX12_reach_29 : decode cX12_reach 29 = .ok (.iload 4, 2) := by decide +kernel
theorem dX12_reach_31 : decode cX12_reach 31 = .ok (.iadd, 1) := by decide +kernel
theorem dX12_reach_32 : decode cX12_reach 32 = .ok (.iaload, 1) := by decide +kernel
theorem dX12_reach_33 : decode cX12_reach 33 = .ok (.istore 5, 2) := by decide +kernel
theorem dX12_reach_35 : decode cX12_reach 35 = .ok (.iload 5, 2) := by decide +kernel
theorem dX12_reach_37 : decode cX12_reach 37 = .ok (.ifCond .eq 82, 3) := by decide +kernel
theorem dX12_reach_40 : decode cX12_reach 40 = .ok (.iconst 2, 1) := by decide +kernel
theorem dX12_reach_41 : decode cX12_reach 41 = .ok (.iload 4, 2) := by decide +kernel
theorem dX12_reach_43 : decode cX12_reach 43 = .ok (.imul, 1) := by decide +kernel
theorem dX12_reach_44 : decode cX12_reach 44 = .ok (.iload 5, 2) := by decide +kernel
theorem dX12_reach_46 : decode cX12_reach 46 = .ok (.ifCond .le 7, 3) := by decide +kernel
theorem dX12_reach_49 : decode cX12_reach 49 = .ok (.iload_n 3, 1) := by decide +kernel
theorem dX12_reach_50 : decode cX12_reach 50 = .ok (.goto 6, 3) := by decide +kernel
theorem dX12_reach_53 : decode cX12_reach 53 = .ok (.iconst 1, 1) := by decide +kernel
theorem dX12_reach_54 : decode cX12_reach 54 = .ok (.iload_n 3, 1) := by decide +kernel
theorem dX12_reach_55 : decode cX12_reach 55 = .ok (.isub, 1) := by decide +kernel
theorem dX12_reach_56 : decode cX12_reach 56 = .ok (.iadd, 1) := by decide +kernel
theorem dX12_reach_57 : decode cX12_reach 57 = .ok (.istore 6, 2) := by decide +kernel
theorem dX12_reach_59 : decode cX12_reach 59 = .ok (.aload_n 0, 1) := by decide +kernel
theorem dX12_reach_60 : decode cX12_reach 60 = .ok (.aload_n 0, 1) := by decide +kernel
theorem dX12_reach_61 : decode cX12_reach 61 = .ok (.getfield 322, 3) := by decide +kernel
theorem dX12_reach_64 : decode cX12_reach 64 = .ok (.ifCond .ne 13, 3) := by decide +kernel
theorem dX12_reach_67 : decode cX12_reach 67 = .ok (.aload_n 0, 1) := by decide +kernel
theorem dX12_reach_68 : decode cX12_reach 68 = .ok (.getfield 77, 3) := by decide +kernel
theorem dX12_reach_71 : decode cX12_reach 71 = .ok (.iload 6, 2) := by decide +kernel
