theorem dX12_ring_39 : decode cX12_ring 39 = .ok (.if_icmp .ge 21, 3) := by decide +kernel
theorem dX12_ring_42 : decode cX12_ring 42 = .ok (.aload_n 0, 1) := by decide +kernel
theorem dX12_ring_43 : decode cX12_ring 43 = .ok (.getfield 68, 3) := by decide +kernel
theorem dX12_ring_46 : decode cX12_ring 46 = .ok (.iload_n 2, 1) := by decide +kernel
theorem dX12_ring_47 : decode cX12_ring 47 = .ok (.aload_n 0, 1) := by decide +kernel
theorem dX12_ring_48 : decode cX12_ring 48 = .ok (.getfield 23, 3) := by decide +kernel
theorem dX12_ring_51 : decode cX12_ring 51 = .ok (.iload_n 2, 1) := by decide +kernel
theorem dX12_ring_52 : decode cX12_ring 52 = .ok (.laload, 1) := by decide +kernel
theorem dX12_ring_53 : decode cX12_ring 53 = .ok (.lastore, 1) := by decide +kernel
theorem dX12_ring_54 : decode cX12_ring 54 = .ok (.iinc 2 1, 3) := by decide +kernel
theorem dX12_ring_57 : decode cX12_ring 57 = .ok (.goto (-20), 3) := by decide +kernel
theorem dX12_ring_60 : decode cX12_ring 60 = .ok (.aload_n 0, 1) := by decide +kernel
theorem dX12_ring_61 : decode cX12_ring 61 = .ok (.aload_n 0, 1) := by decide +kernel
theorem dX12_ring_62 : decode cX12_ring 62 = .ok (.getfield 68, 3) := by decide +kernel
theorem dX12_ring_65 : decode cX12_ring 65 = .ok (.iconst 0, 1) := by decide +kernel
theorem dX12_ring_66 : decode cX12_ring 66 = .ok (.invokevirtual 181, 3) := by decide +kernel
theorem dX12_ring_69 : decode cX12_ring 69 = .ok (.istore_n 2, 1) := by decide +kernel
theorem dX12_ring_70 : decode cX12_ring 70 = .ok (.iconst 1, 1) := by decide +kernel
theorem dX12_ring_71 : decode cX12_ring 71 = .ok (.istore_n 3, 1) := by decide +kernel
theorem dX12_ring_72 : decode cX12_ring 72 = .ok (.iload_n 3, 1) := by decide +kernel
theorem dX12_ring_73 : decode cX12_ring 73 = .ok (.iload_n 1, 1) := by decide +kernel
theorem dX12_ring_74 : decode cX12_ring 74 = .ok (.if_icmp .gt 51, 3) := by decide +kernel
theorem dX12_ring_77 : decode cX12_ring 77 = .ok (.aload_n 0, 1) := by decide +kernel
theorem dX12_ring_78 : decode cX12_ring 78 = .ok (.aload_n 0, 1) := by decide +kernel
theorem dX12_ring_79 : decode cX12_ring 79 = .ok (.getfield 68, 3) := by decide +kernel
theorem dX12_ring_82 : decode cX12_ring 82 = .ok (.invokevirtual 172, 3) := by decide +kernel
theorem dX12_ring_85 : decode cX12_ring 85 = .ok (.istore 4, 2) := by decide +kernel
theorem dX12_ring_87 : decode cX12_ring 87 = .ok (.iload 4, 2) := by decide +kernel
theorem dX12_ring_89 : decode cX12_ring 89 = .ok (.iconst 1, 1) := by decide +kernel
theorem dX12_ring_90 : decode cX12_ring 90 = .ok (.if_icmp .eq 6, 3) := by decide +kernel
theorem dX12_ring_93 : decode cX12_ring 93 = .ok (.iload 4, 2) := by decide +kernel
theorem dX12_ring_95 : decode cX12_ring 95 = .ok (.ireturn, 1) := by decide +kernel
theorem dX12_ring_96 : decode cX12_ring 96 = .ok (.aload_n 0, 1) := by decide +kernel
theorem dX12_ring_97 : decode cX12_ring 97 = .ok (.aload_n 0, 1) := by decide +kernel
theorem dX12_ring_98 : decode cX12_ring 98 = .ok (.getfield 68, 3) := by decide +kernel
theorem dX12_ring_101 : decode cX12_ring 101 = .ok (.iload_n 3, 1) := by decide +kernel
theorem dX12_ring_102 : decode cX12_ring 102 = .ok (.invokevirtual 181, 3) := by decide +kernel
theorem dX12_ring_105 : decode cX12_ring 105 = .ok (.istore_n 2, 1) := by decide +kernel
theorem dX12_ring_106 : decode cX12_ring 106 = .ok (.iload_n 2, 1) := by decide +kernel
theorem dX12_ring_107 : decode cX12_ring 107 = .ok (.ifCond .lt 12, 3) := by decide +kernel
theorem dX12_ring_110 : decode cX12_ring 110 = .ok (.aload_n 0, 1) := by decide +kernel
theorem dX12_ring_111 : decode cX12_ring 111 = .ok (.iload_n 2, 1) := by decide +kernel
theorem dX12_ring_112 : decode cX12_ring 112 = .ok (.putfield 65, 3) := by decide +kernel
theorem dX12_ring_115 : decode cX12_ring 115 = .ok (.iload_n 3, 1) := by decide +kernel
theorem dX12_ring_116 : decode cX12_ring 116 = .ok (.iload_n 2, 1) := by decide +kernel
theorem dX12_ring_117 : decode cX12_ring 117 = .ok (.isub, 1) := by decide +kernel
theorem dX12_ring_118 : decode cX12_ring 118 = .ok (.ireturn, 1) := by decide +kernel
theorem dX12_ring_119 : decode cX12_ring 119 = .ok (.iinc 3 1, 3) := by decide +kernel
theorem dX12_ring_122 : decode cX12_ring 122 = .ok (.goto (-50), 3) := by decide +kernel
theorem dX12_ring_125 : decode cX12_ring 125 = .ok (.iconst 0, 1) := by decide +kernel
theorem dX12_ring_126 : decode cX12_ring 126 = .ok (.ireturn, 1) := by decide +kernel
theorem dX12_ahead_0 : decode cX12_ahead 0 = .ok (.aload_n 0, 1) := by decide +kernel
theorem dX12_ahead_1 : decode cX12_ahead 1 = .ok (.getfield 65, 3) := by decide +kernel
theorem dX12_ahead_4 : decode cX12_ahead 4 = .ok (.ireturn, 1) := by decide +kernel
theorem dX12_addSide_0 : decode cX12_addSide 0 = .ok (.aload_n 0, 1) := by decide +kernel
theorem dX12_addSide_1 : decode cX12_addSide 1 = .ok (.getfield 40, 3) := by decide +kernel
theorem dX12_addSide_4 : decode cX12_addSide 4 = .ok (.iconst 4, 1) := by decide +kernel
theorem dX12_addSide_5 : decode cX12_addSide 5 = .ok (.aload_n 0, 1) := by decide +kernel
theorem dX12_addSide_6 : decode cX12_addSide 6 = .ok (.getfield 185, 3) := by decide +kernel
theorem dX12_addSide_9 : decode cX12_addSide 9 = .ok (.imul, 1) := by decide +kernel
theorem dX12_addSide_10 : decode cX12_addSide 10 = .ok (.lload_n 1, 1) := by decide +kernel
theorem dX12_addSide_11 : decode cX12_addSide 11 = .ok (.lastore, 1) := by decide +kernel
theorem dX12_addSide_12 : decode cX12_addSide 12 = .ok (.aload_n 0, 1) := by decide +kernel
theorem dX12_addSide_13 : decode cX12_addSide 13 = .ok (.getfield 40, 3) := by decide +kernel
theorem dX12_addSide_16 : decode cX12_addSide 16 = .ok (.iconst 4, 1) := by decide +kernel
theorem dX12_addSide_17 : decode cX12_addSide 17 = .ok (.aload_n 0, 1) := by decide +kernel
theorem dX12_addSide_18 : decode cX12_addSide 18 = .ok (.getfield 185, 3) := by decide +kernel
theorem dX12_addSide_21 : decode cX12_addSide 21 = .ok (.imul, 1) := by decide +kernel
theorem dX12_addSide_22 : decode cX12_addSide 22 = .ok (.iconst 1, 1) := by decide +kernel
theorem dX12_addSide_23 : decode cX12_addSide 23 = .ok (.iadd, 1) := by decide +kernel
theorem dX12_addSide_24 : decode cX12_addSide 24 = .ok (.lload_n 3, 1) := by decide +kernel
theorem dX12_addSide_25 : decode cX12_addSide 25 = .ok (.lastore, 1) := by decide +kernel
theorem dX12_addSide_26 : decode cX12_addSide 26 = .ok (.aload_n 0, 1) := by decide +kernel
theorem dX12_addSide_27 : decode cX12_addSide 27 = .ok (.getfield 40, 3) := by decide +kernel
theorem dX12_addSide_30 : decode cX12_addSide 30 = .ok (.iconst 4, 1) := by decide +kernel
theorem dX12_addSide_31 : decode cX12_addSide 31 = .ok (.aload_n 0, 1) := by decide +kernel
theorem dX12_addSide_32 : decode cX12_addSide 32 = .ok (.getfield 185, 3) := by decide +kernel
theorem dX12_addSide_35 : decode cX12_addSide 35 = .ok (.imul, 1) := by decide +kernel
theorem dX12_addSide_36 : decode cX12_addSide 36 = .ok (.iconst 2, 1) := by decide +kernel
theorem dX12_addSide_37 : decode cX12_addSide 37 = .ok (.iadd, 1) := by decide +kernel
theorem dX12_addSide_38 : decode cX12_addSide 38 = .ok (.lload 5, 2) := by decide +kernel
theorem dX12_addSide_40 : decode cX12_addSide 40 = .ok (.lastore, 1) := by decide +kernel
theorem dX12_addSide_41 : decode cX12_addSide 41 = .ok (.aload_n 0, 1) := by decide +kernel
theorem dX12_addSide_42 : decode cX12_addSide 42 = .ok (.getfield 40, 3) := by decide +kernel
theorem dX12_addSide_45 : decode cX12_addSide 45 = .ok (.iconst 4, 1) := by decide +kernel
theorem dX12_addSide_46 : decode cX12_addSide 46 = .ok (.aload_n 0, 1) := by decide +kernel
theorem dX12_addSide_47 : decode cX12_addSide 47 = .ok (.getfield 185, 3) := by decide +kernel
theorem dX12_addSide_50 : decode cX12_addSide 50 = .ok (.imul, 1) := by decide +kernel
theorem dX12_addSide_51 : decode cX12_addSide 51 = .ok (.iconst 3, 1) := by decide +kernel
theorem dX12_addSide_52 : decode cX12_addSide 52 = .ok (.iadd, 1) := by decide +kernel
theorem dX12_addSide_53 : decode cX12_addSide 53 = .ok (.lload 7, 2) := by decide +kernel
theorem dX12_addSide_55 : decode cX12_addSide 55 = .ok (.lastore, 1) := by decide +kernel
theorem dX12_addSide_56 : decode cX12_addSide 56 = .ok (.aload_n 0, 1) := by decide +kernel
theorem dX12_addSide_57 : decode cX12_addSide 57 = .ok (.dup, 1) := by decide +kernel
theorem dX12_addSide_58 : decode cX12_addSide 58 = .ok (.getfield 185, 3) := by decide +kernel
theorem dX12_addSide_61 : decode cX12_addSide 61 = .ok (.iconst 1, 1) := by decide +kernel
theorem dX12_addSide_62 : decode cX12_addSide 62 = .ok (.iadd, 1) := by decide +kernel
theorem dX12_addSide_63 : decode cX12_addSide 63 = .ok (.putfield 185, 3) := by decide +kernel
theorem dX12_addSide_66 : decode cX12_addSide 66 = .ok (.return_, 1) := by decide +kernel
theorem dX12_isZero_0 : decode cX12_isZero 0 = .ok (.aload_n 0, 1) := by decide +kernel
theorem dX12_isZero_1 : decode cX12_isZero 1 = .ok (.getfield 40, 3) := by decide +kernel
theorem dX12_isZero_4 : decode cX12_isZero 4 = .ok (.iconst 4, 1) := by decide +kernel
theorem dX12_isZero_5 : decode cX12_isZero 5 = .ok (.iload_n 1, 1) := by decide +kernel
theorem dX12_isZero_6 : decode cX12_isZero 6 = .ok (.imul, 1) := by decide +kernel
theorem dX12_isZero_7 : decode cX12_isZero 7 = .ok (.laload, 1) := by decide +kernel
theorem dX12_isZero_8 : decode cX12_isZero 8 = .ok (.lconst 0, 1) := by decide +kernel
theorem dX12_isZero_9 : decode cX12_isZero 9 = .ok (.lcmp, 1) := by decide +kernel
theorem dX12_isZero_10 : decode cX12_isZero 10 = .ok (.ifCond .ne 37, 3) := by decide +kernel
theorem dX12_isZero_13 : decode cX12_isZero 13 = .ok (.aload_n 0, 1) := by decide +kernel
theorem dX12_isZero_14 : decode cX12_isZero 14 = .ok (.getfield 40, 3) := by decide +kernel
theorem dX12_isZero_17 : decode cX12_isZero 17 = .ok (.iconst 4, 1) := by decide +kernel
theorem dX12_isZero_18 : decode cX12_isZero 18 = .ok (.iload_n 1, 1) := by decide +kernel
theorem dX12_isZero_19 : decode cX12_isZero 19 = .ok (.imul, 1) := by decide +kernel
theorem dX12_isZero_20 : decode cX12_isZero 20 = .ok (.iconst 1, 1) := by decide +kernel
theorem dX12_isZero_21 : decode cX12_isZero 21 = .ok (.iadd, 1) := by decide +kernel
theorem dX12_isZero_22 : decode cX12_isZero 22 = .ok (.laload, 1) := by decide +kernel
theorem dX12_isZero_23 : decode cX12_isZero 23 = .ok (.lconst 0, 1) := by decide +kernel
theorem dX12_isZero_24 : decode cX12_isZero 24 = .ok (.lcmp, 1) := by decide +kernel
theorem dX12_isZero_25 : decode cX12_isZero 25 = .ok (.ifCond .ne 22, 3) := by decide +kernel
theorem dX12_isZero_28 : decode cX12_isZero 28 = .ok (.aload_n 0, 1) := by decide +kernel
theorem dX12_isZero_29 : decode cX12_isZero 29 = .ok (.getfield 40, 3) := by decide +kernel
theorem dX12_isZero_32 : decode cX12_isZero 32 = .ok (.iconst 4, 1) := by decide +kernel
theorem dX12_isZero_33 : decode cX12_isZero 33 = .ok (.iload_n 1, 1) := by decide +kernel
theorem dX12_isZero_34 : decode cX12_isZero 34 = .ok (.imul, 1) := by decide +kernel
theorem dX12_isZero_35 : decode cX12_isZero 35 = .ok (.iconst 2, 1) := by decide +kernel
theorem dX12_isZero_36 : decode cX12_isZero 36 = .ok (.iadd, 1) := by decide +kernel
theorem dX12_isZero_37 : decode cX12_isZero 37 = .ok (.laload, 1) := by decide +kernel
theorem dX12_isZero_38 : decode cX12_isZero 38 = .ok (.lconst 0, 1) := by decide +kernel
theorem dX12_isZero_39 : decode cX12_isZero 39 = .ok (.lcmp, 1) := by decide +kernel
theorem dX12_isZero_40 : decode cX12_isZero 40 = .ok (.ifCond .ne 7, 3) := by decide +kernel
theorem dX12_isZero_43 : decode cX12_isZero 43 = .ok (.iconst 1, 1) := by decide +kernel
theorem dX12_isZero_44 : decode cX12_isZero 44 = .ok (.goto 4, 3) := by decide +kernel
theorem dX12_isZero_47 : decode cX12_isZero 47 = .ok (.iconst 0, 1) := by decide +kernel
theorem dX12_isZero_48 : decode cX12_isZero 48 = .ok (.ireturn, 1) := by decide +kernel
theorem dX12_cross_0 : decode cX12_cross 0 = .ok (.iload_n 3, 1) := by decide +kernel
theorem dX12_cross_1 : decode cX12_cross 1 = .ok (.iconst 1, 1) := by decide +kernel
theorem dX12_cross_2 : decode cX12_cross 2 = .ok (.iadd, 1) := by decide +kernel
theorem dX12_cross_3 : decode cX12_cross 3 = .ok (.iconst 3, 1) := by decide +kernel
theorem dX12_cross_4 : decode cX12_cross 4 = .ok (.irem, 1) := by decide +kernel
theorem dX12_cross_5 : decode cX12_cross 5 = .ok (.istore 4, 2) := by decide +kernel
theorem dX12_cross_7 : decode cX12_cross 7 = .ok (.iload_n 3, 1) := by decide +kernel
theorem dX12_cross_8 : decode cX12_cross 8 = .ok (.iconst 2, 1) := by decide +kernel
theorem dX12_cross_9 : decode cX12_cross 9 = .ok (.iadd, 1) := by decide +kernel
theorem dX12_cross_10 : decode cX12_cross 10 = .ok (.iconst 3, 1) := by decide +kernel
theorem dX12_cross_11 : decode cX12_cross 11 = .ok (.irem, 1) := by decide +kernel
theorem dX12_cross_12 : decode cX12_cross 12 = .ok (.istore 5, 2) := by decide +kernel
theorem dX12_cross_14 : decode cX12_cross 14 = .ok (.aload_n 0, 1) := by decide +kernel
theorem dX12_cross_15 : decode cX12_cross 15 = .ok (.getfield 40, 3) := by decide +kernel
theorem dX12_cross_18 : decode cX12_cross 18 = .ok (.iconst 4, 1) := by decide +kernel
theorem dX12_cross_19 : decode cX12_cross 19 = .ok (.iload_n 1, 1) := by decide +kernel
theorem dX12_cross_20 : decode cX12_cross 20 = .ok (.imul, 1) := by decide +kernel
theorem dX12_cross_21 : decode cX12_cross 21 = .ok (.iload 4, 2) := by decide +kernel
theorem dX12_cross_23 : decode cX12_cross 23 = .ok (.iadd, 1) := by decide +kernel
theorem dX12_cross_24 : decode cX12_cross 24 = .ok (.laload, 1) := by decide +kernel
theorem dX12_cross_25 : decode cX12_cross 25 = .ok (.aload_n 0, 1) := by decide +kernel
theorem dX12_cross_26 : decode cX12_cross 26 = .ok (.getfield 40, 3) := by decide +kernel
theorem dX12_cross_29 : decode cX12_cross 29 = .ok (.iconst 4, 1) := by decide +kernel
theorem dX12_cross_30 : decode cX12_cross 30 = .ok (.iload_n 2, 1) := by decide +kernel
theorem dX12_cross_31 : decode cX12_cross 31 = .ok (.imul, 1) := by decide +kernel
theorem dX12_cross_32 : decode cX12_cross 32 = .ok (.iload 5, 2) := by decide +kernel
theorem dX12_cross_34 : decode cX12_cross 34 = .ok (.iadd, 1) := by decide +kernel
theorem dX12_cross_35 : decode cX12_cross 35 = .ok (.laload, 1) := by decide +kernel
theorem dX12_cross_36 : decode cX12_cross 36 = .ok (.lmul, 1) := by decide +kernel
theorem dX12_cross_37 : decode cX12_cross 37 = .ok (.aload_n 0, 1) := by decide +kernel
theorem dX12_cross_38 : decode cX12_cross 38 = .ok (.getfield 40, 3) := by decide +kernel
theorem dX12_cross_41 : decode cX12_cross 41 = .ok (.iconst 4, 1) := by decide +kernel
theorem dX12_cross_42 : decode cX12_cross 42 = .ok (.iload_n 1, 1) := by decide +kernel
theorem dX12_cross_43 : decode cX12_cross 43 = .ok (.imul, 1) := by decide +kernel
theorem dX12_cross_44 : decode cX12_cross 44 = .ok (.iload 5, 2) := by decide +kernel
theorem dX12_cross_46 : decode cX12_cross 46 = .ok (.iadd, 1) := by decide +kernel
theorem dX12_cross_47 : decode cX12_cross 47 = .ok (.laload, 1) := by decide +kernel
theorem dX12_cross_48 : decode cX12_cross 48 = .ok (.aload_n 0, 1) := by decide +kernel
theorem dX12_cross_49 : decode cX12_cross 49 = .ok (.getfield 40, 3) := by decide +kernel
theorem dX12_cross_52 : decode cX12_cross 52 = .ok (.iconst 4, 1) := by decide +kernel
theorem dX12_cross_53 : decode cX12_cross 53 = .ok (.iload_n 2, 1) := by decide +kernel
theorem dX12_cross_54 : decode cX12_cross 54 = .ok (.imul, 1) := by decide +kernel
theorem dX12_cross_55 : decode cX12_cross 55 = .ok (.iload 4, 2) := by decide +kernel
theorem dX12_cross_57 : decode cX12_cross 57 = .ok (.iadd, 1) := by decide +kernel
theorem dX12_cross_58 : decode cX12_cross 58 = .ok (.laload, 1) := by decide +kernel
theorem dX12_cross_59 : decode cX12_cross 59 = .ok (.lmul, 1) := by decide +kernel
theorem dX12_cross_60 : decode cX12_cross 60 = .ok (.lsub, 1) := by decide +kernel
theorem dX12_cross_61 : decode cX12_cross 61 = .ok (.lreturn, 1) := by decide +kernel
theorem dX12_areParallel_0 : decode cX12_areParallel 0 = .ok (.aload_n 0, 1) := by decide +kernel
theorem dX12_areParallel_1 : decode cX12_areParallel 1 = .ok (.iload_n 1, 1) := by decide +kernel
theorem dX12_areParallel_2 : decode cX12_areParallel 2 = .ok (.iload_n 2, 1) := by decide +kernel
theorem dX12_areParallel_3 : decode cX12_areParallel 3 = .ok (.iconst 0, 1) := by decide +kernel
theorem dX12_areParallel_4 : decode cX12_areParallel 4 = .ok (.invokevirtual 211, 3) := by decide +kernel
theorem dX12_areParallel_7 : decode cX12_areParallel 7 = .ok (.lconst 0, 1) := by decide +kernel
theorem dX12_areParallel_8 : decode cX12_areParallel 8 = .ok (.lcmp, 1) := by decide +kernel
theorem dX12_areParallel_9 : decode cX12_areParallel 9 = .ok (.ifCond .ne 31, 3) := by decide +kernel
theorem dX12_areParallel_12 : decode cX12_areParallel 12 = .ok (.aload_n 0, 1) := by decide +kernel
theorem dX12_areParallel_13 : decode cX12_areParallel 13 = .ok (.iload_n 1, 1) := by decide +kernel
theorem dX12_areParallel_14 : decode cX12_areParallel 14 = .ok (.iload_n 2, 1) := by decide +kernel
theorem dX12_areParallel_15 : decode cX12_areParallel 15 = .ok (.iconst 1, 1) := by decide +kernel
theorem dX12_areParallel_16 : decode cX12_areParallel 16 = .ok (.invokevirtual 211, 3) := by decide +kernel
theorem dX12_areParallel_19 : decode cX12_areParallel 19 = .ok (.lconst 0, 1) := by decide +kernel
theorem dX12_areParallel_20 : decode cX12_areParallel 20 = .ok (.lcmp, 1) := by decide +kernel
theorem dX12_areParallel_21 : decode cX12_areParallel 21 = .ok (.ifCond .ne 19, 3) := by decide +kernel
theorem dX12_areParallel_24 : decode cX12_areParallel 24 = .ok (.aload_n 0, 1) := by decide +kernel
theorem dX12_areParallel_25 : decode cX12_areParallel 25 = .ok (.iload_n 1, 1) := by decide +kernel
theorem dX12_areParallel_26 : decode cX12_areParallel 26 = .ok (.iload_n 2, 1) := by decide +kernel
theorem dX12_areParallel_27 : decode cX12_areParallel 27 = .ok (.iconst 2, 1) := by decide +kernel
theorem dX12_areParallel_28 : decode cX12_areParallel 28 = .ok (.invokevirtual 211, 3) := by decide +kernel
theorem dX12_areParallel_31 : decode cX12_areParallel 31 = .ok (.lconst 0, 1) := by decide +kernel
theorem dX12_areParallel_32 : decode cX12_areParallel 32 = .ok (.lcmp, 1) := by decide +kernel
theorem dX12_areParallel_33 : decode cX12_areParallel 33 = .ok (.ifCond .ne 7, 3) := by decide +kernel
theorem dX12_areParallel_36 : decode cX12_areParallel 36 = .ok (.iconst 1, 1) := by decide +kernel
theorem dX12_areParallel_37 : decode cX12_areParallel 37 = .ok (.goto 4, 3) := by decide +kernel
theorem dX12_areParallel_40 : decode cX12_areParallel 40 = .ok (.iconst 0, 1) := by decide +kernel
theorem dX12_areParallel_41 : decode cX12_areParallel 41 = .ok (.ireturn, 1) := by decide +kernel
theorem dX12_twoLeaveNothing_0 : decode cX12_twoLeaveNothing 0 = .ok (.aload_n 0, 1) := by decide +kernel
theorem dX12_twoLeaveNothing_1 : decode cX12_twoLeaveNothing 1 = .ok (.iload_n 1, 1) := by decide +kernel
theorem dX12_twoLeaveNothing_2 : decode cX12_twoLeaveNothing 2 = .ok (.invokevirtual 197, 3) := by decide +kernel
theorem dX12_twoLeaveNothing_5 : decode cX12_twoLeaveNothing 5 = .ok (.ifCond .ne 20, 3) := by decide +kernel
theorem dX12_twoLeaveNothing_8 : decode cX12_twoLeaveNothing 8 = .ok (.aload_n 0, 1) := by decide +kernel
theorem dX12_twoLeaveNothing_9 : decode cX12_twoLeaveNothing 9 = .ok (.iload_n 2, 1) := by decide +kernel
theorem dX12_twoLeaveNothing_10 : decode cX12_twoLeaveNothing 10 = .ok (.invokevirtual 197, 3) := by decide +kernel
theorem dX12_twoLeaveNothing_13 : decode cX12_twoLeaveNothing 13 = .ok (.ifCond .ne 12, 3) := by decide +kernel
theorem dX12_twoLeaveNothing_16 : decode cX12_twoLeaveNothing 16 = .ok (.aload_n 0, 1) := by decide +kernel
theorem dX12_twoLeaveNothing_17 : decode cX12_twoLeaveNothing 17 = .ok (.iload_n 1, 1) := by decide +kernel
theorem dX12_twoLeaveNothing_18 : decode cX12_twoLeaveNothing 18 = .ok (.iload_n 2, 1) := by decide +kernel
theorem dX12_twoLeaveNothing_19 : decode cX12_twoLeaveNothing 19 = .ok (.invokevirtual 215, 3) := by decide +kernel
theorem dX12_twoLeaveNothing_22 : decode cX12_twoLeaveNothing 22 = .ok (.ifCond .ne 5, 3) := by decide +kernel
theorem dX12_twoLeaveNothing_25 : decode cX12_twoLeaveNothing 25 = .ok (.iconst 0, 1) := by decide +kernel
theorem dX12_twoLeaveNothing_26 : decode cX12_twoLeaveNothing 26 = .ok (.ireturn, 1) := by decide +kernel
theorem dX12_twoLeaveNothing_27 : decode cX12_twoLeaveNothing 27 = .ok (.iconst 0, 1) := by decide +kernel
theorem dX12_twoLeaveNothing_28 : decode cX12_twoLeaveNothing 28 = .ok (.istore_n 3, 1) := by decide +kernel
theorem dX12_twoLeaveNothing_29 : decode cX12_twoLeaveNothing 29 = .ok (.aload_n 0, 1) := by decide +kernel
theorem dX12_twoLeaveNothing_30 : decode cX12_twoLeaveNothing 30 = .ok (.getfield 40, 3) := by decide +kernel
theorem dX12_twoLeaveNothing_33 : decode cX12_twoLeaveNothing 33 = .ok (.iconst 4, 1) := by decide +kernel
theorem dX12_twoLeaveNothing_34 : decode cX12_twoLeaveNothing 34 = .ok (.iload_n 1, 1) := by decide +kernel
theorem dX12_twoLeaveNothing_35 : decode cX12_twoLeaveNothing 35 = .ok (.imul, 1) := by decide +kernel
theorem dX12_twoLeaveNothing_36 : decode cX12_twoLeaveNothing 36 = .ok (.iload_n 3, 1) := by decide +kernel
theorem dX12_twoLeaveNothing_37 : decode cX12_twoLeaveNothing 37 = .ok (.iadd, 1) := by decide +kernel
theorem dX12_twoLeaveNothing_38 : decode cX12_twoLeaveNothing 38 = .ok (.laload, 1) := by decide +kernel
theorem dX12_twoLeaveNothing_39 : decode cX12_twoLeaveNothing 39 = .ok (.lconst 0, 1) := by decide +kernel
theorem dX12_twoLeaveNothing_40 : decode cX12_twoLeaveNothing 40 = .ok (.lcmp, 1) := by decide +kernel
theorem dX12_twoLeaveNothing_41 : decode cX12_twoLeaveNothing 41 = .ok (.ifCond .ne 9, 3) := by decide +kernel
theorem dX12_twoLeaveNothing_44 : decode cX12_twoLeaveNothing 44 = .ok (.iinc 3 1, 3) := by decide +kernel
theorem dX12_twoLeaveNothing_47 : decode cX12_twoLeaveNothing 47 = .ok (.goto (-18), 3) := by decide +kernel
theorem dX12_twoLeaveNothing_50 : decode cX12_twoLeaveNothing 50 = .ok (.aload_n 0, 1) := by decide +kernel
theorem dX12_twoLeaveNothing_51 : decode cX12_twoLeaveNothing 51 = .ok (.getfield 40, 3) := by decide +kernel
theorem dX12_twoLeaveNothing_54 : decode cX12_twoLeaveNothing 54 = .ok (.iconst 4, 1) := by decide +kernel
theorem dX12_twoLeaveNothing_55 : decode cX12_twoLeaveNothing 55 = .ok (.iload_n 1, 1) := by decide +kernel
theorem dX12_twoLeaveNothing_56 : decode cX12_twoLeaveNothing 56 = .ok (.imul, 1) := by decide +kernel
theorem dX12_twoLeaveNothing_57 : decode cX12_twoLeaveNothing 57 = .ok (.iload_n 3, 1) := by decide +kernel
theorem dX12_twoLeaveNothing_58 : decode cX12_twoLeaveNothing 58 = .ok (.iadd, 1) := by decide +kernel
theorem dX12_twoLeaveNothing_59 : decode cX12_twoLeaveNothing 59 = .ok (.laload, 1) := by decide +kernel
theorem dX12_twoLeaveNothing_60 : decode cX12_twoLeaveNothing 60 = .ok (.lstore 4, 2) := by decide +kernel
theorem dX12_twoLeaveNothing_62 : decode cX12_twoLeaveNothing 62 = .ok (.aload_n 0, 1) := by decide +kernel
theorem dX12_twoLeaveNothing_63 : decode cX12_twoLeaveNothing 63 = .ok (.getfield 40, 3) := by decide +kernel
theorem dX12_twoLeaveNothing_66 : decode cX12_twoLeaveNothing 66 = .ok (.iconst 4, 1) := by decide +kernel
theorem dX12_twoLeaveNothing_67 : decode cX12_twoLeaveNothing 67 = .ok (.iload_n 2, 1) := by decide +kernel
theorem dX12_twoLeaveNothing_68 : decode cX12_twoLeaveNothing 68 = .ok (.imul, 1) := by decide +kernel
theorem dX12_twoLeaveNothing_69 : decode cX12_twoLeaveNothing 69 = .ok (.iload_n 3, 1) := by decide +kernel
theorem dX12_twoLeaveNothing_70 : decode cX12_twoLeaveNothing 70 = .ok (.iadd, 1) := by decide +kernel
theorem dX12_twoLeaveNothing_71 : decode cX12_twoLeaveNothing 71 = .ok (.laload, 1) := by decide +kernel
theorem dX12_twoLeaveNothing_72 : decode cX12_twoLeaveNothing 72 = .ok (.lstore 6, 2) := by decide +kernel
theorem dX12_twoLeaveNothing_74 : decode cX12_twoLeaveNothing 74 = .ok (.lload 4, 2) := by decide +kernel
theorem dX12_twoLeaveNothing_76 : decode cX12_twoLeaveNothing 76 = .ok (.lconst 0, 1) := by decide +kernel
theorem dX12_twoLeaveNothing_77 : decode cX12_twoLeaveNothing 77 = .ok (.lcmp, 1) := by decide +kernel
theorem dX12_twoLeaveNothing_78 : decode cX12_twoLeaveNothing 78 = .ok (.ifCond .le 7, 3) := by decide +kernel
theorem dX12_twoLeaveNothing_81 : decode cX12_twoLeaveNothing 81 = .ok (.iconst 1, 1) := by decide +kernel
theorem dX12_twoLeaveNothing_82 : decode cX12_twoLeaveNothing 82 = .ok (.goto 4, 3) := by decide +kernel
theorem dX12_twoLeaveNothing_85 : decode cX12_twoLeaveNothing 85 = .ok (.iconst 0, 1) := by decide +kernel
theorem dX12_twoLeaveNothing_86 : decode cX12_twoLeaveNothing 86 = .ok (.lload 6, 2) := by decide +kernel
theorem dX12_twoLeaveNothing_88 : decode cX12_twoLeaveNothing 88 = .ok (.lconst 0, 1) := by decide +kernel
theorem dX12_twoLeaveNothing_89 : decode cX12_twoLeaveNothing 89 = .ok (.lcmp, 1) := by decide +kernel
theorem dX12_twoLeaveNothing_90 : decode cX12_twoLeaveNothing 90 = .ok (.ifCond .le 7, 3) := by decide +kernel
theorem dX12_twoLeaveNothing_93 : decode cX12_twoLeaveNothing 93 = .ok (.iconst 1, 1) := by decide +kernel
theorem dX12_twoLeaveNothing_94 : decode cX12_twoLeaveNothing 94 = .ok (.goto 4, 3) := by decide +kernel
theorem dX12_twoLeaveNothing_97 : decode cX12_twoLeaveNothing 97 = .ok (.iconst 0, 1) := by decide +kernel
theorem dX12_twoLeaveNothing_98 : decode cX12_twoLeaveNothing 98 = .ok (.if_icmp .ne 5, 3) := by decide +kernel
theorem dX12_twoLeaveNothing_101 : decode cX12_twoLeaveNothing 101 = .ok (.iconst 0, 1) := by decide +kernel
theorem dX12_twoLeaveNothing_102 : decode cX12_twoLeaveNothing 102 = .ok (.ireturn, 1) := by decide +kernel
theorem dX12_twoLeaveNothing_103 : decode cX12_twoLeaveNothing 103 = .ok (.lload 6, 2) := by decide +kernel
theorem dX12_twoLeaveNothing_105 : decode cX12_twoLeaveNothing 105 = .ok (.invokestatic 218, 3) := by decide +kernel
theorem dX12_twoLeaveNothing_108 : decode cX12_twoLeaveNothing 108 = .ok (.aload_n 0, 1) := by decide +kernel
theorem dX12_twoLeaveNothing_109 : decode cX12_twoLeaveNothing 109 = .ok (.getfield 40, 3) := by decide +kernel
theorem dX12_twoLeaveNothing_112 : decode cX12_twoLeaveNothing 112 = .ok (.iconst 4, 1) := by decide +kernel
theorem dX12_twoLeaveNothing_113 : decode cX12_twoLeaveNothing 113 = .ok (.iload_n 1, 1) := by decide +kernel
theorem dX12_twoLeaveNothing_114 : decode cX12_twoLeaveNothing 114 = .ok (.imul, 1) := by decide +kernel
theorem dX12_twoLeaveNothing_115 : decode cX12_twoLeaveNothing 115 = .ok (.iconst 3, 1) := by decide +kernel
theorem dX12_twoLeaveNothing_116 : decode cX12_twoLeaveNothing 116 = .ok (.iadd, 1) := by decide +kernel
theorem dX12_twoLeaveNothing_117 : decode cX12_twoLeaveNothing 117 = .ok (.laload, 1) := by decide +kernel
theorem dX12_twoLeaveNothing_118 : decode cX12_twoLeaveNothing 118 = .ok (.lmul, 1) := by decide +kernel
theorem dX12_twoLeaveNothing_119 : decode cX12_twoLeaveNothing 119 = .ok (.lload 4, 2) := by decide +kernel
theorem dX12_twoLeaveNothing_121 : decode cX12_twoLeaveNothing 121 = .ok (.invokestatic 218, 3) := by decide +kernel
theorem dX12_twoLeaveNothing_124 : decode cX12_twoLeaveNothing 124 = .ok (.aload_n 0, 1) := by decide +kernel
theorem dX12_twoLeaveNothing_125 : decode cX12_twoLeaveNothing 125 = .ok (.getfield 40, 3) := by decide +kernel
theorem dX12_twoLeaveNothing_128 : decode cX12_twoLeaveNothing 128 = .ok (.iconst 4, 1) := by decide +kernel
theorem dX12_twoLeaveNothing_129 : decode cX12_twoLeaveNothing 129 = .ok (.iload_n 2, 1) := by decide +kernel
theorem dX12_twoLeaveNothing_130 : decode cX12_twoLeaveNothing 130 = .ok (.imul, 1) := by decide +kernel
theorem dX12_twoLeaveNothing_131 : decode cX12_twoLeaveNothing 131 = .ok (.iconst 3, 1) := by decide +kernel
theorem dX12_twoLeaveNothing_132 : decode cX12_twoLeaveNothing 132 = .ok (.iadd, 1) := by decide +kernel
theorem dX12_twoLeaveNothing_133 : decode cX12_twoLeaveNothing 133 = .ok (.laload, 1) := by decide +kernel
theorem dX12_twoLeaveNothing_134 : decode cX12_twoLeaveNothing 134 = .ok (.lmul, 1) := by decide +kernel
theorem dX12_twoLeaveNothing_135 : decode cX12_twoLeaveNothing 135 = .ok (.ladd, 1) := by decide +kernel
theorem dX12_twoLeaveNothing_136 : decode cX12_twoLeaveNothing 136 = .ok (.lconst 0, 1) := by decide +kernel
theorem dX12_twoLeaveNothing_137 : decode cX12_twoLeaveNothing 137 = .ok (.lcmp, 1) := by decide +kernel
theorem dX12_twoLeaveNothing_138 : decode cX12_twoLeaveNothing 138 = .ok (.ifCond .le 7, 3) := by decide +kernel
theorem dX12_twoLeaveNothing_141 : decode cX12_twoLeaveNothing 141 = .ok (.iconst 1, 1) := by decide +kernel
theorem dX12_twoLeaveNothing_142 : decode cX12_twoLeaveNothing 142 = .ok (.goto 4, 3) := by decide +kernel
theorem dX12_twoLeaveNothing_145 : decode cX12_twoLeaveNothing 145 = .ok (.iconst 0, 1) := by decide +kernel
theorem dX12_twoLeaveNothing_146 : decode cX12_twoLeaveNothing 146 = .ok (.ireturn, 1) := by decide +kernel
theorem dX12_determinant_0 : decode cX12_determinant 0 = .ok (.aload_n 0, 1) := by decide +kernel
theorem dX12_determinant_1 : decode cX12_determinant 1 = .ok (.getfield 40, 3) := by decide +kernel
theorem dX12_determinant_4 : decode cX12_determinant 4 = .ok (.iconst 4, 1) := by decide +kernel
theorem dX12_determinant_5 : decode cX12_determinant 5 = .ok (.iload_n 1, 1) := by decide +kernel
theorem dX12_determinant_6 : decode cX12_determinant 6 = .ok (.imul, 1) := by decide +kernel
theorem dX12_determinant_7 : decode cX12_determinant 7 = .ok (.laload, 1) := by decide +kernel
theorem dX12_determinant_8 : decode cX12_determinant 8 = .ok (.aload_n 0, 1) := by decide +kernel
theorem dX12_determinant_9 : decode cX12_determinant 9 = .ok (.iload_n 2, 1) := by decide +kernel
theorem dX12_determinant_10 : decode cX12_determinant 10 = .ok (.iload_n 3, 1) := by decide +kernel
theorem dX12_determinant_11 : decode cX12_determinant 11 = .ok (.iconst 0, 1) := by decide +kernel
theorem dX12_determinant_12 : decode cX12_determinant 12 = .ok (.invokevirtual 211, 3) := by decide +kernel
theorem dX12_determinant_15 : decode cX12_determinant 15 = .ok (.lmul, 1) := by decide +kernel
theorem dX12_determinant_16 : decode cX12_determinant 16 = .ok (.aload_n 0, 1) := by decide +kernel
theorem dX12_determinant_17 : decode cX12_determinant 17 = .ok (.getfield 40, 3) := by decide +kernel
theorem dX12_determinant_20 : decode cX12_determinant 20 = .ok (.iconst 4, 1) := by decide +kernel
theorem dX12_determinant_21 : decode cX12_determinant 21 = .ok (.iload_n 1, 1) := by decide +kernel
theorem dX12_determinant_22 : decode cX12_determinant 22 = .ok (.imul, 1) := by decide +kernel
theorem dX12_determinant_23 : decode cX12_determinant 23 = .ok (.iconst 1, 1) := by decide +kernel
theorem dX12_determinant_24 : decode cX12_determinant 24 = .ok (.iadd, 1) := by decide +kernel
theorem dX12_determinant_25 : decode cX12_determinant 25 = .ok (.laload, 1) := by decide +kernel
theorem dX12_determinant_26 : decode cX12_determinant 26 = .ok (.aload_n 0, 1) := by decide +kernel
theorem dX12_determinant_27 : decode cX12_determinant 27 = .ok (.iload_n 2, 1) := by decide +kernel
theorem dX12_determinant_28 : decode cX12_determinant 28 = .ok (.iload_n 3, 1) := by decide +kernel
theorem dX12_determinant_29 : decode cX12_determinant 29 = .ok (.iconst 1, 1) := by decide +kernel
theorem dX12_determinant_30 : decode cX12_determinant 30 = .ok (.invokevirtual 211, 3) := by decide +kernel
theorem dX12_determinant_33 : decode cX12_determinant 33 = .ok (.lmul, 1) := by decide +kernel
theorem dX12_determinant_34 : decode cX12_determinant 34 = .ok (.ladd, 1) := by decide +kernel
theorem dX12_determinant_35 : decode cX12_determinant 35 = .ok (.aload_n 0, 1) := by decide +kernel
theorem dX12_determinant_36 : decode cX12_determinant 36 = .ok (.getfield 40, 3) := by decide +kernel
theorem dX12_determinant_39 : decode cX12_determinant 39 = .ok (.iconst 4, 1) := by decide +kernel
theorem dX12_determinant_40 : decode cX12_determinant 40 = .ok (.iload_n 1, 1) := by decide +kernel
theorem dX12_determinant_41 : decode cX12_determinant 41 = .ok (.imul, 1) := by decide +kernel
theorem dX12_determinant_42 : decode cX12_determinant 42 = .ok (.iconst 2, 1) := by decide +kernel
theorem dX12_determinant_43 : decode cX12_determinant 43 = .ok (.iadd, 1) := by decide +kernel
theorem dX12_determinant_44 : decode cX12_determinant 44 = .ok (.laload, 1) := by decide +kernel
theorem dX12_determinant_45 : decode cX12_determinant 45 = .ok (.aload_n 0, 1) := by decide +kernel
theorem dX12_determinant_46 : decode cX12_determinant 46 = .ok (.iload_n 2, 1) := by decide +kernel
theorem dX12_determinant_47 : decode cX12_determinant 47 = .ok (.iload_n 3, 1) := by decide +kernel
theorem dX12_determinant_48 : decode cX12_determinant 48 = .ok (.iconst 2, 1) := by decide +kernel
theorem dX12_determinant_49 : decode cX12_determinant 49 = .ok (.invokevirtual 211, 3) := by decide +kernel
theorem dX12_determinant_52 : decode cX12_determinant 52 = .ok (.lmul, 1) := by decide +kernel
theorem dX12_determinant_53 : decode cX12_determinant 53 = .ok (.ladd, 1) := by decide +kernel
theorem dX12_determinant_54 : decode cX12_determinant 54 = .ok (.lreturn, 1) := by decide +kernel
theorem dX12_leaveNothing_0 : decode cX12_leaveNothing 0 = .ok (.lload_n 1, 1) := by decide +kernel
theorem dX12_leaveNothing_1 : decode cX12_leaveNothing 1 = .ok (.lconst 0, 1) := by decide +kernel
theorem dX12_leaveNothing_2 : decode cX12_leaveNothing 2 = .ok (.lcmp, 1) := by decide +kernel
theorem dX12_leaveNothing_3 : decode cX12_leaveNothing 3 = .ok (.ifCond .lt 27, 3) := by decide +kernel
theorem dX12_leaveNothing_6 : decode cX12_leaveNothing 6 = .ok (.lload_n 3, 1) := by decide +kernel
theorem dX12_leaveNothing_7 : decode cX12_leaveNothing 7 = .ok (.lconst 0, 1) := by decide +kernel
theorem dX12_leaveNothing_8 : decode cX12_leaveNothing 8 = .ok (.lcmp, 1) := by decide +kernel
theorem dX12_leaveNothing_9 : decode cX12_leaveNothing 9 = .ok (.ifCond .lt 21, 3) := by decide +kernel
theorem dX12_leaveNothing_12 : decode cX12_leaveNothing 12 = .ok (.lload 5, 2) := by decide +kernel
theorem dX12_leaveNothing_14 : decode cX12_leaveNothing 14 = .ok (.lconst 0, 1) := by decide +kernel
theorem dX12_leaveNothing_15 : decode cX12_leaveNothing 15 = .ok (.lcmp, 1) := by decide +kernel
theorem dX12_leaveNothing_16 : decode cX12_leaveNothing 16 = .ok (.ifCond .lt 14, 3) := by decide +kernel
theorem dX12_leaveNothing_19 : decode cX12_leaveNothing 19 = .ok (.lload 7, 2) := by decide +kernel
theorem dX12_leaveNothing_21 : decode cX12_leaveNothing 21 = .ok (.lconst 0, 1) := by decide +kernel
theorem dX12_leaveNothing_22 : decode cX12_leaveNothing 22 = .ok (.lcmp, 1) := by decide +kernel
theorem dX12_leaveNothing_23 : decode cX12_leaveNothing 23 = .ok (.ifCond .lt 7, 3) := by decide +kernel
theorem dX12_leaveNothing_26 : decode cX12_leaveNothing 26 = .ok (.iconst 1, 1) := by decide +kernel
theorem dX12_leaveNothing_27 : decode cX12_leaveNothing 27 = .ok (.goto 4, 3) := by decide +kernel
theorem dX12_leaveNothing_30 : decode cX12_leaveNothing 30 = .ok (.iconst 0, 1) := by decide +kernel
theorem dX12_leaveNothing_31 : decode cX12_leaveNothing 31 = .ok (.istore 13, 2) := by decide +kernel
theorem dX12_leaveNothing_33 : decode cX12_leaveNothing 33 = .ok (.lload_n 1, 1) := by decide +kernel
theorem dX12_leaveNothing_34 : decode cX12_leaveNothing 34 = .ok (.lconst 0, 1) := by decide +kernel
theorem dX12_leaveNothing_35 : decode cX12_leaveNothing 35 = .ok (.lcmp, 1) := by decide +kernel
theorem dX12_leaveNothing_36 : decode cX12_leaveNothing 36 = .ok (.ifCond .gt 27, 3) := by decide +kernel
theorem dX12_leaveNothing_39 : decode cX12_leaveNothing 39 = .ok (.lload_n 3, 1) := by decide +kernel
theorem dX12_leaveNothing_40 : decode cX12_leaveNothing 40 = .ok (.lconst 0, 1) := by decide +kernel
theorem dX12_leaveNothing_41 : decode cX12_leaveNothing 41 = .ok (.lcmp, 1) := by decide +kernel
theorem dX12_leaveNothing_42 : decode cX12_leaveNothing 42 = .ok (.ifCond .gt 21, 3) := by decide +kernel
theorem dX12_leaveNothing_45 : decode cX12_leaveNothing 45 = .ok (.lload 5, 2) := by decide +kernel
theorem dX12_leaveNothing_47 : decode cX12_leaveNothing 47 = .ok (.lconst 0, 1) := by decide +kernel
theorem dX12_leaveNothing_48 : decode cX12_leaveNothing 48 = .ok (.lcmp, 1) := by decide +kernel
theorem dX12_leaveNothing_49 : decode cX12_leaveNothing 49 = .ok (.ifCond .gt 14, 3) := by decide +kernel
theorem dX12_leaveNothing_52 : decode cX12_leaveNothing 52 = .ok (.lload 7, 2) := by decide +kernel
theorem dX12_leaveNothing_54 : decode cX12_leaveNothing 54 = .ok (.lconst 0, 1) := by decide +kernel
theorem dX12_leaveNothing_55 : decode cX12_leaveNothing 55 = .ok (.lcmp, 1) := by decide +kernel
theorem dX12_leaveNothing_56 : decode cX12_leaveNothing 56 = .ok (.ifCond .gt 7, 3) := by decide +kernel
theorem dX12_leaveNothing_59 : decode cX12_leaveNothing 59 = .ok (.iconst 1, 1) := by decide +kernel
theorem dX12_leaveNothing_60 : decode cX12_leaveNothing 60 = .ok (.goto 4, 3) := by decide +kernel
theorem dX12_leaveNothing_63 : decode cX12_leaveNothing 63 = .ok (.iconst 0, 1) := by decide +kernel
theorem dX12_leaveNothing_64 : decode cX12_leaveNothing 64 = .ok (.istore 14, 2) := by decide +kernel
theorem dX12_leaveNothing_66 : decode cX12_leaveNothing 66 = .ok (.lload_n 1, 1) := by decide +kernel
theorem dX12_leaveNothing_67 : decode cX12_leaveNothing 67 = .ok (.aload_n 0, 1) := by decide +kernel
theorem dX12_leaveNothing_68 : decode cX12_leaveNothing 68 = .ok (.getfield 40, 3) := by decide +kernel
theorem dX12_leaveNothing_71 : decode cX12_leaveNothing 71 = .ok (.iconst 4, 1) := by decide +kernel
theorem dX12_leaveNothing_72 : decode cX12_leaveNothing 72 = .ok (.iload 9, 2) := by decide +kernel
theorem dX12_leaveNothing_74 : decode cX12_leaveNothing 74 = .ok (.imul, 1) := by decide +kernel
theorem dX12_leaveNothing_75 : decode cX12_leaveNothing 75 = .ok (.iconst 3, 1) := by decide +kernel
theorem dX12_leaveNothing_76 : decode cX12_leaveNothing 76 = .ok (.iadd, 1) := by decide +kernel
theorem dX12_leaveNothing_77 : decode cX12_leaveNothing 77 = .ok (.laload, 1) := by decide +kernel
theorem dX12_leaveNothing_78 : decode cX12_leaveNothing 78 = .ok (.lmul, 1) := by decide +kernel
theorem dX12_leaveNothing_79 : decode cX12_leaveNothing 79 = .ok (.lload_n 3, 1) := by decide +kernel
theorem dX12_leaveNothing_80 : decode cX12_leaveNothing 80 = .ok (.aload_n 0, 1) := by decide +kernel
theorem dX12_leaveNothing_81 : decode cX12_leaveNothing 81 = .ok (.getfield 40, 3) := by decide +kernel
theorem dX12_leaveNothing_84 : decode cX12_leaveNothing 84 = .ok (.iconst 4, 1) := by decide +kernel
theorem dX12_leaveNothing_85 : decode cX12_leaveNothing 85 = .ok (.iload 10, 2) := by decide +kernel
theorem dX12_leaveNothing_87 : decode cX12_leaveNothing 87 = .ok (.imul, 1) := by decide +kernel
theorem dX12_leaveNothing_88 : decode cX12_leaveNothing 88 = .ok (.iconst 3, 1) := by decide +kernel
theorem dX12_leaveNothing_89 : decode cX12_leaveNothing 89 = .ok (.iadd, 1) := by decide +kernel
theorem dX12_leaveNothing_90 : decode cX12_leaveNothing 90 = .ok (.laload, 1) := by decide +kernel
theorem dX12_leaveNothing_91 : decode cX12_leaveNothing 91 = .ok (.lmul, 1) := by decide +kernel
theorem dX12_leaveNothing_92 : decode cX12_leaveNothing 92 = .ok (.ladd, 1) := by decide +kernel
theorem dX12_leaveNothing_93 : decode cX12_leaveNothing 93 = .ok (.lload 5, 2) := by decide +kernel
theorem dX12_leaveNothing_95 : decode cX12_leaveNothing 95 = .ok (.aload_n 0, 1) := by decide +kernel
theorem dX12_leaveNothing_96 : decode cX12_leaveNothing 96 = .ok (.getfield 40, 3) := by decide +kernel
theorem dX12_leaveNothing_99 : decode cX12_leaveNothing 99 = .ok (.iconst 4, 1) := by decide +kernel
theorem dX12_leaveNothing_100 : decode cX12_leaveNothing 100 = .ok (.iload 11, 2) := by decide +kernel
theorem dX12_leaveNothing_102 : decode cX12_leaveNothing 102 = .ok (.imul, 1) := by decide +kernel
theorem dX12_leaveNothing_103 : decode cX12_leaveNothing 103 = .ok (.iconst 3, 1) := by decide +kernel
theorem dX12_leaveNothing_104 : decode cX12_leaveNothing 104 = .ok (.iadd, 1) := by decide +kernel
theorem dX12_leaveNothing_105 : decode cX12_leaveNothing 105 = .ok (.laload, 1) := by decide +kernel
theorem dX12_leaveNothing_106 : decode cX12_leaveNothing 106 = .ok (.lmul, 1) := by decide +kernel
theorem dX12_leaveNothing_107 : decode cX12_leaveNothing 107 = .ok (.ladd, 1) := by decide +kernel
theorem dX12_leaveNothing_108 : decode cX12_leaveNothing 108 = .ok (.lload 7, 2) := by decide +kernel
theorem dX12_leaveNothing_110 : decode cX12_leaveNothing 110 = .ok (.aload_n 0, 1) := by decide +kernel
theorem dX12_leaveNothing_111 : decode cX12_leaveNothing 111 = .ok (.getfield 40, 3) := by decide +kernel
theorem dX12_leaveNothing_114 : decode cX12_leaveNothing 114 = .ok (.iconst 4, 1) := by decide +kernel
theorem dX12_leaveNothing_115 : decode cX12_leaveNothing 115 = .ok (.iload 12, 2) := by decide +kernel
theorem dX12_leaveNothing_117 : decode cX12_leaveNothing 117 = .ok (.imul, 1) := by decide +kernel
theorem dX12_leaveNothing_118 : decode cX12_leaveNothing 118 = .ok (.iconst 3, 1) := by decide +kernel
theorem dX12_leaveNothing_119 : decode cX12_leaveNothing 119 = .ok (.iadd, 1) := by decide +kernel
theorem dX12_leaveNothing_120 : decode cX12_leaveNothing 120 = .ok (.laload, 1) := by decide +kernel
theorem dX12_leaveNothing_121 : decode cX12_leaveNothing 121 = .ok (.lmul, 1) := by decide +kernel
theorem dX12_leaveNothing_122 : decode cX12_leaveNothing 122 = .ok (.ladd, 1) := by decide +kernel
theorem dX12_leaveNothing_123 : decode cX12_leaveNothing 123 = .ok (.lstore 15, 2) := by decide +kernel
theorem dX12_leaveNothing_125 : decode cX12_leaveNothing 125 = .ok (.iload 13, 2) := by decide +kernel
theorem dX12_leaveNothing_127 : decode cX12_leaveNothing 127 = .ok (.ifCond .eq 10, 3) := by decide +kernel
theorem dX12_leaveNothing_130 : decode cX12_leaveNothing 130 = .ok (.lload 15, 2) := by decide +kernel
theorem dX12_leaveNothing_132 : decode cX12_leaveNothing 132 = .ok (.lconst 0, 1) := by decide +kernel
theorem dX12_leaveNothing_133 : decode cX12_leaveNothing 133 = .ok (.lcmp, 1) := by decide +kernel
theorem dX12_leaveNothing_134 : decode cX12_leaveNothing 134 = .ok (.ifCond .gt 15, 3) := by decide +kernel
theorem dX12_leaveNothing_137 : decode cX12_leaveNothing 137 = .ok (.iload 14, 2) := by decide +kernel
theorem dX12_leaveNothing_139 : decode cX12_leaveNothing 139 = .ok (.ifCond .eq 14, 3) := by decide +kernel
theorem dX12_leaveNothing_142 : decode cX12_leaveNothing 142 = .ok (.lload 15, 2) := by decide +kernel
theorem dX12_leaveNothing_144 : decode cX12_leaveNothing 144 = .ok (.lconst 0, 1) := by decide +kernel
theorem dX12_leaveNothing_145 : decode cX12_leaveNothing 145 = .ok (.lcmp, 1) := by decide +kernel
theorem dX12_leaveNothing_146 : decode cX12_leaveNothing 146 = .ok (.ifCond .ge 7, 3) := by decide +kernel
theorem dX12_leaveNothing_149 : decode cX12_leaveNothing 149 = .ok (.iconst 1, 1) := by decide +kernel
theorem dX12_leaveNothing_150 : decode cX12_leaveNothing 150 = .ok (.goto 4, 3) := by decide +kernel
theorem dX12_leaveNothing_153 : decode cX12_leaveNothing 153 = .ok (.iconst 0, 1) := by decide +kernel
theorem dX12_leaveNothing_154 : decode cX12_leaveNothing 154 = .ok (.ireturn, 1) := by decide +kernel
theorem dX12_threeLeaveNothing_0 : decode cX12_threeLeaveNothing 0 = .ok (.aload_n 0, 1) := by decide +kernel
theorem dX12_threeLeaveNothing_1 : decode cX12_threeLeaveNothing 1 = .ok (.iload_n 1, 1) := by decide +kernel
theorem dX12_threeLeaveNothing_2 : decode cX12_threeLeaveNothing 2 = .ok (.iload_n 2, 1) := by decide +kernel
theorem dX12_threeLeaveNothing_3 : decode cX12_threeLeaveNothing 3 = .ok (.iload_n 3, 1) := by decide +kernel
theorem dX12_threeLeaveNothing_4 : decode cX12_threeLeaveNothing 4 = .ok (.invokevirtual 224, 3) := by decide +kernel
theorem dX12_threeLeaveNothing_7 : decode cX12_threeLeaveNothing 7 = .ok (.lconst 0, 1) := by decide +kernel
theorem dX12_threeLeaveNothing_8 : decode cX12_threeLeaveNothing 8 = .ok (.lcmp, 1) := by decide +kernel
theorem dX12_threeLeaveNothing_9 : decode cX12_threeLeaveNothing 9 = .ok (.ifCond .eq 5, 3) := by decide +kernel
theorem dX12_threeLeaveNothing_12 : decode cX12_threeLeaveNothing 12 = .ok (.iconst 0, 1) := by decide +kernel
theorem dX12_threeLeaveNothing_13 : decode cX12_threeLeaveNothing 13 = .ok (.ireturn, 1) := by decide +kernel
theorem dX12_threeLeaveNothing_14 : decode cX12_threeLeaveNothing 14 = .ok (.iconst 0, 1) := by decide +kernel
theorem dX12_threeLeaveNothing_15 : decode cX12_threeLeaveNothing 15 = .ok (.istore 4, 2) := by decide +kernel
theorem dX12_threeLeaveNothing_17 : decode cX12_threeLeaveNothing 17 = .ok (.iload 4, 2) := by decide +kernel
theorem dX12_threeLeaveNothing_19 : decode cX12_threeLeaveNothing 19 = .ok (.iconst 3, 1) := by decide +kernel
theorem dX12_threeLeaveNothing_20 : decode cX12_threeLeaveNothing 20 = .ok (.if_icmp .ge 76, 3) := by decide +kernel
theorem dX12_threeLeaveNothing_23 : decode cX12_threeLeaveNothing 23 = .ok (.aload_n 0, 1) := by decide +kernel
theorem dX12_threeLeaveNothing_24 : decode cX12_threeLeaveNothing 24 = .ok (.iload_n 2, 1) := by decide +kernel
theorem dX12_threeLeaveNothing_25 : decode cX12_threeLeaveNothing 25 = .ok (.iload_n 3, 1) := by decide +kernel
theorem dX12_threeLeaveNothing_26 : decode cX12_threeLeaveNothing 26 = .ok (.iload 4, 2) := by decide +kernel
theorem dX12_threeLeaveNothing_28 : decode cX12_threeLeaveNothing 28 = .ok (.invokevirtual 211, 3) := by decide +kernel
theorem dX12_threeLeaveNothing_31 : decode cX12_threeLeaveNothing 31 = .ok (.lstore 5, 2) := by decide +kernel
theorem dX12_threeLeaveNothing_33 : decode cX12_threeLeaveNothing 33 = .ok (.aload_n 0, 1) := by decide +kernel
theorem dX12_threeLeaveNothing_34 : decode cX12_threeLeaveNothing 34 = .ok (.iload_n 3, 1) := by decide +kernel
theorem dX12_threeLeaveNothing_35 : decode cX12_threeLeaveNothing 35 = .ok (.iload_n 1, 1) := by decide +kernel
theorem dX12_threeLeaveNothing_36 : decode cX12_threeLeaveNothing 36 = .ok (.iload 4, 2) := by decide +kernel
theorem dX12_threeLeaveNothing_38 : decode cX12_threeLeaveNothing 38 = .ok (.invokevirtual 211, 3) := by decide +kernel
theorem dX12_threeLeaveNothing_41 : decode cX12_threeLeaveNothing 41 = .ok (.lstore 7, 2) := by decide +kernel
theorem dX12_threeLeaveNothing_43 : decode cX12_threeLeaveNothing 43 = .ok (.aload_n 0, 1) := by decide +kernel
theorem dX12_threeLeaveNothing_44 : decode cX12_threeLeaveNothing 44 = .ok (.iload_n 1, 1) := by decide +kernel
theorem dX12_threeLeaveNothing_45 : decode cX12_threeLeaveNothing 45 = .ok (.iload_n 2, 1) := by decide +kernel
theorem dX12_threeLeaveNothing_46 : decode cX12_threeLeaveNothing 46 = .ok (.iload 4, 2) := by decide +kernel
theorem dX12_threeLeaveNothing_48 : decode cX12_threeLeaveNothing 48 = .ok (.invokevirtual 211, 3) := by decide +kernel
theorem dX12_threeLeaveNothing_51 : decode cX12_threeLeaveNothing 51 = .ok (.lstore 9, 2) := by decide +kernel
theorem dX12_threeLeaveNothing_53 : decode cX12_threeLeaveNothing 53 = .ok (.lload 5, 2) := by decide +kernel
theorem dX12_threeLeaveNothing_55 : decode cX12_threeLeaveNothing 55 = .ok (.lconst 0, 1) := by decide +kernel
theorem dX12_threeLeaveNothing_56 : decode cX12_threeLeaveNothing 56 = .ok (.lcmp, 1) := by decide +kernel
theorem dX12_threeLeaveNothing_57 : decode cX12_threeLeaveNothing 57 = .ok (.ifCond .ne 17, 3) := by decide +kernel
theorem dX12_threeLeaveNothing_60 : decode cX12_threeLeaveNothing 60 = .ok (.lload 7, 2) := by decide +kernel
theorem dX12_threeLeaveNothing_62 : decode cX12_threeLeaveNothing 62 = .ok (.lconst 0, 1) := by decide +kernel
theorem dX12_threeLeaveNothing_63 : decode cX12_threeLeaveNothing 63 = .ok (.lcmp, 1) := by decide +kernel
theorem dX12_threeLeaveNothing_64 : decode cX12_threeLeaveNothing 64 = .ok (.ifCond .ne 10, 3) := by decide +kernel
theorem dX12_threeLeaveNothing_67 : decode cX12_threeLeaveNothing 67 = .ok (.lload 9, 2) := by decide +kernel
theorem dX12_threeLeaveNothing_69 : decode cX12_threeLeaveNothing 69 = .ok (.lconst 0, 1) := by decide +kernel
theorem dX12_threeLeaveNothing_70 : decode cX12_threeLeaveNothing 70 = .ok (.lcmp, 1) := by decide +kernel
theorem dX12_threeLeaveNothing_71 : decode cX12_threeLeaveNothing 71 = .ok (.ifCond .eq 19, 3) := by decide +kernel
theorem dX12_threeLeaveNothing_74 : decode cX12_threeLeaveNothing 74 = .ok (.aload_n 0, 1) := by decide +kernel
theorem dX12_threeLeaveNothing_75 : decode cX12_threeLeaveNothing 75 = .ok (.lload 5, 2) := by decide +kernel
theorem dX12_threeLeaveNothing_77 : decode cX12_threeLeaveNothing 77 = .ok (.lload 7, 2) := by decide +kernel
theorem dX12_threeLeaveNothing_79 : decode cX12_threeLeaveNothing 79 = .ok (.lload 9, 2) := by decide +kernel
theorem dX12_threeLeaveNothing_81 : decode cX12_threeLeaveNothing 81 = .ok (.lconst 0, 1) := by decide +kernel
theorem dX12_threeLeaveNothing_82 : decode cX12_threeLeaveNothing 82 = .ok (.iload_n 1, 1) := by decide +kernel
theorem dX12_threeLeaveNothing_83 : decode cX12_threeLeaveNothing 83 = .ok (.iload_n 2, 1) := by decide +kernel
theorem dX12_threeLeaveNothing_84 : decode cX12_threeLeaveNothing 84 = .ok (.iload_n 3, 1) := by decide +kernel
theorem dX12_threeLeaveNothing_85 : decode cX12_threeLeaveNothing 85 = .ok (.iload_n 1, 1) := by decide +kernel
theorem dX12_threeLeaveNothing_86 : decode cX12_threeLeaveNothing 86 = .ok (.invokevirtual 227, 3) := by decide +kernel
theorem dX12_threeLeaveNothing_89 : decode cX12_threeLeaveNothing 89 = .ok (.ireturn, 1) := by decide +kernel
theorem dX12_threeLeaveNothing_90 : decode cX12_threeLeaveNothing 90 = .ok (.iinc 4 1, 3) := by decide +kernel
theorem dX12_threeLeaveNothing_93 : decode cX12_threeLeaveNothing 93 = .ok (.goto (-76), 3) := by decide +kernel
theorem dX12_threeLeaveNothing_96 : decode cX12_threeLeaveNothing 96 = .ok (.iconst 0, 1) := by decide +kernel
theorem dX12_threeLeaveNothing_97 : decode cX12_threeLeaveNothing 97 = .ok (.ireturn, 1) := by decide +kernel
theorem dX12_fourLeaveNothing_0 : decode cX12_fourLeaveNothing 0 = .ok (.aload_n 0, 1) := by decide +kernel
theorem dX12_fourLeaveNothing_1 : decode cX12_fourLeaveNothing 1 = .ok (.iload_n 2, 1) := by decide +kernel
theorem dX12_fourLeaveNothing_2 : decode cX12_fourLeaveNothing 2 = .ok (.iload_n 3, 1) := by decide +kernel
theorem dX12_fourLeaveNothing_3 : decode cX12_fourLeaveNothing 3 = .ok (.iload 4, 2) := by decide +kernel
theorem dX12_fourLeaveNothing_5 : decode cX12_fourLeaveNothing 5 = .ok (.invokevirtual 224, 3) := by decide +kernel
theorem dX12_fourLeaveNothing_8 : decode cX12_fourLeaveNothing 8 = .ok (.lstore 5, 2) := by decide +kernel
theorem dX12_fourLeaveNothing_10 : decode cX12_fourLeaveNothing 10 = .ok (.aload_n 0, 1) := by decide +kernel
theorem dX12_fourLeaveNothing_11 : decode cX12_fourLeaveNothing 11 = .ok (.iload_n 1, 1) := by decide +kernel
theorem dX12_fourLeaveNothing_12 : decode cX12_fourLeaveNothing 12 = .ok (.iload_n 3, 1) := by decide +kernel
theorem dX12_fourLeaveNothing_13 : decode cX12_fourLeaveNothing 13 = .ok (.iload 4, 2) := by decide +kernel
theorem dX12_fourLeaveNothing_15 : decode cX12_fourLeaveNothing 15 = .ok (.invokevirtual 224, 3) := by decide +kernel
theorem dX12_fourLeaveNothing_18 : decode cX12_fourLeaveNothing 18 = .ok (.lneg, 1) := by decide +kernel
theorem dX12_fourLeaveNothing_19 : decode cX12_fourLeaveNothing 19 = .ok (.lstore 7, 2) := by decide +kernel
theorem dX12_fourLeaveNothing_21 : decode cX12_fourLeaveNothing 21 = .ok (.aload_n 0, 1) := by decide +kernel
theorem dX12_fourLeaveNothing_22 : decode cX12_fourLeaveNothing 22 = .ok (.iload_n 1, 1) := by decide +kernel
theorem dX12_fourLeaveNothing_23 : decode cX12_fourLeaveNothing 23 = .ok (.iload_n 2, 1) := by decide +kernel
theorem dX12_fourLeaveNothing_24 : decode cX12_fourLeaveNothing 24 = .ok (.iload 4, 2) := by decide +kernel
theorem dX12_fourLeaveNothing_26 : decode cX12_fourLeaveNothing 26 = .ok (.invokevirtual 224, 3) := by decide +kernel
theorem dX12_fourLeaveNothing_29 : decode cX12_fourLeaveNothing 29 = .ok (.lstore 9, 2) := by decide +kernel
theorem dX12_fourLeaveNothing_31 : decode cX12_fourLeaveNothing 31 = .ok (.aload_n 0, 1) := by decide +kernel
theorem dX12_fourLeaveNothing_32 : decode cX12_fourLeaveNothing 32 = .ok (.iload_n 1, 1) := by decide +kernel
theorem dX12_fourLeaveNothing_33 : decode cX12_fourLeaveNothing 33 = .ok (.iload_n 2, 1) := by decide +kernel
theorem dX12_fourLeaveNothing_34 : decode cX12_fourLeaveNothing 34 = .ok (.iload_n 3, 1) := by decide +kernel
theorem dX12_fourLeaveNothing_35 : decode cX12_fourLeaveNothing 35 = .ok (.invokevirtual 224, 3) := by decide +kernel
theorem dX12_fourLeaveNothing_38 : decode cX12_fourLeaveNothing 38 = .ok (.lneg, 1) := by decide +kernel
theorem dX12_fourLeaveNothing_39 : decode cX12_fourLeaveNothing 39 = .ok (.lstore 11, 2) := by decide +kernel
theorem dX12_fourLeaveNothing_41 : decode cX12_fourLeaveNothing 41 = .ok (.lload 5, 2) := by decide +kernel
theorem dX12_fourLeaveNothing_43 : decode cX12_fourLeaveNothing 43 = .ok (.lconst 0, 1) := by decide +kernel
theorem dX12_fourLeaveNothing_44 : decode cX12_fourLeaveNothing 44 = .ok (.lcmp, 1) := by decide +kernel
theorem dX12_fourLeaveNothing_45 : decode cX12_fourLeaveNothing 45 = .ok (.ifCond .ne 24, 3) := by decide +kernel
theorem dX12_fourLeaveNothing_48 : decode cX12_fourLeaveNothing 48 = .ok (.lload 7, 2) := by decide +kernel
theorem dX12_fourLeaveNothing_50 : decode cX12_fourLeaveNothing 50 = .ok (.lconst 0, 1) := by decide +kernel
theorem dX12_fourLeaveNothing_51 : decode cX12_fourLeaveNothing 51 = .ok (.lcmp, 1) := by decide +kernel
theorem dX12_fourLeaveNothing_52 : decode cX12_fourLeaveNothing 52 = .ok (.ifCond .ne 17, 3) := by decide +kernel
theorem dX12_fourLeaveNothing_55 : decode cX12_fourLeaveNothing 55 = .ok (.lload 9, 2) := by decide +kernel
theorem dX12_fourLeaveNothing_57 : decode cX12_fourLeaveNothing 57 = .ok (.lconst 0, 1) := by decide +kernel
theorem dX12_fourLeaveNothing_58 : decode cX12_fourLeaveNothing 58 = .ok (.lcmp, 1) := by decide +kernel
theorem dX12_fourLeaveNothing_59 : decode cX12_fourLeaveNothing 59 = .ok (.ifCond .ne 10, 3) := by decide +kernel
theorem dX12_fourLeaveNothing_62 : decode cX12_fourLeaveNothing 62 = .ok (.lload 11, 2) := by decide +kernel
theorem dX12_fourLeaveNothing_64 : decode cX12_fourLeaveNothing 64 = .ok (.lconst 0, 1) := by decide +kernel
theorem dX12_fourLeaveNothing_65 : decode cX12_fourLeaveNothing 65 = .ok (.lcmp, 1) := by decide +kernel
theorem dX12_fourLeaveNothing_66 : decode cX12_fourLeaveNothing 66 = .ok (.ifCond .eq 27, 3) := by decide +kernel
theorem dX12_fourLeaveNothing_69 : decode cX12_fourLeaveNothing 69 = .ok (.aload_n 0, 1) := by decide +kernel
theorem dX12_fourLeaveNothing_70 : decode cX12_fourLeaveNothing 70 = .ok (.lload 5, 2) := by decide +kernel
theorem dX12_fourLeaveNothing_72 : decode cX12_fourLeaveNothing 72 = .ok (.lload 7, 2) := by decide +kernel
theorem dX12_fourLeaveNothing_74 : decode cX12_fourLeaveNothing 74 = .ok (.lload 9, 2) := by decide +kernel
theorem dX12_fourLeaveNothing_76 : decode cX12_fourLeaveNothing 76 = .ok (.lload 11, 2) := by decide +kernel
theorem dX12_fourLeaveNothing_78 : decode cX12_fourLeaveNothing 78 = .ok (.iload_n 1, 1) := by decide +kernel
theorem dX12_fourLeaveNothing_79 : decode cX12_fourLeaveNothing 79 = .ok (.iload_n 2, 1) := by decide +kernel
theorem dX12_fourLeaveNothing_80 : decode cX12_fourLeaveNothing 80 = .ok (.iload_n 3, 1) := by decide +kernel
theorem dX12_fourLeaveNothing_81 : decode cX12_fourLeaveNothing 81 = .ok (.iload 4, 2) := by decide +kernel
theorem dX12_fourLeaveNothing_83 : decode cX12_fourLeaveNothing 83 = .ok (.invokevirtual 227, 3) := by decide +kernel
theorem dX12_fourLeaveNothing_86 : decode cX12_fourLeaveNothing 86 = .ok (.ifCond .eq 7, 3) := by decide +kernel
theorem dX12_fourLeaveNothing_89 : decode cX12_fourLeaveNothing 89 = .ok (.iconst 1, 1) := by decide +kernel
theorem dX12_fourLeaveNothing_90 : decode cX12_fourLeaveNothing 90 = .ok (.goto 4, 3) := by decide +kernel
theorem dX12_fourLeaveNothing_93 : decode cX12_fourLeaveNothing 93 = .ok (.iconst 0, 1) := by decide +kernel
theorem dX12_fourLeaveNothing_94 : decode cX12_fourLeaveNothing 94 = .ok (.ireturn, 1) := by decide +kernel
theorem dX12_laySides_0 : decode cX12_laySides 0 = .ok (.aload_n 0, 1) := by decide +kernel
theorem dX12_laySides_1 : decode cX12_laySides 1 = .ok (.iconst 0, 1) := by decide +kernel
theorem dX12_laySides_2 : decode cX12_laySides 2 = .ok (.putfield 185, 3) := by decide +kernel
theorem dX12_laySides_5 : decode cX12_laySides 5 = .ok (.iconst 0, 1) := by decide +kernel
theorem dX12_laySides_6 : decode cX12_laySides 6 = .ok (.istore_n 2, 1) := by decide +kernel
theorem dX12_laySides_7 : decode cX12_laySides 7 = .ok (.iload_n 2, 1) := by decide +kernel
theorem dX12_laySides_8 : decode cX12_laySides 8 = .ok (.aload_n 0, 1) := by decide +kernel
theorem dX12_laySides_9 : decode cX12_laySides 9 = .ok (.getfield 13, 3) := by decide +kernel
theorem dX12_laySides_12 : decode cX12_laySides 12 = .ok (.iload_n 1, 1) := by decide +kernel
theorem dX12_laySides_13 : decode cX12_laySides 13 = .ok (.iaload, 1) := by decide +kernel
theorem dX12_laySides_14 : decode cX12_laySides 14 = .ok (.if_icmp .ge 57, 3) := by decide +kernel
theorem dX12_laySides_17 : decode cX12_laySides 17 = .ok (.bipush 6, 2) := by decide +kernel
theorem dX12_laySides_19 : decode cX12_laySides 19 = .ok (.iload_n 1, 1) := by decide +kernel
theorem dX12_laySides_20 : decode cX12_laySides 20 = .ok (.imul, 1) := by decide +kernel
theorem dX12_laySides_21 : decode cX12_laySides 21 = .ok (.iload_n 2, 1) := by decide +kernel
theorem dX12_laySides_22 : decode cX12_laySides 22 = .ok (.iadd, 1) := by decide +kernel
theorem dX12_laySides_23 : decode cX12_laySides 23 = .ok (.iconst 4, 1) := by decide +kernel
theorem dX12_laySides_24 : decode cX12_laySides 24 = .ok (.imul, 1) := by decide +kernel
theorem dX12_laySides_25 : decode cX12_laySides 25 = .ok (.istore_n 3, 1) := by decide +kernel
theorem dX12_laySides_26 : decode cX12_laySides 26 = .ok (.aload_n 0, 1) := by decide +kernel
theorem dX12_laySides_27 : decode cX12_laySides 27 = .ok (.aload_n 0, 1) := by decide +kernel
theorem dX12_laySides_28 : decode cX12_laySides 28 = .ok (.getfield 17, 3) := by decide +kernel
theorem dX12_laySides_31 : decode cX12_laySides 31 = .ok (.iload_n 3, 1) := by decide +kernel
theorem dX12_laySides_32 : decode cX12_laySides 32 = .ok (.iaload, 1) := by decide +kernel
theorem dX12_laySides_33 : decode cX12_laySides 33 = .ok (.i2l, 1) := by decide +kernel
theorem dX12_laySides_34 : decode cX12_laySides 34 = .ok (.aload_n 0, 1) := by decide +kernel
theorem dX12_laySides_35 : decode cX12_laySides 35 = .ok (.getfield 17, 3) := by decide +kernel
theorem dX12_laySides_38 : decode cX12_laySides 38 = .ok (.iload_n 3, 1) := by decide +kernel
theorem dX12_laySides_39 : decode cX12_laySides 39 = .ok (.iconst 1, 1) := by decide +kernel
theorem dX12_laySides_40 : decode cX12_laySides 40 = .ok (.iadd, 1) := by decide +kernel
theorem dX12_laySides_41 : decode cX12_laySides 41 = .ok (.iaload, 1) := by decide +kernel
theorem dX12_laySides_42 : decode cX12_laySides 42 = .ok (.i2l, 1) := by decide +kernel
theorem dX12_laySides_43 : decode cX12_laySides 43 = .ok (.aload_n 0, 1) := by decide +kernel
theorem dX12_laySides_44 : decode cX12_laySides 44 = .ok (.getfield 17, 3) := by decide +kernel
theorem dX12_laySides_47 : decode cX12_laySides 47 = .ok (.iload_n 3, 1) := by decide +kernel
theorem dX12_laySides_48 : decode cX12_laySides 48 = .ok (.iconst 2, 1) := by decide +kernel
theorem dX12_laySides_49 : decode cX12_laySides 49 = .ok (.iadd, 1) := by decide +kernel
theorem dX12_laySides_50 : decode cX12_laySides 50 = .ok (.iaload, 1) := by decide +kernel
theorem dX12_laySides_51 : decode cX12_laySides 51 = .ok (.i2l, 1) := by decide +kernel
theorem dX12_laySides_52 : decode cX12_laySides 52 = .ok (.aload_n 0, 1) := by decide +kernel
theorem dX12_laySides_53 : decode cX12_laySides 53 = .ok (.getfield 17, 3) := by decide +kernel
theorem dX12_laySides_56 : decode cX12_laySides 56 = .ok (.iload_n 3, 1) := by decide +kernel
theorem dX12_laySides_57 : decode cX12_laySides 57 = .ok (.iconst 3, 1) := by decide +kernel
theorem dX12_laySides_58 : decode cX12_laySides 58 = .ok (.iadd, 1) := by decide +kernel
theorem dX12_laySides_59 : decode cX12_laySides 59 = .ok (.iaload, 1) := by decide +kernel
theorem dX12_laySides_60 : decode cX12_laySides 60 = .ok (.ineg, 1) := by decide +kernel
theorem dX12_laySides_61 : decode cX12_laySides 61 = .ok (.i2l, 1) := by decide +kernel
theorem dX12_laySides_62 : decode cX12_laySides 62 = .ok (.invokevirtual 188, 3) := by decide +kernel
theorem dX12_laySides_65 : decode cX12_laySides 65 = .ok (.iinc 2 1, 3) := by decide +kernel
theorem dX12_laySides_68 : decode cX12_laySides 68 = .ok (.goto (-61), 3) := by decide +kernel
theorem dX12_laySides_71 : decode cX12_laySides 71 = .ok (.iconst 0, 1) := by decide +kernel
theorem dX12_laySides_72 : decode cX12_laySides 72 = .ok (.istore_n 2, 1) := by decide +kernel
theorem dX12_laySides_73 : decode cX12_laySides 73 = .ok (.iload_n 2, 1) := by decide +kernel
theorem dX12_laySides_74 : decode cX12_laySides 74 = .ok (.iconst 2, 1) := by decide +kernel
theorem dX12_laySides_75 : decode cX12_laySides 75 = .ok (.aload_n 0, 1) := by decide +kernel
theorem dX12_laySides_76 : decode cX12_laySides 76 = .ok (.getfield 7, 3) := by decide +kernel
theorem dX12_laySides_79 : decode cX12_laySides 79 = .ok (.imul, 1) := by decide +kernel
theorem dX12_laySides_80 : decode cX12_laySides 80 = .ok (.if_icmp .ge 79, 3) := by decide +kernel
theorem dX12_laySides_83 : decode cX12_laySides 83 = .ok (.aload_n 0, 1) := by decide +kernel
theorem dX12_laySides_84 : decode cX12_laySides 84 = .ok (.getfield 30, 3) := by decide +kernel
theorem dX12_laySides_87 : decode cX12_laySides 87 = .ok (.iload_n 2, 1) := by decide +kernel
theorem dX12_laySides_88 : decode cX12_laySides 88 = .ok (.baload, 1) := by decide +kernel
theorem dX12_laySides_89 : decode cX12_laySides 89 = .ok (.ifCond .ne 64, 3) := by decide +kernel
theorem dX12_laySides_92 : decode cX12_laySides 92 = .ok (.iload_n 2, 1) := by decide +kernel
theorem dX12_laySides_93 : decode cX12_laySides 93 = .ok (.iconst 2, 1) := by decide +kernel
theorem dX12_laySides_94 : decode cX12_laySides 94 = .ok (.irem, 1) := by decide +kernel
theorem dX12_laySides_95 : decode cX12_laySides 95 = .ok (.ifCond .ne 7, 3) := by decide +kernel
theorem dX12_laySides_98 : decode cX12_laySides 98 = .ok (.lconst 1, 1) := by decide +kernel
theorem dX12_laySides_99 : decode cX12_laySides 99 = .ok (.goto 6, 3) := by decide +kernel
theorem dX12_laySides_102 : decode cX12_laySides 102 = .ok (.ldc2_w 192, 3) := by decide +kernel
theorem dX12_laySides_105 : decode cX12_laySides 105 = .ok (.lstore_n 3, 1) := by decide +kernel
theorem dX12_laySides_106 : decode cX12_laySides 106 = .ok (.aload_n 0, 1) := by decide +kernel
theorem dX12_laySides_107 : decode cX12_laySides 107 = .ok (.iload_n 2, 1) := by decide +kernel
theorem dX12_laySides_108 : decode cX12_laySides 108 = .ok (.iconst 2, 1) := by decide +kernel
theorem dX12_laySides_109 : decode cX12_laySides 109 = .ok (.idiv, 1) := by decide +kernel
theorem dX12_laySides_110 : decode cX12_laySides 110 = .ok (.ifCond .ne 7, 3) := by decide +kernel
theorem dX12_laySides_113 : decode cX12_laySides 113 = .ok (.lload_n 3, 1) := by decide +kernel
theorem dX12_laySides_114 : decode cX12_laySides 114 = .ok (.goto 4, 3) := by decide +kernel
theorem dX12_laySides_117 : decode cX12_laySides 117 = .ok (.lconst 0, 1) := by decide +kernel
theorem dX12_laySides_118 : decode cX12_laySides 118 = .ok (.iload_n 2, 1) := by decide +kernel
theorem dX12_laySides_119 : decode cX12_laySides 119 = .ok (.iconst 2, 1) := by decide +kernel
theorem dX12_laySides_120 : decode cX12_laySides 120 = .ok (.idiv, 1) := by decide +kernel
theorem dX12_laySides_121 : decode cX12_laySides 121 = .ok (.iconst 1, 1) := by decide +kernel
theorem dX12_laySides_122 : decode cX12_laySides 122 = .ok (.if_icmp .ne 7, 3) := by decide +kernel
theorem dX12_laySides_125 : decode cX12_laySides 125 = .ok (.lload_n 3, 1) := by decide +kernel
theorem dX12_laySides_126 : decode cX12_laySides 126 = .ok (.goto 4, 3) := by decide +kernel
theorem dX12_laySides_129 : decode cX12_laySides 129 = .ok (.lconst 0, 1) := by decide +kernel
theorem dX12_laySides_130 : decode cX12_laySides 130 = .ok (.iload_n 2, 1) := by decide +kernel
theorem dX12_laySides_131 : decode cX12_laySides 131 = .ok (.iconst 2, 1) := by decide +kernel
theorem dX12_laySides_132 : decode cX12_laySides 132 = .ok (.idiv, 1) := by decide +kernel
theorem dX12_laySides_133 : decode cX12_laySides 133 = .ok (.iconst 2, 1) := by decide +kernel
theorem dX12_laySides_134 : decode cX12_laySides 134 = .ok (.if_icmp .ne 7, 3) := by decide +kernel
theorem dX12_laySides_137 : decode cX12_laySides 137 = .ok (.lload_n 3, 1) := by decide +kernel
theorem dX12_laySides_138 : decode cX12_laySides 138 = .ok (.goto 4, 3) := by decide +kernel
theorem dX12_laySides_141 : decode cX12_laySides 141 = .ok (.lconst 0, 1) := by decide +kernel
theorem dX12_laySides_142 : decode cX12_laySides 142 = .ok (.lload_n 3, 1) := by decide +kernel
theorem dX12_laySides_143 : decode cX12_laySides 143 = .ok (.aload_n 0, 1) := by decide +kernel
theorem dX12_laySides_144 : decode cX12_laySides 144 = .ok (.getfield 27, 3) := by decide +kernel
theorem dX12_laySides_147 : decode cX12_laySides 147 = .ok (.iload_n 2, 1) := by decide +kernel
theorem dX12_laySides_148 : decode cX12_laySides 148 = .ok (.laload, 1) := by decide +kernel
theorem dX12_laySides_149 : decode cX12_laySides 149 = .ok (.lmul, 1) := by decide +kernel
theorem dX12_laySides_150 : decode cX12_laySides 150 = .ok (.invokevirtual 188, 3) := by decide +kernel
theorem dX12_laySides_153 : decode cX12_laySides 153 = .ok (.iinc 2 1, 3) := by decide +kernel
theorem dX12_laySides_156 : decode cX12_laySides 156 = .ok (.goto (-83), 3) := by decide +kernel
theorem dX12_laySides_159 : decode cX12_laySides 159 = .ok (.aload_n 0, 1) := by decide +kernel
theorem dX12_laySides_160 : decode cX12_laySides 160 = .ok (.iconst 0, 1) := by decide +kernel
theorem dX12_laySides_161 : decode cX12_laySides 161 = .ok (.putfield 194, 3) := by decide +kernel
theorem dX12_laySides_164 : decode cX12_laySides 164 = .ok (.iconst 0, 1) := by decide +kernel
theorem dX12_laySides_165 : decode cX12_laySides 165 = .ok (.istore_n 2, 1) := by decide +kernel
theorem dX12_laySides_166 : decode cX12_laySides 166 = .ok (.iload_n 2, 1) := by decide +kernel
theorem dX12_laySides_167 : decode cX12_laySides 167 = .ok (.aload_n 0, 1) := by decide +kernel
theorem dX12_laySides_168 : decode cX12_laySides 168 = .ok (.getfield 185, 3) := by decide +kernel
theorem dX12_laySides_171 : decode cX12_laySides 171 = .ok (.if_icmp .ge 164, 3) := by decide +kernel
theorem dX12_laySides_174 : decode cX12_laySides 174 = .ok (.aload_n 0, 1) := by decide +kernel
theorem dX12_laySides_175 : decode cX12_laySides 175 = .ok (.getfield 194, 3) := by decide +kernel
theorem dX12_laySides_178 : decode cX12_laySides 178 = .ok (.ifCond .ne 157, 3) := by decide +kernel
theorem dX12_laySides_181 : decode cX12_laySides 181 = .ok (.aload_n 0, 1) := by decide +kernel
theorem dX12_laySides_182 : decode cX12_laySides 182 = .ok (.aload_n 0, 1) := by decide +kernel
theorem dX12_laySides_183 : decode cX12_laySides 183 = .ok (.iload_n 2, 1) := by decide +kernel
theorem dX12_laySides_184 : decode cX12_laySides 184 = .ok (.invokevirtual 197, 3) := by decide +kernel
theorem dX12_laySides_187 : decode cX12_laySides 187 = .ok (.ifCond .eq 22, 3) := by decide +kernel
theorem dX12_laySides_190 : decode cX12_laySides 190 = .ok (.aload_n 0, 1) := by decide +kernel
theorem dX12_laySides_191 : decode cX12_laySides 191 = .ok (.getfield 40, 3) := by decide +kernel
theorem dX12_laySides_194 : decode cX12_laySides 194 = .ok (.iconst 4, 1) := by decide +kernel
theorem dX12_laySides_195 : decode cX12_laySides 195 = .ok (.iload_n 2, 1) := by decide +kernel
theorem dX12_laySides_196 : decode cX12_laySides 196 = .ok (.imul, 1) := by decide +kernel
theorem dX12_laySides_197 : decode cX12_laySides 197 = .ok (.iconst 3, 1) := by decide +kernel
theorem dX12_laySides_198 : decode cX12_laySides 198 = .ok (.iadd, 1) := by decide +kernel
theorem dX12_laySides_199 : decode cX12_laySides 199 = .ok (.laload, 1) := by decide +kernel
theorem dX12_laySides_200 : decode cX12_laySides 200 = .ok (.lconst 0, 1) := by decide +kernel
theorem dX12_laySides_201 : decode cX12_laySides 201 = .ok (.lcmp, 1) := by decide +kernel
theorem dX12_laySides_202 : decode cX12_laySides 202 = .ok (.ifCond .le 7, 3) := by decide +kernel
theorem dX12_laySides_205 : decode cX12_laySides 205 = .ok (.iconst 1, 1) := by decide +kernel
theorem dX12_laySides_206 : decode cX12_laySides 206 = .ok (.goto 4, 3) := by decide +kernel
theorem dX12_laySides_209 : decode cX12_laySides 209 = .ok (.iconst 0, 1) := by decide +kernel
theorem dX12_laySides_210 : decode cX12_laySides 210 = .ok (.putfield 194, 3) := by decide +kernel
theorem dX12_laySides_213 : decode cX12_laySides 213 = .ok (.iload_n 2, 1) := by decide +kernel
theorem dX12_laySides_214 : decode cX12_laySides 214 = .ok (.iconst 1, 1) := by decide +kernel
theorem dX12_laySides_215 : decode cX12_laySides 215 = .ok (.iadd, 1) := by decide +kernel
theorem dX12_laySides_216 : decode cX12_laySides 216 = .ok (.istore_n 3, 1) := by decide +kernel
theorem dX12_laySides_217 : decode cX12_laySides 217 = .ok (.iload_n 3, 1) := by decide +kernel
theorem dX12_laySides_218 : decode cX12_laySides 218 = .ok (.aload_n 0, 1) := by decide +kernel
theorem dX12_laySides_219 : decode cX12_laySides 219 = .ok (.getfield 185, 3) := by decide +kernel
theorem dX12_laySides_222 : decode cX12_laySides 222 = .ok (.if_icmp .ge 107, 3) := by decide +kernel
theorem dX12_laySides_225 : decode cX12_laySides 225 = .ok (.aload_n 0, 1) := by decide +kernel
theorem dX12_laySides_226 : decode cX12_laySides 226 = .ok (.getfield 194, 3) := by decide +kernel
theorem dX12_laySides_229 : decode cX12_laySides 229 = .ok (.ifCond .ne 100, 3) := by decide +kernel
theorem dX12_laySides_232 : decode cX12_laySides 232 = .ok (.aload_n 0, 1) := by decide +kernel
theorem dX12_laySides_233 : decode cX12_laySides 233 = .ok (.aload_n 0, 1) := by decide +kernel
theorem dX12_laySides_234 : decode cX12_laySides 234 = .ok (.iload_n 2, 1) := by decide +kernel
theorem dX12_laySides_235 : decode cX12_laySides 235 = .ok (.iload_n 3, 1) := by decide +kernel
theorem dX12_laySides_236 : decode cX12_laySides 236 = .ok (.invokevirtual 200, 3) := by decide +kernel
theorem dX12_laySides_239 : decode cX12_laySides 239 = .ok (.putfield 194, 3) := by decide +kernel
theorem dX12_laySides_242 : decode cX12_laySides 242 = .ok (.iload_n 3, 1) := by decide +kernel
theorem dX12_laySides_243 : decode cX12_laySides 243 = .ok (.iconst 1, 1) := by decide +kernel
theorem dX12_laySides_244 : decode cX12_laySides 244 = .ok (.iadd, 1) := by decide +kernel
theorem dX12_laySides_245 : decode cX12_laySides 245 = .ok (.istore 4, 2) := by decide +kernel
theorem dX12_laySides_247 : decode cX12_laySides 247 = .ok (.iload 4, 2) := by decide +kernel
theorem dX12_laySides_249 : decode cX12_laySides 249 = .ok (.aload_n 0, 1) := by decide +kernel
theorem dX12_laySides_250 : decode cX12_laySides 250 = .ok (.getfield 185, 3) := by decide +kernel
theorem dX12_laySides_253 : decode cX12_laySides 253 = .ok (.if_icmp .ge 70, 3) := by decide +kernel
theorem dX12_laySides_256 : decode cX12_laySides 256 = .ok (.aload_n 0, 1) := by decide +kernel
theorem dX12_laySides_257 : decode cX12_laySides 257 = .ok (.getfield 194, 3) := by decide +kernel
theorem dX12_laySides_260 : decode cX12_laySides 260 = .ok (.ifCond .ne 63, 3) := by decide +kernel
theorem dX12_laySides_263 : decode cX12_laySides 263 = .ok (.aload_n 0, 1) := by decide +kernel
theorem dX12_laySides_264 : decode cX12_laySides 264 = .ok (.aload_n 0, 1) := by decide +kernel
theorem dX12_laySides_265 : decode cX12_laySides 265 = .ok (.iload_n 2, 1) := by decide +kernel
theorem dX12_laySides_266 : decode cX12_laySides 266 = .ok (.iload_n 3, 1) := by decide +kernel
theorem dX12_laySides_267 : decode cX12_laySides 267 = .ok (.iload 4, 2) := by decide +kernel
theorem dX12_laySides_269 : decode cX12_laySides 269 = .ok (.invokevirtual 203, 3) := by decide +kernel
theorem dX12_laySides_272 : decode cX12_laySides 272 = .ok (.putfield 194, 3) := by decide +kernel
theorem dX12_laySides_275 : decode cX12_laySides 275 = .ok (.iload 4, 2) := by decide +kernel
theorem dX12_laySides_277 : decode cX12_laySides 277 = .ok (.iconst 1, 1) := by decide +kernel
theorem dX12_laySides_278 : decode cX12_laySides 278 = .ok (.iadd, 1) := by decide +kernel
theorem dX12_laySides_279 : decode cX12_laySides 279 = .ok (.istore 5, 2) := by decide +kernel
theorem dX12_laySides_281 : decode cX12_laySides 281 = .ok (.iload 5, 2) := by decide +kernel
theorem dX12_laySides_283 : decode cX12_laySides 283 = .ok (.aload_n 0, 1) := by decide +kernel
theorem dX12_laySides_284 : decode cX12_laySides 284 = .ok (.getfield 185, 3) := by decide +kernel
theorem dX12_laySides_287 : decode cX12_laySides 287 = .ok (.if_icmp .ge 30, 3) := by decide +kernel
theorem dX12_laySides_290 : decode cX12_laySides 290 = .ok (.aload_n 0, 1) := by decide +kernel
theorem dX12_laySides_291 : decode cX12_laySides 291 = .ok (.getfield 194, 3) := by decide +kernel
theorem dX12_laySides_294 : decode cX12_laySides 294 = .ok (.ifCond .ne 23, 3) := by decide +kernel
theorem dX12_laySides_297 : decode cX12_laySides 297 = .ok (.aload_n 0, 1) := by decide +kernel
theorem dX12_laySides_298 : decode cX12_laySides 298 = .ok (.aload_n 0, 1) := by decide +kernel
theorem dX12_laySides_299 : decode cX12_laySides 299 = .ok (.iload_n 2, 1) := by decide +kernel
theorem dX12_laySides_300 : decode cX12_laySides 300 = .ok (.iload_n 3, 1) := by decide +kernel
theorem dX12_laySides_301 : decode cX12_laySides 301 = .ok (.iload 4, 2) := by decide +kernel
theorem dX12_laySides_303 : decode cX12_laySides 303 = .ok (.iload 5, 2) := by decide +kernel
theorem dX12_laySides_305 : decode cX12_laySides 305 = .ok (.invokevirtual 207, 3) := by decide +kernel
theorem dX12_laySides_308 : decode cX12_laySides 308 = .ok (.putfield 194, 3) := by decide +kernel
theorem dX12_laySides_311 : decode cX12_laySides 311 = .ok (.iinc 5 1, 3) := by decide +kernel
theorem dX12_laySides_314 : decode cX12_laySides 314 = .ok (.goto (-33), 3) := by decide +kernel
theorem dX12_laySides_317 : decode cX12_laySides 317 = .ok (.iinc 4 1, 3) := by decide +kernel
theorem dX12_laySides_320 : decode cX12_laySides 320 = .ok (.goto (-73), 3) := by decide +kernel
theorem dX12_laySides_323 : decode cX12_laySides 323 = .ok (.iinc 3 1, 3) := by decide +kernel
theorem dX12_laySides_326 : decode cX12_laySides 326 = .ok (.goto (-109), 3) := by decide +kernel
theorem dX12_laySides_329 : decode cX12_laySides 329 = .ok (.iinc 2 1, 3) := by decide +kernel
theorem dX12_laySides_332 : decode cX12_laySides 332 = .ok (.goto (-166), 3) := by decide +kernel
theorem dX12_laySides_335 : decode cX12_laySides 335 = .ok (.return_, 1) := by decide +kernel
theorem dX12_isAbove_0 : decode cX12_isAbove 0 = .ok (.lload_n 0, 1) := by decide +kernel
theorem dX12_isAbove_1 : decode cX12_isAbove 1 = .ok (.lload 10, 2) := by decide +kernel
theorem dX12_isAbove_3 : decode cX12_isAbove 3 = .ok (.lmul, 1) := by decide +kernel
theorem dX12_isAbove_4 : decode cX12_isAbove 4 = .ok (.lload 6, 2) := by decide +kernel
theorem dX12_isAbove_6 : decode cX12_isAbove 6 = .ok (.lload 4, 2) := by decide +kernel
theorem dX12_isAbove_8 : decode cX12_isAbove 8 = .ok (.lmul, 1) := by decide +kernel
theorem dX12_isAbove_9 : decode cX12_isAbove 9 = .ok (.lsub, 1) := by decide +kernel
theorem dX12_isAbove_10 : decode cX12_isAbove 10 = .ok (.lstore 12, 2) := by decide +kernel
theorem dX12_isAbove_12 : decode cX12_isAbove 12 = .ok (.lload_n 2, 1) := by decide +kernel
theorem dX12_isAbove_13 : decode cX12_isAbove 13 = .ok (.lload 10, 2) := by decide +kernel
theorem dX12_isAbove_15 : decode cX12_isAbove 15 = .ok (.lmul, 1) := by decide +kernel
theorem dX12_isAbove_16 : decode cX12_isAbove 16 = .ok (.lload 8, 2) := by decide +kernel
theorem dX12_isAbove_18 : decode cX12_isAbove 18 = .ok (.lload 4, 2) := by decide +kernel
theorem dX12_isAbove_20 : decode cX12_isAbove 20 = .ok (.lmul, 1) := by decide +kernel
theorem dX12_isAbove_21 : decode cX12_isAbove 21 = .ok (.lsub, 1) := by decide +kernel
theorem dX12_isAbove_22 : decode cX12_isAbove 22 = .ok (.lstore 14, 2) := by decide +kernel
theorem dX12_isAbove_24 : decode cX12_isAbove 24 = .ok (.lload 12, 2) := by decide +kernel
theorem dX12_isAbove_26 : decode cX12_isAbove 26 = .ok (.lload 14, 2) := by decide +kernel
theorem dX12_isAbove_28 : decode cX12_isAbove 28 = .ok (.ldc2_w 231, 3) := by decide +kernel
theorem dX12_isAbove_31 : decode cX12_isAbove 31 = .ok (.invokestatic 233, 3) := by decide +kernel
theorem dX12_isAbove_34 : decode cX12_isAbove 34 = .ok (.ladd, 1) := by decide +kernel
theorem dX12_isAbove_35 : decode cX12_isAbove 35 = .ok (.lstore 12, 2) := by decide +kernel
theorem dX12_isAbove_37 : decode cX12_isAbove 37 = .ok (.lload 14, 2) := by decide +kernel
theorem dX12_isAbove_39 : decode cX12_isAbove 39 = .ok (.ldc2_w 231, 3) := by decide +kernel
theorem dX12_isAbove_42 : decode cX12_isAbove 42 = .ok (.invokestatic 237, 3) := by decide +kernel
theorem dX12_isAbove_45 : decode cX12_isAbove 45 = .ok (.lstore 14, 2) := by decide +kernel
theorem dX12_isAbove_47 : decode cX12_isAbove 47 = .ok (.lload 12, 2) := by decide +kernel
theorem dX12_isAbove_49 : decode cX12_isAbove 49 = .ok (.lconst 0, 1) := by decide +kernel
theorem dX12_isAbove_50 : decode cX12_isAbove 50 = .ok (.lcmp, 1) := by decide +kernel
theorem dX12_isAbove_51 : decode cX12_isAbove 51 = .ok (.ifCond .gt 17, 3) := by decide +kernel
theorem dX12_isAbove_54 : decode cX12_isAbove 54 = .ok (.lload 12, 2) := by decide +kernel
theorem dX12_isAbove_56 : decode cX12_isAbove 56 = .ok (.lconst 0, 1) := by decide +kernel
theorem dX12_isAbove_57 : decode cX12_isAbove 57 = .ok (.lcmp, 1) := by decide +kernel
theorem dX12_isAbove_58 : decode cX12_isAbove 58 = .ok (.ifCond .ne 14, 3) := by decide +kernel
theorem dX12_isAbove_61 : decode cX12_isAbove 61 = .ok (.lload 14, 2) := by decide +kernel
theorem dX12_isAbove_63 : decode cX12_isAbove 63 = .ok (.lconst 0, 1) := by decide +kernel
theorem dX12_isAbove_64 : decode cX12_isAbove 64 = .ok (.lcmp, 1) := by decide +kernel
theorem dX12_isAbove_65 : decode cX12_isAbove 65 = .ok (.ifCond .le 7, 3) := by decide +kernel
theorem dX12_isAbove_68 : decode cX12_isAbove 68 = .ok (.iconst 1, 1) := by decide +kernel
theorem dX12_isAbove_69 : decode cX12_isAbove 69 = .ok (.goto 4, 3) := by decide +kernel
theorem dX12_isAbove_72 : decode cX12_isAbove 72 = .ok (.iconst 0, 1) := by decide +kernel
theorem dX12_isAbove_73 : decode cX12_isAbove 73 = .ok (.ireturn, 1) := by decide +kernel
theorem dX12_offer_0 : decode cX12_offer 0 = .ok (.lload 7, 2) := by decide +kernel
theorem dX12_offer_2 : decode cX12_offer 2 = .ok (.lconst 0, 1) := by decide +kernel
theorem dX12_offer_3 : decode cX12_offer 3 = .ok (.lcmp, 1) := by decide +kernel
theorem dX12_offer_4 : decode cX12_offer 4 = .ok (.ifCond .ge 9, 3) := by decide +kernel
theorem dX12_offer_7 : decode cX12_offer 7 = .ok (.ldc2_w 192, 3) := by decide +kernel
theorem dX12_offer_10 : decode cX12_offer 10 = .ok (.goto 4, 3) := by decide +kernel
theorem dX12_offer_13 : decode cX12_offer 13 = .ok (.lconst 1, 1) := by decide +kernel
theorem dX12_offer_14 : decode cX12_offer 14 = .ok (.lstore 12, 2) := by decide +kernel
theorem dX12_offer_16 : decode cX12_offer 16 = .ok (.lload_n 1, 1) := by decide +kernel
theorem dX12_offer_17 : decode cX12_offer 17 = .ok (.lload 12, 2) := by decide +kernel
theorem dX12_offer_19 : decode cX12_offer 19 = .ok (.lmul, 1) := by decide +kernel
theorem dX12_offer_20 : decode cX12_offer 20 = .ok (.lconst 0, 1) := by decide +kernel
theorem dX12_offer_21 : decode cX12_offer 21 = .ok (.lcmp, 1) := by decide +kernel
theorem dX12_offer_22 : decode cX12_offer 22 = .ok (.ifCond .lt 22, 3) := by decide +kernel
theorem dX12_offer_25 : decode cX12_offer 25 = .ok (.lload_n 3, 1) := by decide +kernel
theorem dX12_offer_26 : decode cX12_offer 26 = .ok (.lload 12, 2) := by decide +kernel
theorem dX12_offer_28 : decode cX12_offer 28 = .ok (.lmul, 1) := by decide +kernel
theorem dX12_offer_29 : decode cX12_offer 29 = .ok (.lconst 0, 1) := by decide +kernel
theorem dX12_offer_30 : decode cX12_offer 30 = .ok (.lcmp, 1) := by decide +kernel
theorem dX12_offer_31 : decode cX12_offer 31 = .ok (.ifCond .lt 13, 3) := by decide +kernel
theorem dX12_offer_34 : decode cX12_offer 34 = .ok (.lload 5, 2) := by decide +kernel
theorem dX12_offer_36 : decode cX12_offer 36 = .ok (.lload 12, 2) := by decide +kernel
theorem dX12_offer_38 : decode cX12_offer 38 = .ok (.lmul, 1) := by decide +kernel
theorem dX12_offer_39 : decode cX12_offer 39 = .ok (.lconst 0, 1) := by decide +kernel
theorem dX12_offer_40 : decode cX12_offer 40 = .ok (.lcmp, 1) := by decide +kernel
theorem dX12_offer_41 : decode cX12_offer 41 = .ok (.ifCond .ge 4, 3) := by decide +kernel
theorem dX12_offer_44 : decode cX12_offer 44 = .ok (.return_, 1) := by decide +kernel
theorem dX12_offer_45 : decode cX12_offer 45 = .ok (.lconst 0, 1) := by decide +kernel
theorem dX12_offer_46 : decode cX12_offer 46 = .ok (.lstore 14, 2) := by decide +kernel
theorem dX12_offer_48 : decode cX12_offer 48 = .ok (.lconst 0, 1) := by decide +kernel
theorem dX12_offer_49 : decode cX12_offer 49 = .ok (.lstore 16, 2) := by decide +kernel
theorem dX12_offer_51 : decode cX12_offer 51 = .ok (.iconst 0, 1) := by decide +kernel
theorem dX12_offer_52 : decode cX12_offer 52 = .ok (.istore 18, 2) := by decide +kernel
theorem dX12_offer_54 : decode cX12_offer 54 = .ok (.iload 18, 2) := by decide +kernel
theorem dX12_offer_56 : decode cX12_offer 56 = .ok (.iconst 3, 1) := by decide +kernel
theorem dX12_offer_57 : decode cX12_offer 57 = .ok (.if_icmp .ge 101, 3) := by decide +kernel
theorem dX12_offer_60 : decode cX12_offer 60 = .ok (.lload 12, 2) := by decide +kernel
theorem dX12_offer_62 : decode cX12_offer 62 = .ok (.iload 18, 2) := by decide +kernel
theorem dX12_offer_64 : decode cX12_offer 64 = .ok (.ifCond .ne 7, 3) := by decide +kernel
theorem dX12_offer_67 : decode cX12_offer 67 = .ok (.lload_n 1, 1) := by decide +kernel
theorem dX12_offer_68 : decode cX12_offer 68 = .ok (.goto 15, 3) := by decide +kernel
theorem dX12_offer_71 : decode cX12_offer 71 = .ok (.iload 18, 2) := by decide +kernel
theorem dX12_offer_73 : decode cX12_offer 73 = .ok (.iconst 1, 1) := by decide +kernel
theorem dX12_offer_74 : decode cX12_offer 74 = .ok (.if_icmp .ne 7, 3) := by decide +kernel
theorem dX12_offer_77 : decode cX12_offer 77 = .ok (.lload_n 3, 1) := by decide +kernel
theorem dX12_offer_78 : decode cX12_offer 78 = .ok (.goto 5, 3) := by decide +kernel
theorem dX12_offer_81 : decode cX12_offer 81 = .ok (.lload 5, 2) := by decide +kernel
theorem dX12_offer_83 : decode cX12_offer 83 = .ok (.lmul, 1) := by decide +kernel
theorem dX12_offer_84 : decode cX12_offer 84 = .ok (.lstore 19, 2) := by decide +kernel
theorem dX12_offer_86 : decode cX12_offer 86 = .ok (.aload_n 0, 1) := by decide +kernel
theorem dX12_offer_87 : decode cX12_offer 87 = .ok (.getfield 40, 3) := by decide +kernel
theorem dX12_offer_90 : decode cX12_offer 90 = .ok (.iconst 4, 1) := by decide +kernel
theorem dX12_offer_91 : decode cX12_offer 91 = .ok (.iload 18, 2) := by decide +kernel
theorem dX12_offer_93 : decode cX12_offer 93 = .ok (.ifCond .ne 8, 3) := by decide +kernel
theorem dX12_offer_96 : decode cX12_offer 96 = .ok (.iload 9, 2) := by decide +kernel
theorem dX12_offer_98 : decode cX12_offer 98 = .ok (.goto 16, 3) := by decide +kernel
theorem dX12_offer_101 : decode cX12_offer 101 = .ok (.iload 18, 2) := by decide +kernel
theorem dX12_offer_103 : decode cX12_offer 103 = .ok (.iconst 1, 1) := by decide +kernel
theorem dX12_offer_104 : decode cX12_offer 104 = .ok (.if_icmp .ne 8, 3) := by decide +kernel
theorem dX12_offer_107 : decode cX12_offer 107 = .ok (.iload 10, 2) := by decide +kernel
theorem dX12_offer_109 : decode cX12_offer 109 = .ok (.goto 5, 3) := by decide +kernel
theorem dX12_offer_112 : decode cX12_offer 112 = .ok (.iload 11, 2) := by decide +kernel
theorem dX12_offer_114 : decode cX12_offer 114 = .ok (.imul, 1) := by decide +kernel
theorem dX12_offer_115 : decode cX12_offer 115 = .ok (.iconst 3, 1) := by decide +kernel
theorem dX12_offer_116 : decode cX12_offer 116 = .ok (.iadd, 1) := by decide +kernel
theorem dX12_offer_117 : decode cX12_offer 117 = .ok (.laload, 1) := by decide +kernel
theorem dX12_offer_118 : decode cX12_offer 118 = .ok (.lstore 21, 2) := by decide +kernel
theorem dX12_offer_120 : decode cX12_offer 120 = .ok (.lload 14, 2) := by decide +kernel
theorem dX12_offer_122 : decode cX12_offer 122 = .ok (.lload 19, 2) := by decide +kernel
theorem dX12_offer_124 : decode cX12_offer 124 = .ok (.lload 21, 2) := by decide +kernel
theorem dX12_offer_126 : decode cX12_offer 126 = .ok (.ldc2_w 231, 3) := by decide +kernel
theorem dX12_offer_129 : decode cX12_offer 129 = .ok (.invokestatic 233, 3) := by decide +kernel
theorem dX12_offer_132 : decode cX12_offer 132 = .ok (.lmul, 1) := by decide +kernel
theorem dX12_offer_133 : decode cX12_offer 133 = .ok (.ladd, 1) := by decide +kernel
theorem dX12_offer_134 : decode cX12_offer 134 = .ok (.lstore 14, 2) := by decide +kernel
theorem dX12_offer_136 : decode cX12_offer 136 = .ok (.lload 16, 2) := by decide +kernel
theorem dX12_offer_138 : decode cX12_offer 138 = .ok (.lload 19, 2) := by decide +kernel
theorem dX12_offer_140 : decode cX12_offer 140 = .ok (.lload 21, 2) := by decide +kernel
theorem dX12_offer_142 : decode cX12_offer 142 = .ok (.ldc2_w 231, 3) := by decide +kernel
theorem dX12_offer_145 : decode cX12_offer 145 = .ok (.invokestatic 237, 3) := by decide +kernel
theorem dX12_offer_148 : decode cX12_offer 148 = .ok (.lmul, 1) := by decide +kernel
theorem dX12_offer_149 : decode cX12_offer 149 = .ok (.ladd, 1) := by decide +kernel
theorem dX12_offer_150 : decode cX12_offer 150 = .ok (.lstore 16, 2) := by decide +kernel
theorem dX12_offer_152 : decode cX12_offer 152 = .ok (.iinc 18 1, 3) := by decide +kernel
theorem dX12_offer_155 : decode cX12_offer 155 = .ok (.goto (-101), 3) := by decide +kernel
theorem dX12_offer_158 : decode cX12_offer 158 = .ok (.lload 14, 2) := by decide +kernel
theorem dX12_offer_160 : decode cX12_offer 160 = .ok (.lload 16, 2) := by decide +kernel
theorem dX12_offer_162 : decode cX12_offer 162 = .ok (.ldc2_w 231, 3) := by decide +kernel
theorem dX12_offer_165 : decode cX12_offer 165 = .ok (.invokestatic 233, 3) := by decide +kernel
theorem dX12_offer_168 : decode cX12_offer 168 = .ok (.ladd, 1) := by decide +kernel
theorem dX12_offer_169 : decode cX12_offer 169 = .ok (.lstore 14, 2) := by decide +kernel
theorem dX12_offer_171 : decode cX12_offer 171 = .ok (.lload 16, 2) := by decide +kernel
theorem dX12_offer_173 : decode cX12_offer 173 = .ok (.ldc2_w 231, 3) := by decide +kernel
theorem dX12_offer_176 : decode cX12_offer 176 = .ok (.invokestatic 237, 3) := by decide +kernel
theorem dX12_offer_179 : decode cX12_offer 179 = .ok (.lstore 16, 2) := by decide +kernel
theorem dX12_offer_181 : decode cX12_offer 181 = .ok (.aload_n 0, 1) := by decide +kernel
theorem dX12_offer_182 : decode cX12_offer 182 = .ok (.getfield 240, 3) := by decide +kernel
theorem dX12_offer_185 : decode cX12_offer 185 = .ok (.ifCond .eq 30, 3) := by decide +kernel
theorem dX12_offer_188 : decode cX12_offer 188 = .ok (.lload 14, 2) := by decide +kernel
theorem dX12_offer_190 : decode cX12_offer 190 = .ok (.lload 16, 2) := by decide +kernel
theorem dX12_offer_192 : decode cX12_offer 192 = .ok (.lload 12, 2) := by decide +kernel
theorem dX12_offer_194 : decode cX12_offer 194 = .ok (.lload 7, 2) := by decide +kernel
theorem dX12_offer_196 : decode cX12_offer 196 = .ok (.lmul, 1) := by decide +kernel
theorem dX12_offer_197 : decode cX12_offer 197 = .ok (.aload_n 0, 1) := by decide +kernel
theorem dX12_offer_198 : decode cX12_offer 198 = .ok (.getfield 243, 3) := by decide +kernel
theorem dX12_offer_201 : decode cX12_offer 201 = .ok (.aload_n 0, 1) := by decide +kernel
theorem dX12_offer_202 : decode cX12_offer 202 = .ok (.getfield 247, 3) := by decide +kernel
theorem dX12_offer_205 : decode cX12_offer 205 = .ok (.aload_n 0, 1) := by decide +kernel
theorem dX12_offer_206 : decode cX12_offer 206 = .ok (.getfield 250, 3) := by decide +kernel
theorem dX12_offer_209 : decode cX12_offer 209 = .ok (.invokestatic 253, 3) := by decide +kernel
theorem dX12_offer_212 : decode cX12_offer 212 = .ok (.ifCond .eq 29, 3) := by decide +kernel
theorem dX12_offer_215 : decode cX12_offer 215 = .ok (.aload_n 0, 1) := by decide +kernel
theorem dX12_offer_216 : decode cX12_offer 216 = .ok (.iconst 1, 1) := by decide +kernel
theorem dX12_offer_217 : decode cX12_offer 217 = .ok (.putfield 240, 3) := by decide +kernel
theorem dX12_offer_220 : decode cX12_offer 220 = .ok (.aload_n 0, 1) := by decide +kernel
theorem dX12_offer_221 : decode cX12_offer 221 = .ok (.lload 14, 2) := by decide +kernel
theorem dX12_offer_223 : decode cX12_offer 223 = .ok (.putfield 243, 3) := by decide +kernel
theorem dX12_offer_226 : decode cX12_offer 226 = .ok (.aload_n 0, 1) := by decide +kernel
theorem dX12_offer_227 : decode cX12_offer 227 = .ok (.lload 16, 2) := by decide +kernel
theorem dX12_offer_229 : decode cX12_offer 229 = .ok (.putfield 247, 3) := by decide +kernel
theorem dX12_offer_232 : decode cX12_offer 232 = .ok (.aload_n 0, 1) := by decide +kernel
theorem dX12_offer_233 : decode cX12_offer 233 = .ok (.lload 12, 2) := by decide +kernel
theorem dX12_offer_235 : decode cX12_offer 235 = .ok (.lload 7, 2) := by decide +kernel
theorem dX12_offer_237 : decode cX12_offer 237 = .ok (.lmul, 1) := by decide +kernel
theorem dX12_offer_238 : decode cX12_offer 238 = .ok (.putfield 250, 3) := by decide +kernel
theorem dX12_offer_241 : decode cX12_offer 241 = .ok (.return_, 1) := by decide +kernel
theorem dX12_crossWanted_0 : decode cX12_crossWanted 0 = .ok (.iload_n 2, 1) := by decide +kernel
theorem dX12_crossWanted_1 : decode cX12_crossWanted 1 = .ok (.iconst 1, 1) := by decide +kernel
theorem dX12_crossWanted_2 : decode cX12_crossWanted 2 = .ok (.iadd, 1) := by decide +kernel
theorem dX12_crossWanted_3 : decode cX12_crossWanted 3 = .ok (.iconst 3, 1) := by decide +kernel
theorem dX12_crossWanted_4 : decode cX12_crossWanted 4 = .ok (.irem, 1) := by decide +kernel
theorem dX12_crossWanted_5 : decode cX12_crossWanted 5 = .ok (.istore_n 3, 1) := by decide +kernel
theorem dX12_crossWanted_6 : decode cX12_crossWanted 6 = .ok (.iload_n 2, 1) := by decide +kernel
theorem dX12_crossWanted_7 : decode cX12_crossWanted 7 = .ok (.iconst 2, 1) := by decide +kernel
theorem dX12_crossWanted_8 : decode cX12_crossWanted 8 = .ok (.iadd, 1) := by decide +kernel
theorem dX12_crossWanted_9 : decode cX12_crossWanted 9 = .ok (.iconst 3, 1) := by decide +kernel
theorem dX12_crossWanted_10 : decode cX12_crossWanted 10 = .ok (.irem, 1) := by decide +kernel
theorem dX12_crossWanted_11 : decode cX12_crossWanted 11 = .ok (.istore 4, 2) := by decide +kernel
theorem dX12_crossWanted_13 : decode cX12_crossWanted 13 = .ok (.aload_n 0, 1) := by decide +kernel
theorem dX12_crossWanted_14 : decode cX12_crossWanted 14 = .ok (.getfield 40, 3) := by decide +kernel
theorem dX12_crossWanted_17 : decode cX12_crossWanted 17 = .ok (.iconst 4, 1) := by decide +kernel
theorem dX12_crossWanted_18 : decode cX12_crossWanted 18 = .ok (.iload_n 1, 1) := by decide +kernel
theorem dX12_crossWanted_19 : decode cX12_crossWanted 19 = .ok (.imul, 1) := by decide +kernel
theorem dX12_crossWanted_20 : decode cX12_crossWanted 20 = .ok (.iload_n 3, 1) := by decide +kernel
theorem dX12_crossWanted_21 : decode cX12_crossWanted 21 = .ok (.iadd, 1) := by decide +kernel
theorem dX12_crossWanted_22 : decode cX12_crossWanted 22 = .ok (.laload, 1) := by decide +kernel
theorem dX12_crossWanted_23 : decode cX12_crossWanted 23 = .ok (.aload_n 0, 1) := by decide +kernel
theorem dX12_crossWanted_24 : decode cX12_crossWanted 24 = .ok (.getfield 122, 3) := by decide +kernel
theorem dX12_crossWanted_27 : decode cX12_crossWanted 27 = .ok (.iload 4, 2) := by decide +kernel
theorem dX12_crossWanted_29 : decode cX12_crossWanted 29 = .ok (.laload, 1) := by decide +kernel
theorem dX12_crossWanted_30 : decode cX12_crossWanted 30 = .ok (.lmul, 1) := by decide +kernel
theorem dX12_crossWanted_31 : decode cX12_crossWanted 31 = .ok (.aload_n 0, 1) := by decide +kernel
theorem dX12_crossWanted_32 : decode cX12_crossWanted 32 = .ok (.getfield 40, 3) := by decide +kernel
theorem dX12_crossWanted_35 : decode cX12_crossWanted 35 = .ok (.iconst 4, 1) := by decide +kernel
theorem dX12_crossWanted_36 : decode cX12_crossWanted 36 = .ok (.iload_n 1, 1) := by decide +kernel
theorem dX12_crossWanted_37 : decode cX12_crossWanted 37 = .ok (.imul, 1) := by decide +kernel
theorem dX12_crossWanted_38 : decode cX12_crossWanted 38 = .ok (.iload 4, 2) := by decide +kernel
theorem dX12_crossWanted_40 : decode cX12_crossWanted 40 = .ok (.iadd, 1) := by decide +kernel
theorem dX12_crossWanted_41 : decode cX12_crossWanted 41 = .ok (.laload, 1) := by decide +kernel
theorem dX12_crossWanted_42 : decode cX12_crossWanted 42 = .ok (.aload_n 0, 1) := by decide +kernel
theorem dX12_crossWanted_43 : decode cX12_crossWanted 43 = .ok (.getfield 122, 3) := by decide +kernel
theorem dX12_crossWanted_46 : decode cX12_crossWanted 46 = .ok (.iload_n 3, 1) := by decide +kernel
theorem dX12_crossWanted_47 : decode cX12_crossWanted 47 = .ok (.laload, 1) := by decide +kernel
theorem dX12_crossWanted_48 : decode cX12_crossWanted 48 = .ok (.lmul, 1) := by decide +kernel
theorem dX12_crossWanted_49 : decode cX12_crossWanted 49 = .ok (.lsub, 1) := by decide +kernel
theorem dX12_crossWanted_50 : decode cX12_crossWanted 50 = .ok (.lreturn, 1) := by decide +kernel
theorem dX12_determinantWanted_0 : decode cX12_determinantWanted 0 = .ok (.aload_n 0, 1) := by decide +kernel
theorem dX12_determinantWanted_1 : decode cX12_determinantWanted 1 = .ok (.getfield 122, 3) := by decide +kernel
theorem dX12_determinantWanted_4 : decode cX12_determinantWanted 4 = .ok (.iconst 0, 1) := by decide +kernel
theorem dX12_determinantWanted_5 : decode cX12_determinantWanted 5 = .ok (.laload, 1) := by decide +kernel
theorem dX12_determinantWanted_6 : decode cX12_determinantWanted 6 = .ok (.aload_n 0, 1) := by decide +kernel
theorem dX12_determinantWanted_7 : decode cX12_determinantWanted 7 = .ok (.iload_n 1, 1) := by decide +kernel
theorem dX12_determinantWanted_8 : decode cX12_determinantWanted 8 = .ok (.iload_n 2, 1) := by decide +kernel
theorem dX12_determinantWanted_9 : decode cX12_determinantWanted 9 = .ok (.iconst 0, 1) := by decide +kernel
theorem dX12_determinantWanted_10 : decode cX12_determinantWanted 10 = .ok (.invokevirtual 211, 3) := by decide +kernel
theorem dX12_determinantWanted_13 : decode cX12_determinantWanted 13 = .ok (.lmul, 1) := by decide +kernel
theorem dX12_determinantWanted_14 : decode cX12_determinantWanted 14 = .ok (.aload_n 0, 1) := by decide +kernel
theorem dX12_determinantWanted_15 : decode cX12_determinantWanted 15 = .ok (.getfield 122, 3) := by decide +kernel
theorem dX12_determinantWanted_18 : decode cX12_determinantWanted 18 = .ok (.iconst 1, 1) := by decide +kernel
theorem dX12_determinantWanted_19 : decode cX12_determinantWanted 19 = .ok (.laload, 1) := by decide +kernel
theorem dX12_determinantWanted_20 : decode cX12_determinantWanted 20 = .ok (.aload_n 0, 1) := by decide +kernel
theorem dX12_determinantWanted_21 : decode cX12_determinantWanted 21 = .ok (.iload_n 1, 1) := by decide +kernel
theorem dX12_determinantWanted_22 : decode cX12_determinantWanted 22 = .ok (.iload_n 2, 1) := by decide +kernel
theorem dX12_determinantWanted_23 : decode cX12_determinantWanted 23 = .ok (.iconst 1, 1) := by decide +kernel
theorem dX12_determinantWanted_24 : decode cX12_determinantWanted 24 = .ok (.invokevirtual 211, 3) := by decide +kernel
theorem dX12_determinantWanted_27 : decode cX12_determinantWanted 27 = .ok (.lmul, 1) := by decide +kernel
theorem dX12_determinantWanted_28 : decode cX12_determinantWanted 28 = .ok (.ladd, 1) := by decide +kernel
theorem dX12_determinantWanted_29 : decode cX12_determinantWanted 29 = .ok (.aload_n 0, 1) := by decide +kernel
theorem dX12_determinantWanted_30 : decode cX12_determinantWanted 30 = .ok (.getfield 122, 3) := by decide +kernel
theorem dX12_determinantWanted_33 : decode cX12_determinantWanted 33 = .ok (.iconst 2, 1) := by decide +kernel
theorem dX12_determinantWanted_34 : decode cX12_determinantWanted 34 = .ok (.laload, 1) := by decide +kernel
theorem dX12_determinantWanted_35 : decode cX12_determinantWanted 35 = .ok (.aload_n 0, 1) := by decide +kernel
theorem dX12_determinantWanted_36 : decode cX12_determinantWanted 36 = .ok (.iload_n 1, 1) := by decide +kernel
theorem dX12_determinantWanted_37 : decode cX12_determinantWanted 37 = .ok (.iload_n 2, 1) := by decide +kernel
theorem dX12_determinantWanted_38 : decode cX12_determinantWanted 38 = .ok (.iconst 2, 1) := by decide +kernel
theorem dX12_determinantWanted_39 : decode cX12_determinantWanted 39 = .ok (.invokevirtual 211, 3) := by decide +kernel
theorem dX12_determinantWanted_42 : decode cX12_determinantWanted 42 = .ok (.lmul, 1) := by decide +kernel
theorem dX12_determinantWanted_43 : decode cX12_determinantWanted 43 = .ok (.ladd, 1) := by decide +kernel
theorem dX12_determinantWanted_44 : decode cX12_determinantWanted 44 = .ok (.lreturn, 1) := by decide +kernel
theorem dX12_byOne_0 : decode cX12_byOne 0 = .ok (.aload_n 0, 1) := by decide +kernel
theorem dX12_byOne_1 : decode cX12_byOne 1 = .ok (.iload_n 1, 1) := by decide +kernel
theorem dX12_byOne_2 : decode cX12_byOne 2 = .ok (.invokevirtual 197, 3) := by decide +kernel
theorem dX12_byOne_5 : decode cX12_byOne 5 = .ok (.ifCond .ne 36, 3) := by decide +kernel
theorem dX12_byOne_8 : decode cX12_byOne 8 = .ok (.aload_n 0, 1) := by decide +kernel
theorem dX12_byOne_9 : decode cX12_byOne 9 = .ok (.iload_n 1, 1) := by decide +kernel
theorem dX12_byOne_10 : decode cX12_byOne 10 = .ok (.iconst 0, 1) := by decide +kernel
theorem dX12_byOne_11 : decode cX12_byOne 11 = .ok (.invokevirtual 273, 3) := by decide +kernel
theorem dX12_byOne_14 : decode cX12_byOne 14 = .ok (.lconst 0, 1) := by decide +kernel
theorem dX12_byOne_15 : decode cX12_byOne 15 = .ok (.lcmp, 1) := by decide +kernel
theorem dX12_byOne_16 : decode cX12_byOne 16 = .ok (.ifCond .ne 25, 3) := by decide +kernel
theorem dX12_byOne_19 : decode cX12_byOne 19 = .ok (.aload_n 0, 1) := by decide +kernel
theorem dX12_byOne_20 : decode cX12_byOne 20 = .ok (.iload_n 1, 1) := by decide +kernel
theorem dX12_byOne_21 : decode cX12_byOne 21 = .ok (.iconst 1, 1) := by decide +kernel
theorem dX12_byOne_22 : decode cX12_byOne 22 = .ok (.invokevirtual 273, 3) := by decide +kernel
theorem dX12_byOne_25 : decode cX12_byOne 25 = .ok (.lconst 0, 1) := by decide +kernel
theorem dX12_byOne_26 : decode cX12_byOne 26 = .ok (.lcmp, 1) := by decide +kernel
theorem dX12_byOne_27 : decode cX12_byOne 27 = .ok (.ifCond .ne 14, 3) := by decide +kernel
theorem dX12_byOne_30 : decode cX12_byOne 30 = .ok (.aload_n 0, 1) := by decide +kernel
theorem dX12_byOne_31 : decode cX12_byOne 31 = .ok (.iload_n 1, 1) := by decide +kernel
theorem dX12_byOne_32 : decode cX12_byOne 32 = .ok (.iconst 2, 1) := by decide +kernel
theorem dX12_byOne_33 : decode cX12_byOne 33 = .ok (.invokevirtual 273, 3) := by decide +kernel
theorem dX12_byOne_36 : decode cX12_byOne 36 = .ok (.lconst 0, 1) := by decide +kernel
theorem dX12_byOne_37 : decode cX12_byOne 37 = .ok (.lcmp, 1) := by decide +kernel
theorem dX12_byOne_38 : decode cX12_byOne 38 = .ok (.ifCond .eq 4, 3) := by decide +kernel
theorem dX12_byOne_41 : decode cX12_byOne 41 = .ok (.return_, 1) := by decide +kernel
theorem dX12_byOne_42 : decode cX12_byOne 42 = .ok (.iconst 0, 1) := by decide +kernel
theorem dX12_byOne_43 : decode cX12_byOne 43 = .ok (.istore_n 2, 1) := by decide +kernel
theorem dX12_byOne_44 : decode cX12_byOne 44 = .ok (.aload_n 0, 1) := by decide +kernel
theorem dX12_byOne_45 : decode cX12_byOne 45 = .ok (.getfield 40, 3) := by decide +kernel
theorem dX12_byOne_48 : decode cX12_byOne 48 = .ok (.iconst 4, 1) := by decide +kernel
theorem dX12_byOne_49 : decode cX12_byOne 49 = .ok (.iload_n 1, 1) := by decide +kernel
theorem dX12_byOne_50 : decode cX12_byOne 50 = .ok (.imul, 1) := by decide +kernel
theorem dX12_byOne_51 : decode cX12_byOne 51 = .ok (.iload_n 2, 1) := by decide +kernel
theorem dX12_byOne_52 : decode cX12_byOne 52 = .ok (.iadd, 1) := by decide +kernel
theorem dX12_byOne_53 : decode cX12_byOne 53 = .ok (.laload, 1) := by decide +kernel
theorem dX12_byOne_54 : decode cX12_byOne 54 = .ok (.lconst 0, 1) := by decide +kernel
theorem dX12_byOne_55 : decode cX12_byOne 55 = .ok (.lcmp, 1) := by decide +kernel
theorem dX12_byOne_56 : decode cX12_byOne 56 = .ok (.ifCond .ne 9, 3) := by decide +kernel
theorem dX12_byOne_59 : decode cX12_byOne 59 = .ok (.iinc 2 1, 3) := by decide +kernel
theorem dX12_byOne_62 : decode cX12_byOne 62 = .ok (.goto (-18), 3) := by decide +kernel
theorem dX12_byOne_65 : decode cX12_byOne 65 = .ok (.aload_n 0, 1) := by decide +kernel
theorem dX12_byOne_66 : decode cX12_byOne 66 = .ok (.aload_n 0, 1) := by decide +kernel
theorem dX12_byOne_67 : decode cX12_byOne 67 = .ok (.getfield 122, 3) := by decide +kernel
theorem dX12_byOne_70 : decode cX12_byOne 70 = .ok (.iload_n 2, 1) := by decide +kernel
theorem dX12_byOne_71 : decode cX12_byOne 71 = .ok (.laload, 1) := by decide +kernel
theorem dX12_byOne_72 : decode cX12_byOne 72 = .ok (.lconst 0, 1) := by decide +kernel
theorem dX12_byOne_73 : decode cX12_byOne 73 = .ok (.lconst 0, 1) := by decide +kernel
theorem dX12_byOne_74 : decode cX12_byOne 74 = .ok (.aload_n 0, 1) := by decide +kernel
theorem dX12_byOne_75 : decode cX12_byOne 75 = .ok (.getfield 40, 3) := by decide +kernel
theorem dX12_byOne_78 : decode cX12_byOne 78 = .ok (.iconst 4, 1) := by decide +kernel
theorem dX12_byOne_79 : decode cX12_byOne 79 = .ok (.iload_n 1, 1) := by decide +kernel
theorem dX12_byOne_80 : decode cX12_byOne 80 = .ok (.imul, 1) := by decide +kernel
theorem dX12_byOne_81 : decode cX12_byOne 81 = .ok (.iload_n 2, 1) := by decide +kernel
theorem dX12_byOne_82 : decode cX12_byOne 82 = .ok (.iadd, 1) := by decide +kernel
theorem dX12_byOne_83 : decode cX12_byOne 83 = .ok (.laload, 1) := by decide +kernel
theorem dX12_byOne_84 : decode cX12_byOne 84 = .ok (.iload_n 1, 1) := by decide +kernel
theorem dX12_byOne_85 : decode cX12_byOne 85 = .ok (.iload_n 1, 1) := by decide +kernel
theorem dX12_byOne_86 : decode cX12_byOne 86 = .ok (.iload_n 1, 1) := by decide +kernel
theorem dX12_byOne_87 : decode cX12_byOne 87 = .ok (.invokevirtual 269, 3) := by decide +kernel
theorem dX12_byOne_90 : decode cX12_byOne 90 = .ok (.return_, 1) := by decide +kernel
theorem dX12_byTwo_0 : decode cX12_byTwo 0 = .ok (.aload_n 0, 1) := by decide +kernel
theorem dX12_byTwo_1 : decode cX12_byTwo 1 = .ok (.iload_n 1, 1) := by decide +kernel
theorem dX12_byTwo_2 : decode cX12_byTwo 2 = .ok (.iload_n 2, 1) := by decide +kernel
theorem dX12_byTwo_3 : decode cX12_byTwo 3 = .ok (.invokevirtual 265, 3) := by decide +kernel
theorem dX12_byTwo_6 : decode cX12_byTwo 6 = .ok (.lconst 0, 1) := by decide +kernel
theorem dX12_byTwo_7 : decode cX12_byTwo 7 = .ok (.lcmp, 1) := by decide +kernel
theorem dX12_byTwo_8 : decode cX12_byTwo 8 = .ok (.ifCond .eq 4, 3) := by decide +kernel
theorem dX12_byTwo_11 : decode cX12_byTwo 11 = .ok (.return_, 1) := by decide +kernel
theorem dX12_byTwo_12 : decode cX12_byTwo 12 = .ok (.iconst 0, 1) := by decide +kernel
theorem dX12_byTwo_13 : decode cX12_byTwo 13 = .ok (.istore_n 3, 1) := by decide +kernel
theorem dX12_byTwo_14 : decode cX12_byTwo 14 = .ok (.iload_n 3, 1) := by decide +kernel
theorem dX12_byTwo_15 : decode cX12_byTwo 15 = .ok (.iconst 3, 1) := by decide +kernel
theorem dX12_byTwo_16 : decode cX12_byTwo 16 = .ok (.if_icmp .ge 49, 3) := by decide +kernel
theorem dX12_byTwo_19 : decode cX12_byTwo 19 = .ok (.aload_n 0, 1) := by decide +kernel
theorem dX12_byTwo_20 : decode cX12_byTwo 20 = .ok (.iload_n 1, 1) := by decide +kernel
theorem dX12_byTwo_21 : decode cX12_byTwo 21 = .ok (.iload_n 2, 1) := by decide +kernel
theorem dX12_byTwo_22 : decode cX12_byTwo 22 = .ok (.iload_n 3, 1) := by decide +kernel
theorem dX12_byTwo_23 : decode cX12_byTwo 23 = .ok (.invokevirtual 211, 3) := by decide +kernel
theorem dX12_byTwo_26 : decode cX12_byTwo 26 = .ok (.lstore 4, 2) := by decide +kernel
theorem dX12_byTwo_28 : decode cX12_byTwo 28 = .ok (.lload 4, 2) := by decide +kernel
theorem dX12_byTwo_30 : decode cX12_byTwo 30 = .ok (.lconst 0, 1) := by decide +kernel
theorem dX12_byTwo_31 : decode cX12_byTwo 31 = .ok (.lcmp, 1) := by decide +kernel
theorem dX12_byTwo_32 : decode cX12_byTwo 32 = .ok (.ifCond .eq 27, 3) := by decide +kernel
theorem dX12_byTwo_35 : decode cX12_byTwo 35 = .ok (.aload_n 0, 1) := by decide +kernel
theorem dX12_byTwo_36 : decode cX12_byTwo 36 = .ok (.aload_n 0, 1) := by decide +kernel
theorem dX12_byTwo_37 : decode cX12_byTwo 37 = .ok (.iload_n 2, 1) := by decide +kernel
theorem dX12_byTwo_38 : decode cX12_byTwo 38 = .ok (.iload_n 3, 1) := by decide +kernel
theorem dX12_byTwo_39 : decode cX12_byTwo 39 = .ok (.invokevirtual 273, 3) := by decide +kernel
theorem dX12_byTwo_42 : decode cX12_byTwo 42 = .ok (.lneg, 1) := by decide +kernel
theorem dX12_byTwo_43 : decode cX12_byTwo 43 = .ok (.aload_n 0, 1) := by decide +kernel
theorem dX12_byTwo_44 : decode cX12_byTwo 44 = .ok (.iload_n 1, 1) := by decide +kernel
theorem dX12_byTwo_45 : decode cX12_byTwo 45 = .ok (.iload_n 3, 1) := by decide +kernel
theorem dX12_byTwo_46 : decode cX12_byTwo 46 = .ok (.invokevirtual 273, 3) := by decide +kernel
theorem dX12_byTwo_49 : decode cX12_byTwo 49 = .ok (.lconst 0, 1) := by decide +kernel
