theorem dX9_shape_1 : decode cX9_shape 1 = .ok (.aload_n 1, 1) := by decide +kernel
theorem dX9_shape_2 : decode cX9_shape 2 = .ok (.aload_n 2, 1) := by decide +kernel
theorem dX9_shape_3 : decode cX9_shape 3 = .ok (.invokevirtual 18, 3) := by decide +kernel
theorem dX9_shape_6 : decode cX9_shape 6 = .ok (.aload_n 1, 1) := by decide +kernel
theorem dX9_shape_7 : decode cX9_shape 7 = .ok (.getfield 22, 3) := by decide +kernel
theorem dX9_shape_10 : decode cX9_shape 10 = .ok (.astore_n 3, 1) := by decide +kernel
theorem dX9_shape_11 : decode cX9_shape 11 = .ok (.aload_n 3, 1) := by decide +kernel
theorem dX9_shape_12 : decode cX9_shape 12 = .ok (.invokevirtual 28, 3) := by decide +kernel
theorem dX9_shape_15 : decode cX9_shape 15 = .ok (.aload_n 0, 1) := by decide +kernel
theorem dX9_shape_16 : decode cX9_shape 16 = .ok (.aload_n 3, 1) := by decide +kernel
theorem dX9_shape_17 : decode cX9_shape 17 = .ok (.invokevirtual 33, 3) := by decide +kernel
theorem dX9_shape_20 : decode cX9_shape 20 = .ok (.aload_n 3, 1) := by decide +kernel
theorem dX9_shape_21 : decode cX9_shape 21 = .ok (.invokevirtual 37, 3) := by decide +kernel
theorem dX9_shape_24 : decode cX9_shape 24 = .ok (.ifCond .ne 8, 3) := by decide +kernel
theorem dX9_shape_27 : decode cX9_shape 27 = .ok (.aload_n 0, 1) := by decide +kernel
theorem dX9_shape_28 : decode cX9_shape 28 = .ok (.aload_n 3, 1) := by decide +kernel
theorem dX9_shape_29 : decode cX9_shape 29 = .ok (.invokevirtual 41, 3) := by decide +kernel
theorem dX9_shape_32 : decode cX9_shape 32 = .ok (.aload_n 3, 1) := by decide +kernel
theorem dX9_shape_33 : decode cX9_shape 33 = .ok (.iconst 1, 1) := by decide +kernel
theorem dX9_shape_34 : decode cX9_shape 34 = .ok (.putfield 44, 3) := by decide +kernel
theorem dX9_shape_37 : decode cX9_shape 37 = .ok (.return_, 1) := by decide +kernel
theorem dX11_learnPlaces_0 : decode cX11_learnPlaces 0 = .ok (.iconst 0, 1) := by decide +kernel
theorem dX11_learnPlaces_1 : decode cX11_learnPlaces 1 = .ok (.istore_n 1, 1) := by decide +kernel
theorem dX11_learnPlaces_2 : decode cX11_learnPlaces 2 = .ok (.iload_n 1, 1) := by decide +kernel
theorem dX11_learnPlaces_3 : decode cX11_learnPlaces 3 = .ok (.aload_n 0, 1) := by decide +kernel
theorem dX11_learnPlaces_4 : decode cX11_learnPlaces 4 = .ok (.getfield 10, 3) := by decide +kernel
theorem dX11_learnPlaces_7 : decode cX11_learnPlaces 7 = .ok (.getfield 98, 3) := by decide +kernel
theorem dX11_learnPlaces_10 : decode cX11_learnPlaces 10 = .ok (.if_icmp .ge 41, 3) := by decide +kernel
theorem dX11_learnPlaces_13 : decode cX11_learnPlaces 13 = .ok (.aload_n 0, 1) := by decide +kernel
theorem dX11_learnPlaces_14 : decode cX11_learnPlaces 14 = .ok (.getfield 10, 3) := by decide +kernel
theorem dX11_learnPlaces_17 : decode cX11_learnPlaces 17 = .ok (.getfield 115, 3) := by decide +kernel
theorem dX11_learnPlaces_20 : decode cX11_learnPlaces 20 = .ok (.iload_n 1, 1) := by decide +kernel
theorem dX11_learnPlaces_21 : decode cX11_learnPlaces 21 = .ok (.aaload, 1) := by decide +kernel
theorem dX11_learnPlaces_22 : decode cX11_learnPlaces 22 = .ok (.astore_n 2, 1) := by decide +kernel
theorem dX11_learnPlaces_23 : decode cX11_learnPlaces 23 = .ok (.aload_n 2, 1) := by decide +kernel
theorem dX11_learnPlaces_24 : decode cX11_learnPlaces 24 = .ok (.getfield 171, 3) := by decide +kernel
theorem dX11_learnPlaces_27 : decode cX11_learnPlaces 27 = .ok (.getfield 289, 3) := by decide +kernel
theorem dX11_learnPlaces_30 : decode cX11_learnPlaces 30 = .ok (.ifCond .ne 15, 3) := by decide +kernel
theorem dX11_learnPlaces_33 : decode cX11_learnPlaces 33 = .ok (.aload_n 0, 1) := by decide +kernel
theorem dX11_learnPlaces_34 : decode cX11_learnPlaces 34 = .ok (.getfield 47, 3) := by decide +kernel
theorem dX11_learnPlaces_37 : decode cX11_learnPlaces 37 = .ok (.aload_n 2, 1) := by decide +kernel
theorem dX11_learnPlaces_38 : decode cX11_learnPlaces 38 = .ok (.aload_n 0, 1) := by decide +kernel
theorem dX11_learnPlaces_39 : decode cX11_learnPlaces 39 = .ok (.getfield 30, 3) := by decide +kernel
theorem dX11_learnPlaces_42 : decode cX11_learnPlaces 42 = .ok (.invokevirtual 292, 3) := by decide +kernel
theorem dX11_learnPlaces_45 : decode cX11_learnPlaces 45 = .ok (.iinc 1 1, 3) := by decide +kernel
theorem dX11_learnPlaces_48 : decode cX11_learnPlaces 48 = .ok (.goto (-46), 3) := by decide +kernel
theorem dX11_learnPlaces_51 : decode cX11_learnPlaces 51 = .ok (.return_, 1) := by decide +kernel
theorem dX7_isRankedBy_0 : decode cX7_isRankedBy 0 = .ok (.iconst 0, 1) := by decide +kernel
theorem dX7_isRankedBy_1 : decode cX7_isRankedBy 1 = .ok (.istore_n 2, 1) := by decide +kernel
theorem dX7_isRankedBy_2 : decode cX7_isRankedBy 2 = .ok (.iload_n 2, 1) := by decide +kernel
theorem dX7_isRankedBy_3 : decode cX7_isRankedBy 3 = .ok (.aload_n 0, 1) := by decide +kernel
theorem dX7_isRankedBy_4 : decode cX7_isRankedBy 4 = .ok (.getfield 22, 3) := by decide +kernel
theorem dX7_isRankedBy_7 : decode cX7_isRankedBy 7 = .ok (.if_icmp .ge 24, 3) := by decide +kernel
theorem dX7_isRankedBy_10 : decode cX7_isRankedBy 10 = .ok (.aload_n 0, 1) := by decide +kernel
theorem dX7_isRankedBy_11 : decode cX7_isRankedBy 11 = .ok (.getfield 11, 3) := by decide +kernel
theorem dX7_isRankedBy_14 : decode cX7_isRankedBy 14 = .ok (.iload_n 2, 1) := by decide +kernel
theorem dX7_isRankedBy_15 : decode cX7_isRankedBy 15 = .ok (.aaload, 1) := by decide +kernel
theorem dX7_isRankedBy_16 : decode cX7_isRankedBy 16 = .ok (.aload_n 1, 1) := by decide +kernel
theorem dX7_isRankedBy_17 : decode cX7_isRankedBy 17 = .ok (.invokevirtual 39, 3) := by decide +kernel
theorem dX7_isRankedBy_20 : decode cX7_isRankedBy 20 = .ok (.ifCond .ne 5, 3) := by decide +kernel
theorem dX7_isRankedBy_23 : decode cX7_isRankedBy 23 = .ok (.iconst 0, 1) := by decide +kernel
theorem dX7_isRankedBy_24 : decode cX7_isRankedBy 24 = .ok (.ireturn, 1) := by decide +kernel
theorem dX7_isRankedBy_25 : decode cX7_isRankedBy 25 = .ok (.iinc 2 1, 3) := by decide +kernel
theorem dX7_isRankedBy_28 : decode cX7_isRankedBy 28 = .ok (.goto (-26), 3) := by decide +kernel
theorem dX7_isRankedBy_31 : decode cX7_isRankedBy 31 = .ok (.iconst 1, 1) := by decide +kernel
theorem dX7_isRankedBy_32 : decode cX7_isRankedBy 32 = .ok (.ireturn, 1) := by decide +kernel
theorem dX11_ranks_0 : decode cX11_ranks 0 = .ok (.aload_n 0, 1) := by decide +kernel
theorem dX11_ranks_1 : decode cX11_ranks 1 = .ok (.iload_n 1, 1) := by decide +kernel
theorem dX11_ranks_2 : decode cX11_ranks 2 = .ok (.iload_n 2, 1) := by decide +kernel
theorem dX11_ranks_3 : decode cX11_ranks 3 = .ok (.iload_n 3, 1) := by decide +kernel
theorem dX11_ranks_4 : decode cX11_ranks 4 = .ok (.invokevirtual 160, 3) := by decide +kernel
theorem dX11_ranks_7 : decode cX11_ranks 7 = .ok (.ifCond .ne 5, 3) := by decide +kernel
theorem dX11_ranks_10 : decode cX11_ranks 10 = .ok (.iconst (-1), 1) := by decide +kernel
theorem dX11_ranks_11 : decode cX11_ranks 11 = .ok (.ireturn, 1) := by decide +kernel
theorem dX11_ranks_12 : decode cX11_ranks 12 = .ok (.aload_n 0, 1) := by decide +kernel
theorem dX11_ranks_13 : decode cX11_ranks 13 = .ok (.invokevirtual 164, 3) := by decide +kernel
theorem dX11_ranks_16 : decode cX11_ranks 16 = .ok (.aload_n 0, 1) := by decide +kernel
theorem dX11_ranks_17 : decode cX11_ranks 17 = .ok (.getfield 10, 3) := by decide +kernel
theorem dX11_ranks_20 : decode cX11_ranks 20 = .ok (.aload_n 0, 1) := by decide +kernel
theorem dX11_ranks_21 : decode cX11_ranks 21 = .ok (.getfield 58, 3) := by decide +kernel
theorem dX11_ranks_24 : decode cX11_ranks 24 = .ok (.invokevirtual 167, 3) := by decide +kernel
theorem dX11_ranks_27 : decode cX11_ranks 27 = .ok (.ifCond .eq 7, 3) := by decide +kernel
theorem dX11_ranks_30 : decode cX11_ranks 30 = .ok (.iconst 1, 1) := by decide +kernel
theorem dX11_ranks_31 : decode cX11_ranks 31 = .ok (.goto 4, 3) := by decide +kernel
theorem dX11_ranks_34 : decode cX11_ranks 34 = .ok (.iconst 0, 1) := by decide +kernel
theorem dX11_ranks_35 : decode cX11_ranks 35 = .ok (.ireturn, 1) := by decide +kernel
theorem dX11_tells_0 : decode cX11_tells 0 = .ok (.aload_n 0, 1) := by decide +kernel
theorem dX11_tells_1 : decode cX11_tells 1 = .ok (.getfield 10, 3) := by decide +kernel
theorem dX11_tells_4 : decode cX11_tells 4 = .ok (.iload_n 1, 1) := by decide +kernel
theorem dX11_tells_5 : decode cX11_tells 5 = .ok (.invokevirtual 105, 3) := by decide +kernel
theorem dX11_tells_8 : decode cX11_tells 8 = .ok (.ifCond .eq 14, 3) := by decide +kernel
theorem dX11_tells_11 : decode cX11_tells 11 = .ok (.aload_n 0, 1) := by decide +kernel
theorem dX11_tells_12 : decode cX11_tells 12 = .ok (.iload_n 2, 1) := by decide +kernel
theorem dX11_tells_13 : decode cX11_tells 13 = .ok (.iload_n 3, 1) := by decide +kernel
theorem dX11_tells_14 : decode cX11_tells 14 = .ok (.iload 4, 2) := by decide +kernel
theorem dX11_tells_16 : decode cX11_tells 16 = .ok (.invokevirtual 160, 3) := by decide +kernel
theorem dX11_tells_19 : decode cX11_tells 19 = .ok (.ifCond .ne 5, 3) := by decide +kernel
theorem dX11_tells_22 : decode cX11_tells 22 = .ok (.iconst (-1), 1) := by decide +kernel
theorem dX11_tells_23 : decode cX11_tells 23 = .ok (.ireturn, 1) := by decide +kernel
theorem dX11_tells_24 : decode cX11_tells 24 = .ok (.aload_n 0, 1) := by decide +kernel
theorem dX11_tells_25 : decode cX11_tells 25 = .ok (.invokevirtual 164, 3) := by decide +kernel
theorem dX11_tells_28 : decode cX11_tells 28 = .ok (.aload_n 0, 1) := by decide +kernel
theorem dX11_tells_29 : decode cX11_tells 29 = .ok (.getfield 10, 3) := by decide +kernel
theorem dX11_tells_32 : decode cX11_tells 32 = .ok (.getfield 115, 3) := by decide +kernel
theorem dX11_tells_35 : decode cX11_tells 35 = .ok (.iload_n 1, 1) := by decide +kernel
theorem dX11_tells_36 : decode cX11_tells 36 = .ok (.aaload, 1) := by decide +kernel
theorem dX11_tells_37 : decode cX11_tells 37 = .ok (.astore 5, 2) := by decide +kernel
theorem dX11_tells_39 : decode cX11_tells 39 = .ok (.aload 5, 2) := by decide +kernel
theorem dX11_tells_41 : decode cX11_tells 41 = .ok (.getfield 171, 3) := by decide +kernel
theorem dX11_tells_44 : decode cX11_tells 44 = .ok (.aload_n 0, 1) := by decide +kernel
theorem dX11_tells_45 : decode cX11_tells 45 = .ok (.getfield 58, 3) := by decide +kernel
theorem dX11_tells_48 : decode cX11_tells 48 = .ok (.invokevirtual 175, 3) := by decide +kernel
theorem dX11_tells_51 : decode cX11_tells 51 = .ok (.ifCond .eq 7, 3) := by decide +kernel
theorem dX11_tells_54 : decode cX11_tells 54 = .ok (.iconst 4, 1) := by decide +kernel
theorem dX11_tells_55 : decode cX11_tells 55 = .ok (.goto 4, 3) := by decide +kernel
theorem dX11_tells_58 : decode cX11_tells 58 = .ok (.iconst 0, 1) := by decide +kernel
theorem dX11_tells_59 : decode cX11_tells 59 = .ok (.istore 6, 2) := by decide +kernel
theorem dX11_tells_61 : decode cX11_tells 61 = .ok (.aload 5, 2) := by decide +kernel
theorem dX11_tells_63 : decode cX11_tells 63 = .ok (.aload_n 0, 1) := by decide +kernel
theorem dX11_tells_64 : decode cX11_tells 64 = .ok (.getfield 58, 3) := by decide +kernel
theorem dX11_tells_67 : decode cX11_tells 67 = .ok (.iconst (-1), 1) := by decide +kernel
theorem dX11_tells_68 : decode cX11_tells 68 = .ok (.invokevirtual 180, 3) := by decide +kernel
theorem dX11_tells_71 : decode cX11_tells 71 = .ok (.ifCond .eq 6, 3) := by decide +kernel
theorem dX11_tells_74 : decode cX11_tells 74 = .ok (.iinc 6 2, 3) := by decide +kernel
theorem dX11_tells_77 : decode cX11_tells 77 = .ok (.aload 5, 2) := by decide +kernel
theorem dX11_tells_79 : decode cX11_tells 79 = .ok (.aload_n 0, 1) := by decide +kernel
theorem dX11_tells_80 : decode cX11_tells 80 = .ok (.getfield 58, 3) := by decide +kernel
theorem dX11_tells_83 : decode cX11_tells 83 = .ok (.iconst 0, 1) := by decide +kernel
theorem dX11_tells_84 : decode cX11_tells 84 = .ok (.invokevirtual 180, 3) := by decide +kernel
theorem dX11_tells_87 : decode cX11_tells 87 = .ok (.ifCond .eq 6, 3) := by decide +kernel
theorem dX11_tells_90 : decode cX11_tells 90 = .ok (.iinc 6 1, 3) := by decide +kernel
theorem dX11_tells_93 : decode cX11_tells 93 = .ok (.iload 6, 2) := by decide +kernel
theorem dX11_tells_95 : decode cX11_tells 95 = .ok (.ireturn, 1) := by decide +kernel
theorem dX6_floorOf_0 : decode cX6_floorOf 0 = .ok (.lconst 0, 1) := by decide +kernel
theorem dX6_floorOf_1 : decode cX6_floorOf 1 = .ok (.lstore_n 2, 1) := by decide +kernel
theorem dX6_floorOf_2 : decode cX6_floorOf 2 = .ok (.iconst 0, 1) := by decide +kernel
theorem dX6_floorOf_3 : decode cX6_floorOf 3 = .ok (.istore 4, 2) := by decide +kernel
theorem dX6_floorOf_5 : decode cX6_floorOf 5 = .ok (.iload 4, 2) := by decide +kernel
theorem dX6_floorOf_7 : decode cX6_floorOf 7 = .ok (.iconst 4, 1) := by decide +kernel
theorem dX6_floorOf_8 : decode cX6_floorOf 8 = .ok (.aload_n 0, 1) := by decide +kernel
theorem dX6_floorOf_9 : decode cX6_floorOf 9 = .ok (.getfield 17, 3) := by decide +kernel
theorem dX6_floorOf_12 : decode cX6_floorOf 12 = .ok (.imul, 1) := by decide +kernel
theorem dX6_floorOf_13 : decode cX6_floorOf 13 = .ok (.if_icmp .ge 58, 3) := by decide +kernel
theorem dX6_floorOf_16 : decode cX6_floorOf 16 = .ok (.aload_n 0, 1) := by decide +kernel
theorem dX6_floorOf_17 : decode cX6_floorOf 17 = .ok (.getfield 9, 3) := by decide +kernel
theorem dX6_floorOf_20 : decode cX6_floorOf 20 = .ok (.iload 4, 2) := by decide +kernel
theorem dX6_floorOf_22 : decode cX6_floorOf 22 = .ok (.iconst 3, 1) := by decide +kernel
theorem dX6_floorOf_23 : decode cX6_floorOf 23 = .ok (.iadd, 1) := by decide +kernel
theorem dX6_floorOf_24 : decode cX6_floorOf 24 = .ok (.laload, 1) := by decide +kernel
theorem dX6_floorOf_25 : decode cX6_floorOf 25 = .ok (.lstore 5, 2) := by decide +kernel
theorem dX6_floorOf_27 : decode cX6_floorOf 27 = .ok (.lload 5, 2) := by decide +kernel
theorem dX6_floorOf_29 : decode cX6_floorOf 29 = .ok (.lconst 0, 1) := by decide +kernel
theorem dX6_floorOf_30 : decode cX6_floorOf 30 = .ok (.lcmp, 1) := by decide +kernel
theorem dX6_floorOf_31 : decode cX6_floorOf 31 = .ok (.ifCond .le 34, 3) := by decide +kernel
theorem dX6_floorOf_34 : decode cX6_floorOf 34 = .ok (.aload_n 0, 1) := by decide +kernel
theorem dX6_floorOf_35 : decode cX6_floorOf 35 = .ok (.aload_n 1, 1) := by decide +kernel
theorem dX6_floorOf_36 : decode cX6_floorOf 36 = .ok (.iload 4, 2) := by decide +kernel
theorem dX6_floorOf_38 : decode cX6_floorOf 38 = .ok (.invokevirtual 30, 3) := by decide +kernel
theorem dX6_floorOf_41 : decode cX6_floorOf 41 = .ok (.lload 5, 2) := by decide +kernel
theorem dX6_floorOf_43 : decode cX6_floorOf 43 = .ok (.invokestatic 34, 3) := by decide +kernel
theorem dX6_floorOf_46 : decode cX6_floorOf 46 = .ok (.lstore 7, 2) := by decide +kernel
theorem dX6_floorOf_48 : decode cX6_floorOf 48 = .ok (.iload 4, 2) := by decide +kernel
theorem dX6_floorOf_50 : decode cX6_floorOf 50 = .ok (.ifCond .ne 8, 3) := by decide +kernel
theorem dX6_floorOf_53 : decode cX6_floorOf 53 = .ok (.lload 7, 2) := by decide +kernel
theorem dX6_floorOf_55 : decode cX6_floorOf 55 = .ok (.goto 9, 3) := by decide +kernel
theorem dX6_floorOf_58 : decode cX6_floorOf 58 = .ok (.lload_n 2, 1) := by decide +kernel
theorem dX6_floorOf_59 : decode cX6_floorOf 59 = .ok (.lload 7, 2) := by decide +kernel
theorem dX6_floorOf_61 : decode cX6_floorOf 61 = .ok (.invokestatic 40, 3) := by decide +kernel
theorem dX6_floorOf_64 : decode cX6_floorOf 64 = .ok (.lstore_n 2, 1) := by decide +kernel
theorem dX6_floorOf_65 : decode cX6_floorOf 65 = .ok (.iinc 4 4, 3) := by decide +kernel
theorem dX6_floorOf_68 : decode cX6_floorOf 68 = .ok (.goto (-63), 3) := by decide +kernel
theorem dX6_floorOf_71 : decode cX6_floorOf 71 = .ok (.lload_n 2, 1) := by decide +kernel
theorem dX6_floorOf_72 : decode cX6_floorOf 72 = .ok (.lreturn, 1) := by decide +kernel
theorem dX7_floorOf_0 : decode cX7_floorOf 0 = .ok (.iconst 0, 1) := by decide +kernel
theorem dX7_floorOf_1 : decode cX7_floorOf 1 = .ok (.istore_n 2, 1) := by decide +kernel
theorem dX7_floorOf_2 : decode cX7_floorOf 2 = .ok (.lconst 0, 1) := by decide +kernel
theorem dX7_floorOf_3 : decode cX7_floorOf 3 = .ok (.lstore_n 3, 1) := by decide +kernel
theorem dX7_floorOf_4 : decode cX7_floorOf 4 = .ok (.iconst 0, 1) := by decide +kernel
theorem dX7_floorOf_5 : decode cX7_floorOf 5 = .ok (.istore 5, 2) := by decide +kernel
theorem dX7_floorOf_7 : decode cX7_floorOf 7 = .ok (.iload 5, 2) := by decide +kernel
theorem dX7_floorOf_9 : decode cX7_floorOf 9 = .ok (.aload_n 0, 1) := by decide +kernel
theorem dX7_floorOf_10 : decode cX7_floorOf 10 = .ok (.getfield 22, 3) := by decide +kernel
theorem dX7_floorOf_13 : decode cX7_floorOf 13 = .ok (.if_icmp .ge 55, 3) := by decide +kernel
theorem dX7_floorOf_16 : decode cX7_floorOf 16 = .ok (.aload_n 0, 1) := by decide +kernel
theorem dX7_floorOf_17 : decode cX7_floorOf 17 = .ok (.getfield 11, 3) := by decide +kernel
theorem dX7_floorOf_20 : decode cX7_floorOf 20 = .ok (.iload 5, 2) := by decide +kernel
theorem dX7_floorOf_22 : decode cX7_floorOf 22 = .ok (.aaload, 1) := by decide +kernel
theorem dX7_floorOf_23 : decode cX7_floorOf 23 = .ok (.getfield 43, 3) := by decide +kernel
theorem dX7_floorOf_26 : decode cX7_floorOf 26 = .ok (.astore 6, 2) := by decide +kernel
theorem dX7_floorOf_28 : decode cX7_floorOf 28 = .ok (.aload 6, 2) := by decide +kernel
theorem dX7_floorOf_30 : decode cX7_floorOf 30 = .ok (.invokevirtual 47, 3) := by decide +kernel
theorem dX7_floorOf_33 : decode cX7_floorOf 33 = .ok (.ifCond .ne 29, 3) := by decide +kernel
theorem dX7_floorOf_36 : decode cX7_floorOf 36 = .ok (.aload 6, 2) := by decide +kernel
theorem dX7_floorOf_38 : decode cX7_floorOf 38 = .ok (.aload_n 1, 1) := by decide +kernel
theorem dX7_floorOf_39 : decode cX7_floorOf 39 = .ok (.invokevirtual 53, 3) := by decide +kernel
theorem dX7_floorOf_42 : decode cX7_floorOf 42 = .ok (.lstore 7, 2) := by decide +kernel
theorem dX7_floorOf_44 : decode cX7_floorOf 44 = .ok (.iload_n 2, 1) := by decide +kernel
theorem dX7_floorOf_45 : decode cX7_floorOf 45 = .ok (.ifCond .eq 12, 3) := by decide +kernel
theorem dX7_floorOf_48 : decode cX7_floorOf 48 = .ok (.lload_n 3, 1) := by decide +kernel
theorem dX7_floorOf_49 : decode cX7_floorOf 49 = .ok (.lload 7, 2) := by decide +kernel
theorem dX7_floorOf_51 : decode cX7_floorOf 51 = .ok (.invokestatic 57, 3) := by decide +kernel
theorem dX7_floorOf_54 : decode cX7_floorOf 54 = .ok (.goto 5, 3) := by decide +kernel
theorem dX7_floorOf_57 : decode cX7_floorOf 57 = .ok (.lload 7, 2) := by decide +kernel
theorem dX7_floorOf_59 : decode cX7_floorOf 59 = .ok (.lstore_n 3, 1) := by decide +kernel
theorem dX7_floorOf_60 : decode cX7_floorOf 60 = .ok (.iconst 1, 1) := by decide +kernel
theorem dX7_floorOf_61 : decode cX7_floorOf 61 = .ok (.istore_n 2, 1) := by decide +kernel
theorem dX7_floorOf_62 : decode cX7_floorOf 62 = .ok (.iinc 5 1, 3) := by decide +kernel
theorem dX7_floorOf_65 : decode cX7_floorOf 65 = .ok (.goto (-58), 3) := by decide +kernel
theorem dX7_floorOf_68 : decode cX7_floorOf 68 = .ok (.lload_n 3, 1) := by decide +kernel
theorem dX7_floorOf_69 : decode cX7_floorOf 69 = .ok (.lreturn, 1) := by decide +kernel
theorem dX11_floor_0 : decode cX11_floor 0 = .ok (.aload_n 0, 1) := by decide +kernel
theorem dX11_floor_1 : decode cX11_floor 1 = .ok (.iload_n 1, 1) := by decide +kernel
theorem dX11_floor_2 : decode cX11_floor 2 = .ok (.iload_n 2, 1) := by decide +kernel
theorem dX11_floor_3 : decode cX11_floor 3 = .ok (.iload_n 3, 1) := by decide +kernel
theorem dX11_floor_4 : decode cX11_floor 4 = .ok (.invokevirtual 160, 3) := by decide +kernel
theorem dX11_floor_7 : decode cX11_floor 7 = .ok (.ifCond .ne 7, 3) := by decide +kernel
theorem dX11_floor_10 : decode cX11_floor 10 = .ok (.ldc2_w 184, 3) := by decide +kernel
theorem dX11_floor_13 : decode cX11_floor 13 = .ok (.lreturn, 1) := by decide +kernel
theorem dX11_floor_14 : decode cX11_floor 14 = .ok (.aload_n 0, 1) := by decide +kernel
theorem dX11_floor_15 : decode cX11_floor 15 = .ok (.invokevirtual 164, 3) := by decide +kernel
theorem dX11_floor_18 : decode cX11_floor 18 = .ok (.aload_n 0, 1) := by decide +kernel
theorem dX11_floor_19 : decode cX11_floor 19 = .ok (.getfield 10, 3) := by decide +kernel
theorem dX11_floor_22 : decode cX11_floor 22 = .ok (.aload_n 0, 1) := by decide +kernel
theorem dX11_floor_23 : decode cX11_floor 23 = .ok (.getfield 58, 3) := by decide +kernel
theorem dX11_floor_26 : decode cX11_floor 26 = .ok (.invokevirtual 167, 3) := by decide +kernel
theorem dX11_floor_29 : decode cX11_floor 29 = .ok (.ifCond .eq 17, 3) := by decide +kernel
theorem dX11_floor_32 : decode cX11_floor 32 = .ok (.aload_n 0, 1) := by decide +kernel
theorem dX11_floor_33 : decode cX11_floor 33 = .ok (.getfield 10, 3) := by decide +kernel
theorem dX11_floor_36 : decode cX11_floor 36 = .ok (.aload_n 0, 1) := by decide +kernel
theorem dX11_floor_37 : decode cX11_floor 37 = .ok (.getfield 58, 3) := by decide +kernel
theorem dX11_floor_40 : decode cX11_floor 40 = .ok (.invokevirtual 186, 3) := by decide +kernel
theorem dX11_floor_43 : decode cX11_floor 43 = .ok (.goto 6, 3) := by decide +kernel
theorem dX11_floor_46 : decode cX11_floor 46 = .ok (.ldc2_w 184, 3) := by decide +kernel
theorem dX11_floor_49 : decode cX11_floor 49 = .ok (.lreturn, 1) := by decide +kernel
theorem dX11_isSize_0 : decode cX11_isSize 0 = .ok (.iload_n 0, 1) := by decide +kernel
theorem dX11_isSize_1 : decode cX11_isSize 1 = .ok (.iconst 1, 1) := by decide +kernel
theorem dX11_isSize_2 : decode cX11_isSize 2 = .ok (.if_icmp .lt 12, 3) := by decide +kernel
theorem dX11_isSize_5 : decode cX11_isSize 5 = .ok (.iload_n 0, 1) := by decide +kernel
theorem dX11_isSize_6 : decode cX11_isSize 6 = .ok (.iconst 5, 1) := by decide +kernel
theorem dX11_isSize_7 : decode cX11_isSize 7 = .ok (.if_icmp .gt 7, 3) := by decide +kernel
theorem dX11_isSize_10 : decode cX11_isSize 10 = .ok (.iconst 1, 1) := by decide +kernel
theorem dX11_isSize_11 : decode cX11_isSize 11 = .ok (.goto 4, 3) := by decide +kernel
theorem dX11_isSize_14 : decode cX11_isSize 14 = .ok (.iconst 0, 1) := by decide +kernel
theorem dX11_isSize_15 : decode cX11_isSize 15 = .ok (.ireturn, 1) := by decide +kernel
theorem dX5_keep_0 : decode cX5_keep 0 = .ok (.aload_n 0, 1) := by decide +kernel
theorem dX5_keep_1 : decode cX5_keep 1 = .ok (.getfield 12, 3) := by decide +kernel
theorem dX5_keep_4 : decode cX5_keep 4 = .ok (.getfield 55, 3) := by decide +kernel
theorem dX5_keep_7 : decode cX5_keep 7 = .ok (.iconst 0, 1) := by decide +kernel
theorem dX5_keep_8 : decode cX5_keep 8 = .ok (.aload_n 0, 1) := by decide +kernel
theorem dX5_keep_9 : decode cX5_keep 9 = .ok (.getfield 18, 3) := by decide +kernel
theorem dX5_keep_12 : decode cX5_keep 12 = .ok (.iconst 3, 1) := by decide +kernel
theorem dX5_keep_13 : decode cX5_keep 13 = .ok (.iload_n 1, 1) := by decide +kernel
theorem dX5_keep_14 : decode cX5_keep 14 = .ok (.imul, 1) := by decide +kernel
theorem dX5_keep_15 : decode cX5_keep 15 = .ok (.iconst 3, 1) := by decide +kernel
theorem dX5_keep_16 : decode cX5_keep 16 = .ok (.invokestatic 62, 3) := by decide +kernel
theorem dX5_keep_19 : decode cX5_keep 19 = .ok (.return_, 1) := by decide +kernel
theorem dX5_seekRank_0 : decode cX5_seekRank 0 = .ok (.aload_n 0, 1) := by decide +kernel
theorem dX5_seekRank_1 : decode cX5_seekRank 1 = .ok (.iconst 0, 1) := by decide +kernel
theorem dX5_seekRank_2 : decode cX5_seekRank 2 = .ok (.putfield 38, 3) := by decide +kernel
theorem dX5_seekRank_5 : decode cX5_seekRank 5 = .ok (.aload_n 0, 1) := by decide +kernel
theorem dX5_seekRank_6 : decode cX5_seekRank 6 = .ok (.getfield 12, 3) := by decide +kernel
theorem dX5_seekRank_9 : decode cX5_seekRank 9 = .ok (.iload_n 2, 1) := by decide +kernel
theorem dX5_seekRank_10 : decode cX5_seekRank 10 = .ok (.aload_n 1, 1) := by decide +kernel
theorem dX5_seekRank_11 : decode cX5_seekRank 11 = .ok (.getfield 42, 3) := by decide +kernel
theorem dX5_seekRank_14 : decode cX5_seekRank 14 = .ok (.invokevirtual 47, 3) := by decide +kernel
theorem dX5_seekRank_17 : decode cX5_seekRank 17 = .ok (.iconst 0, 1) := by decide +kernel
theorem dX5_seekRank_18 : decode cX5_seekRank 18 = .ok (.istore_n 3, 1) := by decide +kernel
theorem dX5_seekRank_19 : decode cX5_seekRank 19 = .ok (.iload_n 3, 1) := by decide +kernel
theorem dX5_seekRank_20 : decode cX5_seekRank 20 = .ok (.sipush 4000, 3) := by decide +kernel
theorem dX5_seekRank_23 : decode cX5_seekRank 23 = .ok (.if_icmp .ge 79, 3) := by decide +kernel
theorem dX5_seekRank_26 : decode cX5_seekRank 26 = .ok (.aload_n 0, 1) := by decide +kernel
theorem dX5_seekRank_27 : decode cX5_seekRank 27 = .ok (.getfield 12, 3) := by decide +kernel
theorem dX5_seekRank_30 : decode cX5_seekRank 30 = .ok (.invokevirtual 51, 3) := by decide +kernel
theorem dX5_seekRank_33 : decode cX5_seekRank 33 = .ok (.ifCond .eq 69, 3) := by decide +kernel
theorem dX5_seekRank_36 : decode cX5_seekRank 36 = .ok (.aload_n 1, 1) := by decide +kernel
theorem dX5_seekRank_37 : decode cX5_seekRank 37 = .ok (.aload_n 0, 1) := by decide +kernel
theorem dX5_seekRank_38 : decode cX5_seekRank 38 = .ok (.getfield 12, 3) := by decide +kernel
theorem dX5_seekRank_41 : decode cX5_seekRank 41 = .ok (.getfield 55, 3) := by decide +kernel
theorem dX5_seekRank_44 : decode cX5_seekRank 44 = .ok (.invokevirtual 58, 3) := by decide +kernel
theorem dX5_seekRank_47 : decode cX5_seekRank 47 = .ok (.ifCond .eq 49, 3) := by decide +kernel
theorem dX5_seekRank_50 : decode cX5_seekRank 50 = .ok (.aload_n 0, 1) := by decide +kernel
theorem dX5_seekRank_51 : decode cX5_seekRank 51 = .ok (.getfield 12, 3) := by decide +kernel
theorem dX5_seekRank_54 : decode cX5_seekRank 54 = .ok (.getfield 55, 3) := by decide +kernel
theorem dX5_seekRank_57 : decode cX5_seekRank 57 = .ok (.iconst 0, 1) := by decide +kernel
theorem dX5_seekRank_58 : decode cX5_seekRank 58 = .ok (.aload_n 0, 1) := by decide +kernel
theorem dX5_seekRank_59 : decode cX5_seekRank 59 = .ok (.getfield 25, 3) := by decide +kernel
theorem dX5_seekRank_62 : decode cX5_seekRank 62 = .ok (.iconst 0, 1) := by decide +kernel
theorem dX5_seekRank_63 : decode cX5_seekRank 63 = .ok (.iconst 3, 1) := by decide +kernel
theorem dX5_seekRank_64 : decode cX5_seekRank 64 = .ok (.invokestatic 62, 3) := by decide +kernel
theorem dX5_seekRank_67 : decode cX5_seekRank 67 = .ok (.aload_n 0, 1) := by decide +kernel
theorem dX5_seekRank_68 : decode cX5_seekRank 68 = .ok (.aload_n 1, 1) := by decide +kernel
theorem dX5_seekRank_69 : decode cX5_seekRank 69 = .ok (.aload_n 0, 1) := by decide +kernel
theorem dX5_seekRank_70 : decode cX5_seekRank 70 = .ok (.getfield 25, 3) := by decide +kernel
theorem dX5_seekRank_73 : decode cX5_seekRank 73 = .ok (.invokevirtual 68, 3) := by decide +kernel
theorem dX5_seekRank_76 : decode cX5_seekRank 76 = .ok (.putfield 72, 3) := by decide +kernel
theorem dX5_seekRank_79 : decode cX5_seekRank 79 = .ok (.aload_n 0, 1) := by decide +kernel
theorem dX5_seekRank_80 : decode cX5_seekRank 80 = .ok (.iconst 1, 1) := by decide +kernel
theorem dX5_seekRank_81 : decode cX5_seekRank 81 = .ok (.putfield 38, 3) := by decide +kernel
theorem dX5_seekRank_84 : decode cX5_seekRank 84 = .ok (.aload_n 0, 1) := by decide +kernel
theorem dX5_seekRank_85 : decode cX5_seekRank 85 = .ok (.iconst 0, 1) := by decide +kernel
theorem dX5_seekRank_86 : decode cX5_seekRank 86 = .ok (.invokevirtual 76, 3) := by decide +kernel
theorem dX5_seekRank_89 : decode cX5_seekRank 89 = .ok (.aload_n 0, 1) := by decide +kernel
theorem dX5_seekRank_90 : decode cX5_seekRank 90 = .ok (.iconst 1, 1) := by decide +kernel
theorem dX5_seekRank_91 : decode cX5_seekRank 91 = .ok (.putfield 34, 3) := by decide +kernel
theorem dX5_seekRank_94 : decode cX5_seekRank 94 = .ok (.iconst 1, 1) := by decide +kernel
theorem dX5_seekRank_95 : decode cX5_seekRank 95 = .ok (.ireturn, 1) := by decide +kernel
theorem dX5_seekRank_96 : decode cX5_seekRank 96 = .ok (.iinc 3 1, 3) := by decide +kernel
theorem dX5_seekRank_99 : decode cX5_seekRank 99 = .ok (.goto (-80), 3) := by decide +kernel
theorem dX5_seekRank_102 : decode cX5_seekRank 102 = .ok (.iconst 0, 1) := by decide +kernel
theorem dX5_seekRank_103 : decode cX5_seekRank 103 = .ok (.ireturn, 1) := by decide +kernel
theorem dX11_rank_0 : decode cX11_rank 0 = .ok (.iload_n 1, 1) := by decide +kernel
theorem dX11_rank_1 : decode cX11_rank 1 = .ok (.invokestatic 190, 3) := by decide +kernel
theorem dX11_rank_4 : decode cX11_rank 4 = .ok (.ifCond .ne 5, 3) := by decide +kernel
theorem dX11_rank_7 : decode cX11_rank 7 = .ok (.iconst (-1), 1) := by decide +kernel
theorem dX11_rank_8 : decode cX11_rank 8 = .ok (.ireturn, 1) := by decide +kernel
theorem dX11_rank_9 : decode cX11_rank 9 = .ok (.aload_n 0, 1) := by decide +kernel
theorem dX11_rank_10 : decode cX11_rank 10 = .ok (.invokevirtual 164, 3) := by decide +kernel
theorem dX11_rank_13 : decode cX11_rank 13 = .ok (.aload_n 0, 1) := by decide +kernel
theorem dX11_rank_14 : decode cX11_rank 14 = .ok (.getfield 54, 3) := by decide +kernel
theorem dX11_rank_17 : decode cX11_rank 17 = .ok (.aload_n 0, 1) := by decide +kernel
theorem dX11_rank_18 : decode cX11_rank 18 = .ok (.getfield 10, 3) := by decide +kernel
theorem dX11_rank_21 : decode cX11_rank 21 = .ok (.iload_n 1, 1) := by decide +kernel
theorem dX11_rank_22 : decode cX11_rank 22 = .ok (.invokevirtual 193, 3) := by decide +kernel
theorem dX11_rank_25 : decode cX11_rank 25 = .ok (.ifCond .eq 7, 3) := by decide +kernel
theorem dX11_rank_28 : decode cX11_rank 28 = .ok (.iconst 1, 1) := by decide +kernel
theorem dX11_rank_29 : decode cX11_rank 29 = .ok (.goto 4, 3) := by decide +kernel
theorem dX11_rank_32 : decode cX11_rank 32 = .ok (.iconst 0, 1) := by decide +kernel
theorem dX11_rank_33 : decode cX11_rank 33 = .ok (.ireturn, 1) := by decide +kernel
theorem dX5_isRow_0 : decode cX5_isRow 0 = .ok (.iconst 0, 1) := by decide +kernel
theorem dX5_isRow_1 : decode cX5_isRow 1 = .ok (.istore_n 3, 1) := by decide +kernel
theorem dX5_isRow_2 : decode cX5_isRow 2 = .ok (.iconst 0, 1) := by decide +kernel
theorem dX5_isRow_3 : decode cX5_isRow 3 = .ok (.istore 4, 2) := by decide +kernel
theorem dX5_isRow_5 : decode cX5_isRow 5 = .ok (.iload 4, 2) := by decide +kernel
theorem dX5_isRow_7 : decode cX5_isRow 7 = .ok (.aload_n 1, 1) := by decide +kernel
theorem dX5_isRow_8 : decode cX5_isRow 8 = .ok (.getfield 80, 3) := by decide +kernel
theorem dX5_isRow_11 : decode cX5_isRow 11 = .ok (.if_icmp .ge 60, 3) := by decide +kernel
theorem dX5_isRow_14 : decode cX5_isRow 14 = .ok (.aload_n 0, 1) := by decide +kernel
theorem dX5_isRow_15 : decode cX5_isRow 15 = .ok (.getfield 22, 3) := by decide +kernel
theorem dX5_isRow_18 : decode cX5_isRow 18 = .ok (.iload 4, 2) := by decide +kernel
theorem dX5_isRow_20 : decode cX5_isRow 20 = .ok (.iaload, 1) := by decide +kernel
theorem dX5_isRow_21 : decode cX5_isRow 21 = .ok (.iconst (-1), 1) := by decide +kernel
theorem dX5_isRow_22 : decode cX5_isRow 22 = .ok (.if_icmp .ne 43, 3) := by decide +kernel
theorem dX5_isRow_25 : decode cX5_isRow 25 = .ok (.aload_n 1, 1) := by decide +kernel
theorem dX5_isRow_26 : decode cX5_isRow 26 = .ok (.getfield 93, 3) := by decide +kernel
theorem dX5_isRow_29 : decode cX5_isRow 29 = .ok (.iload 4, 2) := by decide +kernel
theorem dX5_isRow_31 : decode cX5_isRow 31 = .ok (.aaload, 1) := by decide +kernel
theorem dX5_isRow_32 : decode cX5_isRow 32 = .ok (.astore 5, 2) := by decide +kernel
theorem dX5_isRow_34 : decode cX5_isRow 34 = .ok (.aload 5, 2) := by decide +kernel
theorem dX5_isRow_36 : decode cX5_isRow 36 = .ok (.aload_n 2, 1) := by decide +kernel
theorem dX5_isRow_37 : decode cX5_isRow 37 = .ok (.iconst 0, 1) := by decide +kernel
theorem dX5_isRow_38 : decode cX5_isRow 38 = .ok (.invokevirtual 97, 3) := by decide +kernel
theorem dX5_isRow_41 : decode cX5_isRow 41 = .ok (.ifCond .ne 5, 3) := by decide +kernel
theorem dX5_isRow_44 : decode cX5_isRow 44 = .ok (.iconst 0, 1) := by decide +kernel
theorem dX5_isRow_45 : decode cX5_isRow 45 = .ok (.ireturn, 1) := by decide +kernel
theorem dX5_isRow_46 : decode cX5_isRow 46 = .ok (.iload_n 3, 1) := by decide +kernel
theorem dX5_isRow_47 : decode cX5_isRow 47 = .ok (.ifCond .ne 12, 3) := by decide +kernel
theorem dX5_isRow_50 : decode cX5_isRow 50 = .ok (.aload 5, 2) := by decide +kernel
theorem dX5_isRow_52 : decode cX5_isRow 52 = .ok (.aload_n 2, 1) := by decide +kernel
theorem dX5_isRow_53 : decode cX5_isRow 53 = .ok (.invokevirtual 103, 3) := by decide +kernel
theorem dX5_isRow_56 : decode cX5_isRow 56 = .ok (.ifCond .eq 7, 3) := by decide +kernel
theorem dX5_isRow_59 : decode cX5_isRow 59 = .ok (.iconst 1, 1) := by decide +kernel
theorem dX5_isRow_60 : decode cX5_isRow 60 = .ok (.goto 4, 3) := by decide +kernel
theorem dX5_isRow_63 : decode cX5_isRow 63 = .ok (.iconst 0, 1) := by decide +kernel
theorem dX5_isRow_64 : decode cX5_isRow 64 = .ok (.istore_n 3, 1) := by decide +kernel
theorem dX5_isRow_65 : decode cX5_isRow 65 = .ok (.iinc 4 1, 3) := by decide +kernel
theorem dX5_isRow_68 : decode cX5_isRow 68 = .ok (.goto (-63), 3) := by decide +kernel
theorem dX5_isRow_71 : decode cX5_isRow 71 = .ok (.iload_n 3, 1) := by decide +kernel
theorem dX5_isRow_72 : decode cX5_isRow 72 = .ok (.ireturn, 1) := by decide +kernel
theorem dX5_seekRow_0 : decode cX5_seekRow 0 = .ok (.aload_n 0, 1) := by decide +kernel
theorem dX5_seekRow_1 : decode cX5_seekRow 1 = .ok (.getfield 12, 3) := by decide +kernel
theorem dX5_seekRow_4 : decode cX5_seekRow 4 = .ok (.iload_n 2, 1) := by decide +kernel
theorem dX5_seekRow_5 : decode cX5_seekRow 5 = .ok (.aload_n 1, 1) := by decide +kernel
theorem dX5_seekRow_6 : decode cX5_seekRow 6 = .ok (.getfield 42, 3) := by decide +kernel
theorem dX5_seekRow_9 : decode cX5_seekRow 9 = .ok (.invokevirtual 47, 3) := by decide +kernel
theorem dX5_seekRow_12 : decode cX5_seekRow 12 = .ok (.iconst 0, 1) := by decide +kernel
theorem dX5_seekRow_13 : decode cX5_seekRow 13 = .ok (.istore_n 3, 1) := by decide +kernel
theorem dX5_seekRow_14 : decode cX5_seekRow 14 = .ok (.iload_n 3, 1) := by decide +kernel
theorem dX5_seekRow_15 : decode cX5_seekRow 15 = .ok (.sipush 4000, 3) := by decide +kernel
theorem dX5_seekRow_18 : decode cX5_seekRow 18 = .ok (.if_icmp .ge 36, 3) := by decide +kernel
theorem dX5_seekRow_21 : decode cX5_seekRow 21 = .ok (.aload_n 0, 1) := by decide +kernel
theorem dX5_seekRow_22 : decode cX5_seekRow 22 = .ok (.getfield 12, 3) := by decide +kernel
theorem dX5_seekRow_25 : decode cX5_seekRow 25 = .ok (.invokevirtual 51, 3) := by decide +kernel
theorem dX5_seekRow_28 : decode cX5_seekRow 28 = .ok (.ifCond .eq 26, 3) := by decide +kernel
theorem dX5_seekRow_31 : decode cX5_seekRow 31 = .ok (.aload_n 0, 1) := by decide +kernel
theorem dX5_seekRow_32 : decode cX5_seekRow 32 = .ok (.aload_n 1, 1) := by decide +kernel
theorem dX5_seekRow_33 : decode cX5_seekRow 33 = .ok (.aload_n 0, 1) := by decide +kernel
theorem dX5_seekRow_34 : decode cX5_seekRow 34 = .ok (.getfield 12, 3) := by decide +kernel
theorem dX5_seekRow_37 : decode cX5_seekRow 37 = .ok (.getfield 55, 3) := by decide +kernel
theorem dX5_seekRow_40 : decode cX5_seekRow 40 = .ok (.invokevirtual 89, 3) := by decide +kernel
theorem dX5_seekRow_43 : decode cX5_seekRow 43 = .ok (.ifCond .eq 5, 3) := by decide +kernel
theorem dX5_seekRow_46 : decode cX5_seekRow 46 = .ok (.iconst 1, 1) := by decide +kernel
theorem dX5_seekRow_47 : decode cX5_seekRow 47 = .ok (.ireturn, 1) := by decide +kernel
theorem dX5_seekRow_48 : decode cX5_seekRow 48 = .ok (.iinc 3 1, 3) := by decide +kernel
theorem dX5_seekRow_51 : decode cX5_seekRow 51 = .ok (.goto (-37), 3) := by decide +kernel
theorem dX5_seekRow_54 : decode cX5_seekRow 54 = .ok (.iconst 0, 1) := by decide +kernel
theorem dX5_seekRow_55 : decode cX5_seekRow 55 = .ok (.ireturn, 1) := by decide +kernel
theorem dX5_release_0 : decode cX5_release 0 = .ok (.iconst 0, 1) := by decide +kernel
theorem dX5_release_1 : decode cX5_release 1 = .ok (.istore_n 3, 1) := by decide +kernel
theorem dX5_release_2 : decode cX5_release 2 = .ok (.iconst 0, 1) := by decide +kernel
theorem dX5_release_3 : decode cX5_release 3 = .ok (.istore 4, 2) := by decide +kernel
theorem dX5_release_5 : decode cX5_release 5 = .ok (.iload 4, 2) := by decide +kernel
theorem dX5_release_7 : decode cX5_release 7 = .ok (.aload_n 1, 1) := by decide +kernel
theorem dX5_release_8 : decode cX5_release 8 = .ok (.getfield 80, 3) := by decide +kernel
theorem dX5_release_11 : decode cX5_release 11 = .ok (.if_icmp .ge 51, 3) := by decide +kernel
theorem dX5_release_14 : decode cX5_release 14 = .ok (.aload_n 0, 1) := by decide +kernel
theorem dX5_release_15 : decode cX5_release 15 = .ok (.getfield 22, 3) := by decide +kernel
theorem dX5_release_18 : decode cX5_release 18 = .ok (.iload 4, 2) := by decide +kernel
theorem dX5_release_20 : decode cX5_release 20 = .ok (.iaload, 1) := by decide +kernel
theorem dX5_release_21 : decode cX5_release 21 = .ok (.iconst (-1), 1) := by decide +kernel
theorem dX5_release_22 : decode cX5_release 22 = .ok (.if_icmp .ne 34, 3) := by decide +kernel
theorem dX5_release_25 : decode cX5_release 25 = .ok (.aload_n 1, 1) := by decide +kernel
theorem dX5_release_26 : decode cX5_release 26 = .ok (.getfield 93, 3) := by decide +kernel
theorem dX5_release_29 : decode cX5_release 29 = .ok (.iload 4, 2) := by decide +kernel
theorem dX5_release_31 : decode cX5_release 31 = .ok (.aaload, 1) := by decide +kernel
theorem dX5_release_32 : decode cX5_release 32 = .ok (.aload_n 0, 1) := by decide +kernel
theorem dX5_release_33 : decode cX5_release 33 = .ok (.getfield 12, 3) := by decide +kernel
theorem dX5_release_36 : decode cX5_release 36 = .ok (.getfield 55, 3) := by decide +kernel
theorem dX5_release_39 : decode cX5_release 39 = .ok (.invokevirtual 103, 3) := by decide +kernel
theorem dX5_release_42 : decode cX5_release 42 = .ok (.ifCond .eq 14, 3) := by decide +kernel
theorem dX5_release_45 : decode cX5_release 45 = .ok (.aload_n 0, 1) := by decide +kernel
theorem dX5_release_46 : decode cX5_release 46 = .ok (.getfield 22, 3) := by decide +kernel
theorem dX5_release_49 : decode cX5_release 49 = .ok (.iload 4, 2) := by decide +kernel
theorem dX5_release_51 : decode cX5_release 51 = .ok (.iload_n 2, 1) := by decide +kernel
theorem dX5_release_52 : decode cX5_release 52 = .ok (.iastore, 1) := by decide +kernel
theorem dX5_release_53 : decode cX5_release 53 = .ok (.iinc 3 1, 3) := by decide +kernel
theorem dX5_release_56 : decode cX5_release 56 = .ok (.iinc 4 1, 3) := by decide +kernel
theorem dX5_release_59 : decode cX5_release 59 = .ok (.goto (-54), 3) := by decide +kernel
theorem dX5_release_62 : decode cX5_release 62 = .ok (.iload_n 3, 1) := by decide +kernel
theorem dX5_release_63 : decode cX5_release 63 = .ok (.ireturn, 1) := by decide +kernel
theorem dX5_seekRows_0 : decode cX5_seekRows 0 = .ok (.aload_n 0, 1) := by decide +kernel
theorem dX5_seekRows_1 : decode cX5_seekRows 1 = .ok (.getfield 22, 3) := by decide +kernel
theorem dX5_seekRows_4 : decode cX5_seekRows 4 = .ok (.iconst (-1), 1) := by decide +kernel
theorem dX5_seekRows_5 : decode cX5_seekRows 5 = .ok (.invokestatic 28, 3) := by decide +kernel
theorem dX5_seekRows_8 : decode cX5_seekRows 8 = .ok (.aload_n 1, 1) := by decide +kernel
theorem dX5_seekRows_9 : decode cX5_seekRows 9 = .ok (.getfield 80, 3) := by decide +kernel
theorem dX5_seekRows_12 : decode cX5_seekRows 12 = .ok (.istore_n 3, 1) := by decide +kernel
theorem dX5_seekRows_13 : decode cX5_seekRows 13 = .ok (.iconst 0, 1) := by decide +kernel
theorem dX5_seekRows_14 : decode cX5_seekRows 14 = .ok (.istore 4, 2) := by decide +kernel
theorem dX5_seekRows_16 : decode cX5_seekRows 16 = .ok (.iload_n 3, 1) := by decide +kernel
theorem dX5_seekRows_17 : decode cX5_seekRows 17 = .ok (.ifCond .le 40, 3) := by decide +kernel
theorem dX5_seekRows_20 : decode cX5_seekRows 20 = .ok (.iload 4, 2) := by decide +kernel
theorem dX5_seekRows_22 : decode cX5_seekRows 22 = .ok (.iconst 5, 1) := by decide +kernel
theorem dX5_seekRows_23 : decode cX5_seekRows 23 = .ok (.if_icmp .ge 34, 3) := by decide +kernel
theorem dX5_seekRows_26 : decode cX5_seekRows 26 = .ok (.aload_n 0, 1) := by decide +kernel
theorem dX5_seekRows_27 : decode cX5_seekRows 27 = .ok (.aload_n 1, 1) := by decide +kernel
theorem dX5_seekRows_28 : decode cX5_seekRows 28 = .ok (.iload_n 2, 1) := by decide +kernel
theorem dX5_seekRows_29 : decode cX5_seekRows 29 = .ok (.invokevirtual 81, 3) := by decide +kernel
theorem dX5_seekRows_32 : decode cX5_seekRows 32 = .ok (.ifCond .eq 25, 3) := by decide +kernel
theorem dX5_seekRows_35 : decode cX5_seekRows 35 = .ok (.aload_n 0, 1) := by decide +kernel
theorem dX5_seekRows_36 : decode cX5_seekRows 36 = .ok (.iload 4, 2) := by decide +kernel
theorem dX5_seekRows_38 : decode cX5_seekRows 38 = .ok (.invokevirtual 76, 3) := by decide +kernel
theorem dX5_seekRows_41 : decode cX5_seekRows 41 = .ok (.iload_n 3, 1) := by decide +kernel
theorem dX5_seekRows_42 : decode cX5_seekRows 42 = .ok (.aload_n 0, 1) := by decide +kernel
theorem dX5_seekRows_43 : decode cX5_seekRows 43 = .ok (.aload_n 1, 1) := by decide +kernel
theorem dX5_seekRows_44 : decode cX5_seekRows 44 = .ok (.iload 4, 2) := by decide +kernel
theorem dX5_seekRows_46 : decode cX5_seekRows 46 = .ok (.invokevirtual 85, 3) := by decide +kernel
theorem dX5_seekRows_49 : decode cX5_seekRows 49 = .ok (.isub, 1) := by decide +kernel
theorem dX5_seekRows_50 : decode cX5_seekRows 50 = .ok (.istore_n 3, 1) := by decide +kernel
theorem dX5_seekRows_51 : decode cX5_seekRows 51 = .ok (.iinc 4 1, 3) := by decide +kernel
theorem dX5_seekRows_54 : decode cX5_seekRows 54 = .ok (.goto (-38), 3) := by decide +kernel
theorem dX5_seekRows_57 : decode cX5_seekRows 57 = .ok (.iload 4, 2) := by decide +kernel
theorem dX5_seekRows_59 : decode cX5_seekRows 59 = .ok (.ifCond .le 9, 3) := by decide +kernel
theorem dX5_seekRows_62 : decode cX5_seekRows 62 = .ok (.aload_n 0, 1) := by decide +kernel
theorem dX5_seekRows_63 : decode cX5_seekRows 63 = .ok (.iload 4, 2) := by decide +kernel
theorem dX5_seekRows_65 : decode cX5_seekRows 65 = .ok (.putfield 34, 3) := by decide +kernel
theorem dX5_seekRows_68 : decode cX5_seekRows 68 = .ok (.iload_n 3, 1) := by decide +kernel
theorem dX5_seekRows_69 : decode cX5_seekRows 69 = .ok (.ifCond .ne 8, 3) := by decide +kernel
theorem dX5_seekRows_72 : decode cX5_seekRows 72 = .ok (.iload 4, 2) := by decide +kernel
theorem dX5_seekRows_74 : decode cX5_seekRows 74 = .ok (.goto 5, 3) := by decide +kernel
theorem dX5_seekRows_77 : decode cX5_seekRows 77 = .ok (.bipush (-3), 2) := by decide +kernel
theorem dX5_seekRows_79 : decode cX5_seekRows 79 = .ok (.ireturn, 1) := by decide +kernel
theorem dX11_rows_0 : decode cX11_rows 0 = .ok (.iload_n 1, 1) := by decide +kernel
theorem dX11_rows_1 : decode cX11_rows 1 = .ok (.invokestatic 190, 3) := by decide +kernel
theorem dX11_rows_4 : decode cX11_rows 4 = .ok (.ifCond .ne 5, 3) := by decide +kernel
theorem dX11_rows_7 : decode cX11_rows 7 = .ok (.iconst (-1), 1) := by decide +kernel
theorem dX11_rows_8 : decode cX11_rows 8 = .ok (.ireturn, 1) := by decide +kernel
theorem dX11_rows_9 : decode cX11_rows 9 = .ok (.aload_n 0, 1) := by decide +kernel
theorem dX11_rows_10 : decode cX11_rows 10 = .ok (.invokevirtual 164, 3) := by decide +kernel
theorem dX11_rows_13 : decode cX11_rows 13 = .ok (.aload_n 0, 1) := by decide +kernel
theorem dX11_rows_14 : decode cX11_rows 14 = .ok (.getfield 54, 3) := by decide +kernel
theorem dX11_rows_17 : decode cX11_rows 17 = .ok (.aload_n 0, 1) := by decide +kernel
theorem dX11_rows_18 : decode cX11_rows 18 = .ok (.getfield 10, 3) := by decide +kernel
theorem dX11_rows_21 : decode cX11_rows 21 = .ok (.iload_n 1, 1) := by decide +kernel
theorem dX11_rows_22 : decode cX11_rows 22 = .ok (.invokevirtual 197, 3) := by decide +kernel
theorem dX11_rows_25 : decode cX11_rows 25 = .ok (.ireturn, 1) := by decide +kernel
theorem dX5_weightOf_0 : decode cX5_weightOf 0 = .ok (.iload_n 1, 1) := by decide +kernel
theorem dX5_weightOf_1 : decode cX5_weightOf 1 = .ok (.ifCond .lt 20, 3) := by decide +kernel
theorem dX5_weightOf_4 : decode cX5_weightOf 4 = .ok (.iload_n 1, 1) := by decide +kernel
theorem dX5_weightOf_5 : decode cX5_weightOf 5 = .ok (.aload_n 0, 1) := by decide +kernel
theorem dX5_weightOf_6 : decode cX5_weightOf 6 = .ok (.getfield 34, 3) := by decide +kernel
theorem dX5_weightOf_9 : decode cX5_weightOf 9 = .ok (.if_icmp .ge 12, 3) := by decide +kernel
theorem dX5_weightOf_12 : decode cX5_weightOf 12 = .ok (.iload_n 2, 1) := by decide +kernel
theorem dX5_weightOf_13 : decode cX5_weightOf 13 = .ok (.ifCond .lt 8, 3) := by decide +kernel
theorem dX5_weightOf_16 : decode cX5_weightOf 16 = .ok (.iload_n 2, 1) := by decide +kernel
theorem dX5_weightOf_17 : decode cX5_weightOf 17 = .ok (.iconst 3, 1) := by decide +kernel
theorem dX5_weightOf_18 : decode cX5_weightOf 18 = .ok (.if_icmp .lt 7, 3) := by decide +kernel
theorem dX5_weightOf_21 : decode cX5_weightOf 21 = .ok (.sipush (-1000), 3) := by decide +kernel
theorem dX5_weightOf_24 : decode cX5_weightOf 24 = .ok (.ireturn, 1) := by decide +kernel
theorem dX5_weightOf_25 : decode cX5_weightOf 25 = .ok (.aload_n 0, 1) := by decide +kernel
theorem dX5_weightOf_26 : decode cX5_weightOf 26 = .ok (.getfield 18, 3) := by decide +kernel
theorem dX5_weightOf_29 : decode cX5_weightOf 29 = .ok (.iconst 3, 1) := by decide +kernel
theorem dX5_weightOf_30 : decode cX5_weightOf 30 = .ok (.iload_n 1, 1) := by decide +kernel
theorem dX5_weightOf_31 : decode cX5_weightOf 31 = .ok (.imul, 1) := by decide +kernel
theorem dX5_weightOf_32 : decode cX5_weightOf 32 = .ok (.iload_n 2, 1) := by decide +kernel
theorem dX5_weightOf_33 : decode cX5_weightOf 33 = .ok (.iadd, 1) := by decide +kernel
theorem dX5_weightOf_34 : decode cX5_weightOf 34 = .ok (.iaload, 1) := by decide +kernel
theorem dX5_weightOf_35 : decode cX5_weightOf 35 = .ok (.ireturn, 1) := by decide +kernel
theorem dX11_found_0 : decode cX11_found 0 = .ok (.aload_n 0, 1) := by decide +kernel
theorem dX11_found_1 : decode cX11_found 1 = .ok (.getfield 54, 3) := by decide +kernel
theorem dX11_found_4 : decode cX11_found 4 = .ok (.iload_n 1, 1) := by decide +kernel
theorem dX11_found_5 : decode cX11_found 5 = .ok (.iload_n 2, 1) := by decide +kernel
theorem dX11_found_6 : decode cX11_found 6 = .ok (.invokevirtual 201, 3) := by decide +kernel
theorem dX11_found_9 : decode cX11_found 9 = .ok (.ireturn, 1) := by decide +kernel
theorem dX11_by_0 : decode cX11_by 0 = .ok (.aload_n 0, 1) := by decide +kernel
theorem dX11_by_1 : decode cX11_by 1 = .ok (.getfield 10, 3) := by decide +kernel
theorem dX11_by_4 : decode cX11_by 4 = .ok (.iload_n 1, 1) := by decide +kernel
theorem dX11_by_5 : decode cX11_by 5 = .ok (.invokevirtual 105, 3) := by decide +kernel
theorem dX11_by_8 : decode cX11_by 8 = .ok (.ifCond .eq 15, 3) := by decide +kernel
theorem dX11_by_11 : decode cX11_by 11 = .ok (.aload_n 0, 1) := by decide +kernel
theorem dX11_by_12 : decode cX11_by 12 = .ok (.getfield 54, 3) := by decide +kernel
theorem dX11_by_15 : decode cX11_by 15 = .ok (.getfield 205, 3) := by decide +kernel
theorem dX11_by_18 : decode cX11_by 18 = .ok (.iload_n 1, 1) := by decide +kernel
theorem dX11_by_19 : decode cX11_by 19 = .ok (.iaload, 1) := by decide +kernel
theorem dX11_by_20 : decode cX11_by 20 = .ok (.goto 4, 3) := by decide +kernel
theorem dX11_by_23 : decode cX11_by 23 = .ok (.iconst (-1), 1) := by decide +kernel
theorem dX11_by_24 : decode cX11_by 24 = .ok (.ireturn, 1) := by decide +kernel
theorem dX2_encloses_0 : decode cX2_encloses 0 = .ok (.iconst 0, 1) := by decide +kernel
theorem dX2_encloses_1 : decode cX2_encloses 1 = .ok (.istore_n 2, 1) := by decide +kernel
theorem dX2_encloses_2 : decode cX2_encloses 2 = .ok (.iload_n 2, 1) := by decide +kernel
theorem dX2_encloses_3 : decode cX2_encloses 3 = .ok (.iconst 3, 1) := by decide +kernel
theorem dX2_encloses_4 : decode cX2_encloses 4 = .ok (.if_icmp .ge 62, 3) := by decide +kernel
theorem dX2_encloses_7 : decode cX2_encloses 7 = .ok (.aload_n 0, 1) := by decide +kernel
theorem dX2_encloses_8 : decode cX2_encloses 8 = .ok (.iload_n 2, 1) := by decide +kernel
theorem dX2_encloses_9 : decode cX2_encloses 9 = .ok (.iconst 0, 1) := by decide +kernel
theorem dX2_encloses_10 : decode cX2_encloses 10 = .ok (.invokevirtual 29, 3) := by decide +kernel
theorem dX2_encloses_13 : decode cX2_encloses 13 = .ok (.lstore_n 3, 1) := by decide +kernel
theorem dX2_encloses_14 : decode cX2_encloses 14 = .ok (.aload_n 0, 1) := by decide +kernel
theorem dX2_encloses_15 : decode cX2_encloses 15 = .ok (.iload_n 2, 1) := by decide +kernel
theorem dX2_encloses_16 : decode cX2_encloses 16 = .ok (.iconst 1, 1) := by decide +kernel
theorem dX2_encloses_17 : decode cX2_encloses 17 = .ok (.invokevirtual 29, 3) := by decide +kernel
theorem dX2_encloses_20 : decode cX2_encloses 20 = .ok (.lstore 5, 2) := by decide +kernel
theorem dX2_encloses_22 : decode cX2_encloses 22 = .ok (.lload_n 3, 1) := by decide +kernel
theorem dX2_encloses_23 : decode cX2_encloses 23 = .ok (.ldc2_w 21, 3) := by decide +kernel
theorem dX2_encloses_26 : decode cX2_encloses 26 = .ok (.lcmp, 1) := by decide +kernel
theorem dX2_encloses_27 : decode cX2_encloses 27 = .ok (.ifCond .eq 13, 3) := by decide +kernel
theorem dX2_encloses_30 : decode cX2_encloses 30 = .ok (.aload_n 1, 1) := by decide +kernel
theorem dX2_encloses_31 : decode cX2_encloses 31 = .ok (.iload_n 2, 1) := by decide +kernel
theorem dX2_encloses_32 : decode cX2_encloses 32 = .ok (.laload, 1) := by decide +kernel
theorem dX2_encloses_33 : decode cX2_encloses 33 = .ok (.lload_n 3, 1) := by decide +kernel
theorem dX2_encloses_34 : decode cX2_encloses 34 = .ok (.lcmp, 1) := by decide +kernel
theorem dX2_encloses_35 : decode cX2_encloses 35 = .ok (.ifCond .ge 5, 3) := by decide +kernel
theorem dX2_encloses_38 : decode cX2_encloses 38 = .ok (.iconst 0, 1) := by decide +kernel
theorem dX2_encloses_39 : decode cX2_encloses 39 = .ok (.ireturn, 1) := by decide +kernel
theorem dX2_encloses_40 : decode cX2_encloses 40 = .ok (.lload 5, 2) := by decide +kernel
theorem dX2_encloses_42 : decode cX2_encloses 42 = .ok (.ldc2_w 21, 3) := by decide +kernel
theorem dX2_encloses_45 : decode cX2_encloses 45 = .ok (.lcmp, 1) := by decide +kernel
theorem dX2_encloses_46 : decode cX2_encloses 46 = .ok (.ifCond .eq 14, 3) := by decide +kernel
theorem dX2_encloses_49 : decode cX2_encloses 49 = .ok (.aload_n 1, 1) := by decide +kernel
theorem dX2_encloses_50 : decode cX2_encloses 50 = .ok (.iload_n 2, 1) := by decide +kernel
theorem dX2_encloses_51 : decode cX2_encloses 51 = .ok (.laload, 1) := by decide +kernel
theorem dX2_encloses_52 : decode cX2_encloses 52 = .ok (.lload 5, 2) := by decide +kernel
theorem dX2_encloses_54 : decode cX2_encloses 54 = .ok (.lcmp, 1) := by decide +kernel
theorem dX2_encloses_55 : decode cX2_encloses 55 = .ok (.ifCond .le 5, 3) := by decide +kernel
theorem dX2_encloses_58 : decode cX2_encloses 58 = .ok (.iconst 0, 1) := by decide +kernel
theorem dX2_encloses_59 : decode cX2_encloses 59 = .ok (.ireturn, 1) := by decide +kernel
theorem dX2_encloses_60 : decode cX2_encloses 60 = .ok (.iinc 2 1, 3) := by decide +kernel
theorem dX2_encloses_63 : decode cX2_encloses 63 = .ok (.goto (-61), 3) := by decide +kernel
theorem dX2_encloses_66 : decode cX2_encloses 66 = .ok (.iconst 1, 1) := by decide +kernel
theorem dX2_encloses_67 : decode cX2_encloses 67 = .ok (.ireturn, 1) := by decide +kernel
theorem dX5_rankingAt_0 : decode cX5_rankingAt 0 = .ok (.aload_n 0, 1) := by decide +kernel
theorem dX5_rankingAt_1 : decode cX5_rankingAt 1 = .ok (.getfield 25, 3) := by decide +kernel
theorem dX5_rankingAt_4 : decode cX5_rankingAt 4 = .ok (.iconst 0, 1) := by decide +kernel
theorem dX5_rankingAt_5 : decode cX5_rankingAt 5 = .ok (.iaload, 1) := by decide +kernel
theorem dX5_rankingAt_6 : decode cX5_rankingAt 6 = .ok (.i2l, 1) := by decide +kernel
theorem dX5_rankingAt_7 : decode cX5_rankingAt 7 = .ok (.aload_n 1, 1) := by decide +kernel
theorem dX5_rankingAt_8 : decode cX5_rankingAt 8 = .ok (.iconst 0, 1) := by decide +kernel
theorem dX5_rankingAt_9 : decode cX5_rankingAt 9 = .ok (.laload, 1) := by decide +kernel
theorem dX5_rankingAt_10 : decode cX5_rankingAt 10 = .ok (.lmul, 1) := by decide +kernel
theorem dX5_rankingAt_11 : decode cX5_rankingAt 11 = .ok (.aload_n 0, 1) := by decide +kernel
theorem dX5_rankingAt_12 : decode cX5_rankingAt 12 = .ok (.getfield 25, 3) := by decide +kernel
theorem dX5_rankingAt_15 : decode cX5_rankingAt 15 = .ok (.iconst 1, 1) := by decide +kernel
theorem dX5_rankingAt_16 : decode cX5_rankingAt 16 = .ok (.iaload, 1) := by decide +kernel
theorem dX5_rankingAt_17 : decode cX5_rankingAt 17 = .ok (.i2l, 1) := by decide +kernel
theorem dX5_rankingAt_18 : decode cX5_rankingAt 18 = .ok (.aload_n 1, 1) := by decide +kernel
theorem dX5_rankingAt_19 : decode cX5_rankingAt 19 = .ok (.iconst 1, 1) := by decide +kernel
theorem dX5_rankingAt_20 : decode cX5_rankingAt 20 = .ok (.laload, 1) := by decide +kernel
theorem dX5_rankingAt_21 : decode cX5_rankingAt 21 = .ok (.lmul, 1) := by decide +kernel
theorem dX5_rankingAt_22 : decode cX5_rankingAt 22 = .ok (.ladd, 1) := by decide +kernel
theorem dX5_rankingAt_23 : decode cX5_rankingAt 23 = .ok (.aload_n 0, 1) := by decide +kernel
theorem dX5_rankingAt_24 : decode cX5_rankingAt 24 = .ok (.getfield 25, 3) := by decide +kernel
theorem dX5_rankingAt_27 : decode cX5_rankingAt 27 = .ok (.iconst 2, 1) := by decide +kernel
theorem dX5_rankingAt_28 : decode cX5_rankingAt 28 = .ok (.iaload, 1) := by decide +kernel
theorem dX5_rankingAt_29 : decode cX5_rankingAt 29 = .ok (.i2l, 1) := by decide +kernel
theorem dX5_rankingAt_30 : decode cX5_rankingAt 30 = .ok (.aload_n 1, 1) := by decide +kernel
theorem dX5_rankingAt_31 : decode cX5_rankingAt 31 = .ok (.iconst 2, 1) := by decide +kernel
theorem dX5_rankingAt_32 : decode cX5_rankingAt 32 = .ok (.laload, 1) := by decide +kernel
theorem dX5_rankingAt_33 : decode cX5_rankingAt 33 = .ok (.lmul, 1) := by decide +kernel
theorem dX5_rankingAt_34 : decode cX5_rankingAt 34 = .ok (.ladd, 1) := by decide +kernel
theorem dX5_rankingAt_35 : decode cX5_rankingAt 35 = .ok (.lreturn, 1) := by decide +kernel
theorem dX11_bound_0 : decode cX11_bound 0 = .ok (.aload_n 0, 1) := by decide +kernel
theorem dX11_bound_1 : decode cX11_bound 1 = .ok (.getfield 54, 3) := by decide +kernel
theorem dX11_bound_4 : decode cX11_bound 4 = .ok (.getfield 208, 3) := by decide +kernel
theorem dX11_bound_7 : decode cX11_bound 7 = .ok (.ifCond .ne 7, 3) := by decide +kernel
theorem dX11_bound_10 : decode cX11_bound 10 = .ok (.ldc2_w 212, 3) := by decide +kernel
theorem dX11_bound_13 : decode cX11_bound 13 = .ok (.lreturn, 1) := by decide +kernel
theorem dX11_bound_14 : decode cX11_bound 14 = .ok (.aload_n 0, 1) := by decide +kernel
theorem dX11_bound_15 : decode cX11_bound 15 = .ok (.getfield 30, 3) := by decide +kernel
theorem dX11_bound_18 : decode cX11_bound 18 = .ok (.aload_n 0, 1) := by decide +kernel
theorem dX11_bound_19 : decode cX11_bound 19 = .ok (.getfield 16, 3) := by decide +kernel
theorem dX11_bound_22 : decode cX11_bound 22 = .ok (.invokevirtual 214, 3) := by decide +kernel
theorem dX11_bound_25 : decode cX11_bound 25 = .ok (.ifCond .ne 7, 3) := by decide +kernel
theorem dX11_bound_28 : decode cX11_bound 28 = .ok (.ldc2_w 218, 3) := by decide +kernel
theorem dX11_bound_31 : decode cX11_bound 31 = .ok (.lreturn, 1) := by decide +kernel
theorem dX11_bound_32 : decode cX11_bound 32 = .ok (.lconst 0, 1) := by decide +kernel
theorem dX11_bound_33 : decode cX11_bound 33 = .ok (.aload_n 0, 1) := by decide +kernel
theorem dX11_bound_34 : decode cX11_bound 34 = .ok (.getfield 54, 3) := by decide +kernel
theorem dX11_bound_37 : decode cX11_bound 37 = .ok (.aload_n 0, 1) := by decide +kernel
theorem dX11_bound_38 : decode cX11_bound 38 = .ok (.getfield 16, 3) := by decide +kernel
theorem dX11_bound_41 : decode cX11_bound 41 = .ok (.invokevirtual 220, 3) := by decide +kernel
theorem dX11_bound_44 : decode cX11_bound 44 = .ok (.aload_n 0, 1) := by decide +kernel
theorem dX11_bound_45 : decode cX11_bound 45 = .ok (.getfield 54, 3) := by decide +kernel
theorem dX11_bound_48 : decode cX11_bound 48 = .ok (.getfield 224, 3) := by decide +kernel
theorem dX11_bound_51 : decode cX11_bound 51 = .ok (.lsub, 1) := by decide +kernel
theorem dX11_bound_52 : decode cX11_bound 52 = .ok (.lconst 1, 1) := by decide +kernel
theorem dX11_bound_53 : decode cX11_bound 53 = .ok (.ladd, 1) := by decide +kernel
theorem dX11_bound_54 : decode cX11_bound 54 = .ok (.invokestatic 228, 3) := by decide +kernel
theorem dX11_bound_57 : decode cX11_bound 57 = .ok (.lreturn, 1) := by decide +kernel
theorem dX11_isSide_0 : decode cX11_isSide 0 = .ok (.iload_n 0, 1) := by decide +kernel
theorem dX11_isSide_1 : decode cX11_isSide 1 = .ok (.ifCond .eq 8, 3) := by decide +kernel
theorem dX11_isSide_4 : decode cX11_isSide 4 = .ok (.iload_n 0, 1) := by decide +kernel
theorem dX11_isSide_5 : decode cX11_isSide 5 = .ok (.iconst 1, 1) := by decide +kernel
theorem dX11_isSide_6 : decode cX11_isSide 6 = .ok (.if_icmp .ne 7, 3) := by decide +kernel
theorem dX11_isSide_9 : decode cX11_isSide 9 = .ok (.iconst 1, 1) := by decide +kernel
theorem dX11_isSide_10 : decode cX11_isSide 10 = .ok (.goto 4, 3) := by decide +kernel
theorem dX11_isSide_13 : decode cX11_isSide 13 = .ok (.iconst 0, 1) := by decide +kernel
theorem dX11_isSide_14 : decode cX11_isSide 14 = .ok (.ireturn, 1) := by decide +kernel
theorem dX2_put_0 : decode cX2_put 0 = .ok (.aload_n 0, 1) := by decide +kernel
theorem dX2_put_1 : decode cX2_put 1 = .ok (.getfield 9, 3) := by decide +kernel
theorem dX2_put_4 : decode cX2_put 4 = .ok (.iconst 2, 1) := by decide +kernel
theorem dX2_put_5 : decode cX2_put 5 = .ok (.iload_n 1, 1) := by decide +kernel
theorem dX2_put_6 : decode cX2_put 6 = .ok (.imul, 1) := by decide +kernel
theorem dX2_put_7 : decode cX2_put 7 = .ok (.iload_n 2, 1) := by decide +kernel
theorem dX2_put_8 : decode cX2_put 8 = .ok (.iadd, 1) := by decide +kernel
theorem dX2_put_9 : decode cX2_put 9 = .ok (.lload_n 3, 1) := by decide +kernel
theorem dX2_put_10 : decode cX2_put 10 = .ok (.lastore, 1) := by decide +kernel
theorem dX2_put_11 : decode cX2_put 11 = .ok (.return_, 1) := by decide +kernel
theorem dX11_begin_0 : decode cX11_begin 0 = .ok (.aload_n 0, 1) := by decide +kernel
theorem dX11_begin_1 : decode cX11_begin 1 = .ok (.getfield 10, 3) := by decide +kernel
theorem dX11_begin_4 : decode cX11_begin 4 = .ok (.iload_n 1, 1) := by decide +kernel
theorem dX11_begin_5 : decode cX11_begin 5 = .ok (.invokevirtual 128, 3) := by decide +kernel
theorem dX11_begin_8 : decode cX11_begin 8 = .ok (.ifCond .eq 23, 3) := by decide +kernel
theorem dX11_begin_11 : decode cX11_begin 11 = .ok (.iload_n 2, 1) := by decide +kernel
theorem dX11_begin_12 : decode cX11_begin 12 = .ok (.invokestatic 234, 3) := by decide +kernel
theorem dX11_begin_15 : decode cX11_begin 15 = .ok (.ifCond .eq 16, 3) := by decide +kernel
theorem dX11_begin_18 : decode cX11_begin 18 = .ok (.iload_n 3, 1) := by decide +kernel
theorem dX11_begin_19 : decode cX11_begin 19 = .ok (.invokestatic 140, 3) := by decide +kernel
theorem dX11_begin_22 : decode cX11_begin 22 = .ok (.ifCond .ne 11, 3) := by decide +kernel
theorem dX11_begin_25 : decode cX11_begin 25 = .ok (.iload_n 3, 1) := by decide +kernel
theorem dX11_begin_26 : decode cX11_begin 26 = .ok (.ldc 237, 2) := by decide +kernel
theorem dX11_begin_28 : decode cX11_begin 28 = .ok (.if_icmp .eq 5, 3) := by decide +kernel
theorem dX11_begin_31 : decode cX11_begin 31 = .ok (.iconst (-1), 1) := by decide +kernel
theorem dX11_begin_32 : decode cX11_begin 32 = .ok (.ireturn, 1) := by decide +kernel
theorem dX11_begin_33 : decode cX11_begin 33 = .ok (.aload_n 0, 1) := by decide +kernel
theorem dX11_begin_34 : decode cX11_begin 34 = .ok (.getfield 34, 3) := by decide +kernel
theorem dX11_begin_37 : decode cX11_begin 37 = .ok (.iload_n 1, 1) := by decide +kernel
theorem dX11_begin_38 : decode cX11_begin 38 = .ok (.iload_n 2, 1) := by decide +kernel
theorem dX11_begin_39 : decode cX11_begin 39 = .ok (.iload_n 3, 1) := by decide +kernel
theorem dX11_begin_40 : decode cX11_begin 40 = .ok (.ldc 237, 2) := by decide +kernel
theorem dX11_begin_42 : decode cX11_begin 42 = .ok (.if_icmp .ne 9, 3) := by decide +kernel
theorem dX11_begin_45 : decode cX11_begin 45 = .ok (.ldc2_w 238, 3) := by decide +kernel
theorem dX11_begin_48 : decode cX11_begin 48 = .ok (.goto 5, 3) := by decide +kernel
theorem dX11_begin_51 : decode cX11_begin 51 = .ok (.iload_n 3, 1) := by decide +kernel
theorem dX11_begin_52 : decode cX11_begin 52 = .ok (.i2l, 1) := by decide +kernel
theorem dX11_begin_53 : decode cX11_begin 53 = .ok (.invokevirtual 240, 3) := by decide +kernel
theorem dX11_begin_56 : decode cX11_begin 56 = .ok (.iconst 0, 1) := by decide +kernel
theorem dX11_begin_57 : decode cX11_begin 57 = .ok (.ireturn, 1) := by decide +kernel
theorem dX2_isCrossed_0 : decode cX2_isCrossed 0 = .ok (.iconst 0, 1) := by decide +kernel
theorem dX2_isCrossed_1 : decode cX2_isCrossed 1 = .ok (.istore_n 1, 1) := by decide +kernel
theorem dX2_isCrossed_2 : decode cX2_isCrossed 2 = .ok (.iload_n 1, 1) := by decide +kernel
theorem dX2_isCrossed_3 : decode cX2_isCrossed 3 = .ok (.iconst 3, 1) := by decide +kernel
theorem dX2_isCrossed_4 : decode cX2_isCrossed 4 = .ok (.if_icmp .ge 50, 3) := by decide +kernel
theorem dX2_isCrossed_7 : decode cX2_isCrossed 7 = .ok (.aload_n 0, 1) := by decide +kernel
theorem dX2_isCrossed_8 : decode cX2_isCrossed 8 = .ok (.iload_n 1, 1) := by decide +kernel
theorem dX2_isCrossed_9 : decode cX2_isCrossed 9 = .ok (.iconst 0, 1) := by decide +kernel
theorem dX2_isCrossed_10 : decode cX2_isCrossed 10 = .ok (.invokevirtual 29, 3) := by decide +kernel
theorem dX2_isCrossed_13 : decode cX2_isCrossed 13 = .ok (.lstore_n 2, 1) := by decide +kernel
theorem dX2_isCrossed_14 : decode cX2_isCrossed 14 = .ok (.aload_n 0, 1) := by decide +kernel
theorem dX2_isCrossed_15 : decode cX2_isCrossed 15 = .ok (.iload_n 1, 1) := by decide +kernel
theorem dX2_isCrossed_16 : decode cX2_isCrossed 16 = .ok (.iconst 1, 1) := by decide +kernel
theorem dX2_isCrossed_17 : decode cX2_isCrossed 17 = .ok (.invokevirtual 29, 3) := by decide +kernel
theorem dX2_isCrossed_20 : decode cX2_isCrossed 20 = .ok (.lstore 4, 2) := by decide +kernel
theorem dX2_isCrossed_22 : decode cX2_isCrossed 22 = .ok (.lload_n 2, 1) := by decide +kernel
theorem dX2_isCrossed_23 : decode cX2_isCrossed 23 = .ok (.ldc2_w 21, 3) := by decide +kernel
theorem dX2_isCrossed_26 : decode cX2_isCrossed 26 = .ok (.lcmp, 1) := by decide +kernel
theorem dX2_isCrossed_27 : decode cX2_isCrossed 27 = .ok (.ifCond .eq 21, 3) := by decide +kernel
theorem dX2_isCrossed_30 : decode cX2_isCrossed 30 = .ok (.lload 4, 2) := by decide +kernel
theorem dX2_isCrossed_32 : decode cX2_isCrossed 32 = .ok (.ldc2_w 21, 3) := by decide +kernel
theorem dX2_isCrossed_35 : decode cX2_isCrossed 35 = .ok (.lcmp, 1) := by decide +kernel
theorem dX2_isCrossed_36 : decode cX2_isCrossed 36 = .ok (.ifCond .eq 12, 3) := by decide +kernel
theorem dX2_isCrossed_39 : decode cX2_isCrossed 39 = .ok (.lload_n 2, 1) := by decide +kernel
theorem dX2_isCrossed_40 : decode cX2_isCrossed 40 = .ok (.lload 4, 2) := by decide +kernel
theorem dX2_isCrossed_42 : decode cX2_isCrossed 42 = .ok (.lcmp, 1) := by decide +kernel
theorem dX2_isCrossed_43 : decode cX2_isCrossed 43 = .ok (.ifCond .le 5, 3) := by decide +kernel
theorem dX2_isCrossed_46 : decode cX2_isCrossed 46 = .ok (.iconst 1, 1) := by decide +kernel
theorem dX2_isCrossed_47 : decode cX2_isCrossed 47 = .ok (.ireturn, 1) := by decide +kernel
theorem dX2_isCrossed_48 : decode cX2_isCrossed 48 = .ok (.iinc 1 1, 3) := by decide +kernel
theorem dX2_isCrossed_51 : decode cX2_isCrossed 51 = .ok (.goto (-49), 3) := by decide +kernel
theorem dX2_isCrossed_54 : decode cX2_isCrossed 54 = .ok (.iconst 0, 1) := by decide +kernel
theorem dX2_isCrossed_55 : decode cX2_isCrossed 55 = .ok (.ireturn, 1) := by decide +kernel
theorem dX2_copyFrom_0 : decode cX2_copyFrom 0 = .ok (.aload_n 1, 1) := by decide +kernel
theorem dX2_copyFrom_1 : decode cX2_copyFrom 1 = .ok (.getfield 9, 3) := by decide +kernel
theorem dX2_copyFrom_4 : decode cX2_copyFrom 4 = .ok (.iconst 0, 1) := by decide +kernel
theorem dX2_copyFrom_5 : decode cX2_copyFrom 5 = .ok (.aload_n 0, 1) := by decide +kernel
theorem dX2_copyFrom_6 : decode cX2_copyFrom 6 = .ok (.getfield 9, 3) := by decide +kernel
theorem dX2_copyFrom_9 : decode cX2_copyFrom 9 = .ok (.iconst 0, 1) := by decide +kernel
theorem dX2_copyFrom_10 : decode cX2_copyFrom 10 = .ok (.bipush 6, 2) := by decide +kernel
theorem dX2_copyFrom_12 : decode cX2_copyFrom 12 = .ok (.invokestatic 23, 3) := by decide +kernel
theorem dX2_copyFrom_15 : decode cX2_copyFrom 15 = .ok (.return_, 1) := by decide +kernel
theorem dX2_widen_0 : decode cX2_widen 0 = .ok (.aload_n 0, 1) := by decide +kernel
theorem dX2_widen_1 : decode cX2_widen 1 = .ok (.iload_n 1, 1) := by decide +kernel
theorem dX2_widen_2 : decode cX2_widen 2 = .ok (.iload_n 2, 1) := by decide +kernel
theorem dX2_widen_3 : decode cX2_widen 3 = .ok (.invokevirtual 29, 3) := by decide +kernel
theorem dX2_widen_6 : decode cX2_widen 6 = .ok (.lstore 5, 2) := by decide +kernel
theorem dX2_widen_8 : decode cX2_widen 8 = .ok (.lload 5, 2) := by decide +kernel
theorem dX2_widen_10 : decode cX2_widen 10 = .ok (.ldc2_w 21, 3) := by decide +kernel
theorem dX2_widen_13 : decode cX2_widen 13 = .ok (.lcmp, 1) := by decide +kernel
theorem dX2_widen_14 : decode cX2_widen 14 = .ok (.ifCond .eq 11, 3) := by decide +kernel
theorem dX2_widen_17 : decode cX2_widen 17 = .ok (.lload_n 3, 1) := by decide +kernel
theorem dX2_widen_18 : decode cX2_widen 18 = .ok (.ldc2_w 21, 3) := by decide +kernel
theorem dX2_widen_21 : decode cX2_widen 21 = .ok (.lcmp, 1) := by decide +kernel
theorem dX2_widen_22 : decode cX2_widen 22 = .ok (.ifCond .ne 15, 3) := by decide +kernel
theorem dX2_widen_25 : decode cX2_widen 25 = .ok (.aload_n 0, 1) := by decide +kernel
theorem dX2_widen_26 : decode cX2_widen 26 = .ok (.iload_n 1, 1) := by decide +kernel
theorem dX2_widen_27 : decode cX2_widen 27 = .ok (.iload_n 2, 1) := by decide +kernel
theorem dX2_widen_28 : decode cX2_widen 28 = .ok (.ldc2_w 21, 3) := by decide +kernel
theorem dX2_widen_31 : decode cX2_widen 31 = .ok (.invokevirtual 39, 3) := by decide +kernel
theorem dX2_widen_34 : decode cX2_widen 34 = .ok (.goto 28, 3) := by decide +kernel
theorem dX2_widen_37 : decode cX2_widen 37 = .ok (.aload_n 0, 1) := by decide +kernel
theorem dX2_widen_38 : decode cX2_widen 38 = .ok (.iload_n 1, 1) := by decide +kernel
theorem dX2_widen_39 : decode cX2_widen 39 = .ok (.iload_n 2, 1) := by decide +kernel
theorem dX2_widen_40 : decode cX2_widen 40 = .ok (.iload_n 2, 1) := by decide +kernel
theorem dX2_widen_41 : decode cX2_widen 41 = .ok (.ifCond .ne 12, 3) := by decide +kernel
theorem dX2_widen_44 : decode cX2_widen 44 = .ok (.lload 5, 2) := by decide +kernel
theorem dX2_widen_46 : decode cX2_widen 46 = .ok (.lload_n 3, 1) := by decide +kernel
theorem dX2_widen_47 : decode cX2_widen 47 = .ok (.invokestatic 43, 3) := by decide +kernel
theorem dX2_widen_50 : decode cX2_widen 50 = .ok (.goto 9, 3) := by decide +kernel
theorem dX2_widen_53 : decode cX2_widen 53 = .ok (.lload 5, 2) := by decide +kernel
theorem dX2_widen_55 : decode cX2_widen 55 = .ok (.lload_n 3, 1) := by decide +kernel
theorem dX2_widen_56 : decode cX2_widen 56 = .ok (.invokestatic 49, 3) := by decide +kernel
theorem dX2_widen_59 : decode cX2_widen 59 = .ok (.invokevirtual 39, 3) := by decide +kernel
theorem dX2_widen_62 : decode cX2_widen 62 = .ok (.return_, 1) := by decide +kernel
theorem dX8_lookAtBodies_0 : decode cX8_lookAtBodies 0 = .ok (.aload_n 0, 1) := by decide +kernel
theorem dX8_lookAtBodies_1 : decode cX8_lookAtBodies 1 = .ok (.getfield 18, 3) := by decide +kernel
theorem dX8_lookAtBodies_4 : decode cX8_lookAtBodies 4 = .ok (.aload_n 0, 1) := by decide +kernel
theorem dX8_lookAtBodies_5 : decode cX8_lookAtBodies 5 = .ok (.getfield 12, 3) := by decide +kernel
theorem dX8_lookAtBodies_8 : decode cX8_lookAtBodies 8 = .ok (.invokevirtual 21, 3) := by decide +kernel
theorem dX8_lookAtBodies_11 : decode cX8_lookAtBodies 11 = .ok (.iconst 0, 1) := by decide +kernel
theorem dX8_lookAtBodies_12 : decode cX8_lookAtBodies 12 = .ok (.istore_n 2, 1) := by decide +kernel
theorem dX8_lookAtBodies_13 : decode cX8_lookAtBodies 13 = .ok (.iload_n 2, 1) := by decide +kernel
theorem dX8_lookAtBodies_14 : decode cX8_lookAtBodies 14 = .ok (.aload_n 1, 1) := by decide +kernel
theorem dX8_lookAtBodies_15 : decode cX8_lookAtBodies 15 = .ok (.getfield 37, 3) := by decide +kernel
theorem dX8_lookAtBodies_18 : decode cX8_lookAtBodies 18 = .ok (.if_icmp .ge 95, 3) := by decide +kernel
theorem dX8_lookAtBodies_21 : decode cX8_lookAtBodies 21 = .ok (.aload_n 1, 1) := by decide +kernel
theorem dX8_lookAtBodies_22 : decode cX8_lookAtBodies 22 = .ok (.getfield 43, 3) := by decide +kernel
theorem dX8_lookAtBodies_25 : decode cX8_lookAtBodies 25 = .ok (.iload_n 2, 1) := by decide +kernel
theorem dX8_lookAtBodies_26 : decode cX8_lookAtBodies 26 = .ok (.aaload, 1) := by decide +kernel
theorem dX8_lookAtBodies_27 : decode cX8_lookAtBodies 27 = .ok (.astore_n 3, 1) := by decide +kernel
theorem dX8_lookAtBodies_28 : decode cX8_lookAtBodies 28 = .ok (.aload_n 3, 1) := by decide +kernel
theorem dX8_lookAtBodies_29 : decode cX8_lookAtBodies 29 = .ok (.aload_n 0, 1) := by decide +kernel
theorem dX8_lookAtBodies_30 : decode cX8_lookAtBodies 30 = .ok (.getfield 12, 3) := by decide +kernel
theorem dX8_lookAtBodies_33 : decode cX8_lookAtBodies 33 = .ok (.invokevirtual 47, 3) := by decide +kernel
theorem dX8_lookAtBodies_36 : decode cX8_lookAtBodies 36 = .ok (.ifCond .ne 71, 3) := by decide +kernel
theorem dX8_lookAtBodies_39 : decode cX8_lookAtBodies 39 = .ok (.iconst 0, 1) := by decide +kernel
theorem dX8_lookAtBodies_40 : decode cX8_lookAtBodies 40 = .ok (.istore 4, 2) := by decide +kernel
theorem dX8_lookAtBodies_42 : decode cX8_lookAtBodies 42 = .ok (.iload 4, 2) := by decide +kernel
theorem dX8_lookAtBodies_44 : decode cX8_lookAtBodies 44 = .ok (.aload_n 1, 1) := by decide +kernel
theorem dX8_lookAtBodies_45 : decode cX8_lookAtBodies 45 = .ok (.getfield 53, 3) := by decide +kernel
theorem dX8_lookAtBodies_48 : decode cX8_lookAtBodies 48 = .ok (.if_icmp .ge 59, 3) := by decide +kernel
theorem dX8_lookAtBodies_51 : decode cX8_lookAtBodies 51 = .ok (.aload_n 0, 1) := by decide +kernel
theorem dX8_lookAtBodies_52 : decode cX8_lookAtBodies 52 = .ok (.getfield 18, 3) := by decide +kernel
theorem dX8_lookAtBodies_55 : decode cX8_lookAtBodies 55 = .ok (.iload 4, 2) := by decide +kernel
theorem dX8_lookAtBodies_57 : decode cX8_lookAtBodies 57 = .ok (.iconst 0, 1) := by decide +kernel
theorem dX8_lookAtBodies_58 : decode cX8_lookAtBodies 58 = .ok (.aload_n 3, 1) := by decide +kernel
theorem dX8_lookAtBodies_59 : decode cX8_lookAtBodies 59 = .ok (.getfield 56, 3) := by decide +kernel
theorem dX8_lookAtBodies_62 : decode cX8_lookAtBodies 62 = .ok (.iload 4, 2) := by decide +kernel
theorem dX8_lookAtBodies_64 : decode cX8_lookAtBodies 64 = .ok (.aaload, 1) := by decide +kernel
theorem dX8_lookAtBodies_65 : decode cX8_lookAtBodies 65 = .ok (.aload_n 0, 1) := by decide +kernel
theorem dX8_lookAtBodies_66 : decode cX8_lookAtBodies 66 = .ok (.getfield 12, 3) := by decide +kernel
theorem dX8_lookAtBodies_69 : decode cX8_lookAtBodies 69 = .ok (.iconst 0, 1) := by decide +kernel
theorem dX8_lookAtBodies_70 : decode cX8_lookAtBodies 70 = .ok (.invokevirtual 60, 3) := by decide +kernel
theorem dX8_lookAtBodies_73 : decode cX8_lookAtBodies 73 = .ok (.invokevirtual 66, 3) := by decide +kernel
theorem dX8_lookAtBodies_76 : decode cX8_lookAtBodies 76 = .ok (.aload_n 0, 1) := by decide +kernel
theorem dX8_lookAtBodies_77 : decode cX8_lookAtBodies 77 = .ok (.getfield 18, 3) := by decide +kernel
theorem dX8_lookAtBodies_80 : decode cX8_lookAtBodies 80 = .ok (.iload 4, 2) := by decide +kernel
theorem dX8_lookAtBodies_82 : decode cX8_lookAtBodies 82 = .ok (.iconst 1, 1) := by decide +kernel
theorem dX8_lookAtBodies_83 : decode cX8_lookAtBodies 83 = .ok (.aload_n 3, 1) := by decide +kernel
theorem dX8_lookAtBodies_84 : decode cX8_lookAtBodies 84 = .ok (.getfield 56, 3) := by decide +kernel
theorem dX8_lookAtBodies_87 : decode cX8_lookAtBodies 87 = .ok (.iload 4, 2) := by decide +kernel
theorem dX8_lookAtBodies_89 : decode cX8_lookAtBodies 89 = .ok (.aaload, 1) := by decide +kernel
theorem dX8_lookAtBodies_90 : decode cX8_lookAtBodies 90 = .ok (.aload_n 0, 1) := by decide +kernel
theorem dX8_lookAtBodies_91 : decode cX8_lookAtBodies 91 = .ok (.getfield 12, 3) := by decide +kernel
theorem dX8_lookAtBodies_94 : decode cX8_lookAtBodies 94 = .ok (.iconst 1, 1) := by decide +kernel
theorem dX8_lookAtBodies_95 : decode cX8_lookAtBodies 95 = .ok (.invokevirtual 60, 3) := by decide +kernel
theorem dX8_lookAtBodies_98 : decode cX8_lookAtBodies 98 = .ok (.invokevirtual 66, 3) := by decide +kernel
theorem dX8_lookAtBodies_101 : decode cX8_lookAtBodies 101 = .ok (.iinc 4 1, 3) := by decide +kernel
theorem dX8_lookAtBodies_104 : decode cX8_lookAtBodies 104 = .ok (.goto (-62), 3) := by decide +kernel
theorem dX8_lookAtBodies_107 : decode cX8_lookAtBodies 107 = .ok (.iinc 2 1, 3) := by decide +kernel
theorem dX8_lookAtBodies_110 : decode cX8_lookAtBodies 110 = .ok (.goto (-97), 3) := by decide +kernel
theorem dX8_lookAtBodies_113 : decode cX8_lookAtBodies 113 = .ok (.return_, 1) := by decide +kernel
theorem dX8_settle_0 : decode cX8_settle 0 = .ok (.iconst 0, 1) := by decide +kernel
theorem dX8_settle_1 : decode cX8_settle 1 = .ok (.istore_n 2, 1) := by decide +kernel
theorem dX8_settle_2 : decode cX8_settle 2 = .ok (.iconst 0, 1) := by decide +kernel
theorem dX8_settle_3 : decode cX8_settle 3 = .ok (.istore_n 3, 1) := by decide +kernel
theorem dX8_settle_4 : decode cX8_settle 4 = .ok (.iload_n 3, 1) := by decide +kernel
theorem dX8_settle_5 : decode cX8_settle 5 = .ok (.bipush 6, 2) := by decide +kernel
theorem dX8_settle_7 : decode cX8_settle 7 = .ok (.if_icmp .ge 49, 3) := by decide +kernel
theorem dX8_settle_10 : decode cX8_settle 10 = .ok (.aload_n 0, 1) := by decide +kernel
theorem dX8_settle_11 : decode cX8_settle 11 = .ok (.getfield 18, 3) := by decide +kernel
theorem dX8_settle_14 : decode cX8_settle 14 = .ok (.getfield 70, 3) := by decide +kernel
theorem dX8_settle_17 : decode cX8_settle 17 = .ok (.iload_n 3, 1) := by decide +kernel
theorem dX8_settle_18 : decode cX8_settle 18 = .ok (.laload, 1) := by decide +kernel
theorem dX8_settle_19 : decode cX8_settle 19 = .ok (.aload_n 0, 1) := by decide +kernel
theorem dX8_settle_20 : decode cX8_settle 20 = .ok (.getfield 12, 3) := by decide +kernel
theorem dX8_settle_23 : decode cX8_settle 23 = .ok (.getfield 70, 3) := by decide +kernel
theorem dX8_settle_26 : decode cX8_settle 26 = .ok (.iload_n 3, 1) := by decide +kernel
theorem dX8_settle_27 : decode cX8_settle 27 = .ok (.laload, 1) := by decide +kernel
theorem dX8_settle_28 : decode cX8_settle 28 = .ok (.lcmp, 1) := by decide +kernel
theorem dX8_settle_29 : decode cX8_settle 29 = .ok (.ifCond .eq 21, 3) := by decide +kernel
theorem dX8_settle_32 : decode cX8_settle 32 = .ok (.iconst 1, 1) := by decide +kernel
theorem dX8_settle_33 : decode cX8_settle 33 = .ok (.istore_n 2, 1) := by decide +kernel
theorem dX8_settle_34 : decode cX8_settle 34 = .ok (.iload_n 1, 1) := by decide +kernel
theorem dX8_settle_35 : decode cX8_settle 35 = .ok (.ifCond .eq 15, 3) := by decide +kernel
theorem dX8_settle_38 : decode cX8_settle 38 = .ok (.aload_n 0, 1) := by decide +kernel
theorem dX8_settle_39 : decode cX8_settle 39 = .ok (.getfield 18, 3) := by decide +kernel
theorem dX8_settle_42 : decode cX8_settle 42 = .ok (.getfield 70, 3) := by decide +kernel
theorem dX8_settle_45 : decode cX8_settle 45 = .ok (.iload_n 3, 1) := by decide +kernel
theorem dX8_settle_46 : decode cX8_settle 46 = .ok (.ldc2_w 74, 3) := by decide +kernel
theorem dX8_settle_49 : decode cX8_settle 49 = .ok (.lastore, 1) := by decide +kernel
theorem dX8_settle_50 : decode cX8_settle 50 = .ok (.iinc 3 1, 3) := by decide +kernel
theorem dX8_settle_53 : decode cX8_settle 53 = .ok (.goto (-49), 3) := by decide +kernel
theorem dX8_settle_56 : decode cX8_settle 56 = .ok (.iload_n 2, 1) := by decide +kernel
theorem dX8_settle_57 : decode cX8_settle 57 = .ok (.ireturn, 1) := by decide +kernel
theorem dX2_isOut_0 : decode cX2_isOut 0 = .ok (.iconst 0, 1) := by decide +kernel
theorem dX2_isOut_1 : decode cX2_isOut 1 = .ok (.istore_n 1, 1) := by decide +kernel
theorem dX2_isOut_2 : decode cX2_isOut 2 = .ok (.iload_n 1, 1) := by decide +kernel
theorem dX2_isOut_3 : decode cX2_isOut 3 = .ok (.bipush 6, 2) := by decide +kernel
theorem dX2_isOut_5 : decode cX2_isOut 5 = .ok (.if_icmp .ge 39, 3) := by decide +kernel
theorem dX2_isOut_8 : decode cX2_isOut 8 = .ok (.aload_n 0, 1) := by decide +kernel
theorem dX2_isOut_9 : decode cX2_isOut 9 = .ok (.getfield 9, 3) := by decide +kernel
theorem dX2_isOut_12 : decode cX2_isOut 12 = .ok (.iload_n 1, 1) := by decide +kernel
theorem dX2_isOut_13 : decode cX2_isOut 13 = .ok (.laload, 1) := by decide +kernel
theorem dX2_isOut_14 : decode cX2_isOut 14 = .ok (.ldc2_w 21, 3) := by decide +kernel
theorem dX2_isOut_17 : decode cX2_isOut 17 = .ok (.lcmp, 1) := by decide +kernel
theorem dX2_isOut_18 : decode cX2_isOut 18 = .ok (.ifCond .eq 20, 3) := by decide +kernel
theorem dX2_isOut_21 : decode cX2_isOut 21 = .ok (.aload_n 0, 1) := by decide +kernel
theorem dX2_isOut_22 : decode cX2_isOut 22 = .ok (.getfield 9, 3) := by decide +kernel
theorem dX2_isOut_25 : decode cX2_isOut 25 = .ok (.iload_n 1, 1) := by decide +kernel
theorem dX2_isOut_26 : decode cX2_isOut 26 = .ok (.laload, 1) := by decide +kernel
theorem dX2_isOut_27 : decode cX2_isOut 27 = .ok (.ldc2_w 33, 3) := by decide +kernel
theorem dX2_isOut_30 : decode cX2_isOut 30 = .ok (.invokestatic 35, 3) := by decide +kernel
theorem dX2_isOut_33 : decode cX2_isOut 33 = .ok (.ifCond .eq 5, 3) := by decide +kernel
theorem dX2_isOut_36 : decode cX2_isOut 36 = .ok (.iconst 1, 1) := by decide +kernel
theorem dX2_isOut_37 : decode cX2_isOut 37 = .ok (.ireturn, 1) := by decide +kernel
theorem dX2_isOut_38 : decode cX2_isOut 38 = .ok (.iinc 1 1, 3) := by decide +kernel
theorem dX2_isOut_41 : decode cX2_isOut 41 = .ok (.goto (-39), 3) := by decide +kernel
theorem dX2_isOut_44 : decode cX2_isOut 44 = .ok (.iconst 0, 1) := by decide +kernel
theorem dX2_isOut_45 : decode cX2_isOut 45 = .ok (.ireturn, 1) := by decide +kernel
theorem dX8_goRound_0 : decode cX8_goRound 0 = .ok (.aload_n 0, 1) := by decide +kernel
theorem dX8_goRound_1 : decode cX8_goRound 1 = .ok (.getfield 12, 3) := by decide +kernel
theorem dX8_goRound_4 : decode cX8_goRound 4 = .ok (.aload_n 2, 1) := by decide +kernel
theorem dX8_goRound_5 : decode cX8_goRound 5 = .ok (.invokevirtual 21, 3) := by decide +kernel
theorem dX8_goRound_8 : decode cX8_goRound 8 = .ok (.iconst 1, 1) := by decide +kernel
theorem dX8_goRound_9 : decode cX8_goRound 9 = .ok (.istore 4, 2) := by decide +kernel
theorem dX8_goRound_11 : decode cX8_goRound 11 = .ok (.iload 4, 2) := by decide +kernel
theorem dX8_goRound_13 : decode cX8_goRound 13 = .ok (.bipush 27, 2) := by decide +kernel
theorem dX8_goRound_15 : decode cX8_goRound 15 = .ok (.if_icmp .gt 63, 3) := by decide +kernel
theorem dX8_goRound_18 : decode cX8_goRound 18 = .ok (.aload_n 0, 1) := by decide +kernel
theorem dX8_goRound_19 : decode cX8_goRound 19 = .ok (.aload_n 1, 1) := by decide +kernel
theorem dX8_goRound_20 : decode cX8_goRound 20 = .ok (.invokevirtual 25, 3) := by decide +kernel
theorem dX8_goRound_23 : decode cX8_goRound 23 = .ok (.aload_n 0, 1) := by decide +kernel
theorem dX8_goRound_24 : decode cX8_goRound 24 = .ok (.iload 4, 2) := by decide +kernel
theorem dX8_goRound_26 : decode cX8_goRound 26 = .ok (.iload_n 3, 1) := by decide +kernel
theorem dX8_goRound_27 : decode cX8_goRound 27 = .ok (.if_icmp .lt 7, 3) := by decide +kernel
theorem dX8_goRound_30 : decode cX8_goRound 30 = .ok (.iconst 1, 1) := by decide +kernel
theorem dX8_goRound_31 : decode cX8_goRound 31 = .ok (.goto 4, 3) := by decide +kernel
theorem dX8_goRound_34 : decode cX8_goRound 34 = .ok (.iconst 0, 1) := by decide +kernel
theorem dX8_goRound_35 : decode cX8_goRound 35 = .ok (.invokevirtual 29, 3) := by decide +kernel
theorem dX8_goRound_38 : decode cX8_goRound 38 = .ok (.istore 5, 2) := by decide +kernel
theorem dX8_goRound_40 : decode cX8_goRound 40 = .ok (.iload 5, 2) := by decide +kernel
theorem dX8_goRound_42 : decode cX8_goRound 42 = .ok (.ifCond .ne 6, 3) := by decide +kernel
theorem dX8_goRound_45 : decode cX8_goRound 45 = .ok (.iload 4, 2) := by decide +kernel
theorem dX8_goRound_47 : decode cX8_goRound 47 = .ok (.ireturn, 1) := by decide +kernel
theorem dX8_goRound_48 : decode cX8_goRound 48 = .ok (.aload_n 0, 1) := by decide +kernel
theorem dX8_goRound_49 : decode cX8_goRound 49 = .ok (.getfield 18, 3) := by decide +kernel
theorem dX8_goRound_52 : decode cX8_goRound 52 = .ok (.invokevirtual 33, 3) := by decide +kernel
theorem dX8_goRound_55 : decode cX8_goRound 55 = .ok (.ifCond .eq 6, 3) := by decide +kernel
theorem dX8_goRound_58 : decode cX8_goRound 58 = .ok (.bipush (-4), 2) := by decide +kernel
theorem dX8_goRound_60 : decode cX8_goRound 60 = .ok (.ireturn, 1) := by decide +kernel
theorem dX8_goRound_61 : decode cX8_goRound 61 = .ok (.aload_n 0, 1) := by decide +kernel
theorem dX8_goRound_62 : decode cX8_goRound 62 = .ok (.getfield 12, 3) := by decide +kernel
theorem dX8_goRound_65 : decode cX8_goRound 65 = .ok (.aload_n 0, 1) := by decide +kernel
theorem dX8_goRound_66 : decode cX8_goRound 66 = .ok (.getfield 18, 3) := by decide +kernel
theorem dX8_goRound_69 : decode cX8_goRound 69 = .ok (.invokevirtual 21, 3) := by decide +kernel
theorem dX8_goRound_72 : decode cX8_goRound 72 = .ok (.iinc 4 1, 3) := by decide +kernel
theorem dX8_goRound_75 : decode cX8_goRound 75 = .ok (.goto (-64), 3) := by decide +kernel
theorem dX8_goRound_78 : decode cX8_goRound 78 = .ok (.bipush (-4), 2) := by decide +kernel
theorem dX8_goRound_80 : decode cX8_goRound 80 = .ok (.ireturn, 1) := by decide +kernel
theorem dX11_round_0 : decode cX11_round 0 = .ok (.iload_n 1, 1) := by decide +kernel
theorem dX11_round_1 : decode cX11_round 1 = .ok (.iconst 1, 1) := by decide +kernel
theorem dX11_round_2 : decode cX11_round 2 = .ok (.if_icmp .lt 19, 3) := by decide +kernel
theorem dX11_round_5 : decode cX11_round 5 = .ok (.iload_n 1, 1) := by decide +kernel
theorem dX11_round_6 : decode cX11_round 6 = .ok (.bipush 20, 2) := by decide +kernel
theorem dX11_round_8 : decode cX11_round 8 = .ok (.if_icmp .gt 13, 3) := by decide +kernel
theorem dX11_round_11 : decode cX11_round 11 = .ok (.aload_n 0, 1) := by decide +kernel
theorem dX11_round_12 : decode cX11_round 12 = .ok (.getfield 34, 3) := by decide +kernel
theorem dX11_round_15 : decode cX11_round 15 = .ok (.invokevirtual 243, 3) := by decide +kernel
theorem dX11_round_18 : decode cX11_round 18 = .ok (.ifCond .eq 5, 3) := by decide +kernel
theorem dX11_round_21 : decode cX11_round 21 = .ok (.iconst (-1), 1) := by decide +kernel
theorem dX11_round_22 : decode cX11_round 22 = .ok (.ireturn, 1) := by decide +kernel
theorem dX11_round_23 : decode cX11_round 23 = .ok (.aload_n 0, 1) := by decide +kernel
theorem dX11_round_24 : decode cX11_round 24 = .ok (.getfield 40, 3) := by decide +kernel
theorem dX11_round_27 : decode cX11_round 27 = .ok (.aload_n 0, 1) := by decide +kernel
theorem dX11_round_28 : decode cX11_round 28 = .ok (.getfield 10, 3) := by decide +kernel
theorem dX11_round_31 : decode cX11_round 31 = .ok (.aload_n 0, 1) := by decide +kernel
theorem dX11_round_32 : decode cX11_round 32 = .ok (.getfield 34, 3) := by decide +kernel
theorem dX11_round_35 : decode cX11_round 35 = .ok (.iload_n 1, 1) := by decide +kernel
theorem dX11_round_36 : decode cX11_round 36 = .ok (.invokevirtual 247, 3) := by decide +kernel
theorem dX11_round_39 : decode cX11_round 39 = .ok (.istore_n 2, 1) := by decide +kernel
theorem dX11_round_40 : decode cX11_round 40 = .ok (.iload_n 2, 1) := by decide +kernel
theorem dX11_round_41 : decode cX11_round 41 = .ok (.ifCond .le 21, 3) := by decide +kernel
theorem dX11_round_44 : decode cX11_round 44 = .ok (.aload_n 0, 1) := by decide +kernel
theorem dX11_round_45 : decode cX11_round 45 = .ok (.getfield 30, 3) := by decide +kernel
theorem dX11_round_48 : decode cX11_round 48 = .ok (.aload_n 0, 1) := by decide +kernel
theorem dX11_round_49 : decode cX11_round 49 = .ok (.getfield 40, 3) := by decide +kernel
theorem dX11_round_52 : decode cX11_round 52 = .ok (.getfield 251, 3) := by decide +kernel
theorem dX11_round_55 : decode cX11_round 55 = .ok (.invokevirtual 254, 3) := by decide +kernel
theorem dX11_round_58 : decode cX11_round 58 = .ok (.aload_n 0, 1) := by decide +kernel
theorem dX11_round_59 : decode cX11_round 59 = .ok (.invokevirtual 258, 3) := by decide +kernel
theorem dX11_round_62 : decode cX11_round 62 = .ok (.iload_n 2, 1) := by decide +kernel
theorem dX11_round_63 : decode cX11_round 63 = .ok (.ireturn, 1) := by decide +kernel
theorem dX11_box_0 : decode cX11_box 0 = .ok (.aload_n 0, 1) := by decide +kernel
theorem dX11_box_1 : decode cX11_box 1 = .ok (.getfield 10, 3) := by decide +kernel
theorem dX11_box_4 : decode cX11_box 4 = .ok (.iload_n 1, 1) := by decide +kernel
theorem dX11_box_5 : decode cX11_box 5 = .ok (.invokevirtual 128, 3) := by decide +kernel
theorem dX11_box_8 : decode cX11_box 8 = .ok (.ifCond .eq 22, 3) := by decide +kernel
theorem dX11_box_11 : decode cX11_box 11 = .ok (.iload_n 2, 1) := by decide +kernel
theorem dX11_box_12 : decode cX11_box 12 = .ok (.invokestatic 234, 3) := by decide +kernel
theorem dX11_box_15 : decode cX11_box 15 = .ok (.ifCond .eq 15, 3) := by decide +kernel
theorem dX11_box_18 : decode cX11_box 18 = .ok (.aload_n 0, 1) := by decide +kernel
theorem dX11_box_19 : decode cX11_box 19 = .ok (.getfield 30, 3) := by decide +kernel
theorem dX11_box_22 : decode cX11_box 22 = .ok (.iload_n 1, 1) := by decide +kernel
theorem dX11_box_23 : decode cX11_box 23 = .ok (.iload_n 2, 1) := by decide +kernel
theorem dX11_box_24 : decode cX11_box 24 = .ok (.invokevirtual 261, 3) := by decide +kernel
theorem dX11_box_27 : decode cX11_box 27 = .ok (.goto 6, 3) := by decide +kernel
theorem dX11_box_30 : decode cX11_box 30 = .ok (.ldc2_w 238, 3) := by decide +kernel
theorem dX11_box_33 : decode cX11_box 33 = .ok (.lreturn, 1) := by decide +kernel
theorem dX11_open_0 : decode cX11_open 0 = .ok (.aload_n 0, 1) := by decide +kernel
theorem dX11_open_1 : decode cX11_open 1 = .ok (.invokevirtual 95, 3) := by decide +kernel
theorem dX11_open_4 : decode cX11_open 4 = .ok (.iconst 0, 1) := by decide +kernel
theorem dX11_open_5 : decode cX11_open 5 = .ok (.ireturn, 1) := by decide +kernel
theorem dX11_isFunction_0 : decode cX11_isFunction 0 = .ok (.iload_n 0, 1) := by decide +kernel
theorem dX11_isFunction_1 : decode cX11_isFunction 1 = .ok (.ifCond .lt 13, 3) := by decide +kernel
theorem dX11_isFunction_4 : decode cX11_isFunction 4 = .ok (.iload_n 0, 1) := by decide +kernel
theorem dX11_isFunction_5 : decode cX11_isFunction 5 = .ok (.bipush 8, 2) := by decide +kernel
theorem dX11_isFunction_7 : decode cX11_isFunction 7 = .ok (.if_icmp .ge 7, 3) := by decide +kernel
theorem dX11_isFunction_10 : decode cX11_isFunction 10 = .ok (.iconst 1, 1) := by decide +kernel
theorem dX11_isFunction_11 : decode cX11_isFunction 11 = .ok (.goto 4, 3) := by decide +kernel
theorem dX11_isFunction_14 : decode cX11_isFunction 14 = .ok (.iconst 0, 1) := by decide +kernel
theorem dX11_isFunction_15 : decode cX11_isFunction 15 = .ok (.ireturn, 1) := by decide +kernel
theorem dX3_masksOf_0 : decode cX3_masksOf 0 = .ok (.iconst 0, 1) := by decide +kernel
theorem dX3_masksOf_1 : decode cX3_masksOf 1 = .ok (.istore_n 1, 1) := by decide +kernel
theorem dX3_masksOf_2 : decode cX3_masksOf 2 = .ok (.iload_n 0, 1) := by decide +kernel
theorem dX3_masksOf_3 : decode cX3_masksOf 3 = .ok (.istore_n 2, 1) := by decide +kernel
theorem dX3_masksOf_4 : decode cX3_masksOf 4 = .ok (.bipush 15, 2) := by decide +kernel
theorem dX3_masksOf_6 : decode cX3_masksOf 6 = .ok (.istore_n 3, 1) := by decide +kernel
theorem dX3_masksOf_7 : decode cX3_masksOf 7 = .ok (.iload_n 3, 1) := by decide +kernel
theorem dX3_masksOf_8 : decode cX3_masksOf 8 = .ok (.ifCond .lt 44, 3) := by decide +kernel
theorem dX3_masksOf_11 : decode cX3_masksOf 11 = .ok (.iload_n 2, 1) := by decide +kernel
theorem dX3_masksOf_12 : decode cX3_masksOf 12 = .ok (.iconst 3, 1) := by decide +kernel
theorem dX3_masksOf_13 : decode cX3_masksOf 13 = .ok (.irem, 1) := by decide +kernel
theorem dX3_masksOf_14 : decode cX3_masksOf 14 = .ok (.istore 4, 2) := by decide +kernel
theorem dX3_masksOf_16 : decode cX3_masksOf 16 = .ok (.iload_n 2, 1) := by decide +kernel
theorem dX3_masksOf_17 : decode cX3_masksOf 17 = .ok (.iconst 3, 1) := by decide +kernel
theorem dX3_masksOf_18 : decode cX3_masksOf 18 = .ok (.idiv, 1) := by decide +kernel
theorem dX3_masksOf_19 : decode cX3_masksOf 19 = .ok (.istore_n 2, 1) := by decide +kernel
theorem dX3_masksOf_20 : decode cX3_masksOf 20 = .ok (.iload 4, 2) := by decide +kernel
theorem dX3_masksOf_22 : decode cX3_masksOf 22 = .ok (.ifCond .le 9, 3) := by decide +kernel
theorem dX3_masksOf_25 : decode cX3_masksOf 25 = .ok (.iload_n 1, 1) := by decide +kernel
theorem dX3_masksOf_26 : decode cX3_masksOf 26 = .ok (.iconst 1, 1) := by decide +kernel
theorem dX3_masksOf_27 : decode cX3_masksOf 27 = .ok (.iload_n 3, 1) := by decide +kernel
theorem dX3_masksOf_28 : decode cX3_masksOf 28 = .ok (.ishl, 1) := by decide +kernel
theorem dX3_masksOf_29 : decode cX3_masksOf 29 = .ok (.ior, 1) := by decide +kernel
theorem dX3_masksOf_30 : decode cX3_masksOf 30 = .ok (.istore_n 1, 1) := by decide +kernel
theorem dX3_masksOf_31 : decode cX3_masksOf 31 = .ok (.iload 4, 2) := by decide +kernel
theorem dX3_masksOf_33 : decode cX3_masksOf 33 = .ok (.iconst 1, 1) := by decide +kernel
theorem dX3_masksOf_34 : decode cX3_masksOf 34 = .ok (.if_icmp .le 12, 3) := by decide +kernel
theorem dX3_masksOf_37 : decode cX3_masksOf 37 = .ok (.iload_n 1, 1) := by decide +kernel
theorem dX3_masksOf_38 : decode cX3_masksOf 38 = .ok (.iconst 1, 1) := by decide +kernel
theorem dX3_masksOf_39 : decode cX3_masksOf 39 = .ok (.iload_n 3, 1) := by decide +kernel
theorem dX3_masksOf_40 : decode cX3_masksOf 40 = .ok (.bipush 16, 2) := by decide +kernel
theorem dX3_masksOf_42 : decode cX3_masksOf 42 = .ok (.iadd, 1) := by decide +kernel
theorem dX3_masksOf_43 : decode cX3_masksOf 43 = .ok (.ishl, 1) := by decide +kernel
theorem dX3_masksOf_44 : decode cX3_masksOf 44 = .ok (.ior, 1) := by decide +kernel
theorem dX3_masksOf_45 : decode cX3_masksOf 45 = .ok (.istore_n 1, 1) := by decide +kernel
theorem dX3_masksOf_46 : decode cX3_masksOf 46 = .ok (.iinc 3 (-1), 3) := by decide +kernel
theorem dX3_masksOf_49 : decode cX3_masksOf 49 = .ok (.goto (-42), 3) := by decide +kernel
theorem dX3_masksOf_52 : decode cX3_masksOf 52 = .ok (.iload_n 1, 1) := by decide +kernel
theorem dX3_masksOf_53 : decode cX3_masksOf 53 = .ok (.ireturn, 1) := by decide +kernel
theorem dX3_packed_0 : decode cX3_packed 0 = .ok (.iload_n 2, 1) := by decide +kernel
theorem dX3_packed_1 : decode cX3_packed 1 = .ok (.i2l, 1) := by decide +kernel
theorem dX3_packed_2 : decode cX3_packed 2 = .ok (.ldc2_w 93, 3) := by decide +kernel
theorem dX3_packed_5 : decode cX3_packed 5 = .ok (.land, 1) := by decide +kernel
theorem dX3_packed_6 : decode cX3_packed 6 = .ok (.iload_n 0, 1) := by decide +kernel
theorem dX3_packed_7 : decode cX3_packed 7 = .ok (.i2l, 1) := by decide +kernel
theorem dX3_packed_8 : decode cX3_packed 8 = .ok (.bipush 32, 2) := by decide +kernel
theorem dX3_packed_10 : decode cX3_packed 10 = .ok (.lshl, 1) := by decide +kernel
theorem dX3_packed_11 : decode cX3_packed 11 = .ok (.lor, 1) := by decide +kernel
theorem dX3_packed_12 : decode cX3_packed 12 = .ok (.iload_n 1, 1) := by decide +kernel
theorem dX3_packed_13 : decode cX3_packed 13 = .ok (.i2l, 1) := by decide +kernel
theorem dX3_packed_14 : decode cX3_packed 14 = .ok (.bipush 35, 2) := by decide +kernel
theorem dX3_packed_16 : decode cX3_packed 16 = .ok (.lshl, 1) := by decide +kernel
theorem dX3_packed_17 : decode cX3_packed 17 = .ok (.lor, 1) := by decide +kernel
theorem dX3_packed_18 : decode cX3_packed 18 = .ok (.lreturn, 1) := by decide +kernel
theorem dX3_add_0 : decode cX3_add 0 = .ok (.aload_n 0, 1) := by decide +kernel
theorem dX3_add_1 : decode cX3_add 1 = .ok (.getfield 32, 3) := by decide +kernel
theorem dX3_add_4 : decode cX3_add 4 = .ok (.bipush 40, 2) := by decide +kernel
theorem dX3_add_6 : decode cX3_add 6 = .ok (.if_icmp .lt 6, 3) := by decide +kernel
theorem dX3_add_9 : decode cX3_add 9 = .ok (.bipush (-2), 2) := by decide +kernel
theorem dX3_add_11 : decode cX3_add 11 = .ok (.ireturn, 1) := by decide +kernel
theorem dX3_add_12 : decode cX3_add 12 = .ok (.aload_n 0, 1) := by decide +kernel
theorem dX3_add_13 : decode cX3_add 13 = .ok (.getfield 9, 3) := by decide +kernel
theorem dX3_add_16 : decode cX3_add 16 = .ok (.aload_n 0, 1) := by decide +kernel
theorem dX3_add_17 : decode cX3_add 17 = .ok (.getfield 32, 3) := by decide +kernel
theorem dX3_add_20 : decode cX3_add 20 = .ok (.iload_n 1, 1) := by decide +kernel
theorem dX3_add_21 : decode cX3_add 21 = .ok (.iload_n 2, 1) := by decide +kernel
theorem dX3_add_22 : decode cX3_add 22 = .ok (.iload_n 3, 1) := by decide +kernel
theorem dX3_add_23 : decode cX3_add 23 = .ok (.invokestatic 35, 3) := by decide +kernel
theorem dX3_add_26 : decode cX3_add 26 = .ok (.invokestatic 39, 3) := by decide +kernel
theorem dX3_add_29 : decode cX3_add 29 = .ok (.lastore, 1) := by decide +kernel
theorem dX3_add_30 : decode cX3_add 30 = .ok (.aload_n 0, 1) := by decide +kernel
theorem dX3_add_31 : decode cX3_add 31 = .ok (.dup, 1) := by decide +kernel
theorem dX3_add_32 : decode cX3_add 32 = .ok (.getfield 32, 3) := by decide +kernel
theorem dX3_add_35 : decode cX3_add 35 = .ok (.iconst 1, 1) := by decide +kernel
theorem dX3_add_36 : decode cX3_add 36 = .ok (.iadd, 1) := by decide +kernel
theorem dX3_add_37 : decode cX3_add 37 = .ok (.putfield 32, 3) := by decide +kernel
theorem dX3_add_40 : decode cX3_add 40 = .ok (.aload_n 0, 1) := by decide +kernel
theorem dX3_add_41 : decode cX3_add 41 = .ok (.getfield 32, 3) := by decide +kernel
theorem dX3_add_44 : decode cX3_add 44 = .ok (.iconst 1, 1) := by decide +kernel
theorem dX3_add_45 : decode cX3_add 45 = .ok (.isub, 1) := by decide +kernel
theorem dX3_add_46 : decode cX3_add 46 = .ok (.ireturn, 1) := by decide +kernel
theorem dX11_call_0 : decode cX11_call 0 = .ok (.iload_n 1, 1) := by decide +kernel
theorem dX11_call_1 : decode cX11_call 1 = .ok (.invokestatic 265, 3) := by decide +kernel
theorem dX11_call_4 : decode cX11_call 4 = .ok (.ifCond .eq 21, 3) := by decide +kernel
theorem dX11_call_7 : decode cX11_call 7 = .ok (.iload_n 2, 1) := by decide +kernel
theorem dX11_call_8 : decode cX11_call 8 = .ok (.invokestatic 265, 3) := by decide +kernel
theorem dX11_call_11 : decode cX11_call 11 = .ok (.ifCond .eq 14, 3) := by decide +kernel
theorem dX11_call_14 : decode cX11_call 14 = .ok (.iload_n 3, 1) := by decide +kernel
theorem dX11_call_15 : decode cX11_call 15 = .ok (.ifCond .lt 10, 3) := by decide +kernel
theorem dX11_call_18 : decode cX11_call 18 = .ok (.iload_n 3, 1) := by decide +kernel
theorem dX11_call_19 : decode cX11_call 19 = .ok (.ldc_w 268, 3) := by decide +kernel
theorem dX11_call_22 : decode cX11_call 22 = .ok (.if_icmp .lt 5, 3) := by decide +kernel
theorem dX11_call_25 : decode cX11_call 25 = .ok (.iconst (-1), 1) := by decide +kernel
theorem dX11_call_26 : decode cX11_call 26 = .ok (.ireturn, 1) := by decide +kernel
theorem dX11_call_27 : decode cX11_call 27 = .ok (.aload_n 0, 1) := by decide +kernel
theorem dX11_call_28 : decode cX11_call 28 = .ok (.getfield 65, 3) := by decide +kernel
theorem dX11_call_31 : decode cX11_call 31 = .ok (.getfield 269, 3) := by decide +kernel
theorem dX11_call_34 : decode cX11_call 34 = .ok (.bipush 40, 2) := by decide +kernel
theorem dX11_call_36 : decode cX11_call 36 = .ok (.if_icmp .lt 8, 3) := by decide +kernel
theorem dX11_call_39 : decode cX11_call 39 = .ok (.bipush (-2), 2) := by decide +kernel
theorem dX11_call_41 : decode cX11_call 41 = .ok (.goto 13, 3) := by decide +kernel
theorem dX11_call_44 : decode cX11_call 44 = .ok (.aload_n 0, 1) := by decide +kernel
theorem dX11_call_45 : decode cX11_call 45 = .ok (.getfield 65, 3) := by decide +kernel
theorem dX11_call_48 : decode cX11_call 48 = .ok (.iload_n 1, 1) := by decide +kernel
theorem dX11_call_49 : decode cX11_call 49 = .ok (.iload_n 2, 1) := by decide +kernel
theorem dX11_call_50 : decode cX11_call 50 = .ok (.iload_n 3, 1) := by decide +kernel
theorem dX11_call_51 : decode cX11_call 51 = .ok (.invokevirtual 270, 3) := by decide +kernel
theorem dX11_call_54 : decode cX11_call 54 = .ok (.ireturn, 1) := by decide +kernel
theorem dX3_removeAll_0 : decode cX3_removeAll 0 = .ok (.aload_n 0, 1) := by decide +kernel
theorem dX3_removeAll_1 : decode cX3_removeAll 1 = .ok (.getfield 32, 3) := by decide +kernel
theorem dX3_removeAll_4 : decode cX3_removeAll 4 = .ok (.istore_n 1, 1) := by decide +kernel
theorem dX3_removeAll_5 : decode cX3_removeAll 5 = .ok (.aload_n 0, 1) := by decide +kernel
theorem dX3_removeAll_6 : decode cX3_removeAll 6 = .ok (.iconst 0, 1) := by decide +kernel
theorem dX3_removeAll_7 : decode cX3_removeAll 7 = .ok (.putfield 32, 3) := by decide +kernel
theorem dX3_removeAll_10 : decode cX3_removeAll 10 = .ok (.iload_n 1, 1) := by decide +kernel
theorem dX3_removeAll_11 : decode cX3_removeAll 11 = .ok (.ireturn, 1) := by decide +kernel
theorem dX11_clear_0 : decode cX11_clear 0 = .ok (.aload_n 0, 1) := by decide +kernel
theorem dX11_clear_1 : decode cX11_clear 1 = .ok (.getfield 65, 3) := by decide +kernel
theorem dX11_clear_4 : decode cX11_clear 4 = .ok (.invokevirtual 274, 3) := by decide +kernel
theorem dX11_clear_7 : decode cX11_clear 7 = .ok (.ireturn, 1) := by decide +kernel
theorem dX3_keep_0 : decode cX3_keep 0 = .ok (.lload_n 1, 1) := by decide +kernel
theorem dX3_keep_1 : decode cX3_keep 1 = .ok (.ldc2_w 78, 3) := by decide +kernel
theorem dX3_keep_4 : decode cX3_keep 4 = .ok (.lmul, 1) := by decide +kernel
theorem dX3_keep_5 : decode cX3_keep 5 = .ok (.bipush 53, 2) := by decide +kernel
theorem dX3_keep_7 : decode cX3_keep 7 = .ok (.lushr, 1) := by decide +kernel
theorem dX3_keep_8 : decode cX3_keep 8 = .ok (.l2i, 1) := by decide +kernel
theorem dX3_keep_9 : decode cX3_keep 9 = .ok (.istore_n 3, 1) := by decide +kernel
theorem dX3_keep_10 : decode cX3_keep 10 = .ok (.iconst 0, 1) := by decide +kernel
theorem dX3_keep_11 : decode cX3_keep 11 = .ok (.istore 4, 2) := by decide +kernel
theorem dX3_keep_13 : decode cX3_keep 13 = .ok (.iload 4, 2) := by decide +kernel
theorem dX3_keep_15 : decode cX3_keep 15 = .ok (.sipush 2048, 3) := by decide +kernel
