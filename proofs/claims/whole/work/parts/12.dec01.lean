theorem dJ7_fill_d0a16_0 : decode cJ7_fill_d0a16 0 = .ok (.iconst 0, 1) := by decide +kernel
theorem dJ7_fill_d0a16_1 : decode cJ7_fill_d0a16 1 = .ok (.istore_n 3, 1) := by decide +kernel
theorem dJ7_fill_d0a16_2 : decode cJ7_fill_d0a16 2 = .ok (.aload_n 0, 1) := by decide +kernel
theorem dJ7_fill_d0a16_3 : decode cJ7_fill_d0a16 3 = .ok (.arraylength, 1) := by decide +kernel
theorem dJ7_fill_d0a16_4 : decode cJ7_fill_d0a16 4 = .ok (.istore 4, 2) := by decide +kernel
theorem dJ7_fill_d0a16_6 : decode cJ7_fill_d0a16 6 = .ok (.iload_n 3, 1) := by decide +kernel
theorem dJ7_fill_d0a16_7 : decode cJ7_fill_d0a16 7 = .ok (.iload 4, 2) := by decide +kernel
theorem dJ7_fill_d0a16_9 : decode cJ7_fill_d0a16 9 = .ok (.if_icmp .ge 13, 3) := by decide +kernel
theorem dJ7_fill_d0a16_12 : decode cJ7_fill_d0a16 12 = .ok (.aload_n 0, 1) := by decide +kernel
theorem dJ7_fill_d0a16_13 : decode cJ7_fill_d0a16 13 = .ok (.iload_n 3, 1) := by decide +kernel
theorem dJ7_fill_d0a16_14 : decode cJ7_fill_d0a16 14 = .ok (.lload_n 1, 1) := by decide +kernel
theorem dJ7_fill_d0a16_15 : decode cJ7_fill_d0a16 15 = .ok (.lastore, 1) := by decide +kernel
theorem dJ7_fill_d0a16_16 : decode cJ7_fill_d0a16 16 = .ok (.iinc 3 1, 3) := by decide +kernel
theorem dJ7_fill_d0a16_19 : decode cJ7_fill_d0a16 19 = .ok (.goto (-13), 3) := by decide +kernel
theorem dJ7_fill_d0a16_22 : decode cJ7_fill_d0a16 22 = .ok (.return_, 1) := by decide +kernel
theorem dJ7_fill_53178_0 : decode cJ7_fill_53178 0 = .ok (.iconst 0, 1) := by decide +kernel
theorem dJ7_fill_53178_1 : decode cJ7_fill_53178 1 = .ok (.istore_n 2, 1) := by decide +kernel
theorem dJ7_fill_53178_2 : decode cJ7_fill_53178 2 = .ok (.aload_n 0, 1) := by decide +kernel
theorem dJ7_fill_53178_3 : decode cJ7_fill_53178 3 = .ok (.arraylength, 1) := by decide +kernel
theorem dJ7_fill_53178_4 : decode cJ7_fill_53178 4 = .ok (.istore_n 3, 1) := by decide +kernel
theorem dJ7_fill_53178_5 : decode cJ7_fill_53178 5 = .ok (.iload_n 2, 1) := by decide +kernel
theorem dJ7_fill_53178_6 : decode cJ7_fill_53178 6 = .ok (.iload_n 3, 1) := by decide +kernel
theorem dJ7_fill_53178_7 : decode cJ7_fill_53178 7 = .ok (.if_icmp .ge 13, 3) := by decide +kernel
theorem dJ7_fill_53178_10 : decode cJ7_fill_53178 10 = .ok (.aload_n 0, 1) := by decide +kernel
theorem dJ7_fill_53178_11 : decode cJ7_fill_53178 11 = .ok (.iload_n 2, 1) := by decide +kernel
theorem dJ7_fill_53178_12 : decode cJ7_fill_53178 12 = .ok (.iload_n 1, 1) := by decide +kernel
theorem dJ7_fill_53178_13 : decode cJ7_fill_53178 13 = .ok (.iastore, 1) := by decide +kernel
theorem dJ7_fill_53178_14 : decode cJ7_fill_53178 14 = .ok (.iinc 2 1, 3) := by decide +kernel
theorem dJ7_fill_53178_17 : decode cJ7_fill_53178 17 = .ok (.goto (-12), 3) := by decide +kernel
theorem dJ7_fill_53178_20 : decode cJ7_fill_53178 20 = .ok (.return_, 1) := by decide +kernel
theorem dJ9_floorDiv_f86c9_0 : decode cJ9_floorDiv_f86c9 0 = .ok (.lload_n 0, 1) := by decide +kernel
theorem dJ9_floorDiv_f86c9_1 : decode cJ9_floorDiv_f86c9 1 = .ok (.lload_n 2, 1) := by decide +kernel
theorem dJ9_floorDiv_f86c9_2 : decode cJ9_floorDiv_f86c9 2 = .ok (.ldiv, 1) := by decide +kernel
theorem dJ9_floorDiv_f86c9_3 : decode cJ9_floorDiv_f86c9 3 = .ok (.lstore 4, 2) := by decide +kernel
theorem dJ9_floorDiv_f86c9_5 : decode cJ9_floorDiv_f86c9 5 = .ok (.lload_n 0, 1) := by decide +kernel
theorem dJ9_floorDiv_f86c9_6 : decode cJ9_floorDiv_f86c9 6 = .ok (.lload_n 2, 1) := by decide +kernel
theorem dJ9_floorDiv_f86c9_7 : decode cJ9_floorDiv_f86c9 7 = .ok (.lxor, 1) := by decide +kernel
theorem dJ9_floorDiv_f86c9_8 : decode cJ9_floorDiv_f86c9 8 = .ok (.lconst 0, 1) := by decide +kernel
theorem dJ9_floorDiv_f86c9_9 : decode cJ9_floorDiv_f86c9 9 = .ok (.lcmp, 1) := by decide +kernel
theorem dJ9_floorDiv_f86c9_10 : decode cJ9_floorDiv_f86c9 10 = .ok (.ifCond .ge 17, 3) := by decide +kernel
theorem dJ9_floorDiv_f86c9_13 : decode cJ9_floorDiv_f86c9 13 = .ok (.lload 4, 2) := by decide +kernel
theorem dJ9_floorDiv_f86c9_15 : decode cJ9_floorDiv_f86c9 15 = .ok (.lload_n 2, 1) := by decide +kernel
theorem dJ9_floorDiv_f86c9_16 : decode cJ9_floorDiv_f86c9 16 = .ok (.lmul, 1) := by decide +kernel
theorem dJ9_floorDiv_f86c9_17 : decode cJ9_floorDiv_f86c9 17 = .ok (.lload_n 0, 1) := by decide +kernel
theorem dJ9_floorDiv_f86c9_18 : decode cJ9_floorDiv_f86c9 18 = .ok (.lcmp, 1) := by decide +kernel
theorem dJ9_floorDiv_f86c9_19 : decode cJ9_floorDiv_f86c9 19 = .ok (.ifCond .eq 8, 3) := by decide +kernel
theorem dJ9_floorDiv_f86c9_22 : decode cJ9_floorDiv_f86c9 22 = .ok (.lload 4, 2) := by decide +kernel
theorem dJ9_floorDiv_f86c9_24 : decode cJ9_floorDiv_f86c9 24 = .ok (.lconst 1, 1) := by decide +kernel
theorem dJ9_floorDiv_f86c9_25 : decode cJ9_floorDiv_f86c9 25 = .ok (.lsub, 1) := by decide +kernel
theorem dJ9_floorDiv_f86c9_26 : decode cJ9_floorDiv_f86c9 26 = .ok (.lreturn, 1) := by decide +kernel
theorem dJ9_floorDiv_f86c9_27 : decode cJ9_floorDiv_f86c9 27 = .ok (.lload 4, 2) := by decide +kernel
theorem dJ9_floorDiv_f86c9_29 : decode cJ9_floorDiv_f86c9 29 = .ok (.lreturn, 1) := by decide +kernel
theorem dJ9_floorMod_f86c9_0 : decode cJ9_floorMod_f86c9 0 = .ok (.lload_n 0, 1) := by decide +kernel
theorem dJ9_floorMod_f86c9_1 : decode cJ9_floorMod_f86c9 1 = .ok (.lload_n 2, 1) := by decide +kernel
theorem dJ9_floorMod_f86c9_2 : decode cJ9_floorMod_f86c9 2 = .ok (.lrem, 1) := by decide +kernel
theorem dJ9_floorMod_f86c9_3 : decode cJ9_floorMod_f86c9 3 = .ok (.lstore 4, 2) := by decide +kernel
theorem dJ9_floorMod_f86c9_5 : decode cJ9_floorMod_f86c9 5 = .ok (.lload_n 0, 1) := by decide +kernel
theorem dJ9_floorMod_f86c9_6 : decode cJ9_floorMod_f86c9 6 = .ok (.lload_n 2, 1) := by decide +kernel
theorem dJ9_floorMod_f86c9_7 : decode cJ9_floorMod_f86c9 7 = .ok (.lxor, 1) := by decide +kernel
theorem dJ9_floorMod_f86c9_8 : decode cJ9_floorMod_f86c9 8 = .ok (.lconst 0, 1) := by decide +kernel
theorem dJ9_floorMod_f86c9_9 : decode cJ9_floorMod_f86c9 9 = .ok (.lcmp, 1) := by decide +kernel
theorem dJ9_floorMod_f86c9_10 : decode cJ9_floorMod_f86c9 10 = .ok (.ifCond .ge 15, 3) := by decide +kernel
theorem dJ9_floorMod_f86c9_13 : decode cJ9_floorMod_f86c9 13 = .ok (.lload 4, 2) := by decide +kernel
theorem dJ9_floorMod_f86c9_15 : decode cJ9_floorMod_f86c9 15 = .ok (.lconst 0, 1) := by decide +kernel
theorem dJ9_floorMod_f86c9_16 : decode cJ9_floorMod_f86c9 16 = .ok (.lcmp, 1) := by decide +kernel
theorem dJ9_floorMod_f86c9_17 : decode cJ9_floorMod_f86c9 17 = .ok (.ifCond .eq 8, 3) := by decide +kernel
theorem dJ9_floorMod_f86c9_20 : decode cJ9_floorMod_f86c9 20 = .ok (.lload 4, 2) := by decide +kernel
theorem dJ9_floorMod_f86c9_22 : decode cJ9_floorMod_f86c9 22 = .ok (.lload_n 2, 1) := by decide +kernel
theorem dJ9_floorMod_f86c9_23 : decode cJ9_floorMod_f86c9 23 = .ok (.ladd, 1) := by decide +kernel
theorem dJ9_floorMod_f86c9_24 : decode cJ9_floorMod_f86c9 24 = .ok (.lreturn, 1) := by decide +kernel
theorem dJ9_floorMod_f86c9_25 : decode cJ9_floorMod_f86c9 25 = .ok (.lload 4, 2) := by decide +kernel
theorem dJ9_floorMod_f86c9_27 : decode cJ9_floorMod_f86c9 27 = .ok (.lreturn, 1) := by decide +kernel
theorem dJ9_abs_0f7a4_0 : decode cJ9_abs_0f7a4 0 = .ok (.iload_n 0, 1) := by decide +kernel
theorem dJ9_abs_0f7a4_1 : decode cJ9_abs_0f7a4 1 = .ok (.ifCond .ge 8, 3) := by decide +kernel
theorem dJ9_abs_0f7a4_4 : decode cJ9_abs_0f7a4 4 = .ok (.iload_n 0, 1) := by decide +kernel
theorem dJ9_abs_0f7a4_5 : decode cJ9_abs_0f7a4 5 = .ok (.ineg, 1) := by decide +kernel
theorem dJ9_abs_0f7a4_6 : decode cJ9_abs_0f7a4 6 = .ok (.goto 4, 3) := by decide +kernel
theorem dJ9_abs_0f7a4_9 : decode cJ9_abs_0f7a4 9 = .ok (.iload_n 0, 1) := by decide +kernel
theorem dJ9_abs_0f7a4_10 : decode cJ9_abs_0f7a4 10 = .ok (.ireturn, 1) := by decide +kernel
theorem dJ9_abs_067f4_0 : decode cJ9_abs_067f4 0 = .ok (.lload_n 0, 1) := by decide +kernel
theorem dJ9_abs_067f4_1 : decode cJ9_abs_067f4 1 = .ok (.lconst 0, 1) := by decide +kernel
theorem dJ9_abs_067f4_2 : decode cJ9_abs_067f4 2 = .ok (.lcmp, 1) := by decide +kernel
theorem dJ9_abs_067f4_3 : decode cJ9_abs_067f4 3 = .ok (.ifCond .ge 8, 3) := by decide +kernel
theorem dJ9_abs_067f4_6 : decode cJ9_abs_067f4 6 = .ok (.lload_n 0, 1) := by decide +kernel
theorem dJ9_abs_067f4_7 : decode cJ9_abs_067f4 7 = .ok (.lneg, 1) := by decide +kernel
theorem dJ9_abs_067f4_8 : decode cJ9_abs_067f4 8 = .ok (.goto 4, 3) := by decide +kernel
theorem dJ9_abs_067f4_11 : decode cJ9_abs_067f4 11 = .ok (.lload_n 0, 1) := by decide +kernel
theorem dJ9_abs_067f4_12 : decode cJ9_abs_067f4 12 = .ok (.lreturn, 1) := by decide +kernel
theorem dJ9_max_f86c9_0 : decode cJ9_max_f86c9 0 = .ok (.lload_n 0, 1) := by decide +kernel
theorem dJ9_max_f86c9_1 : decode cJ9_max_f86c9 1 = .ok (.lload_n 2, 1) := by decide +kernel
theorem dJ9_max_f86c9_2 : decode cJ9_max_f86c9 2 = .ok (.lcmp, 1) := by decide +kernel
theorem dJ9_max_f86c9_3 : decode cJ9_max_f86c9 3 = .ok (.ifCond .lt 7, 3) := by decide +kernel
theorem dJ9_max_f86c9_6 : decode cJ9_max_f86c9 6 = .ok (.lload_n 0, 1) := by decide +kernel
theorem dJ9_max_f86c9_7 : decode cJ9_max_f86c9 7 = .ok (.goto 4, 3) := by decide +kernel
theorem dJ9_max_f86c9_10 : decode cJ9_max_f86c9 10 = .ok (.lload_n 2, 1) := by decide +kernel
theorem dJ9_max_f86c9_11 : decode cJ9_max_f86c9 11 = .ok (.lreturn, 1) := by decide +kernel
theorem dJ9_min_f86c9_0 : decode cJ9_min_f86c9 0 = .ok (.lload_n 0, 1) := by decide +kernel
theorem dJ9_min_f86c9_1 : decode cJ9_min_f86c9 1 = .ok (.lload_n 2, 1) := by decide +kernel
theorem dJ9_min_f86c9_2 : decode cJ9_min_f86c9 2 = .ok (.lcmp, 1) := by decide +kernel
theorem dJ9_min_f86c9_3 : decode cJ9_min_f86c9 3 = .ok (.ifCond .gt 7, 3) := by decide +kernel
theorem dJ9_min_f86c9_6 : decode cJ9_min_f86c9 6 = .ok (.lload_n 0, 1) := by decide +kernel
theorem dJ9_min_f86c9_7 : decode cJ9_min_f86c9 7 = .ok (.goto 4, 3) := by decide +kernel
theorem dJ9_min_f86c9_10 : decode cJ9_min_f86c9 10 = .ok (.lload_n 2, 1) := by decide +kernel
theorem dJ9_min_f86c9_11 : decode cJ9_min_f86c9 11 = .ok (.lreturn, 1) := by decide +kernel
theorem dX0_put_0 : decode cX0_put 0 = .ok (.iload_n 1, 1) := by decide +kernel
theorem dX0_put_1 : decode cX0_put 1 = .ok (.istore 4, 2) := by decide +kernel
theorem dX0_put_3 : decode cX0_put 3 = .ok (.iconst 2, 1) := by decide +kernel
theorem dX0_put_4 : decode cX0_put 4 = .ok (.istore 5, 2) := by decide +kernel
theorem dX0_put_6 : decode cX0_put 6 = .ok (.iload 5, 2) := by decide +kernel
theorem dX0_put_8 : decode cX0_put 8 = .ok (.ifCond .lt 41, 3) := by decide +kernel
theorem dX0_put_11 : decode cX0_put 11 = .ok (.aload_n 0, 1) := by decide +kernel
theorem dX0_put_12 : decode cX0_put 12 = .ok (.getfield 9, 3) := by decide +kernel
theorem dX0_put_15 : decode cX0_put 15 = .ok (.iload 5, 2) := by decide +kernel
theorem dX0_put_17 : decode cX0_put 17 = .ok (.iload 5, 2) := by decide +kernel
theorem dX0_put_19 : decode cX0_put 19 = .ok (.iload_n 2, 1) := by decide +kernel
theorem dX0_put_20 : decode cX0_put 20 = .ok (.if_icmp .ge 14, 3) := by decide +kernel
theorem dX0_put_23 : decode cX0_put 23 = .ok (.iload 4, 2) := by decide +kernel
theorem dX0_put_25 : decode cX0_put 25 = .ok (.bipush 41, 2) := by decide +kernel
theorem dX0_put_27 : decode cX0_put 27 = .ok (.irem, 1) := by decide +kernel
theorem dX0_put_28 : decode cX0_put 28 = .ok (.bipush 20, 2) := by decide +kernel
theorem dX0_put_30 : decode cX0_put 30 = .ok (.isub, 1) := by decide +kernel
theorem dX0_put_31 : decode cX0_put 31 = .ok (.goto 4, 3) := by decide +kernel
theorem dX0_put_34 : decode cX0_put 34 = .ok (.iconst 0, 1) := by decide +kernel
theorem dX0_put_35 : decode cX0_put 35 = .ok (.iastore, 1) := by decide +kernel
theorem dX0_put_36 : decode cX0_put 36 = .ok (.iload 4, 2) := by decide +kernel
theorem dX0_put_38 : decode cX0_put 38 = .ok (.bipush 41, 2) := by decide +kernel
theorem dX0_put_40 : decode cX0_put 40 = .ok (.idiv, 1) := by decide +kernel
theorem dX0_put_41 : decode cX0_put 41 = .ok (.istore 4, 2) := by decide +kernel
theorem dX0_put_43 : decode cX0_put 43 = .ok (.iinc 5 (-1), 3) := by decide +kernel
theorem dX0_put_46 : decode cX0_put 46 = .ok (.goto (-40), 3) := by decide +kernel
theorem dX0_put_49 : decode cX0_put 49 = .ok (.aload_n 0, 1) := by decide +kernel
theorem dX0_put_50 : decode cX0_put 50 = .ok (.iload_n 3, 1) := by decide +kernel
theorem dX0_put_51 : decode cX0_put 51 = .ok (.putfield 15, 3) := by decide +kernel
theorem dX0_put_54 : decode cX0_put 54 = .ok (.return_, 1) := by decide +kernel
theorem dX0_putSame_0 : decode cX0_putSame 0 = .ok (.iconst 0, 1) := by decide +kernel
theorem dX0_putSame_1 : decode cX0_putSame 1 = .ok (.istore_n 2, 1) := by decide +kernel
theorem dX0_putSame_2 : decode cX0_putSame 2 = .ok (.iload_n 2, 1) := by decide +kernel
theorem dX0_putSame_3 : decode cX0_putSame 3 = .ok (.iconst 3, 1) := by decide +kernel
theorem dX0_putSame_4 : decode cX0_putSame 4 = .ok (.if_icmp .ge 25, 3) := by decide +kernel
theorem dX0_putSame_7 : decode cX0_putSame 7 = .ok (.aload_n 0, 1) := by decide +kernel
theorem dX0_putSame_8 : decode cX0_putSame 8 = .ok (.getfield 9, 3) := by decide +kernel
theorem dX0_putSame_11 : decode cX0_putSame 11 = .ok (.iload_n 2, 1) := by decide +kernel
theorem dX0_putSame_12 : decode cX0_putSame 12 = .ok (.iload_n 2, 1) := by decide +kernel
theorem dX0_putSame_13 : decode cX0_putSame 13 = .ok (.iload_n 1, 1) := by decide +kernel
theorem dX0_putSame_14 : decode cX0_putSame 14 = .ok (.if_icmp .ne 7, 3) := by decide +kernel
theorem dX0_putSame_17 : decode cX0_putSame 17 = .ok (.iconst 1, 1) := by decide +kernel
theorem dX0_putSame_18 : decode cX0_putSame 18 = .ok (.goto 4, 3) := by decide +kernel
theorem dX0_putSame_21 : decode cX0_putSame 21 = .ok (.iconst 0, 1) := by decide +kernel
theorem dX0_putSame_22 : decode cX0_putSame 22 = .ok (.iastore, 1) := by decide +kernel
theorem dX0_putSame_23 : decode cX0_putSame 23 = .ok (.iinc 2 1, 3) := by decide +kernel
theorem dX0_putSame_26 : decode cX0_putSame 26 = .ok (.goto (-24), 3) := by decide +kernel
theorem dX0_putSame_29 : decode cX0_putSame 29 = .ok (.aload_n 0, 1) := by decide +kernel
theorem dX0_putSame_30 : decode cX0_putSame 30 = .ok (.iconst 0, 1) := by decide +kernel
theorem dX0_putSame_31 : decode cX0_putSame 31 = .ok (.putfield 15, 3) := by decide +kernel
theorem dX0_putSame_34 : decode cX0_putSame 34 = .ok (.return_, 1) := by decide +kernel
theorem dX0_valueAt_0 : decode cX0_valueAt 0 = .ok (.aload_n 0, 1) := by decide +kernel
theorem dX0_valueAt_1 : decode cX0_valueAt 1 = .ok (.getfield 9, 3) := by decide +kernel
theorem dX0_valueAt_4 : decode cX0_valueAt 4 = .ok (.iconst 0, 1) := by decide +kernel
theorem dX0_valueAt_5 : decode cX0_valueAt 5 = .ok (.iaload, 1) := by decide +kernel
theorem dX0_valueAt_6 : decode cX0_valueAt 6 = .ok (.i2l, 1) := by decide +kernel
theorem dX0_valueAt_7 : decode cX0_valueAt 7 = .ok (.aload_n 1, 1) := by decide +kernel
theorem dX0_valueAt_8 : decode cX0_valueAt 8 = .ok (.iconst 0, 1) := by decide +kernel
theorem dX0_valueAt_9 : decode cX0_valueAt 9 = .ok (.laload, 1) := by decide +kernel
theorem dX0_valueAt_10 : decode cX0_valueAt 10 = .ok (.lmul, 1) := by decide +kernel
theorem dX0_valueAt_11 : decode cX0_valueAt 11 = .ok (.aload_n 0, 1) := by decide +kernel
theorem dX0_valueAt_12 : decode cX0_valueAt 12 = .ok (.getfield 9, 3) := by decide +kernel
theorem dX0_valueAt_15 : decode cX0_valueAt 15 = .ok (.iconst 1, 1) := by decide +kernel
theorem dX0_valueAt_16 : decode cX0_valueAt 16 = .ok (.iaload, 1) := by decide +kernel
theorem dX0_valueAt_17 : decode cX0_valueAt 17 = .ok (.i2l, 1) := by decide +kernel
theorem dX0_valueAt_18 : decode cX0_valueAt 18 = .ok (.aload_n 1, 1) := by decide +kernel
theorem dX0_valueAt_19 : decode cX0_valueAt 19 = .ok (.iconst 1, 1) := by decide +kernel
theorem dX0_valueAt_20 : decode cX0_valueAt 20 = .ok (.laload, 1) := by decide +kernel
theorem dX0_valueAt_21 : decode cX0_valueAt 21 = .ok (.lmul, 1) := by decide +kernel
theorem dX0_valueAt_22 : decode cX0_valueAt 22 = .ok (.ladd, 1) := by decide +kernel
theorem dX0_valueAt_23 : decode cX0_valueAt 23 = .ok (.aload_n 0, 1) := by decide +kernel
theorem dX0_valueAt_24 : decode cX0_valueAt 24 = .ok (.getfield 9, 3) := by decide +kernel
theorem dX0_valueAt_27 : decode cX0_valueAt 27 = .ok (.iconst 2, 1) := by decide +kernel
theorem dX0_valueAt_28 : decode cX0_valueAt 28 = .ok (.iaload, 1) := by decide +kernel
theorem dX0_valueAt_29 : decode cX0_valueAt 29 = .ok (.i2l, 1) := by decide +kernel
theorem dX0_valueAt_30 : decode cX0_valueAt 30 = .ok (.aload_n 1, 1) := by decide +kernel
theorem dX0_valueAt_31 : decode cX0_valueAt 31 = .ok (.iconst 2, 1) := by decide +kernel
theorem dX0_valueAt_32 : decode cX0_valueAt 32 = .ok (.laload, 1) := by decide +kernel
theorem dX0_valueAt_33 : decode cX0_valueAt 33 = .ok (.lmul, 1) := by decide +kernel
theorem dX0_valueAt_34 : decode cX0_valueAt 34 = .ok (.ladd, 1) := by decide +kernel
theorem dX0_valueAt_35 : decode cX0_valueAt 35 = .ok (.aload_n 0, 1) := by decide +kernel
theorem dX0_valueAt_36 : decode cX0_valueAt 36 = .ok (.getfield 15, 3) := by decide +kernel
theorem dX0_valueAt_39 : decode cX0_valueAt 39 = .ok (.i2l, 1) := by decide +kernel
theorem dX0_valueAt_40 : decode cX0_valueAt 40 = .ok (.ladd, 1) := by decide +kernel
theorem dX0_valueAt_41 : decode cX0_valueAt 41 = .ok (.lreturn, 1) := by decide +kernel
theorem dX2_end_0 : decode cX2_end 0 = .ok (.aload_n 0, 1) := by decide +kernel
theorem dX2_end_1 : decode cX2_end 1 = .ok (.getfield 9, 3) := by decide +kernel
theorem dX2_end_4 : decode cX2_end 4 = .ok (.iconst 2, 1) := by decide +kernel
theorem dX2_end_5 : decode cX2_end 5 = .ok (.iload_n 1, 1) := by decide +kernel
theorem dX2_end_6 : decode cX2_end 6 = .ok (.imul, 1) := by decide +kernel
theorem dX2_end_7 : decode cX2_end 7 = .ok (.iload_n 2, 1) := by decide +kernel
theorem dX2_end_8 : decode cX2_end 8 = .ok (.iadd, 1) := by decide +kernel
theorem dX2_end_9 : decode cX2_end 9 = .ok (.laload, 1) := by decide +kernel
theorem dX2_end_10 : decode cX2_end 10 = .ok (.lreturn, 1) := by decide +kernel
theorem dX0_farthest_0 : decode cX0_farthest 0 = .ok (.aload_n 0, 1) := by decide +kernel
theorem dX0_farthest_1 : decode cX0_farthest 1 = .ok (.getfield 15, 3) := by decide +kernel
theorem dX0_farthest_4 : decode cX0_farthest 4 = .ok (.i2l, 1) := by decide +kernel
theorem dX0_farthest_5 : decode cX0_farthest 5 = .ok (.lstore_n 3, 1) := by decide +kernel
theorem dX0_farthest_6 : decode cX0_farthest 6 = .ok (.iconst 0, 1) := by decide +kernel
theorem dX0_farthest_7 : decode cX0_farthest 7 = .ok (.istore 5, 2) := by decide +kernel
theorem dX0_farthest_9 : decode cX0_farthest 9 = .ok (.iload 5, 2) := by decide +kernel
theorem dX0_farthest_11 : decode cX0_farthest 11 = .ok (.iconst 3, 1) := by decide +kernel
theorem dX0_farthest_12 : decode cX0_farthest 12 = .ok (.if_icmp .ge 71, 3) := by decide +kernel
theorem dX0_farthest_15 : decode cX0_farthest 15 = .ok (.aload_n 0, 1) := by decide +kernel
theorem dX0_farthest_16 : decode cX0_farthest 16 = .ok (.getfield 9, 3) := by decide +kernel
theorem dX0_farthest_19 : decode cX0_farthest 19 = .ok (.iload 5, 2) := by decide +kernel
theorem dX0_farthest_21 : decode cX0_farthest 21 = .ok (.iaload, 1) := by decide +kernel
theorem dX0_farthest_22 : decode cX0_farthest 22 = .ok (.ifCond .eq 55, 3) := by decide +kernel
theorem dX0_farthest_25 : decode cX0_farthest 25 = .ok (.aload_n 1, 1) := by decide +kernel
theorem dX0_farthest_26 : decode cX0_farthest 26 = .ok (.iload 5, 2) := by decide +kernel
theorem dX0_farthest_28 : decode cX0_farthest 28 = .ok (.aload_n 0, 1) := by decide +kernel
theorem dX0_farthest_29 : decode cX0_farthest 29 = .ok (.getfield 9, 3) := by decide +kernel
theorem dX0_farthest_32 : decode cX0_farthest 32 = .ok (.iload 5, 2) := by decide +kernel
theorem dX0_farthest_34 : decode cX0_farthest 34 = .ok (.iaload, 1) := by decide +kernel
theorem dX0_farthest_35 : decode cX0_farthest 35 = .ok (.ifCond .le 7, 3) := by decide +kernel
theorem dX0_farthest_38 : decode cX0_farthest 38 = .ok (.iload_n 2, 1) := by decide +kernel
theorem dX0_farthest_39 : decode cX0_farthest 39 = .ok (.goto 6, 3) := by decide +kernel
theorem dX0_farthest_42 : decode cX0_farthest 42 = .ok (.iconst 1, 1) := by decide +kernel
theorem dX0_farthest_43 : decode cX0_farthest 43 = .ok (.iload_n 2, 1) := by decide +kernel
theorem dX0_farthest_44 : decode cX0_farthest 44 = .ok (.isub, 1) := by decide +kernel
theorem dX0_farthest_45 : decode cX0_farthest 45 = .ok (.invokevirtual 19, 3) := by decide +kernel
theorem dX0_farthest_48 : decode cX0_farthest 48 = .ok (.lstore 6, 2) := by decide +kernel
theorem dX0_farthest_50 : decode cX0_farthest 50 = .ok (.lload 6, 2) := by decide +kernel
theorem dX0_farthest_52 : decode cX0_farthest 52 = .ok (.ldc2_w 25, 3) := by decide +kernel
theorem dX0_farthest_55 : decode cX0_farthest 55 = .ok (.lcmp, 1) := by decide +kernel
theorem dX0_farthest_56 : decode cX0_farthest 56 = .ok (.ifCond .ne 7, 3) := by decide +kernel
theorem dX0_farthest_59 : decode cX0_farthest 59 = .ok (.ldc2_w 25, 3) := by decide +kernel
theorem dX0_farthest_62 : decode cX0_farthest 62 = .ok (.lreturn, 1) := by decide +kernel
theorem dX0_farthest_63 : decode cX0_farthest 63 = .ok (.lload_n 3, 1) := by decide +kernel
theorem dX0_farthest_64 : decode cX0_farthest 64 = .ok (.aload_n 0, 1) := by decide +kernel
theorem dX0_farthest_65 : decode cX0_farthest 65 = .ok (.getfield 9, 3) := by decide +kernel
theorem dX0_farthest_68 : decode cX0_farthest 68 = .ok (.iload 5, 2) := by decide +kernel
theorem dX0_farthest_70 : decode cX0_farthest 70 = .ok (.iaload, 1) := by decide +kernel
theorem dX0_farthest_71 : decode cX0_farthest 71 = .ok (.i2l, 1) := by decide +kernel
theorem dX0_farthest_72 : decode cX0_farthest 72 = .ok (.lload 6, 2) := by decide +kernel
theorem dX0_farthest_74 : decode cX0_farthest 74 = .ok (.lmul, 1) := by decide +kernel
theorem dX0_farthest_75 : decode cX0_farthest 75 = .ok (.ladd, 1) := by decide +kernel
theorem dX0_farthest_76 : decode cX0_farthest 76 = .ok (.lstore_n 3, 1) := by decide +kernel
theorem dX0_farthest_77 : decode cX0_farthest 77 = .ok (.iinc 5 1, 3) := by decide +kernel
theorem dX0_farthest_80 : decode cX0_farthest 80 = .ok (.goto (-71), 3) := by decide +kernel
theorem dX0_farthest_83 : decode cX0_farthest 83 = .ok (.lload_n 3, 1) := by decide +kernel
theorem dX0_farthest_84 : decode cX0_farthest 84 = .ok (.lreturn, 1) := by decide +kernel
theorem dX1_startAnew_0 : decode cX1_startAnew 0 = .ok (.aload_n 0, 1) := by decide +kernel
theorem dX1_startAnew_1 : decode cX1_startAnew 1 = .ok (.iconst 0, 1) := by decide +kernel
theorem dX1_startAnew_2 : decode cX1_startAnew 2 = .ok (.putfield 32, 3) := by decide +kernel
theorem dX1_startAnew_5 : decode cX1_startAnew 5 = .ok (.iconst 0, 1) := by decide +kernel
theorem dX1_startAnew_6 : decode cX1_startAnew 6 = .ok (.istore_n 1, 1) := by decide +kernel
theorem dX1_startAnew_7 : decode cX1_startAnew 7 = .ok (.iload_n 1, 1) := by decide +kernel
theorem dX1_startAnew_8 : decode cX1_startAnew 8 = .ok (.iconst 3, 1) := by decide +kernel
theorem dX1_startAnew_9 : decode cX1_startAnew 9 = .ok (.if_icmp .ge 19, 3) := by decide +kernel
theorem dX1_startAnew_12 : decode cX1_startAnew 12 = .ok (.aload_n 0, 1) := by decide +kernel
theorem dX1_startAnew_13 : decode cX1_startAnew 13 = .ok (.getfield 17, 3) := by decide +kernel
theorem dX1_startAnew_16 : decode cX1_startAnew 16 = .ok (.iload_n 1, 1) := by decide +kernel
theorem dX1_startAnew_17 : decode cX1_startAnew 17 = .ok (.aaload, 1) := by decide +kernel
theorem dX1_startAnew_18 : decode cX1_startAnew 18 = .ok (.iload_n 1, 1) := by decide +kernel
theorem dX1_startAnew_19 : decode cX1_startAnew 19 = .ok (.invokevirtual 36, 3) := by decide +kernel
theorem dX1_startAnew_22 : decode cX1_startAnew 22 = .ok (.iinc 1 1, 3) := by decide +kernel
theorem dX1_startAnew_25 : decode cX1_startAnew 25 = .ok (.goto (-18), 3) := by decide +kernel
theorem dX1_startAnew_28 : decode cX1_startAnew 28 = .ok (.return_, 1) := by decide +kernel
theorem dX1_addGuard_0 : decode cX1_addGuard 0 = .ok (.aload_n 0, 1) := by decide +kernel
theorem dX1_addGuard_1 : decode cX1_addGuard 1 = .ok (.getfield 32, 3) := by decide +kernel
theorem dX1_addGuard_4 : decode cX1_addGuard 4 = .ok (.bipush 6, 2) := by decide +kernel
theorem dX1_addGuard_6 : decode cX1_addGuard 6 = .ok (.if_icmp .ge 28, 3) := by decide +kernel
theorem dX1_addGuard_9 : decode cX1_addGuard 9 = .ok (.aload_n 0, 1) := by decide +kernel
theorem dX1_addGuard_10 : decode cX1_addGuard 10 = .ok (.getfield 11, 3) := by decide +kernel
theorem dX1_addGuard_13 : decode cX1_addGuard 13 = .ok (.aload_n 0, 1) := by decide +kernel
theorem dX1_addGuard_14 : decode cX1_addGuard 14 = .ok (.getfield 32, 3) := by decide +kernel
theorem dX1_addGuard_17 : decode cX1_addGuard 17 = .ok (.aaload, 1) := by decide +kernel
theorem dX1_addGuard_18 : decode cX1_addGuard 18 = .ok (.iload_n 1, 1) := by decide +kernel
theorem dX1_addGuard_19 : decode cX1_addGuard 19 = .ok (.iload_n 2, 1) := by decide +kernel
theorem dX1_addGuard_20 : decode cX1_addGuard 20 = .ok (.iload_n 3, 1) := by decide +kernel
theorem dX1_addGuard_21 : decode cX1_addGuard 21 = .ok (.invokevirtual 40, 3) := by decide +kernel
theorem dX1_addGuard_24 : decode cX1_addGuard 24 = .ok (.aload_n 0, 1) := by decide +kernel
theorem dX1_addGuard_25 : decode cX1_addGuard 25 = .ok (.dup, 1) := by decide +kernel
theorem dX1_addGuard_26 : decode cX1_addGuard 26 = .ok (.getfield 32, 3) := by decide +kernel
theorem dX1_addGuard_29 : decode cX1_addGuard 29 = .ok (.iconst 1, 1) := by decide +kernel
theorem dX1_addGuard_30 : decode cX1_addGuard 30 = .ok (.iadd, 1) := by decide +kernel
theorem dX1_addGuard_31 : decode cX1_addGuard 31 = .ok (.putfield 32, 3) := by decide +kernel
theorem dX1_addGuard_34 : decode cX1_addGuard 34 = .ok (.return_, 1) := by decide +kernel
theorem dX1_holdsAt_0 : decode cX1_holdsAt 0 = .ok (.iconst 0, 1) := by decide +kernel
theorem dX1_holdsAt_1 : decode cX1_holdsAt 1 = .ok (.istore_n 2, 1) := by decide +kernel
theorem dX1_holdsAt_2 : decode cX1_holdsAt 2 = .ok (.iload_n 2, 1) := by decide +kernel
theorem dX1_holdsAt_3 : decode cX1_holdsAt 3 = .ok (.aload_n 0, 1) := by decide +kernel
theorem dX1_holdsAt_4 : decode cX1_holdsAt 4 = .ok (.getfield 32, 3) := by decide +kernel
theorem dX1_holdsAt_7 : decode cX1_holdsAt 7 = .ok (.if_icmp .ge 26, 3) := by decide +kernel
theorem dX1_holdsAt_10 : decode cX1_holdsAt 10 = .ok (.aload_n 0, 1) := by decide +kernel
theorem dX1_holdsAt_11 : decode cX1_holdsAt 11 = .ok (.getfield 11, 3) := by decide +kernel
theorem dX1_holdsAt_14 : decode cX1_holdsAt 14 = .ok (.iload_n 2, 1) := by decide +kernel
theorem dX1_holdsAt_15 : decode cX1_holdsAt 15 = .ok (.aaload, 1) := by decide +kernel
theorem dX1_holdsAt_16 : decode cX1_holdsAt 16 = .ok (.aload_n 1, 1) := by decide +kernel
theorem dX1_holdsAt_17 : decode cX1_holdsAt 17 = .ok (.invokevirtual 44, 3) := by decide +kernel
theorem dX1_holdsAt_20 : decode cX1_holdsAt 20 = .ok (.lconst 0, 1) := by decide +kernel
theorem dX1_holdsAt_21 : decode cX1_holdsAt 21 = .ok (.lcmp, 1) := by decide +kernel
theorem dX1_holdsAt_22 : decode cX1_holdsAt 22 = .ok (.ifCond .ge 5, 3) := by decide +kernel
theorem dX1_holdsAt_25 : decode cX1_holdsAt 25 = .ok (.iconst 0, 1) := by decide +kernel
theorem dX1_holdsAt_26 : decode cX1_holdsAt 26 = .ok (.ireturn, 1) := by decide +kernel
theorem dX1_holdsAt_27 : decode cX1_holdsAt 27 = .ok (.iinc 2 1, 3) := by decide +kernel
theorem dX1_holdsAt_30 : decode cX1_holdsAt 30 = .ok (.goto (-28), 3) := by decide +kernel
theorem dX1_holdsAt_33 : decode cX1_holdsAt 33 = .ok (.iconst 1, 1) := by decide +kernel
theorem dX1_holdsAt_34 : decode cX1_holdsAt 34 = .ok (.ireturn, 1) := by decide +kernel
theorem dX1_isPassedOver_0 : decode cX1_isPassedOver 0 = .ok (.iconst 0, 1) := by decide +kernel
theorem dX1_isPassedOver_1 : decode cX1_isPassedOver 1 = .ok (.istore_n 2, 1) := by decide +kernel
theorem dX1_isPassedOver_2 : decode cX1_isPassedOver 2 = .ok (.iload_n 2, 1) := by decide +kernel
theorem dX1_isPassedOver_3 : decode cX1_isPassedOver 3 = .ok (.aload_n 0, 1) := by decide +kernel
theorem dX1_isPassedOver_4 : decode cX1_isPassedOver 4 = .ok (.getfield 32, 3) := by decide +kernel
theorem dX1_isPassedOver_7 : decode cX1_isPassedOver 7 = .ok (.if_icmp .ge 37, 3) := by decide +kernel
theorem dX1_isPassedOver_10 : decode cX1_isPassedOver 10 = .ok (.aload_n 0, 1) := by decide +kernel
theorem dX1_isPassedOver_11 : decode cX1_isPassedOver 11 = .ok (.getfield 11, 3) := by decide +kernel
theorem dX1_isPassedOver_14 : decode cX1_isPassedOver 14 = .ok (.iload_n 2, 1) := by decide +kernel
theorem dX1_isPassedOver_15 : decode cX1_isPassedOver 15 = .ok (.aaload, 1) := by decide +kernel
theorem dX1_isPassedOver_16 : decode cX1_isPassedOver 16 = .ok (.aload_n 1, 1) := by decide +kernel
theorem dX1_isPassedOver_17 : decode cX1_isPassedOver 17 = .ok (.iconst 1, 1) := by decide +kernel
theorem dX1_isPassedOver_18 : decode cX1_isPassedOver 18 = .ok (.invokevirtual 48, 3) := by decide +kernel
theorem dX1_isPassedOver_21 : decode cX1_isPassedOver 21 = .ok (.lstore_n 3, 1) := by decide +kernel
theorem dX1_isPassedOver_22 : decode cX1_isPassedOver 22 = .ok (.lload_n 3, 1) := by decide +kernel
theorem dX1_isPassedOver_23 : decode cX1_isPassedOver 23 = .ok (.ldc2_w 52, 3) := by decide +kernel
theorem dX1_isPassedOver_26 : decode cX1_isPassedOver 26 = .ok (.lcmp, 1) := by decide +kernel
theorem dX1_isPassedOver_27 : decode cX1_isPassedOver 27 = .ok (.ifCond .eq 11, 3) := by decide +kernel
theorem dX1_isPassedOver_30 : decode cX1_isPassedOver 30 = .ok (.lload_n 3, 1) := by decide +kernel
theorem dX1_isPassedOver_31 : decode cX1_isPassedOver 31 = .ok (.lconst 0, 1) := by decide +kernel
theorem dX1_isPassedOver_32 : decode cX1_isPassedOver 32 = .ok (.lcmp, 1) := by decide +kernel
theorem dX1_isPassedOver_33 : decode cX1_isPassedOver 33 = .ok (.ifCond .ge 5, 3) := by decide +kernel
theorem dX1_isPassedOver_36 : decode cX1_isPassedOver 36 = .ok (.iconst 1, 1) := by decide +kernel
theorem dX1_isPassedOver_37 : decode cX1_isPassedOver 37 = .ok (.ireturn, 1) := by decide +kernel
theorem dX1_isPassedOver_38 : decode cX1_isPassedOver 38 = .ok (.iinc 2 1, 3) := by decide +kernel
theorem dX1_isPassedOver_41 : decode cX1_isPassedOver 41 = .ok (.goto (-39), 3) := by decide +kernel
theorem dX1_isPassedOver_44 : decode cX1_isPassedOver 44 = .ok (.iconst 0, 1) := by decide +kernel
theorem dX1_isPassedOver_45 : decode cX1_isPassedOver 45 = .ok (.ireturn, 1) := by decide +kernel
theorem dX11_isBeyond_0 : decode cX11_isBeyond 0 = .ok (.lload_n 0, 1) := by decide +kernel
theorem dX11_isBeyond_1 : decode cX11_isBeyond 1 = .ok (.lload_n 2, 1) := by decide +kernel
theorem dX11_isBeyond_2 : decode cX11_isBeyond 2 = .ok (.lneg, 1) := by decide +kernel
theorem dX11_isBeyond_3 : decode cX11_isBeyond 3 = .ok (.lcmp, 1) := by decide +kernel
theorem dX11_isBeyond_4 : decode cX11_isBeyond 4 = .ok (.ifCond .lt 9, 3) := by decide +kernel
theorem dX11_isBeyond_7 : decode cX11_isBeyond 7 = .ok (.lload_n 0, 1) := by decide +kernel
theorem dX11_isBeyond_8 : decode cX11_isBeyond 8 = .ok (.lload_n 2, 1) := by decide +kernel
theorem dX11_isBeyond_9 : decode cX11_isBeyond 9 = .ok (.lcmp, 1) := by decide +kernel
theorem dX11_isBeyond_10 : decode cX11_isBeyond 10 = .ok (.ifCond .le 7, 3) := by decide +kernel
theorem dX11_isBeyond_13 : decode cX11_isBeyond 13 = .ok (.iconst 1, 1) := by decide +kernel
theorem dX11_isBeyond_14 : decode cX11_isBeyond 14 = .ok (.goto 4, 3) := by decide +kernel
theorem dX11_isBeyond_17 : decode cX11_isBeyond 17 = .ok (.iconst 0, 1) := by decide +kernel
theorem dX11_isBeyond_18 : decode cX11_isBeyond 18 = .ok (.ireturn, 1) := by decide +kernel
theorem dX1_move_0 : decode cX1_move 0 = .ok (.aload_n 0, 1) := by decide +kernel
theorem dX1_move_1 : decode cX1_move 1 = .ok (.getfield 17, 3) := by decide +kernel
theorem dX1_move_4 : decode cX1_move 4 = .ok (.iconst 0, 1) := by decide +kernel
theorem dX1_move_5 : decode cX1_move 5 = .ok (.aaload, 1) := by decide +kernel
theorem dX1_move_6 : decode cX1_move 6 = .ok (.aload_n 1, 1) := by decide +kernel
theorem dX1_move_7 : decode cX1_move 7 = .ok (.invokevirtual 44, 3) := by decide +kernel
theorem dX1_move_10 : decode cX1_move 10 = .ok (.lstore_n 2, 1) := by decide +kernel
theorem dX1_move_11 : decode cX1_move 11 = .ok (.aload_n 0, 1) := by decide +kernel
theorem dX1_move_12 : decode cX1_move 12 = .ok (.getfield 17, 3) := by decide +kernel
theorem dX1_move_15 : decode cX1_move 15 = .ok (.iconst 1, 1) := by decide +kernel
theorem dX1_move_16 : decode cX1_move 16 = .ok (.aaload, 1) := by decide +kernel
theorem dX1_move_17 : decode cX1_move 17 = .ok (.aload_n 1, 1) := by decide +kernel
theorem dX1_move_18 : decode cX1_move 18 = .ok (.invokevirtual 44, 3) := by decide +kernel
theorem dX1_move_21 : decode cX1_move 21 = .ok (.lstore 4, 2) := by decide +kernel
theorem dX1_move_23 : decode cX1_move 23 = .ok (.aload_n 0, 1) := by decide +kernel
theorem dX1_move_24 : decode cX1_move 24 = .ok (.getfield 17, 3) := by decide +kernel
theorem dX1_move_27 : decode cX1_move 27 = .ok (.iconst 2, 1) := by decide +kernel
theorem dX1_move_28 : decode cX1_move 28 = .ok (.aaload, 1) := by decide +kernel
theorem dX1_move_29 : decode cX1_move 29 = .ok (.aload_n 1, 1) := by decide +kernel
theorem dX1_move_30 : decode cX1_move 30 = .ok (.invokevirtual 44, 3) := by decide +kernel
theorem dX1_move_33 : decode cX1_move 33 = .ok (.lstore 6, 2) := by decide +kernel
theorem dX1_move_35 : decode cX1_move 35 = .ok (.lload_n 2, 1) := by decide +kernel
theorem dX1_move_36 : decode cX1_move 36 = .ok (.ldc2_w 54, 3) := by decide +kernel
theorem dX1_move_39 : decode cX1_move 39 = .ok (.invokestatic 56, 3) := by decide +kernel
theorem dX1_move_42 : decode cX1_move 42 = .ok (.ifCond .ne 25, 3) := by decide +kernel
theorem dX1_move_45 : decode cX1_move 45 = .ok (.lload 4, 2) := by decide +kernel
theorem dX1_move_47 : decode cX1_move 47 = .ok (.ldc2_w 54, 3) := by decide +kernel
theorem dX1_move_50 : decode cX1_move 50 = .ok (.invokestatic 56, 3) := by decide +kernel
theorem dX1_move_53 : decode cX1_move 53 = .ok (.ifCond .ne 14, 3) := by decide +kernel
theorem dX1_move_56 : decode cX1_move 56 = .ok (.lload 6, 2) := by decide +kernel
theorem dX1_move_58 : decode cX1_move 58 = .ok (.ldc2_w 54, 3) := by decide +kernel
theorem dX1_move_61 : decode cX1_move 61 = .ok (.invokestatic 56, 3) := by decide +kernel
theorem dX1_move_64 : decode cX1_move 64 = .ok (.ifCond .eq 5, 3) := by decide +kernel
theorem dX1_move_67 : decode cX1_move 67 = .ok (.iconst 0, 1) := by decide +kernel
theorem dX1_move_68 : decode cX1_move 68 = .ok (.ireturn, 1) := by decide +kernel
theorem dX1_move_69 : decode cX1_move 69 = .ok (.aload_n 1, 1) := by decide +kernel
theorem dX1_move_70 : decode cX1_move 70 = .ok (.iconst 0, 1) := by decide +kernel
theorem dX1_move_71 : decode cX1_move 71 = .ok (.lload_n 2, 1) := by decide +kernel
theorem dX1_move_72 : decode cX1_move 72 = .ok (.lastore, 1) := by decide +kernel
theorem dX1_move_73 : decode cX1_move 73 = .ok (.aload_n 1, 1) := by decide +kernel
theorem dX1_move_74 : decode cX1_move 74 = .ok (.iconst 1, 1) := by decide +kernel
theorem dX1_move_75 : decode cX1_move 75 = .ok (.lload 4, 2) := by decide +kernel
theorem dX1_move_77 : decode cX1_move 77 = .ok (.lastore, 1) := by decide +kernel
theorem dX1_move_78 : decode cX1_move 78 = .ok (.aload_n 1, 1) := by decide +kernel
theorem dX1_move_79 : decode cX1_move 79 = .ok (.iconst 2, 1) := by decide +kernel
theorem dX1_move_80 : decode cX1_move 80 = .ok (.lload 6, 2) := by decide +kernel
theorem dX1_move_82 : decode cX1_move 82 = .ok (.lastore, 1) := by decide +kernel
theorem dX1_move_83 : decode cX1_move 83 = .ok (.iconst 1, 1) := by decide +kernel
theorem dX1_move_84 : decode cX1_move 84 = .ok (.ireturn, 1) := by decide +kernel
theorem dX6_isNowherePositive_0 : decode cX6_isNowherePositive 0 = .ok (.iconst 0, 1) := by decide +kernel
theorem dX6_isNowherePositive_1 : decode cX6_isNowherePositive 1 = .ok (.istore 4, 2) := by decide +kernel
theorem dX6_isNowherePositive_3 : decode cX6_isNowherePositive 3 = .ok (.iload 4, 2) := by decide +kernel
theorem dX6_isNowherePositive_5 : decode cX6_isNowherePositive 5 = .ok (.iconst 4, 1) := by decide +kernel
theorem dX6_isNowherePositive_6 : decode cX6_isNowherePositive 6 = .ok (.aload_n 0, 1) := by decide +kernel
theorem dX6_isNowherePositive_7 : decode cX6_isNowherePositive 7 = .ok (.getfield 13, 3) := by decide +kernel
theorem dX6_isNowherePositive_10 : decode cX6_isNowherePositive 10 = .ok (.imul, 1) := by decide +kernel
theorem dX6_isNowherePositive_11 : decode cX6_isNowherePositive 11 = .ok (.if_icmp .ge 67, 3) := by decide +kernel
theorem dX6_isNowherePositive_14 : decode cX6_isNowherePositive 14 = .ok (.aload_n 1, 1) := by decide +kernel
theorem dX6_isNowherePositive_15 : decode cX6_isNowherePositive 15 = .ok (.iconst 0, 1) := by decide +kernel
theorem dX6_isNowherePositive_16 : decode cX6_isNowherePositive 16 = .ok (.laload, 1) := by decide +kernel
theorem dX6_isNowherePositive_17 : decode cX6_isNowherePositive 17 = .ok (.aload_n 0, 1) := by decide +kernel
theorem dX6_isNowherePositive_18 : decode cX6_isNowherePositive 18 = .ok (.getfield 9, 3) := by decide +kernel
theorem dX6_isNowherePositive_21 : decode cX6_isNowherePositive 21 = .ok (.iload 4, 2) := by decide +kernel
theorem dX6_isNowherePositive_23 : decode cX6_isNowherePositive 23 = .ok (.laload, 1) := by decide +kernel
theorem dX6_isNowherePositive_24 : decode cX6_isNowherePositive 24 = .ok (.lmul, 1) := by decide +kernel
theorem dX6_isNowherePositive_25 : decode cX6_isNowherePositive 25 = .ok (.aload_n 1, 1) := by decide +kernel
theorem dX6_isNowherePositive_26 : decode cX6_isNowherePositive 26 = .ok (.iconst 1, 1) := by decide +kernel
theorem dX6_isNowherePositive_27 : decode cX6_isNowherePositive 27 = .ok (.laload, 1) := by decide +kernel
theorem dX6_isNowherePositive_28 : decode cX6_isNowherePositive 28 = .ok (.aload_n 0, 1) := by decide +kernel
theorem dX6_isNowherePositive_29 : decode cX6_isNowherePositive 29 = .ok (.getfield 9, 3) := by decide +kernel
theorem dX6_isNowherePositive_32 : decode cX6_isNowherePositive 32 = .ok (.iload 4, 2) := by decide +kernel
theorem dX6_isNowherePositive_34 : decode cX6_isNowherePositive 34 = .ok (.iconst 1, 1) := by decide +kernel
theorem dX6_isNowherePositive_35 : decode cX6_isNowherePositive 35 = .ok (.iadd, 1) := by decide +kernel
theorem dX6_isNowherePositive_36 : decode cX6_isNowherePositive 36 = .ok (.laload, 1) := by decide +kernel
theorem dX6_isNowherePositive_37 : decode cX6_isNowherePositive 37 = .ok (.lmul, 1) := by decide +kernel
theorem dX6_isNowherePositive_38 : decode cX6_isNowherePositive 38 = .ok (.ladd, 1) := by decide +kernel
theorem dX6_isNowherePositive_39 : decode cX6_isNowherePositive 39 = .ok (.aload_n 1, 1) := by decide +kernel
theorem dX6_isNowherePositive_40 : decode cX6_isNowherePositive 40 = .ok (.iconst 2, 1) := by decide +kernel
theorem dX6_isNowherePositive_41 : decode cX6_isNowherePositive 41 = .ok (.laload, 1) := by decide +kernel
theorem dX6_isNowherePositive_42 : decode cX6_isNowherePositive 42 = .ok (.aload_n 0, 1) := by decide +kernel
theorem dX6_isNowherePositive_43 : decode cX6_isNowherePositive 43 = .ok (.getfield 9, 3) := by decide +kernel
theorem dX6_isNowherePositive_46 : decode cX6_isNowherePositive 46 = .ok (.iload 4, 2) := by decide +kernel
theorem dX6_isNowherePositive_48 : decode cX6_isNowherePositive 48 = .ok (.iconst 2, 1) := by decide +kernel
theorem dX6_isNowherePositive_49 : decode cX6_isNowherePositive 49 = .ok (.iadd, 1) := by decide +kernel
theorem dX6_isNowherePositive_50 : decode cX6_isNowherePositive 50 = .ok (.laload, 1) := by decide +kernel
theorem dX6_isNowherePositive_51 : decode cX6_isNowherePositive 51 = .ok (.lmul, 1) := by decide +kernel
theorem dX6_isNowherePositive_52 : decode cX6_isNowherePositive 52 = .ok (.ladd, 1) := by decide +kernel
theorem dX6_isNowherePositive_53 : decode cX6_isNowherePositive 53 = .ok (.lload_n 2, 1) := by decide +kernel
theorem dX6_isNowherePositive_54 : decode cX6_isNowherePositive 54 = .ok (.aload_n 0, 1) := by decide +kernel
theorem dX6_isNowherePositive_55 : decode cX6_isNowherePositive 55 = .ok (.getfield 9, 3) := by decide +kernel
theorem dX6_isNowherePositive_58 : decode cX6_isNowherePositive 58 = .ok (.iload 4, 2) := by decide +kernel
theorem dX6_isNowherePositive_60 : decode cX6_isNowherePositive 60 = .ok (.iconst 3, 1) := by decide +kernel
theorem dX6_isNowherePositive_61 : decode cX6_isNowherePositive 61 = .ok (.iadd, 1) := by decide +kernel
theorem dX6_isNowherePositive_62 : decode cX6_isNowherePositive 62 = .ok (.laload, 1) := by decide +kernel
theorem dX6_isNowherePositive_63 : decode cX6_isNowherePositive 63 = .ok (.lmul, 1) := by decide +kernel
theorem dX6_isNowherePositive_64 : decode cX6_isNowherePositive 64 = .ok (.ladd, 1) := by decide +kernel
theorem dX6_isNowherePositive_65 : decode cX6_isNowherePositive 65 = .ok (.lconst 0, 1) := by decide +kernel
theorem dX6_isNowherePositive_66 : decode cX6_isNowherePositive 66 = .ok (.lcmp, 1) := by decide +kernel
theorem dX6_isNowherePositive_67 : decode cX6_isNowherePositive 67 = .ok (.ifCond .le 5, 3) := by decide +kernel
theorem dX6_isNowherePositive_70 : decode cX6_isNowherePositive 70 = .ok (.iconst 0, 1) := by decide +kernel
theorem dX6_isNowherePositive_71 : decode cX6_isNowherePositive 71 = .ok (.ireturn, 1) := by decide +kernel
theorem dX6_isNowherePositive_72 : decode cX6_isNowherePositive 72 = .ok (.iinc 4 4, 3) := by decide +kernel
theorem dX6_isNowherePositive_75 : decode cX6_isNowherePositive 75 = .ok (.goto (-72), 3) := by decide +kernel
theorem dX6_isNowherePositive_78 : decode cX6_isNowherePositive 78 = .ok (.iconst 1, 1) := by decide +kernel
theorem dX6_isNowherePositive_79 : decode cX6_isNowherePositive 79 = .ok (.ireturn, 1) := by decide +kernel
theorem dX1_changesAtMost_0 : decode cX1_changesAtMost 0 = .ok (.iload_n 2, 1) := by decide +kernel
theorem dX1_changesAtMost_1 : decode cX1_changesAtMost 1 = .ok (.ineg, 1) := by decide +kernel
theorem dX1_changesAtMost_2 : decode cX1_changesAtMost 2 = .ok (.i2l, 1) := by decide +kernel
theorem dX1_changesAtMost_3 : decode cX1_changesAtMost 3 = .ok (.lstore_n 3, 1) := by decide +kernel
theorem dX1_changesAtMost_4 : decode cX1_changesAtMost 4 = .ok (.iconst 0, 1) := by decide +kernel
theorem dX1_changesAtMost_5 : decode cX1_changesAtMost 5 = .ok (.istore 5, 2) := by decide +kernel
theorem dX1_changesAtMost_7 : decode cX1_changesAtMost 7 = .ok (.iload 5, 2) := by decide +kernel
theorem dX1_changesAtMost_9 : decode cX1_changesAtMost 9 = .ok (.iconst 3, 1) := by decide +kernel
theorem dX1_changesAtMost_10 : decode cX1_changesAtMost 10 = .ok (.if_icmp .ge 22, 3) := by decide +kernel
theorem dX1_changesAtMost_13 : decode cX1_changesAtMost 13 = .ok (.aload_n 0, 1) := by decide +kernel
theorem dX1_changesAtMost_14 : decode cX1_changesAtMost 14 = .ok (.getfield 27, 3) := by decide +kernel
theorem dX1_changesAtMost_17 : decode cX1_changesAtMost 17 = .ok (.iload 5, 2) := by decide +kernel
theorem dX1_changesAtMost_19 : decode cX1_changesAtMost 19 = .ok (.aload_n 1, 1) := by decide +kernel
theorem dX1_changesAtMost_20 : decode cX1_changesAtMost 20 = .ok (.iload 5, 2) := by decide +kernel
theorem dX1_changesAtMost_22 : decode cX1_changesAtMost 22 = .ok (.iaload, 1) := by decide +kernel
theorem dX1_changesAtMost_23 : decode cX1_changesAtMost 23 = .ok (.ineg, 1) := by decide +kernel
theorem dX1_changesAtMost_24 : decode cX1_changesAtMost 24 = .ok (.i2l, 1) := by decide +kernel
theorem dX1_changesAtMost_25 : decode cX1_changesAtMost 25 = .ok (.lastore, 1) := by decide +kernel
theorem dX1_changesAtMost_26 : decode cX1_changesAtMost 26 = .ok (.iinc 5 1, 3) := by decide +kernel
theorem dX1_changesAtMost_29 : decode cX1_changesAtMost 29 = .ok (.goto (-22), 3) := by decide +kernel
theorem dX1_changesAtMost_32 : decode cX1_changesAtMost 32 = .ok (.iconst 0, 1) := by decide +kernel
theorem dX1_changesAtMost_33 : decode cX1_changesAtMost 33 = .ok (.istore 5, 2) := by decide +kernel
theorem dX1_changesAtMost_35 : decode cX1_changesAtMost 35 = .ok (.iload 5, 2) := by decide +kernel
theorem dX1_changesAtMost_37 : decode cX1_changesAtMost 37 = .ok (.iconst 3, 1) := by decide +kernel
theorem dX1_changesAtMost_38 : decode cX1_changesAtMost 38 = .ok (.if_icmp .ge 76, 3) := by decide +kernel
theorem dX1_changesAtMost_41 : decode cX1_changesAtMost 41 = .ok (.aload_n 0, 1) := by decide +kernel
theorem dX1_changesAtMost_42 : decode cX1_changesAtMost 42 = .ok (.getfield 17, 3) := by decide +kernel
theorem dX1_changesAtMost_45 : decode cX1_changesAtMost 45 = .ok (.iload 5, 2) := by decide +kernel
theorem dX1_changesAtMost_47 : decode cX1_changesAtMost 47 = .ok (.aaload, 1) := by decide +kernel
theorem dX1_changesAtMost_48 : decode cX1_changesAtMost 48 = .ok (.getfield 60, 3) := by decide +kernel
theorem dX1_changesAtMost_51 : decode cX1_changesAtMost 51 = .ok (.astore 6, 2) := by decide +kernel
theorem dX1_changesAtMost_53 : decode cX1_changesAtMost 53 = .ok (.iconst 0, 1) := by decide +kernel
theorem dX1_changesAtMost_54 : decode cX1_changesAtMost 54 = .ok (.istore 7, 2) := by decide +kernel
theorem dX1_changesAtMost_56 : decode cX1_changesAtMost 56 = .ok (.iload 7, 2) := by decide +kernel
theorem dX1_changesAtMost_58 : decode cX1_changesAtMost 58 = .ok (.iconst 3, 1) := by decide +kernel
theorem dX1_changesAtMost_59 : decode cX1_changesAtMost 59 = .ok (.if_icmp .ge 30, 3) := by decide +kernel
theorem dX1_changesAtMost_62 : decode cX1_changesAtMost 62 = .ok (.aload_n 0, 1) := by decide +kernel
theorem dX1_changesAtMost_63 : decode cX1_changesAtMost 63 = .ok (.getfield 27, 3) := by decide +kernel
theorem dX1_changesAtMost_66 : decode cX1_changesAtMost 66 = .ok (.iload 7, 2) := by decide +kernel
theorem dX1_changesAtMost_68 : decode cX1_changesAtMost 68 = .ok (.dup2, 1) := by decide +kernel
theorem dX1_changesAtMost_69 : decode cX1_changesAtMost 69 = .ok (.laload, 1) := by decide +kernel
theorem dX1_changesAtMost_70 : decode cX1_changesAtMost 70 = .ok (.aload_n 1, 1) := by decide +kernel
theorem dX1_changesAtMost_71 : decode cX1_changesAtMost 71 = .ok (.iload 5, 2) := by decide +kernel
theorem dX1_changesAtMost_73 : decode cX1_changesAtMost 73 = .ok (.iaload, 1) := by decide +kernel
theorem dX1_changesAtMost_74 : decode cX1_changesAtMost 74 = .ok (.aload 6, 2) := by decide +kernel
theorem dX1_changesAtMost_76 : decode cX1_changesAtMost 76 = .ok (.iload 7, 2) := by decide +kernel
theorem dX1_changesAtMost_78 : decode cX1_changesAtMost 78 = .ok (.iaload, 1) := by decide +kernel
theorem dX1_changesAtMost_79 : decode cX1_changesAtMost 79 = .ok (.imul, 1) := by decide +kernel
theorem dX1_changesAtMost_80 : decode cX1_changesAtMost 80 = .ok (.i2l, 1) := by decide +kernel
theorem dX1_changesAtMost_81 : decode cX1_changesAtMost 81 = .ok (.ladd, 1) := by decide +kernel
theorem dX1_changesAtMost_82 : decode cX1_changesAtMost 82 = .ok (.lastore, 1) := by decide +kernel
theorem dX1_changesAtMost_83 : decode cX1_changesAtMost 83 = .ok (.iinc 7 1, 3) := by decide +kernel
theorem dX1_changesAtMost_86 : decode cX1_changesAtMost 86 = .ok (.goto (-30), 3) := by decide +kernel
theorem dX1_changesAtMost_89 : decode cX1_changesAtMost 89 = .ok (.lload_n 3, 1) := by decide +kernel
theorem dX1_changesAtMost_90 : decode cX1_changesAtMost 90 = .ok (.aload_n 1, 1) := by decide +kernel
theorem dX1_changesAtMost_91 : decode cX1_changesAtMost 91 = .ok (.iload 5, 2) := by decide +kernel
theorem dX1_changesAtMost_93 : decode cX1_changesAtMost 93 = .ok (.iaload, 1) := by decide +kernel
theorem dX1_changesAtMost_94 : decode cX1_changesAtMost 94 = .ok (.aload_n 0, 1) := by decide +kernel
theorem dX1_changesAtMost_95 : decode cX1_changesAtMost 95 = .ok (.getfield 17, 3) := by decide +kernel
theorem dX1_changesAtMost_98 : decode cX1_changesAtMost 98 = .ok (.iload 5, 2) := by decide +kernel
theorem dX1_changesAtMost_100 : decode cX1_changesAtMost 100 = .ok (.aaload, 1) := by decide +kernel
theorem dX1_changesAtMost_101 : decode cX1_changesAtMost 101 = .ok (.getfield 64, 3) := by decide +kernel
theorem dX1_changesAtMost_104 : decode cX1_changesAtMost 104 = .ok (.imul, 1) := by decide +kernel
theorem dX1_changesAtMost_105 : decode cX1_changesAtMost 105 = .ok (.i2l, 1) := by decide +kernel
theorem dX1_changesAtMost_106 : decode cX1_changesAtMost 106 = .ok (.ladd, 1) := by decide +kernel
theorem dX1_changesAtMost_107 : decode cX1_changesAtMost 107 = .ok (.lstore_n 3, 1) := by decide +kernel
theorem dX1_changesAtMost_108 : decode cX1_changesAtMost 108 = .ok (.iinc 5 1, 3) := by decide +kernel
theorem dX1_changesAtMost_111 : decode cX1_changesAtMost 111 = .ok (.goto (-76), 3) := by decide +kernel
theorem dX1_changesAtMost_114 : decode cX1_changesAtMost 114 = .ok (.aload_n 0, 1) := by decide +kernel
theorem dX1_changesAtMost_115 : decode cX1_changesAtMost 115 = .ok (.getfield 23, 3) := by decide +kernel
theorem dX1_changesAtMost_118 : decode cX1_changesAtMost 118 = .ok (.aload_n 0, 1) := by decide +kernel
theorem dX1_changesAtMost_119 : decode cX1_changesAtMost 119 = .ok (.getfield 27, 3) := by decide +kernel
theorem dX1_changesAtMost_122 : decode cX1_changesAtMost 122 = .ok (.lload_n 3, 1) := by decide +kernel
theorem dX1_changesAtMost_123 : decode cX1_changesAtMost 123 = .ok (.invokevirtual 67, 3) := by decide +kernel
theorem dX1_changesAtMost_126 : decode cX1_changesAtMost 126 = .ok (.ireturn, 1) := by decide +kernel
theorem dX6_valueAt_0 : decode cX6_valueAt 0 = .ok (.aload_n 1, 1) := by decide +kernel
theorem dX6_valueAt_1 : decode cX6_valueAt 1 = .ok (.iconst 0, 1) := by decide +kernel
theorem dX6_valueAt_2 : decode cX6_valueAt 2 = .ok (.iaload, 1) := by decide +kernel
theorem dX6_valueAt_3 : decode cX6_valueAt 3 = .ok (.i2l, 1) := by decide +kernel
theorem dX6_valueAt_4 : decode cX6_valueAt 4 = .ok (.aload_n 0, 1) := by decide +kernel
theorem dX6_valueAt_5 : decode cX6_valueAt 5 = .ok (.getfield 9, 3) := by decide +kernel
theorem dX6_valueAt_8 : decode cX6_valueAt 8 = .ok (.iload_n 2, 1) := by decide +kernel
theorem dX6_valueAt_9 : decode cX6_valueAt 9 = .ok (.laload, 1) := by decide +kernel
theorem dX6_valueAt_10 : decode cX6_valueAt 10 = .ok (.lmul, 1) := by decide +kernel
theorem dX6_valueAt_11 : decode cX6_valueAt 11 = .ok (.aload_n 1, 1) := by decide +kernel
theorem dX6_valueAt_12 : decode cX6_valueAt 12 = .ok (.iconst 1, 1) := by decide +kernel
theorem dX6_valueAt_13 : decode cX6_valueAt 13 = .ok (.iaload, 1) := by decide +kernel
theorem dX6_valueAt_14 : decode cX6_valueAt 14 = .ok (.i2l, 1) := by decide +kernel
theorem dX6_valueAt_15 : decode cX6_valueAt 15 = .ok (.aload_n 0, 1) := by decide +kernel
theorem dX6_valueAt_16 : decode cX6_valueAt 16 = .ok (.getfield 9, 3) := by decide +kernel
theorem dX6_valueAt_19 : decode cX6_valueAt 19 = .ok (.iload_n 2, 1) := by decide +kernel
theorem dX6_valueAt_20 : decode cX6_valueAt 20 = .ok (.iconst 1, 1) := by decide +kernel
theorem dX6_valueAt_21 : decode cX6_valueAt 21 = .ok (.iadd, 1) := by decide +kernel
theorem dX6_valueAt_22 : decode cX6_valueAt 22 = .ok (.laload, 1) := by decide +kernel
theorem dX6_valueAt_23 : decode cX6_valueAt 23 = .ok (.lmul, 1) := by decide +kernel
theorem dX6_valueAt_24 : decode cX6_valueAt 24 = .ok (.ladd, 1) := by decide +kernel
theorem dX6_valueAt_25 : decode cX6_valueAt 25 = .ok (.aload_n 1, 1) := by decide +kernel
theorem dX6_valueAt_26 : decode cX6_valueAt 26 = .ok (.iconst 2, 1) := by decide +kernel
theorem dX6_valueAt_27 : decode cX6_valueAt 27 = .ok (.iaload, 1) := by decide +kernel
theorem dX6_valueAt_28 : decode cX6_valueAt 28 = .ok (.i2l, 1) := by decide +kernel
theorem dX6_valueAt_29 : decode cX6_valueAt 29 = .ok (.aload_n 0, 1) := by decide +kernel
theorem dX6_valueAt_30 : decode cX6_valueAt 30 = .ok (.getfield 9, 3) := by decide +kernel
theorem dX6_valueAt_33 : decode cX6_valueAt 33 = .ok (.iload_n 2, 1) := by decide +kernel
theorem dX6_valueAt_34 : decode cX6_valueAt 34 = .ok (.iconst 2, 1) := by decide +kernel
theorem dX6_valueAt_35 : decode cX6_valueAt 35 = .ok (.iadd, 1) := by decide +kernel
theorem dX6_valueAt_36 : decode cX6_valueAt 36 = .ok (.laload, 1) := by decide +kernel
theorem dX6_valueAt_37 : decode cX6_valueAt 37 = .ok (.lmul, 1) := by decide +kernel
theorem dX6_valueAt_38 : decode cX6_valueAt 38 = .ok (.ladd, 1) := by decide +kernel
theorem dX6_valueAt_39 : decode cX6_valueAt 39 = .ok (.lreturn, 1) := by decide +kernel
theorem dX6_isBoundBelow_0 : decode cX6_isBoundBelow 0 = .ok (.iconst 4, 1) := by decide +kernel
theorem dX6_isBoundBelow_1 : decode cX6_isBoundBelow 1 = .ok (.aload_n 0, 1) := by decide +kernel
theorem dX6_isBoundBelow_2 : decode cX6_isBoundBelow 2 = .ok (.getfield 17, 3) := by decide +kernel
theorem dX6_isBoundBelow_5 : decode cX6_isBoundBelow 5 = .ok (.imul, 1) := by decide +kernel
theorem dX6_isBoundBelow_6 : decode cX6_isBoundBelow 6 = .ok (.istore_n 2, 1) := by decide +kernel
theorem dX6_isBoundBelow_7 : decode cX6_isBoundBelow 7 = .ok (.iload_n 2, 1) := by decide +kernel
theorem dX6_isBoundBelow_8 : decode cX6_isBoundBelow 8 = .ok (.iconst 4, 1) := by decide +kernel
theorem dX6_isBoundBelow_9 : decode cX6_isBoundBelow 9 = .ok (.aload_n 0, 1) := by decide +kernel
theorem dX6_isBoundBelow_10 : decode cX6_isBoundBelow 10 = .ok (.getfield 13, 3) := by decide +kernel
theorem dX6_isBoundBelow_13 : decode cX6_isBoundBelow 13 = .ok (.imul, 1) := by decide +kernel
theorem dX6_isBoundBelow_14 : decode cX6_isBoundBelow 14 = .ok (.if_icmp .ge 22, 3) := by decide +kernel
theorem dX6_isBoundBelow_17 : decode cX6_isBoundBelow 17 = .ok (.aload_n 0, 1) := by decide +kernel
theorem dX6_isBoundBelow_18 : decode cX6_isBoundBelow 18 = .ok (.aload_n 1, 1) := by decide +kernel
theorem dX6_isBoundBelow_19 : decode cX6_isBoundBelow 19 = .ok (.iload_n 2, 1) := by decide +kernel
theorem dX6_isBoundBelow_20 : decode cX6_isBoundBelow 20 = .ok (.invokevirtual 30, 3) := by decide +kernel
theorem dX6_isBoundBelow_23 : decode cX6_isBoundBelow 23 = .ok (.lconst 0, 1) := by decide +kernel
theorem dX6_isBoundBelow_24 : decode cX6_isBoundBelow 24 = .ok (.lcmp, 1) := by decide +kernel
theorem dX6_isBoundBelow_25 : decode cX6_isBoundBelow 25 = .ok (.ifCond .ge 5, 3) := by decide +kernel
theorem dX6_isBoundBelow_28 : decode cX6_isBoundBelow 28 = .ok (.iconst 0, 1) := by decide +kernel
theorem dX6_isBoundBelow_29 : decode cX6_isBoundBelow 29 = .ok (.ireturn, 1) := by decide +kernel
theorem dX6_isBoundBelow_30 : decode cX6_isBoundBelow 30 = .ok (.iinc 2 4, 3) := by decide +kernel
theorem dX6_isBoundBelow_33 : decode cX6_isBoundBelow 33 = .ok (.goto (-26), 3) := by decide +kernel
theorem dX6_isBoundBelow_36 : decode cX6_isBoundBelow 36 = .ok (.iconst 1, 1) := by decide +kernel
theorem dX6_isBoundBelow_37 : decode cX6_isBoundBelow 37 = .ok (.ireturn, 1) := by decide +kernel
theorem dX1_ranksBy_0 : decode cX1_ranksBy 0 = .ok (.aload_n 0, 1) := by decide +kernel
theorem dX1_ranksBy_1 : decode cX1_ranksBy 1 = .ok (.getfield 23, 3) := by decide +kernel
theorem dX1_ranksBy_4 : decode cX1_ranksBy 4 = .ok (.aload_n 1, 1) := by decide +kernel
theorem dX1_ranksBy_5 : decode cX1_ranksBy 5 = .ok (.invokevirtual 71, 3) := by decide +kernel
theorem dX1_ranksBy_8 : decode cX1_ranksBy 8 = .ok (.ifCond .eq 16, 3) := by decide +kernel
theorem dX1_ranksBy_11 : decode cX1_ranksBy 11 = .ok (.aload_n 0, 1) := by decide +kernel
theorem dX1_ranksBy_12 : decode cX1_ranksBy 12 = .ok (.aload_n 1, 1) := by decide +kernel
theorem dX1_ranksBy_13 : decode cX1_ranksBy 13 = .ok (.iconst (-1), 1) := by decide +kernel
theorem dX1_ranksBy_14 : decode cX1_ranksBy 14 = .ok (.invokevirtual 75, 3) := by decide +kernel
theorem dX1_ranksBy_17 : decode cX1_ranksBy 17 = .ok (.ifCond .eq 7, 3) := by decide +kernel
theorem dX1_ranksBy_20 : decode cX1_ranksBy 20 = .ok (.iconst 1, 1) := by decide +kernel
theorem dX1_ranksBy_21 : decode cX1_ranksBy 21 = .ok (.goto 4, 3) := by decide +kernel
theorem dX1_ranksBy_24 : decode cX1_ranksBy 24 = .ok (.iconst 0, 1) := by decide +kernel
theorem dX1_ranksBy_25 : decode cX1_ranksBy 25 = .ok (.ireturn, 1) := by decide +kernel
theorem dX10_start_0 : decode cX10_start 0 = .ok (.aload_n 0, 1) := by decide +kernel
theorem dX10_start_1 : decode cX10_start 1 = .ok (.iload_n 1, 1) := by decide +kernel
theorem dX10_start_2 : decode cX10_start 2 = .ok (.putfield 15, 3) := by decide +kernel
theorem dX10_start_5 : decode cX10_start 5 = .ok (.aload_n 0, 1) := by decide +kernel
theorem dX10_start_6 : decode cX10_start 6 = .ok (.iload_n 2, 1) := by decide +kernel
theorem dX10_start_7 : decode cX10_start 7 = .ok (.iconst 1, 1) := by decide +kernel
theorem dX10_start_8 : decode cX10_start 8 = .ok (.if_icmp .le 10, 3) := by decide +kernel
theorem dX10_start_11 : decode cX10_start 11 = .ok (.aload_n 0, 1) := by decide +kernel
theorem dX10_start_12 : decode cX10_start 12 = .ok (.getfield 15, 3) := by decide +kernel
theorem dX10_start_15 : decode cX10_start 15 = .ok (.goto 4, 3) := by decide +kernel
theorem dX10_start_18 : decode cX10_start 18 = .ok (.iconst 0, 1) := by decide +kernel
theorem dX10_start_19 : decode cX10_start 19 = .ok (.putfield 19, 3) := by decide +kernel
theorem dX10_start_22 : decode cX10_start 22 = .ok (.aload_n 0, 1) := by decide +kernel
theorem dX10_start_23 : decode cX10_start 23 = .ok (.iload_n 2, 1) := by decide +kernel
theorem dX10_start_24 : decode cX10_start 24 = .ok (.iconst 2, 1) := by decide +kernel
theorem dX10_start_25 : decode cX10_start 25 = .ok (.if_icmp .le 10, 3) := by decide +kernel
theorem dX10_start_28 : decode cX10_start 28 = .ok (.aload_n 0, 1) := by decide +kernel
theorem dX10_start_29 : decode cX10_start 29 = .ok (.getfield 15, 3) := by decide +kernel
theorem dX10_start_32 : decode cX10_start 32 = .ok (.goto 4, 3) := by decide +kernel
theorem dX10_start_35 : decode cX10_start 35 = .ok (.iconst 0, 1) := by decide +kernel
theorem dX10_start_36 : decode cX10_start 36 = .ok (.putfield 22, 3) := by decide +kernel
theorem dX10_start_39 : decode cX10_start 39 = .ok (.aload_n 0, 1) := by decide +kernel
theorem dX10_start_40 : decode cX10_start 40 = .ok (.iconst 1, 1) := by decide +kernel
theorem dX10_start_41 : decode cX10_start 41 = .ok (.putfield 25, 3) := by decide +kernel
theorem dX10_start_44 : decode cX10_start 44 = .ok (.aload_n 0, 1) := by decide +kernel
theorem dX10_start_45 : decode cX10_start 45 = .ok (.aload_n 0, 1) := by decide +kernel
theorem dX10_start_46 : decode cX10_start 46 = .ok (.getfield 15, 3) := by decide +kernel
theorem dX10_start_49 : decode cX10_start 49 = .ok (.aload_n 0, 1) := by decide +kernel
theorem dX10_start_50 : decode cX10_start 50 = .ok (.getfield 19, 3) := by decide +kernel
theorem dX10_start_53 : decode cX10_start 53 = .ok (.iadd, 1) := by decide +kernel
theorem dX10_start_54 : decode cX10_start 54 = .ok (.aload_n 0, 1) := by decide +kernel
theorem dX10_start_55 : decode cX10_start 55 = .ok (.getfield 22, 3) := by decide +kernel
theorem dX10_start_58 : decode cX10_start 58 = .ok (.iadd, 1) := by decide +kernel
theorem dX10_start_59 : decode cX10_start 59 = .ok (.putfield 28, 3) := by decide +kernel
theorem dX10_start_62 : decode cX10_start 62 = .ok (.aload_n 0, 1) := by decide +kernel
theorem dX10_start_63 : decode cX10_start 63 = .ok (.getfield 9, 3) := by decide +kernel
theorem dX10_start_66 : decode cX10_start 66 = .ok (.iconst 0, 1) := by decide +kernel
theorem dX10_start_67 : decode cX10_start 67 = .ok (.aload_n 0, 1) := by decide +kernel
theorem dX10_start_68 : decode cX10_start 68 = .ok (.getfield 15, 3) := by decide +kernel
theorem dX10_start_71 : decode cX10_start 71 = .ok (.ineg, 1) := by decide +kernel
theorem dX10_start_72 : decode cX10_start 72 = .ok (.iastore, 1) := by decide +kernel
theorem dX10_start_73 : decode cX10_start 73 = .ok (.aload_n 0, 1) := by decide +kernel
theorem dX10_start_74 : decode cX10_start 74 = .ok (.getfield 9, 3) := by decide +kernel
theorem dX10_start_77 : decode cX10_start 77 = .ok (.iconst 1, 1) := by decide +kernel
theorem dX10_start_78 : decode cX10_start 78 = .ok (.aload_n 0, 1) := by decide +kernel
theorem dX10_start_79 : decode cX10_start 79 = .ok (.getfield 19, 3) := by decide +kernel
theorem dX10_start_82 : decode cX10_start 82 = .ok (.ineg, 1) := by decide +kernel
theorem dX10_start_83 : decode cX10_start 83 = .ok (.iconst 1, 1) := by decide +kernel
theorem dX10_start_84 : decode cX10_start 84 = .ok (.isub, 1) := by decide +kernel
theorem dX10_start_85 : decode cX10_start 85 = .ok (.iastore, 1) := by decide +kernel
theorem dX10_start_86 : decode cX10_start 86 = .ok (.aload_n 0, 1) := by decide +kernel
theorem dX10_start_87 : decode cX10_start 87 = .ok (.getfield 9, 3) := by decide +kernel
theorem dX10_start_90 : decode cX10_start 90 = .ok (.iconst 2, 1) := by decide +kernel
theorem dX10_start_91 : decode cX10_start 91 = .ok (.iconst 0, 1) := by decide +kernel
theorem dX10_start_92 : decode cX10_start 92 = .ok (.iastore, 1) := by decide +kernel
theorem dX10_start_93 : decode cX10_start 93 = .ok (.return_, 1) := by decide +kernel
theorem dX10_nextPair_0 : decode cX10_nextPair 0 = .ok (.aload_n 0, 1) := by decide +kernel
theorem dX10_nextPair_1 : decode cX10_nextPair 1 = .ok (.getfield 9, 3) := by decide +kernel
theorem dX10_nextPair_4 : decode cX10_nextPair 4 = .ok (.iconst 1, 1) := by decide +kernel
theorem dX10_nextPair_5 : decode cX10_nextPair 5 = .ok (.dup2, 1) := by decide +kernel
theorem dX10_nextPair_6 : decode cX10_nextPair 6 = .ok (.iaload, 1) := by decide +kernel
theorem dX10_nextPair_7 : decode cX10_nextPair 7 = .ok (.iconst 1, 1) := by decide +kernel
theorem dX10_nextPair_8 : decode cX10_nextPair 8 = .ok (.iadd, 1) := by decide +kernel
theorem dX10_nextPair_9 : decode cX10_nextPair 9 = .ok (.iastore, 1) := by decide +kernel
theorem dX10_nextPair_10 : decode cX10_nextPair 10 = .ok (.aload_n 0, 1) := by decide +kernel
theorem dX10_nextPair_11 : decode cX10_nextPair 11 = .ok (.getfield 9, 3) := by decide +kernel
theorem dX10_nextPair_14 : decode cX10_nextPair 14 = .ok (.iconst 1, 1) := by decide +kernel
theorem dX10_nextPair_15 : decode cX10_nextPair 15 = .ok (.iaload, 1) := by decide +kernel
theorem dX10_nextPair_16 : decode cX10_nextPair 16 = .ok (.aload_n 0, 1) := by decide +kernel
theorem dX10_nextPair_17 : decode cX10_nextPair 17 = .ok (.getfield 19, 3) := by decide +kernel
theorem dX10_nextPair_20 : decode cX10_nextPair 20 = .ok (.if_icmp .le 24, 3) := by decide +kernel
theorem dX10_nextPair_23 : decode cX10_nextPair 23 = .ok (.aload_n 0, 1) := by decide +kernel
theorem dX10_nextPair_24 : decode cX10_nextPair 24 = .ok (.getfield 9, 3) := by decide +kernel
theorem dX10_nextPair_27 : decode cX10_nextPair 27 = .ok (.iconst 1, 1) := by decide +kernel
theorem dX10_nextPair_28 : decode cX10_nextPair 28 = .ok (.aload_n 0, 1) := by decide +kernel
theorem dX10_nextPair_29 : decode cX10_nextPair 29 = .ok (.getfield 19, 3) := by decide +kernel
theorem dX10_nextPair_32 : decode cX10_nextPair 32 = .ok (.ineg, 1) := by decide +kernel
theorem dX10_nextPair_33 : decode cX10_nextPair 33 = .ok (.iastore, 1) := by decide +kernel
theorem dX10_nextPair_34 : decode cX10_nextPair 34 = .ok (.aload_n 0, 1) := by decide +kernel
theorem dX10_nextPair_35 : decode cX10_nextPair 35 = .ok (.getfield 9, 3) := by decide +kernel
theorem dX10_nextPair_38 : decode cX10_nextPair 38 = .ok (.iconst 0, 1) := by decide +kernel
theorem dX10_nextPair_39 : decode cX10_nextPair 39 = .ok (.dup2, 1) := by decide +kernel
theorem dX10_nextPair_40 : decode cX10_nextPair 40 = .ok (.iaload, 1) := by decide +kernel
theorem dX10_nextPair_41 : decode cX10_nextPair 41 = .ok (.iconst 1, 1) := by decide +kernel
theorem dX10_nextPair_42 : decode cX10_nextPair 42 = .ok (.iadd, 1) := by decide +kernel
theorem dX10_nextPair_43 : decode cX10_nextPair 43 = .ok (.iastore, 1) := by decide +kernel
theorem dX10_nextPair_44 : decode cX10_nextPair 44 = .ok (.aload_n 0, 1) := by decide +kernel
theorem dX10_nextPair_45 : decode cX10_nextPair 45 = .ok (.getfield 9, 3) := by decide +kernel
theorem dX10_nextPair_48 : decode cX10_nextPair 48 = .ok (.iconst 0, 1) := by decide +kernel
theorem dX10_nextPair_49 : decode cX10_nextPair 49 = .ok (.iaload, 1) := by decide +kernel
theorem dX10_nextPair_50 : decode cX10_nextPair 50 = .ok (.aload_n 0, 1) := by decide +kernel
theorem dX10_nextPair_51 : decode cX10_nextPair 51 = .ok (.getfield 15, 3) := by decide +kernel
theorem dX10_nextPair_54 : decode cX10_nextPair 54 = .ok (.if_icmp .le 24, 3) := by decide +kernel
theorem dX10_nextPair_57 : decode cX10_nextPair 57 = .ok (.aload_n 0, 1) := by decide +kernel
theorem dX10_nextPair_58 : decode cX10_nextPair 58 = .ok (.getfield 9, 3) := by decide +kernel
theorem dX10_nextPair_61 : decode cX10_nextPair 61 = .ok (.iconst 0, 1) := by decide +kernel
theorem dX10_nextPair_62 : decode cX10_nextPair 62 = .ok (.aload_n 0, 1) := by decide +kernel
theorem dX10_nextPair_63 : decode cX10_nextPair 63 = .ok (.getfield 15, 3) := by decide +kernel
theorem dX10_nextPair_66 : decode cX10_nextPair 66 = .ok (.ineg, 1) := by decide +kernel
theorem dX10_nextPair_67 : decode cX10_nextPair 67 = .ok (.iastore, 1) := by decide +kernel
theorem dX10_nextPair_68 : decode cX10_nextPair 68 = .ok (.aload_n 0, 1) := by decide +kernel
theorem dX10_nextPair_69 : decode cX10_nextPair 69 = .ok (.dup, 1) := by decide +kernel
theorem dX10_nextPair_70 : decode cX10_nextPair 70 = .ok (.getfield 25, 3) := by decide +kernel
theorem dX10_nextPair_73 : decode cX10_nextPair 73 = .ok (.iconst 1, 1) := by decide +kernel
theorem dX10_nextPair_74 : decode cX10_nextPair 74 = .ok (.iadd, 1) := by decide +kernel
theorem dX10_nextPair_75 : decode cX10_nextPair 75 = .ok (.putfield 25, 3) := by decide +kernel
theorem dX10_nextPair_78 : decode cX10_nextPair 78 = .ok (.aload_n 0, 1) := by decide +kernel
theorem dX10_nextPair_79 : decode cX10_nextPair 79 = .ok (.getfield 25, 3) := by decide +kernel
theorem dX10_nextPair_82 : decode cX10_nextPair 82 = .ok (.aload_n 0, 1) := by decide +kernel
theorem dX10_nextPair_83 : decode cX10_nextPair 83 = .ok (.getfield 28, 3) := by decide +kernel
theorem dX10_nextPair_86 : decode cX10_nextPair 86 = .ok (.if_icmp .gt 7, 3) := by decide +kernel
theorem dX10_nextPair_89 : decode cX10_nextPair 89 = .ok (.iconst 1, 1) := by decide +kernel
theorem dX10_nextPair_90 : decode cX10_nextPair 90 = .ok (.goto 4, 3) := by decide +kernel
theorem dX10_nextPair_93 : decode cX10_nextPair 93 = .ok (.iconst 0, 1) := by decide +kernel
theorem dX10_nextPair_94 : decode cX10_nextPair 94 = .ok (.ireturn, 1) := by decide +kernel
theorem dX10_next_0 : decode cX10_next 0 = .ok (.aload_n 0, 1) := by decide +kernel
theorem dX10_next_1 : decode cX10_next 1 = .ok (.getfield 9, 3) := by decide +kernel
theorem dX10_next_4 : decode cX10_next 4 = .ok (.iconst 2, 1) := by decide +kernel
theorem dX10_next_5 : decode cX10_next 5 = .ok (.iaload, 1) := by decide +kernel
theorem dX10_next_6 : decode cX10_next 6 = .ok (.ifCond .ge 18, 3) := by decide +kernel
theorem dX10_next_9 : decode cX10_next 9 = .ok (.aload_n 0, 1) := by decide +kernel
theorem dX10_next_10 : decode cX10_next 10 = .ok (.getfield 9, 3) := by decide +kernel
theorem dX10_next_13 : decode cX10_next 13 = .ok (.iconst 2, 1) := by decide +kernel
theorem dX10_next_14 : decode cX10_next 14 = .ok (.aload_n 0, 1) := by decide +kernel
theorem dX10_next_15 : decode cX10_next 15 = .ok (.getfield 9, 3) := by decide +kernel
theorem dX10_next_18 : decode cX10_next 18 = .ok (.iconst 2, 1) := by decide +kernel
theorem dX10_next_19 : decode cX10_next 19 = .ok (.iaload, 1) := by decide +kernel
theorem dX10_next_20 : decode cX10_next 20 = .ok (.ineg, 1) := by decide +kernel
theorem dX10_next_21 : decode cX10_next 21 = .ok (.iastore, 1) := by decide +kernel
theorem dX10_next_22 : decode cX10_next 22 = .ok (.iconst 1, 1) := by decide +kernel
theorem dX10_next_23 : decode cX10_next 23 = .ok (.ireturn, 1) := by decide +kernel
theorem dX10_next_24 : decode cX10_next 24 = .ok (.iconst 0, 1) := by decide +kernel
theorem dX10_next_25 : decode cX10_next 25 = .ok (.istore_n 1, 1) := by decide +kernel
theorem dX10_next_26 : decode cX10_next 26 = .ok (.iload_n 1, 1) := by decide +kernel
theorem dX10_next_27 : decode cX10_next 27 = .ok (.sipush 4000, 3) := by decide +kernel
theorem dX10_next_30 : decode cX10_next 30 = .ok (.if_icmp .ge 63, 3) := by decide +kernel
theorem dX10_next_33 : decode cX10_next 33 = .ok (.aload_n 0, 1) := by decide +kernel
theorem dX10_next_34 : decode cX10_next 34 = .ok (.invokevirtual 31, 3) := by decide +kernel
theorem dX10_next_37 : decode cX10_next 37 = .ok (.ifCond .eq 56, 3) := by decide +kernel
theorem dX10_next_40 : decode cX10_next 40 = .ok (.aload_n 0, 1) := by decide +kernel
theorem dX10_next_41 : decode cX10_next 41 = .ok (.getfield 25, 3) := by decide +kernel
theorem dX10_next_44 : decode cX10_next 44 = .ok (.aload_n 0, 1) := by decide +kernel
theorem dX10_next_45 : decode cX10_next 45 = .ok (.getfield 9, 3) := by decide +kernel
theorem dX10_next_48 : decode cX10_next 48 = .ok (.iconst 0, 1) := by decide +kernel
theorem dX10_next_49 : decode cX10_next 49 = .ok (.iaload, 1) := by decide +kernel
theorem dX10_next_50 : decode cX10_next 50 = .ok (.invokestatic 35, 3) := by decide +kernel
theorem dX10_next_53 : decode cX10_next 53 = .ok (.isub, 1) := by decide +kernel
theorem dX10_next_54 : decode cX10_next 54 = .ok (.aload_n 0, 1) := by decide +kernel
theorem dX10_next_55 : decode cX10_next 55 = .ok (.getfield 9, 3) := by decide +kernel
theorem dX10_next_58 : decode cX10_next 58 = .ok (.iconst 1, 1) := by decide +kernel
theorem dX10_next_59 : decode cX10_next 59 = .ok (.iaload, 1) := by decide +kernel
theorem dX10_next_60 : decode cX10_next 60 = .ok (.invokestatic 35, 3) := by decide +kernel
theorem dX10_next_63 : decode cX10_next 63 = .ok (.isub, 1) := by decide +kernel
theorem dX10_next_64 : decode cX10_next 64 = .ok (.istore_n 2, 1) := by decide +kernel
theorem dX10_next_65 : decode cX10_next 65 = .ok (.iload_n 2, 1) := by decide +kernel
theorem dX10_next_66 : decode cX10_next 66 = .ok (.ifCond .lt 21, 3) := by decide +kernel
theorem dX10_next_69 : decode cX10_next 69 = .ok (.iload_n 2, 1) := by decide +kernel
theorem dX10_next_70 : decode cX10_next 70 = .ok (.aload_n 0, 1) := by decide +kernel
theorem dX10_next_71 : decode cX10_next 71 = .ok (.getfield 22, 3) := by decide +kernel
theorem dX10_next_74 : decode cX10_next 74 = .ok (.if_icmp .gt 13, 3) := by decide +kernel
theorem dX10_next_77 : decode cX10_next 77 = .ok (.aload_n 0, 1) := by decide +kernel
theorem dX10_next_78 : decode cX10_next 78 = .ok (.getfield 9, 3) := by decide +kernel
theorem dX10_next_81 : decode cX10_next 81 = .ok (.iconst 2, 1) := by decide +kernel
theorem dX10_next_82 : decode cX10_next 82 = .ok (.iload_n 2, 1) := by decide +kernel
theorem dX10_next_83 : decode cX10_next 83 = .ok (.ineg, 1) := by decide +kernel
theorem dX10_next_84 : decode cX10_next 84 = .ok (.iastore, 1) := by decide +kernel
theorem dX10_next_85 : decode cX10_next 85 = .ok (.iconst 1, 1) := by decide +kernel
theorem dX10_next_86 : decode cX10_next 86 = .ok (.ireturn, 1) := by decide +kernel
theorem dX10_next_87 : decode cX10_next 87 = .ok (.iinc 1 1, 3) := by decide +kernel
theorem dX10_next_90 : decode cX10_next 90 = .ok (.goto (-64), 3) := by decide +kernel
theorem dX10_next_93 : decode cX10_next 93 = .ok (.iconst 0, 1) := by decide +kernel
theorem dX10_next_94 : decode cX10_next 94 = .ok (.ireturn, 1) := by decide +kernel
theorem dX7_startAnew_0 : decode cX7_startAnew 0 = .ok (.aload_n 0, 1) := by decide +kernel
theorem dX7_startAnew_1 : decode cX7_startAnew 1 = .ok (.iload_n 1, 1) := by decide +kernel
theorem dX7_startAnew_2 : decode cX7_startAnew 2 = .ok (.putfield 17, 3) := by decide +kernel
theorem dX7_startAnew_5 : decode cX7_startAnew 5 = .ok (.aload_n 0, 1) := by decide +kernel
theorem dX7_startAnew_6 : decode cX7_startAnew 6 = .ok (.iconst 0, 1) := by decide +kernel
theorem dX7_startAnew_7 : decode cX7_startAnew 7 = .ok (.putfield 22, 3) := by decide +kernel
theorem dX7_startAnew_10 : decode cX7_startAnew 10 = .ok (.return_, 1) := by decide +kernel
theorem dX2_zeroAll_0 : decode cX2_zeroAll 0 = .ok (.aload_n 0, 1) := by decide +kernel
theorem dX2_zeroAll_1 : decode cX2_zeroAll 1 = .ok (.getfield 9, 3) := by decide +kernel
theorem dX2_zeroAll_4 : decode cX2_zeroAll 4 = .ok (.lconst 0, 1) := by decide +kernel
theorem dX2_zeroAll_5 : decode cX2_zeroAll 5 = .ok (.invokestatic 15, 3) := by decide +kernel
theorem dX2_zeroAll_8 : decode cX2_zeroAll 8 = .ok (.return_, 1) := by decide +kernel
theorem dX4_forgetRing_0 : decode cX4_forgetRing 0 = .ok (.aload_n 0, 1) := by decide +kernel
theorem dX4_forgetRing_1 : decode cX4_forgetRing 1 = .ok (.iconst (-1), 1) := by decide +kernel
theorem dX4_forgetRing_2 : decode cX4_forgetRing 2 = .ok (.putfield 18, 3) := by decide +kernel
theorem dX4_forgetRing_5 : decode cX4_forgetRing 5 = .ok (.return_, 1) := by decide +kernel
theorem dX5_forgetAll_0 : decode cX5_forgetAll 0 = .ok (.aload_n 0, 1) := by decide +kernel
theorem dX5_forgetAll_1 : decode cX5_forgetAll 1 = .ok (.iconst 0, 1) := by decide +kernel
theorem dX5_forgetAll_2 : decode cX5_forgetAll 2 = .ok (.putfield 34, 3) := by decide +kernel
theorem dX5_forgetAll_5 : decode cX5_forgetAll 5 = .ok (.aload_n 0, 1) := by decide +kernel
theorem dX5_forgetAll_6 : decode cX5_forgetAll 6 = .ok (.iconst 0, 1) := by decide +kernel
theorem dX5_forgetAll_7 : decode cX5_forgetAll 7 = .ok (.putfield 38, 3) := by decide +kernel
theorem dX5_forgetAll_10 : decode cX5_forgetAll 10 = .ok (.aload_n 0, 1) := by decide +kernel
theorem dX5_forgetAll_11 : decode cX5_forgetAll 11 = .ok (.getfield 22, 3) := by decide +kernel
theorem dX5_forgetAll_14 : decode cX5_forgetAll 14 = .ok (.iconst (-1), 1) := by decide +kernel
theorem dX5_forgetAll_15 : decode cX5_forgetAll 15 = .ok (.invokestatic 28, 3) := by decide +kernel
theorem dX5_forgetAll_18 : decode cX5_forgetAll 18 = .ok (.return_, 1) := by decide +kernel
theorem dX2_openAll_0 : decode cX2_openAll 0 = .ok (.iconst 0, 1) := by decide +kernel
theorem dX2_openAll_1 : decode cX2_openAll 1 = .ok (.istore_n 2, 1) := by decide +kernel
theorem dX2_openAll_2 : decode cX2_openAll 2 = .ok (.iload_n 2, 1) := by decide +kernel
theorem dX2_openAll_3 : decode cX2_openAll 3 = .ok (.bipush 6, 2) := by decide +kernel
theorem dX2_openAll_5 : decode cX2_openAll 5 = .ok (.if_icmp .ge 29, 3) := by decide +kernel
theorem dX2_openAll_8 : decode cX2_openAll 8 = .ok (.aload_n 0, 1) := by decide +kernel
theorem dX2_openAll_9 : decode cX2_openAll 9 = .ok (.getfield 9, 3) := by decide +kernel
theorem dX2_openAll_12 : decode cX2_openAll 12 = .ok (.iload_n 2, 1) := by decide +kernel
theorem dX2_openAll_13 : decode cX2_openAll 13 = .ok (.iload_n 2, 1) := by decide +kernel
theorem dX2_openAll_14 : decode cX2_openAll 14 = .ok (.iconst 2, 1) := by decide +kernel
theorem dX2_openAll_15 : decode cX2_openAll 15 = .ok (.iload_n 1, 1) := by decide +kernel
theorem dX2_openAll_16 : decode cX2_openAll 16 = .ok (.imul, 1) := by decide +kernel
theorem dX2_openAll_17 : decode cX2_openAll 17 = .ok (.if_icmp .ge 9, 3) := by decide +kernel
theorem dX2_openAll_20 : decode cX2_openAll 20 = .ok (.ldc2_w 21, 3) := by decide +kernel
theorem dX2_openAll_23 : decode cX2_openAll 23 = .ok (.goto 4, 3) := by decide +kernel
theorem dX2_openAll_26 : decode cX2_openAll 26 = .ok (.lconst 0, 1) := by decide +kernel
theorem dX2_openAll_27 : decode cX2_openAll 27 = .ok (.lastore, 1) := by decide +kernel
theorem dX2_openAll_28 : decode cX2_openAll 28 = .ok (.iinc 2 1, 3) := by decide +kernel
theorem dX2_openAll_31 : decode cX2_openAll 31 = .ok (.goto (-29), 3) := by decide +kernel
theorem dX2_openAll_34 : decode cX2_openAll 34 = .ok (.return_, 1) := by decide +kernel
theorem dX11_forgetPlaces_0 : decode cX11_forgetPlaces 0 = .ok (.aload_n 0, 1) := by decide +kernel
theorem dX11_forgetPlaces_1 : decode cX11_forgetPlaces 1 = .ok (.getfield 54, 3) := by decide +kernel
theorem dX11_forgetPlaces_4 : decode cX11_forgetPlaces 4 = .ok (.iconst 0, 1) := by decide +kernel
theorem dX11_forgetPlaces_5 : decode cX11_forgetPlaces 5 = .ok (.putfield 208, 3) := by decide +kernel
theorem dX11_forgetPlaces_8 : decode cX11_forgetPlaces 8 = .ok (.iconst 0, 1) := by decide +kernel
theorem dX11_forgetPlaces_9 : decode cX11_forgetPlaces 9 = .ok (.istore_n 1, 1) := by decide +kernel
theorem dX11_forgetPlaces_10 : decode cX11_forgetPlaces 10 = .ok (.iload_n 1, 1) := by decide +kernel
theorem dX11_forgetPlaces_11 : decode cX11_forgetPlaces 11 = .ok (.iconst 5, 1) := by decide +kernel
theorem dX11_forgetPlaces_12 : decode cX11_forgetPlaces 12 = .ok (.if_icmp .ge 25, 3) := by decide +kernel
theorem dX11_forgetPlaces_15 : decode cX11_forgetPlaces 15 = .ok (.aload_n 0, 1) := by decide +kernel
theorem dX11_forgetPlaces_16 : decode cX11_forgetPlaces 16 = .ok (.getfield 10, 3) := by decide +kernel
theorem dX11_forgetPlaces_19 : decode cX11_forgetPlaces 19 = .ok (.getfield 115, 3) := by decide +kernel
theorem dX11_forgetPlaces_22 : decode cX11_forgetPlaces 22 = .ok (.iload_n 1, 1) := by decide +kernel
theorem dX11_forgetPlaces_23 : decode cX11_forgetPlaces 23 = .ok (.aaload, 1) := by decide +kernel
theorem dX11_forgetPlaces_24 : decode cX11_forgetPlaces 24 = .ok (.getfield 171, 3) := by decide +kernel
theorem dX11_forgetPlaces_27 : decode cX11_forgetPlaces 27 = .ok (.iconst 0, 1) := by decide +kernel
theorem dX11_forgetPlaces_28 : decode cX11_forgetPlaces 28 = .ok (.putfield 289, 3) := by decide +kernel
theorem dX11_forgetPlaces_31 : decode cX11_forgetPlaces 31 = .ok (.iinc 1 1, 3) := by decide +kernel
theorem dX11_forgetPlaces_34 : decode cX11_forgetPlaces 34 = .ok (.goto (-24), 3) := by decide +kernel
theorem dX11_forgetPlaces_37 : decode cX11_forgetPlaces 37 = .ok (.return_, 1) := by decide +kernel
theorem dX11_openTheBox_0 : decode cX11_openTheBox 0 = .ok (.aload_n 0, 1) := by decide +kernel
theorem dX11_openTheBox_1 : decode cX11_openTheBox 1 = .ok (.getfield 30, 3) := by decide +kernel
theorem dX11_openTheBox_4 : decode cX11_openTheBox 4 = .ok (.aload_n 0, 1) := by decide +kernel
theorem dX11_openTheBox_5 : decode cX11_openTheBox 5 = .ok (.getfield 10, 3) := by decide +kernel
theorem dX11_openTheBox_8 : decode cX11_openTheBox 8 = .ok (.getfield 69, 3) := by decide +kernel
theorem dX11_openTheBox_11 : decode cX11_openTheBox 11 = .ok (.invokevirtual 73, 3) := by decide +kernel
theorem dX11_openTheBox_14 : decode cX11_openTheBox 14 = .ok (.aload_n 0, 1) := by decide +kernel
theorem dX11_openTheBox_15 : decode cX11_openTheBox 15 = .ok (.invokevirtual 258, 3) := by decide +kernel
theorem dX11_openTheBox_18 : decode cX11_openTheBox 18 = .ok (.return_, 1) := by decide +kernel
theorem dX11_loop_0 : decode cX11_loop 0 = .ok (.iload_n 1, 1) := by decide +kernel
theorem dX11_loop_1 : decode cX11_loop 1 = .ok (.iconst 1, 1) := by decide +kernel
theorem dX11_loop_2 : decode cX11_loop 2 = .ok (.if_icmp .lt 8, 3) := by decide +kernel
theorem dX11_loop_5 : decode cX11_loop 5 = .ok (.iload_n 1, 1) := by decide +kernel
theorem dX11_loop_6 : decode cX11_loop 6 = .ok (.iconst 3, 1) := by decide +kernel
theorem dX11_loop_7 : decode cX11_loop 7 = .ok (.if_icmp .le 5, 3) := by decide +kernel
theorem dX11_loop_10 : decode cX11_loop 10 = .ok (.iconst (-1), 1) := by decide +kernel
theorem dX11_loop_11 : decode cX11_loop 11 = .ok (.ireturn, 1) := by decide +kernel
theorem dX11_loop_12 : decode cX11_loop 12 = .ok (.aload_n 0, 1) := by decide +kernel
theorem dX11_loop_13 : decode cX11_loop 13 = .ok (.getfield 10, 3) := by decide +kernel
theorem dX11_loop_16 : decode cX11_loop 16 = .ok (.getfield 69, 3) := by decide +kernel
theorem dX11_loop_19 : decode cX11_loop 19 = .ok (.istore_n 2, 1) := by decide +kernel
theorem dX11_loop_20 : decode cX11_loop 20 = .ok (.aload_n 0, 1) := by decide +kernel
theorem dX11_loop_21 : decode cX11_loop 21 = .ok (.getfield 10, 3) := by decide +kernel
theorem dX11_loop_24 : decode cX11_loop 24 = .ok (.iload_n 1, 1) := by decide +kernel
theorem dX11_loop_25 : decode cX11_loop 25 = .ok (.invokevirtual 77, 3) := by decide +kernel
theorem dX11_loop_28 : decode cX11_loop 28 = .ok (.aload_n 0, 1) := by decide +kernel
theorem dX11_loop_29 : decode cX11_loop 29 = .ok (.getfield 16, 3) := by decide +kernel
theorem dX11_loop_32 : decode cX11_loop 32 = .ok (.lconst 0, 1) := by decide +kernel
theorem dX11_loop_33 : decode cX11_loop 33 = .ok (.invokestatic 80, 3) := by decide +kernel
theorem dX11_loop_36 : decode cX11_loop 36 = .ok (.aload_n 0, 1) := by decide +kernel
theorem dX11_loop_37 : decode cX11_loop 37 = .ok (.getfield 34, 3) := by decide +kernel
theorem dX11_loop_40 : decode cX11_loop 40 = .ok (.invokevirtual 86, 3) := by decide +kernel
theorem dX11_loop_43 : decode cX11_loop 43 = .ok (.aload_n 0, 1) := by decide +kernel
theorem dX11_loop_44 : decode cX11_loop 44 = .ok (.getfield 23, 3) := by decide +kernel
theorem dX11_loop_47 : decode cX11_loop 47 = .ok (.invokevirtual 89, 3) := by decide +kernel
theorem dX11_loop_50 : decode cX11_loop 50 = .ok (.aload_n 0, 1) := by decide +kernel
theorem dX11_loop_51 : decode cX11_loop 51 = .ok (.getfield 54, 3) := by decide +kernel
theorem dX11_loop_54 : decode cX11_loop 54 = .ok (.invokevirtual 92, 3) := by decide +kernel
theorem dX11_loop_57 : decode cX11_loop 57 = .ok (.aload_n 0, 1) := by decide +kernel
theorem dX11_loop_58 : decode cX11_loop 58 = .ok (.invokevirtual 95, 3) := by decide +kernel
theorem dX11_loop_61 : decode cX11_loop 61 = .ok (.iload_n 2, 1) := by decide +kernel
theorem dX11_loop_62 : decode cX11_loop 62 = .ok (.ireturn, 1) := by decide +kernel
theorem dX7_addBody_0 : decode cX7_addBody 0 = .ok (.aload_n 0, 1) := by decide +kernel
theorem dX7_addBody_1 : decode cX7_addBody 1 = .ok (.getfield 22, 3) := by decide +kernel
theorem dX7_addBody_4 : decode cX7_addBody 4 = .ok (.iconst 5, 1) := by decide +kernel
theorem dX7_addBody_5 : decode cX7_addBody 5 = .ok (.if_icmp .lt 6, 3) := by decide +kernel
theorem dX7_addBody_8 : decode cX7_addBody 8 = .ok (.bipush (-2), 2) := by decide +kernel
theorem dX7_addBody_10 : decode cX7_addBody 10 = .ok (.ireturn, 1) := by decide +kernel
theorem dX7_addBody_11 : decode cX7_addBody 11 = .ok (.aload_n 0, 1) := by decide +kernel
theorem dX7_addBody_12 : decode cX7_addBody 12 = .ok (.getfield 11, 3) := by decide +kernel
theorem dX7_addBody_15 : decode cX7_addBody 15 = .ok (.aload_n 0, 1) := by decide +kernel
theorem dX7_addBody_16 : decode cX7_addBody 16 = .ok (.getfield 22, 3) := by decide +kernel
theorem dX7_addBody_19 : decode cX7_addBody 19 = .ok (.aaload, 1) := by decide +kernel
theorem dX7_addBody_20 : decode cX7_addBody 20 = .ok (.invokevirtual 25, 3) := by decide +kernel
theorem dX7_addBody_23 : decode cX7_addBody 23 = .ok (.aload_n 0, 1) := by decide +kernel
theorem dX7_addBody_24 : decode cX7_addBody 24 = .ok (.dup, 1) := by decide +kernel
theorem dX7_addBody_25 : decode cX7_addBody 25 = .ok (.getfield 22, 3) := by decide +kernel
theorem dX7_addBody_28 : decode cX7_addBody 28 = .ok (.iconst 1, 1) := by decide +kernel
theorem dX7_addBody_29 : decode cX7_addBody 29 = .ok (.iadd, 1) := by decide +kernel
theorem dX7_addBody_30 : decode cX7_addBody 30 = .ok (.putfield 22, 3) := by decide +kernel
theorem dX7_addBody_33 : decode cX7_addBody 33 = .ok (.aload_n 0, 1) := by decide +kernel
theorem dX7_addBody_34 : decode cX7_addBody 34 = .ok (.getfield 22, 3) := by decide +kernel
theorem dX7_addBody_37 : decode cX7_addBody 37 = .ok (.iconst 1, 1) := by decide +kernel
theorem dX7_addBody_38 : decode cX7_addBody 38 = .ok (.isub, 1) := by decide +kernel
theorem dX7_addBody_39 : decode cX7_addBody 39 = .ok (.ireturn, 1) := by decide +kernel
theorem dX11_body_0 : decode cX11_body 0 = .ok (.aload_n 0, 1) := by decide +kernel
theorem dX11_body_1 : decode cX11_body 1 = .ok (.getfield 10, 3) := by decide +kernel
theorem dX11_body_4 : decode cX11_body 4 = .ok (.getfield 98, 3) := by decide +kernel
theorem dX11_body_7 : decode cX11_body 7 = .ok (.iconst 5, 1) := by decide +kernel
theorem dX11_body_8 : decode cX11_body 8 = .ok (.if_icmp .lt 6, 3) := by decide +kernel
theorem dX11_body_11 : decode cX11_body 11 = .ok (.bipush (-2), 2) := by decide +kernel
theorem dX11_body_13 : decode cX11_body 13 = .ok (.ireturn, 1) := by decide +kernel
theorem dX11_body_14 : decode cX11_body 14 = .ok (.aload_n 0, 1) := by decide +kernel
theorem dX11_body_15 : decode cX11_body 15 = .ok (.getfield 10, 3) := by decide +kernel
theorem dX11_body_18 : decode cX11_body 18 = .ok (.invokevirtual 101, 3) := by decide +kernel
theorem dX11_body_21 : decode cX11_body 21 = .ok (.istore_n 1, 1) := by decide +kernel
theorem dX11_body_22 : decode cX11_body 22 = .ok (.aload_n 0, 1) := by decide +kernel
theorem dX11_body_23 : decode cX11_body 23 = .ok (.invokevirtual 95, 3) := by decide +kernel
theorem dX11_body_26 : decode cX11_body 26 = .ok (.iload_n 1, 1) := by decide +kernel
theorem dX11_body_27 : decode cX11_body 27 = .ok (.ireturn, 1) := by decide +kernel
theorem dX7_has_0 : decode cX7_has 0 = .ok (.iload_n 1, 1) := by decide +kernel
theorem dX7_has_1 : decode cX7_has 1 = .ok (.ifCond .lt 15, 3) := by decide +kernel
theorem dX7_has_4 : decode cX7_has 4 = .ok (.iload_n 1, 1) := by decide +kernel
theorem dX7_has_5 : decode cX7_has 5 = .ok (.aload_n 0, 1) := by decide +kernel
theorem dX7_has_6 : decode cX7_has 6 = .ok (.getfield 22, 3) := by decide +kernel
theorem dX7_has_9 : decode cX7_has 9 = .ok (.if_icmp .ge 7, 3) := by decide +kernel
theorem dX7_has_12 : decode cX7_has 12 = .ok (.iconst 1, 1) := by decide +kernel
theorem dX7_has_13 : decode cX7_has 13 = .ok (.goto 4, 3) := by decide +kernel
theorem dX7_has_16 : decode cX7_has 16 = .ok (.iconst 0, 1) := by decide +kernel
theorem dX7_has_17 : decode cX7_has 17 = .ok (.ireturn, 1) := by decide +kernel
theorem dX11_isCode_0 : decode cX11_isCode 0 = .ok (.iload_n 0, 1) := by decide +kernel
theorem dX11_isCode_1 : decode cX11_isCode 1 = .ok (.ifCond .lt 14, 3) := by decide +kernel
theorem dX11_isCode_4 : decode cX11_isCode 4 = .ok (.iload_n 0, 1) := by decide +kernel
theorem dX11_isCode_5 : decode cX11_isCode 5 = .ok (.ldc_w 296, 3) := by decide +kernel
theorem dX11_isCode_8 : decode cX11_isCode 8 = .ok (.if_icmp .ge 7, 3) := by decide +kernel
theorem dX11_isCode_11 : decode cX11_isCode 11 = .ok (.iconst 1, 1) := by decide +kernel
theorem dX11_isCode_12 : decode cX11_isCode 12 = .ok (.goto 4, 3) := by decide +kernel
theorem dX11_isCode_15 : decode cX11_isCode 15 = .ok (.iconst 0, 1) := by decide +kernel
theorem dX11_isCode_16 : decode cX11_isCode 16 = .ok (.ireturn, 1) := by decide +kernel
theorem dX11_isConstant_0 : decode cX11_isConstant 0 = .ok (.iload_n 0, 1) := by decide +kernel
theorem dX11_isConstant_1 : decode cX11_isConstant 1 = .ok (.sipush (-1000), 3) := by decide +kernel
theorem dX11_isConstant_4 : decode cX11_isConstant 4 = .ok (.if_icmp .lt 14, 3) := by decide +kernel
theorem dX11_isConstant_7 : decode cX11_isConstant 7 = .ok (.iload_n 0, 1) := by decide +kernel
theorem dX11_isConstant_8 : decode cX11_isConstant 8 = .ok (.sipush 1000, 3) := by decide +kernel
theorem dX11_isConstant_11 : decode cX11_isConstant 11 = .ok (.if_icmp .gt 7, 3) := by decide +kernel
theorem dX11_isConstant_14 : decode cX11_isConstant 14 = .ok (.iconst 1, 1) := by decide +kernel
theorem dX11_isConstant_15 : decode cX11_isConstant 15 = .ok (.goto 4, 3) := by decide +kernel
theorem dX11_isConstant_18 : decode cX11_isConstant 18 = .ok (.iconst 0, 1) := by decide +kernel
theorem dX11_isConstant_19 : decode cX11_isConstant 19 = .ok (.ireturn, 1) := by decide +kernel
theorem dX11_guard_0 : decode cX11_guard 0 = .ok (.aload_n 0, 1) := by decide +kernel
theorem dX11_guard_1 : decode cX11_guard 1 = .ok (.getfield 10, 3) := by decide +kernel
theorem dX11_guard_4 : decode cX11_guard 4 = .ok (.iload_n 1, 1) := by decide +kernel
theorem dX11_guard_5 : decode cX11_guard 5 = .ok (.invokevirtual 105, 3) := by decide +kernel
theorem dX11_guard_8 : decode cX11_guard 8 = .ok (.ifCond .eq 17, 3) := by decide +kernel
theorem dX11_guard_11 : decode cX11_guard 11 = .ok (.iload_n 2, 1) := by decide +kernel
theorem dX11_guard_12 : decode cX11_guard 12 = .ok (.invokestatic 109, 3) := by decide +kernel
theorem dX11_guard_15 : decode cX11_guard 15 = .ok (.ifCond .eq 10, 3) := by decide +kernel
theorem dX11_guard_18 : decode cX11_guard 18 = .ok (.iload_n 3, 1) := by decide +kernel
theorem dX11_guard_19 : decode cX11_guard 19 = .ok (.invokestatic 112, 3) := by decide +kernel
theorem dX11_guard_22 : decode cX11_guard 22 = .ok (.ifCond .ne 5, 3) := by decide +kernel
theorem dX11_guard_25 : decode cX11_guard 25 = .ok (.iconst (-1), 1) := by decide +kernel
theorem dX11_guard_26 : decode cX11_guard 26 = .ok (.ireturn, 1) := by decide +kernel
theorem dX11_guard_27 : decode cX11_guard 27 = .ok (.aload_n 0, 1) := by decide +kernel
theorem dX11_guard_28 : decode cX11_guard 28 = .ok (.getfield 10, 3) := by decide +kernel
theorem dX11_guard_31 : decode cX11_guard 31 = .ok (.getfield 115, 3) := by decide +kernel
theorem dX11_guard_34 : decode cX11_guard 34 = .ok (.iload_n 1, 1) := by decide +kernel
theorem dX11_guard_35 : decode cX11_guard 35 = .ok (.aaload, 1) := by decide +kernel
theorem dX11_guard_36 : decode cX11_guard 36 = .ok (.astore 4, 2) := by decide +kernel
theorem dX11_guard_38 : decode cX11_guard 38 = .ok (.aload 4, 2) := by decide +kernel
theorem dX11_guard_40 : decode cX11_guard 40 = .ok (.getfield 119, 3) := by decide +kernel
theorem dX11_guard_43 : decode cX11_guard 43 = .ok (.bipush 6, 2) := by decide +kernel
theorem dX11_guard_45 : decode cX11_guard 45 = .ok (.if_icmp .lt 6, 3) := by decide +kernel
theorem dX11_guard_48 : decode cX11_guard 48 = .ok (.bipush (-2), 2) := by decide +kernel
theorem dX11_guard_50 : decode cX11_guard 50 = .ok (.ireturn, 1) := by decide +kernel
theorem dX11_guard_51 : decode cX11_guard 51 = .ok (.aload 4, 2) := by decide +kernel
theorem dX11_guard_53 : decode cX11_guard 53 = .ok (.iload_n 2, 1) := by decide +kernel
theorem dX11_guard_54 : decode cX11_guard 54 = .ok (.aload_n 0, 1) := by decide +kernel
theorem dX11_guard_55 : decode cX11_guard 55 = .ok (.getfield 10, 3) := by decide +kernel
theorem dX11_guard_58 : decode cX11_guard 58 = .ok (.getfield 69, 3) := by decide +kernel
theorem dX11_guard_61 : decode cX11_guard 61 = .ok (.iload_n 3, 1) := by decide +kernel
theorem dX11_guard_62 : decode cX11_guard 62 = .ok (.invokevirtual 124, 3) := by decide +kernel
theorem dX11_guard_65 : decode cX11_guard 65 = .ok (.aload_n 0, 1) := by decide +kernel
theorem dX11_guard_66 : decode cX11_guard 66 = .ok (.invokevirtual 95, 3) := by decide +kernel
theorem dX11_guard_69 : decode cX11_guard 69 = .ok (.aload 4, 2) := by decide +kernel
theorem dX11_guard_71 : decode cX11_guard 71 = .ok (.getfield 119, 3) := by decide +kernel
theorem dX11_guard_74 : decode cX11_guard 74 = .ok (.ireturn, 1) := by decide +kernel
theorem dX7_hasNumber_0 : decode cX7_hasNumber 0 = .ok (.iload_n 1, 1) := by decide +kernel
theorem dX7_hasNumber_1 : decode cX7_hasNumber 1 = .ok (.ifCond .lt 15, 3) := by decide +kernel
theorem dX7_hasNumber_4 : decode cX7_hasNumber 4 = .ok (.iload_n 1, 1) := by decide +kernel
theorem dX7_hasNumber_5 : decode cX7_hasNumber 5 = .ok (.aload_n 0, 1) := by decide +kernel
theorem dX7_hasNumber_6 : decode cX7_hasNumber 6 = .ok (.getfield 17, 3) := by decide +kernel
theorem dX7_hasNumber_9 : decode cX7_hasNumber 9 = .ok (.if_icmp .ge 7, 3) := by decide +kernel
theorem dX7_hasNumber_12 : decode cX7_hasNumber 12 = .ok (.iconst 1, 1) := by decide +kernel
theorem dX7_hasNumber_13 : decode cX7_hasNumber 13 = .ok (.goto 4, 3) := by decide +kernel
theorem dX7_hasNumber_16 : decode cX7_hasNumber 16 = .ok (.iconst 0, 1) := by decide +kernel
theorem dX7_hasNumber_17 : decode cX7_hasNumber 17 = .ok (.ireturn, 1) := by decide +kernel
theorem dX11_rule_0 : decode cX11_rule 0 = .ok (.aload_n 0, 1) := by decide +kernel
theorem dX11_rule_1 : decode cX11_rule 1 = .ok (.getfield 10, 3) := by decide +kernel
theorem dX11_rule_4 : decode cX11_rule 4 = .ok (.iload_n 1, 1) := by decide +kernel
theorem dX11_rule_5 : decode cX11_rule 5 = .ok (.invokevirtual 105, 3) := by decide +kernel
theorem dX11_rule_8 : decode cX11_rule 8 = .ok (.ifCond .eq 29, 3) := by decide +kernel
theorem dX11_rule_11 : decode cX11_rule 11 = .ok (.aload_n 0, 1) := by decide +kernel
theorem dX11_rule_12 : decode cX11_rule 12 = .ok (.getfield 10, 3) := by decide +kernel
theorem dX11_rule_15 : decode cX11_rule 15 = .ok (.iload_n 2, 1) := by decide +kernel
theorem dX11_rule_16 : decode cX11_rule 16 = .ok (.invokevirtual 128, 3) := by decide +kernel
theorem dX11_rule_19 : decode cX11_rule 19 = .ok (.ifCond .eq 18, 3) := by decide +kernel
theorem dX11_rule_22 : decode cX11_rule 22 = .ok (.iload_n 3, 1) := by decide +kernel
theorem dX11_rule_23 : decode cX11_rule 23 = .ok (.invokestatic 109, 3) := by decide +kernel
theorem dX11_rule_26 : decode cX11_rule 26 = .ok (.ifCond .eq 11, 3) := by decide +kernel
theorem dX11_rule_29 : decode cX11_rule 29 = .ok (.iload 4, 2) := by decide +kernel
theorem dX11_rule_31 : decode cX11_rule 31 = .ok (.invokestatic 112, 3) := by decide +kernel
theorem dX11_rule_34 : decode cX11_rule 34 = .ok (.ifCond .ne 5, 3) := by decide +kernel
theorem dX11_rule_37 : decode cX11_rule 37 = .ok (.iconst (-1), 1) := by decide +kernel
theorem dX11_rule_38 : decode cX11_rule 38 = .ok (.ireturn, 1) := by decide +kernel
theorem dX11_rule_39 : decode cX11_rule 39 = .ok (.aload_n 0, 1) := by decide +kernel
theorem dX11_rule_40 : decode cX11_rule 40 = .ok (.getfield 10, 3) := by decide +kernel
theorem dX11_rule_43 : decode cX11_rule 43 = .ok (.getfield 115, 3) := by decide +kernel
theorem dX11_rule_46 : decode cX11_rule 46 = .ok (.iload_n 1, 1) := by decide +kernel
theorem dX11_rule_47 : decode cX11_rule 47 = .ok (.aaload, 1) := by decide +kernel
theorem dX11_rule_48 : decode cX11_rule 48 = .ok (.getfield 131, 3) := by decide +kernel
theorem dX11_rule_51 : decode cX11_rule 51 = .ok (.iload_n 2, 1) := by decide +kernel
theorem dX11_rule_52 : decode cX11_rule 52 = .ok (.aaload, 1) := by decide +kernel
theorem dX11_rule_53 : decode cX11_rule 53 = .ok (.iload_n 3, 1) := by decide +kernel
theorem dX11_rule_54 : decode cX11_rule 54 = .ok (.aload_n 0, 1) := by decide +kernel
theorem dX11_rule_55 : decode cX11_rule 55 = .ok (.getfield 10, 3) := by decide +kernel
theorem dX11_rule_58 : decode cX11_rule 58 = .ok (.getfield 69, 3) := by decide +kernel
theorem dX11_rule_61 : decode cX11_rule 61 = .ok (.iload 4, 2) := by decide +kernel
theorem dX11_rule_63 : decode cX11_rule 63 = .ok (.invokevirtual 135, 3) := by decide +kernel
theorem dX11_rule_66 : decode cX11_rule 66 = .ok (.aload_n 0, 1) := by decide +kernel
theorem dX11_rule_67 : decode cX11_rule 67 = .ok (.invokevirtual 95, 3) := by decide +kernel
theorem dX11_rule_70 : decode cX11_rule 70 = .ok (.iconst 0, 1) := by decide +kernel
theorem dX11_rule_71 : decode cX11_rule 71 = .ok (.ireturn, 1) := by decide +kernel
theorem dX11_many_0 : decode cX11_many 0 = .ok (.iload_n 1, 1) := by decide +kernel
theorem dX11_many_1 : decode cX11_many 1 = .ok (.iconst (-1), 1) := by decide +kernel
theorem dX11_many_2 : decode cX11_many 2 = .ok (.if_icmp .ne 11, 3) := by decide +kernel
theorem dX11_many_5 : decode cX11_many 5 = .ok (.aload_n 0, 1) := by decide +kernel
theorem dX11_many_6 : decode cX11_many 6 = .ok (.getfield 10, 3) := by decide +kernel
theorem dX11_many_9 : decode cX11_many 9 = .ok (.getfield 98, 3) := by decide +kernel
theorem dX11_many_12 : decode cX11_many 12 = .ok (.ireturn, 1) := by decide +kernel
theorem dX11_many_13 : decode cX11_many 13 = .ok (.aload_n 0, 1) := by decide +kernel
theorem dX11_many_14 : decode cX11_many 14 = .ok (.getfield 10, 3) := by decide +kernel
theorem dX11_many_17 : decode cX11_many 17 = .ok (.iload_n 1, 1) := by decide +kernel
theorem dX11_many_18 : decode cX11_many 18 = .ok (.invokevirtual 105, 3) := by decide +kernel
theorem dX11_many_21 : decode cX11_many 21 = .ok (.ifCond .eq 18, 3) := by decide +kernel
theorem dX11_many_24 : decode cX11_many 24 = .ok (.aload_n 0, 1) := by decide +kernel
theorem dX11_many_25 : decode cX11_many 25 = .ok (.getfield 10, 3) := by decide +kernel
theorem dX11_many_28 : decode cX11_many 28 = .ok (.getfield 115, 3) := by decide +kernel
theorem dX11_many_31 : decode cX11_many 31 = .ok (.iload_n 1, 1) := by decide +kernel
theorem dX11_many_32 : decode cX11_many 32 = .ok (.aaload, 1) := by decide +kernel
theorem dX11_many_33 : decode cX11_many 33 = .ok (.getfield 119, 3) := by decide +kernel
theorem dX11_many_36 : decode cX11_many 36 = .ok (.goto 4, 3) := by decide +kernel
theorem dX11_many_39 : decode cX11_many 39 = .ok (.iconst (-1), 1) := by decide +kernel
theorem dX11_many_40 : decode cX11_many 40 = .ok (.ireturn, 1) := by decide +kernel
theorem dX11_isGiven_0 : decode cX11_isGiven 0 = .ok (.iload_n 0, 1) := by decide +kernel
theorem dX11_isGiven_1 : decode cX11_isGiven 1 = .ok (.ldc_w 297, 3) := by decide +kernel
theorem dX11_isGiven_4 : decode cX11_isGiven 4 = .ok (.if_icmp .lt 14, 3) := by decide +kernel
theorem dX11_isGiven_7 : decode cX11_isGiven 7 = .ok (.iload_n 0, 1) := by decide +kernel
theorem dX11_isGiven_8 : decode cX11_isGiven 8 = .ok (.ldc_w 298, 3) := by decide +kernel
theorem dX11_isGiven_11 : decode cX11_isGiven 11 = .ok (.if_icmp .gt 7, 3) := by decide +kernel
theorem dX11_isGiven_14 : decode cX11_isGiven 14 = .ok (.iconst 1, 1) := by decide +kernel
theorem dX11_isGiven_15 : decode cX11_isGiven 15 = .ok (.goto 4, 3) := by decide +kernel
theorem dX11_isGiven_18 : decode cX11_isGiven 18 = .ok (.iconst 0, 1) := by decide +kernel
theorem dX11_isGiven_19 : decode cX11_isGiven 19 = .ok (.ireturn, 1) := by decide +kernel
theorem dX11_set_0 : decode cX11_set 0 = .ok (.aload_n 0, 1) := by decide +kernel
theorem dX11_set_1 : decode cX11_set 1 = .ok (.getfield 10, 3) := by decide +kernel
theorem dX11_set_4 : decode cX11_set 4 = .ok (.iload_n 1, 1) := by decide +kernel
theorem dX11_set_5 : decode cX11_set 5 = .ok (.invokevirtual 128, 3) := by decide +kernel
theorem dX11_set_8 : decode cX11_set 8 = .ok (.ifCond .eq 10, 3) := by decide +kernel
theorem dX11_set_11 : decode cX11_set 11 = .ok (.iload_n 2, 1) := by decide +kernel
theorem dX11_set_12 : decode cX11_set 12 = .ok (.invokestatic 140, 3) := by decide +kernel
theorem dX11_set_15 : decode cX11_set 15 = .ok (.ifCond .ne 5, 3) := by decide +kernel
theorem dX11_set_18 : decode cX11_set 18 = .ok (.iconst (-1), 1) := by decide +kernel
theorem dX11_set_19 : decode cX11_set 19 = .ok (.ireturn, 1) := by decide +kernel
theorem dX11_set_20 : decode cX11_set 20 = .ok (.aload_n 0, 1) := by decide +kernel
theorem dX11_set_21 : decode cX11_set 21 = .ok (.getfield 16, 3) := by decide +kernel
theorem dX11_set_24 : decode cX11_set 24 = .ok (.iload_n 1, 1) := by decide +kernel
theorem dX11_set_25 : decode cX11_set 25 = .ok (.iload_n 2, 1) := by decide +kernel
theorem dX11_set_26 : decode cX11_set 26 = .ok (.i2l, 1) := by decide +kernel
theorem dX11_set_27 : decode cX11_set 27 = .ok (.lastore, 1) := by decide +kernel
theorem dX11_set_28 : decode cX11_set 28 = .ok (.iconst 0, 1) := by decide +kernel
theorem dX11_set_29 : decode cX11_set 29 = .ok (.ireturn, 1) := by decide +kernel
theorem dX11_at_0 : decode cX11_at 0 = .ok (.aload_n 0, 1) := by decide +kernel
theorem dX11_at_1 : decode cX11_at 1 = .ok (.getfield 10, 3) := by decide +kernel
theorem dX11_at_4 : decode cX11_at 4 = .ok (.iload_n 1, 1) := by decide +kernel
theorem dX11_at_5 : decode cX11_at 5 = .ok (.invokevirtual 128, 3) := by decide +kernel
theorem dX11_at_8 : decode cX11_at 8 = .ok (.ifCond .eq 12, 3) := by decide +kernel
theorem dX11_at_11 : decode cX11_at 11 = .ok (.aload_n 0, 1) := by decide +kernel
theorem dX11_at_12 : decode cX11_at 12 = .ok (.getfield 16, 3) := by decide +kernel
theorem dX11_at_15 : decode cX11_at 15 = .ok (.iload_n 1, 1) := by decide +kernel
theorem dX11_at_16 : decode cX11_at 16 = .ok (.laload, 1) := by decide +kernel
theorem dX11_at_17 : decode cX11_at 17 = .ok (.goto 4, 3) := by decide +kernel
theorem dX11_at_20 : decode cX11_at 20 = .ok (.lconst 0, 1) := by decide +kernel
theorem dX11_at_21 : decode cX11_at 21 = .ok (.lreturn, 1) := by decide +kernel
theorem dX11_isTurns_0 : decode cX11_isTurns 0 = .ok (.iload_n 0, 1) := by decide +kernel
theorem dX11_isTurns_1 : decode cX11_isTurns 1 = .ok (.iconst 1, 1) := by decide +kernel
theorem dX11_isTurns_2 : decode cX11_isTurns 2 = .ok (.if_icmp .lt 14, 3) := by decide +kernel
theorem dX11_isTurns_5 : decode cX11_isTurns 5 = .ok (.iload_n 0, 1) := by decide +kernel
theorem dX11_isTurns_6 : decode cX11_isTurns 6 = .ok (.sipush 10000, 3) := by decide +kernel
theorem dX11_isTurns_9 : decode cX11_isTurns 9 = .ok (.if_icmp .gt 7, 3) := by decide +kernel
theorem dX11_isTurns_12 : decode cX11_isTurns 12 = .ok (.iconst 1, 1) := by decide +kernel
theorem dX11_isTurns_13 : decode cX11_isTurns 13 = .ok (.goto 4, 3) := by decide +kernel
theorem dX11_isTurns_16 : decode cX11_isTurns 16 = .ok (.iconst 0, 1) := by decide +kernel
theorem dX11_isTurns_17 : decode cX11_isTurns 17 = .ok (.ireturn, 1) := by decide +kernel
theorem dX7_chosen_0 : decode cX7_chosen 0 = .ok (.iconst 0, 1) := by decide +kernel
