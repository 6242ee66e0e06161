theorem dX5_soCount_17 : decode cX5_soCount 17 = .ok (.aload_n 0, 1) := by decide +kernel
theorem dX5_soCount_18 : decode cX5_soCount 18 = .ok (.aload_n 1, 1) := by decide +kernel
theorem dX5_soCount_19 : decode cX5_soCount 19 = .ok (.aload_n 2, 1) := by decide +kernel
theorem dX5_soCount_20 : decode cX5_soCount 20 = .ok (.iload_n 3, 1) := by decide +kernel
theorem dX5_soCount_21 : decode cX5_soCount 21 = .ok (.iload 6, 2) := by decide +kernel
theorem dX5_soCount_23 : decode cX5_soCount 23 = .ok (.invokevirtual 320, 3) := by decide +kernel
theorem dX5_soCount_26 : decode cX5_soCount 26 = .ok (.ifCond .eq 6, 3) := by decide +kernel
theorem dX5_soCount_29 : decode cX5_soCount 29 = .ok (.iinc 5 1, 3) := by decide +kernel
theorem dX5_soCount_32 : decode cX5_soCount 32 = .ok (.iinc 6 1, 3) := by decide +kernel
theorem dX5_soCount_35 : decode cX5_soCount 35 = .ok (.goto (-25), 3) := by decide +kernel
theorem dX5_soCount_38 : decode cX5_soCount 38 = .ok (.iload 5, 2) := by decide +kernel
theorem dX5_soCount_40 : decode cX5_soCount 40 = .ok (.ireturn, 1) := by decide +kernel
theorem dX5_soLeast_0 : decode cX5_soLeast 0 = .ok (.getstatic 77, 3) := by decide +kernel
theorem dX5_soLeast_3 : decode cX5_soLeast 3 = .ok (.iload_n 3, 1) := by decide +kernel
theorem dX5_soLeast_4 : decode cX5_soLeast 4 = .ok (.iaload, 1) := by decide +kernel
theorem dX5_soLeast_5 : decode cX5_soLeast 5 = .ok (.istore 5, 2) := by decide +kernel
theorem dX5_soLeast_7 : decode cX5_soLeast 7 = .ok (.iload 5, 2) := by decide +kernel
theorem dX5_soLeast_9 : decode cX5_soLeast 9 = .ok (.iload 4, 2) := by decide +kernel
theorem dX5_soLeast_11 : decode cX5_soLeast 11 = .ok (.if_icmp .gt 24, 3) := by decide +kernel
theorem dX5_soLeast_14 : decode cX5_soLeast 14 = .ok (.aload_n 0, 1) := by decide +kernel
theorem dX5_soLeast_15 : decode cX5_soLeast 15 = .ok (.aload_n 1, 1) := by decide +kernel
theorem dX5_soLeast_16 : decode cX5_soLeast 16 = .ok (.aload_n 2, 1) := by decide +kernel
theorem dX5_soLeast_17 : decode cX5_soLeast 17 = .ok (.iload_n 3, 1) := by decide +kernel
theorem dX5_soLeast_18 : decode cX5_soLeast 18 = .ok (.iload 5, 2) := by decide +kernel
theorem dX5_soLeast_20 : decode cX5_soLeast 20 = .ok (.invokevirtual 320, 3) := by decide +kernel
theorem dX5_soLeast_23 : decode cX5_soLeast 23 = .ok (.ifCond .eq 6, 3) := by decide +kernel
theorem dX5_soLeast_26 : decode cX5_soLeast 26 = .ok (.iload 5, 2) := by decide +kernel
theorem dX5_soLeast_28 : decode cX5_soLeast 28 = .ok (.ireturn, 1) := by decide +kernel
theorem dX5_soLeast_29 : decode cX5_soLeast 29 = .ok (.iinc 5 1, 3) := by decide +kernel
theorem dX5_soLeast_32 : decode cX5_soLeast 32 = .ok (.goto (-25), 3) := by decide +kernel
theorem dX5_soLeast_35 : decode cX5_soLeast 35 = .ok (.iconst (-1), 1) := by decide +kernel
theorem dX5_soLeast_36 : decode cX5_soLeast 36 = .ok (.ireturn, 1) := by decide +kernel
theorem dX5_soTexts_0 : decode cX5_soTexts 0 = .ok (.iconst 0, 1) := by decide +kernel
theorem dX5_soTexts_1 : decode cX5_soTexts 1 = .ok (.istore_n 3, 1) := by decide +kernel
theorem dX5_soTexts_2 : decode cX5_soTexts 2 = .ok (.iconst 0, 1) := by decide +kernel
theorem dX5_soTexts_3 : decode cX5_soTexts 3 = .ok (.istore 4, 2) := by decide +kernel
theorem dX5_soTexts_5 : decode cX5_soTexts 5 = .ok (.iload 4, 2) := by decide +kernel
theorem dX5_soTexts_7 : decode cX5_soTexts 7 = .ok (.aload_n 0, 1) := by decide +kernel
theorem dX5_soTexts_8 : decode cX5_soTexts 8 = .ok (.getfield 139, 3) := by decide +kernel
theorem dX5_soTexts_11 : decode cX5_soTexts 11 = .ok (.if_icmp .ge 33, 3) := by decide +kernel
theorem dX5_soTexts_14 : decode cX5_soTexts 14 = .ok (.aload_n 0, 1) := by decide +kernel
theorem dX5_soTexts_15 : decode cX5_soTexts 15 = .ok (.aload_n 1, 1) := by decide +kernel
theorem dX5_soTexts_16 : decode cX5_soTexts 16 = .ok (.aload_n 0, 1) := by decide +kernel
theorem dX5_soTexts_17 : decode cX5_soTexts 17 = .ok (.getfield 24, 3) := by decide +kernel
theorem dX5_soTexts_20 : decode cX5_soTexts 20 = .ok (.iload 4, 2) := by decide +kernel
theorem dX5_soTexts_22 : decode cX5_soTexts 22 = .ok (.aaload, 1) := by decide +kernel
theorem dX5_soTexts_23 : decode cX5_soTexts 23 = .ok (.aload_n 2, 1) := by decide +kernel
theorem dX5_soTexts_24 : decode cX5_soTexts 24 = .ok (.invokevirtual 215, 3) := by decide +kernel
theorem dX5_soTexts_27 : decode cX5_soTexts 27 = .ok (.iconst (-1), 1) := by decide +kernel
theorem dX5_soTexts_28 : decode cX5_soTexts 28 = .ok (.if_icmp .ne 10, 3) := by decide +kernel
theorem dX5_soTexts_31 : decode cX5_soTexts 31 = .ok (.iload_n 3, 1) := by decide +kernel
theorem dX5_soTexts_32 : decode cX5_soTexts 32 = .ok (.iconst 1, 1) := by decide +kernel
theorem dX5_soTexts_33 : decode cX5_soTexts 33 = .ok (.iload 4, 2) := by decide +kernel
theorem dX5_soTexts_35 : decode cX5_soTexts 35 = .ok (.ishl, 1) := by decide +kernel
theorem dX5_soTexts_36 : decode cX5_soTexts 36 = .ok (.ior, 1) := by decide +kernel
theorem dX5_soTexts_37 : decode cX5_soTexts 37 = .ok (.istore_n 3, 1) := by decide +kernel
theorem dX5_soTexts_38 : decode cX5_soTexts 38 = .ok (.iinc 4 1, 3) := by decide +kernel
theorem dX5_soTexts_41 : decode cX5_soTexts 41 = .ok (.goto (-36), 3) := by decide +kernel
theorem dX5_soTexts_44 : decode cX5_soTexts 44 = .ok (.iload_n 3, 1) := by decide +kernel
theorem dX5_soTexts_45 : decode cX5_soTexts 45 = .ok (.ireturn, 1) := by decide +kernel
theorem dX5_soCoins_0 : decode cX5_soCoins 0 = .ok (.iconst 0, 1) := by decide +kernel
theorem dX5_soCoins_1 : decode cX5_soCoins 1 = .ok (.istore_n 2, 1) := by decide +kernel
theorem dX5_soCoins_2 : decode cX5_soCoins 2 = .ok (.iconst 0, 1) := by decide +kernel
theorem dX5_soCoins_3 : decode cX5_soCoins 3 = .ok (.istore_n 3, 1) := by decide +kernel
theorem dX5_soCoins_4 : decode cX5_soCoins 4 = .ok (.iload_n 3, 1) := by decide +kernel
theorem dX5_soCoins_5 : decode cX5_soCoins 5 = .ok (.aload_n 0, 1) := by decide +kernel
theorem dX5_soCoins_6 : decode cX5_soCoins 6 = .ok (.getfield 103, 3) := by decide +kernel
theorem dX5_soCoins_9 : decode cX5_soCoins 9 = .ok (.if_icmp .ge 34, 3) := by decide +kernel
theorem dX5_soCoins_12 : decode cX5_soCoins 12 = .ok (.aload_n 0, 1) := by decide +kernel
theorem dX5_soCoins_13 : decode cX5_soCoins 13 = .ok (.aload_n 1, 1) := by decide +kernel
theorem dX5_soCoins_14 : decode cX5_soCoins 14 = .ok (.aload_n 0, 1) := by decide +kernel
theorem dX5_soCoins_15 : decode cX5_soCoins 15 = .ok (.invokevirtual 111, 3) := by decide +kernel
theorem dX5_soCoins_18 : decode cX5_soCoins 18 = .ok (.aload_n 0, 1) := by decide +kernel
theorem dX5_soCoins_19 : decode cX5_soCoins 19 = .ok (.getfield 11, 3) := by decide +kernel
theorem dX5_soCoins_22 : decode cX5_soCoins 22 = .ok (.iload_n 3, 1) := by decide +kernel
theorem dX5_soCoins_23 : decode cX5_soCoins 23 = .ok (.aaload, 1) := by decide +kernel
theorem dX5_soCoins_24 : decode cX5_soCoins 24 = .ok (.invokevirtual 215, 3) := by decide +kernel
theorem dX5_soCoins_27 : decode cX5_soCoins 27 = .ok (.iconst (-1), 1) := by decide +kernel
theorem dX5_soCoins_28 : decode cX5_soCoins 28 = .ok (.if_icmp .ne 9, 3) := by decide +kernel
theorem dX5_soCoins_31 : decode cX5_soCoins 31 = .ok (.iload_n 2, 1) := by decide +kernel
theorem dX5_soCoins_32 : decode cX5_soCoins 32 = .ok (.iconst 1, 1) := by decide +kernel
theorem dX5_soCoins_33 : decode cX5_soCoins 33 = .ok (.iload_n 3, 1) := by decide +kernel
theorem dX5_soCoins_34 : decode cX5_soCoins 34 = .ok (.ishl, 1) := by decide +kernel
theorem dX5_soCoins_35 : decode cX5_soCoins 35 = .ok (.ior, 1) := by decide +kernel
theorem dX5_soCoins_36 : decode cX5_soCoins 36 = .ok (.istore_n 2, 1) := by decide +kernel
theorem dX5_soCoins_37 : decode cX5_soCoins 37 = .ok (.iinc 3 1, 3) := by decide +kernel
theorem dX5_soCoins_40 : decode cX5_soCoins 40 = .ok (.goto (-36), 3) := by decide +kernel
theorem dX5_soCoins_43 : decode cX5_soCoins 43 = .ok (.iload_n 2, 1) := by decide +kernel
theorem dX5_soCoins_44 : decode cX5_soCoins 44 = .ok (.ireturn, 1) := by decide +kernel
theorem dX5_nextDraw_0 : decode cX5_nextDraw 0 = .ok (.iload_n 0, 1) := by decide +kernel
theorem dX5_nextDraw_1 : decode cX5_nextDraw 1 = .ok (.ldc_w 324, 3) := by decide +kernel
theorem dX5_nextDraw_4 : decode cX5_nextDraw 4 = .ok (.imul, 1) := by decide +kernel
theorem dX5_nextDraw_5 : decode cX5_nextDraw 5 = .ok (.sipush 12345, 3) := by decide +kernel
theorem dX5_nextDraw_8 : decode cX5_nextDraw 8 = .ok (.iadd, 1) := by decide +kernel
theorem dX5_nextDraw_9 : decode cX5_nextDraw 9 = .ok (.ireturn, 1) := by decide +kernel
theorem dX5_drawnAge_0 : decode cX5_drawnAge 0 = .ok (.iload_n 0, 1) := by decide +kernel
theorem dX5_drawnAge_1 : decode cX5_drawnAge 1 = .ok (.bipush 9, 2) := by decide +kernel
theorem dX5_drawnAge_3 : decode cX5_drawnAge 3 = .ok (.iushr, 1) := by decide +kernel
theorem dX5_drawnAge_4 : decode cX5_drawnAge 4 = .ok (.bipush 15, 2) := by decide +kernel
theorem dX5_drawnAge_6 : decode cX5_drawnAge 6 = .ok (.irem, 1) := by decide +kernel
theorem dX5_drawnAge_7 : decode cX5_drawnAge 7 = .ok (.ireturn, 1) := by decide +kernel
theorem dX5_wholeWhenDrawn_0 : decode cX5_wholeWhenDrawn 0 = .ok (.iconst 0, 1) := by decide +kernel
theorem dX5_wholeWhenDrawn_1 : decode cX5_wholeWhenDrawn 1 = .ok (.istore_n 3, 1) := by decide +kernel
theorem dX5_wholeWhenDrawn_2 : decode cX5_wholeWhenDrawn 2 = .ok (.iload_n 1, 1) := by decide +kernel
theorem dX5_wholeWhenDrawn_3 : decode cX5_wholeWhenDrawn 3 = .ok (.istore 4, 2) := by decide +kernel
theorem dX5_wholeWhenDrawn_5 : decode cX5_wholeWhenDrawn 5 = .ok (.iconst 0, 1) := by decide +kernel
theorem dX5_wholeWhenDrawn_6 : decode cX5_wholeWhenDrawn 6 = .ok (.istore 5, 2) := by decide +kernel
theorem dX5_wholeWhenDrawn_8 : decode cX5_wholeWhenDrawn 8 = .ok (.iload 5, 2) := by decide +kernel
theorem dX5_wholeWhenDrawn_10 : decode cX5_wholeWhenDrawn 10 = .ok (.aload_n 0, 1) := by decide +kernel
theorem dX5_wholeWhenDrawn_11 : decode cX5_wholeWhenDrawn 11 = .ok (.getfield 103, 3) := by decide +kernel
theorem dX5_wholeWhenDrawn_14 : decode cX5_wholeWhenDrawn 14 = .ok (.if_icmp .ge 65, 3) := by decide +kernel
theorem dX5_wholeWhenDrawn_17 : decode cX5_wholeWhenDrawn 17 = .ok (.iload 4, 2) := by decide +kernel
theorem dX5_wholeWhenDrawn_19 : decode cX5_wholeWhenDrawn 19 = .ok (.invokestatic 244, 3) := by decide +kernel
theorem dX5_wholeWhenDrawn_22 : decode cX5_wholeWhenDrawn 22 = .ok (.istore 4, 2) := by decide +kernel
theorem dX5_wholeWhenDrawn_24 : decode cX5_wholeWhenDrawn 24 = .ok (.iload 4, 2) := by decide +kernel
theorem dX5_wholeWhenDrawn_26 : decode cX5_wholeWhenDrawn 26 = .ok (.invokestatic 247, 3) := by decide +kernel
theorem dX5_wholeWhenDrawn_29 : decode cX5_wholeWhenDrawn 29 = .ok (.istore 6, 2) := by decide +kernel
theorem dX5_wholeWhenDrawn_31 : decode cX5_wholeWhenDrawn 31 = .ok (.aload_n 0, 1) := by decide +kernel
theorem dX5_wholeWhenDrawn_32 : decode cX5_wholeWhenDrawn 32 = .ok (.getfield 11, 3) := by decide +kernel
theorem dX5_wholeWhenDrawn_35 : decode cX5_wholeWhenDrawn 35 = .ok (.iload 5, 2) := by decide +kernel
theorem dX5_wholeWhenDrawn_37 : decode cX5_wholeWhenDrawn 37 = .ok (.aaload, 1) := by decide +kernel
theorem dX5_wholeWhenDrawn_38 : decode cX5_wholeWhenDrawn 38 = .ok (.getfield 148, 3) := by decide +kernel
theorem dX5_wholeWhenDrawn_41 : decode cX5_wholeWhenDrawn 41 = .ok (.iload_n 2, 1) := by decide +kernel
theorem dX5_wholeWhenDrawn_42 : decode cX5_wholeWhenDrawn 42 = .ok (.if_icmp .ne 31, 3) := by decide +kernel
theorem dX5_wholeWhenDrawn_45 : decode cX5_wholeWhenDrawn 45 = .ok (.iload 6, 2) := by decide +kernel
theorem dX5_wholeWhenDrawn_47 : decode cX5_wholeWhenDrawn 47 = .ok (.aload_n 0, 1) := by decide +kernel
theorem dX5_wholeWhenDrawn_48 : decode cX5_wholeWhenDrawn 48 = .ok (.invokevirtual 111, 3) := by decide +kernel
theorem dX5_wholeWhenDrawn_51 : decode cX5_wholeWhenDrawn 51 = .ok (.aload_n 0, 1) := by decide +kernel
theorem dX5_wholeWhenDrawn_52 : decode cX5_wholeWhenDrawn 52 = .ok (.getfield 11, 3) := by decide +kernel
theorem dX5_wholeWhenDrawn_55 : decode cX5_wholeWhenDrawn 55 = .ok (.iload 5, 2) := by decide +kernel
theorem dX5_wholeWhenDrawn_57 : decode cX5_wholeWhenDrawn 57 = .ok (.aaload, 1) := by decide +kernel
theorem dX5_wholeWhenDrawn_58 : decode cX5_wholeWhenDrawn 58 = .ok (.iload 6, 2) := by decide +kernel
theorem dX5_wholeWhenDrawn_60 : decode cX5_wholeWhenDrawn 60 = .ok (.aload_n 0, 1) := by decide +kernel
theorem dX5_wholeWhenDrawn_61 : decode cX5_wholeWhenDrawn 61 = .ok (.getfield 83, 3) := by decide +kernel
theorem dX5_wholeWhenDrawn_64 : decode cX5_wholeWhenDrawn 64 = .ok (.invokevirtual 118, 3) := by decide +kernel
theorem dX5_wholeWhenDrawn_67 : decode cX5_wholeWhenDrawn 67 = .ok (.if_icmp .ge 6, 3) := by decide +kernel
theorem dX5_wholeWhenDrawn_70 : decode cX5_wholeWhenDrawn 70 = .ok (.iinc 3 1, 3) := by decide +kernel
theorem dX5_wholeWhenDrawn_73 : decode cX5_wholeWhenDrawn 73 = .ok (.iinc 5 1, 3) := by decide +kernel
theorem dX5_wholeWhenDrawn_76 : decode cX5_wholeWhenDrawn 76 = .ok (.goto (-68), 3) := by decide +kernel
theorem dX5_wholeWhenDrawn_79 : decode cX5_wholeWhenDrawn 79 = .ok (.iload_n 3, 1) := by decide +kernel
theorem dX5_wholeWhenDrawn_80 : decode cX5_wholeWhenDrawn 80 = .ok (.ireturn, 1) := by decide +kernel
theorem dX5_commonDivisor_0 : decode cX5_commonDivisor 0 = .ok (.iload_n 1, 1) := by decide +kernel
theorem dX5_commonDivisor_1 : decode cX5_commonDivisor 1 = .ok (.istore_n 2, 1) := by decide +kernel
theorem dX5_commonDivisor_2 : decode cX5_commonDivisor 2 = .ok (.iload_n 2, 1) := by decide +kernel
theorem dX5_commonDivisor_3 : decode cX5_commonDivisor 3 = .ok (.iconst 1, 1) := by decide +kernel
theorem dX5_commonDivisor_4 : decode cX5_commonDivisor 4 = .ok (.if_icmp .le 23, 3) := by decide +kernel
theorem dX5_commonDivisor_7 : decode cX5_commonDivisor 7 = .ok (.iload_n 0, 1) := by decide +kernel
theorem dX5_commonDivisor_8 : decode cX5_commonDivisor 8 = .ok (.iload_n 2, 1) := by decide +kernel
theorem dX5_commonDivisor_9 : decode cX5_commonDivisor 9 = .ok (.irem, 1) := by decide +kernel
theorem dX5_commonDivisor_10 : decode cX5_commonDivisor 10 = .ok (.ifCond .ne 11, 3) := by decide +kernel
theorem dX5_commonDivisor_13 : decode cX5_commonDivisor 13 = .ok (.iload_n 1, 1) := by decide +kernel
theorem dX5_commonDivisor_14 : decode cX5_commonDivisor 14 = .ok (.iload_n 2, 1) := by decide +kernel
theorem dX5_commonDivisor_15 : decode cX5_commonDivisor 15 = .ok (.irem, 1) := by decide +kernel
theorem dX5_commonDivisor_16 : decode cX5_commonDivisor 16 = .ok (.ifCond .ne 5, 3) := by decide +kernel
theorem dX5_commonDivisor_19 : decode cX5_commonDivisor 19 = .ok (.iload_n 2, 1) := by decide +kernel
theorem dX5_commonDivisor_20 : decode cX5_commonDivisor 20 = .ok (.ireturn, 1) := by decide +kernel
theorem dX5_commonDivisor_21 : decode cX5_commonDivisor 21 = .ok (.iinc 2 (-1), 3) := by decide +kernel
theorem dX5_commonDivisor_24 : decode cX5_commonDivisor 24 = .ok (.goto (-22), 3) := by decide +kernel
theorem dX5_commonDivisor_27 : decode cX5_commonDivisor 27 = .ok (.iconst 1, 1) := by decide +kernel
theorem dX5_commonDivisor_28 : decode cX5_commonDivisor 28 = .ok (.ireturn, 1) := by decide +kernel
theorem dX6_in_0 : decode cX6_in 0 = .ok (.lload_n 0, 1) := by decide +kernel
theorem dX6_in_1 : decode cX6_in 1 = .ok (.lload_n 2, 1) := by decide +kernel
theorem dX6_in_2 : decode cX6_in 2 = .ok (.lcmp, 1) := by decide +kernel
theorem dX6_in_3 : decode cX6_in 3 = .ok (.ifCond .lt 14, 3) := by decide +kernel
theorem dX6_in_6 : decode cX6_in 6 = .ok (.lload_n 0, 1) := by decide +kernel
theorem dX6_in_7 : decode cX6_in 7 = .ok (.lload 4, 2) := by decide +kernel
theorem dX6_in_9 : decode cX6_in 9 = .ok (.lcmp, 1) := by decide +kernel
theorem dX6_in_10 : decode cX6_in 10 = .ok (.ifCond .gt 7, 3) := by decide +kernel
theorem dX6_in_13 : decode cX6_in 13 = .ok (.iconst 1, 1) := by decide +kernel
theorem dX6_in_14 : decode cX6_in 14 = .ok (.goto 4, 3) := by decide +kernel
theorem dX6_in_17 : decode cX6_in 17 = .ok (.iconst 0, 1) := by decide +kernel
theorem dX6_in_18 : decode cX6_in 18 = .ok (.ireturn, 1) := by decide +kernel
theorem dX6_within_0 : decode cX6_within 0 = .ok (.iload_n 0, 1) := by decide +kernel
theorem dX6_within_1 : decode cX6_within 1 = .ok (.iload_n 1, 1) := by decide +kernel
theorem dX6_within_2 : decode cX6_within 2 = .ok (.if_icmp .ge 7, 3) := by decide +kernel
theorem dX6_within_5 : decode cX6_within 5 = .ok (.iload_n 1, 1) := by decide +kernel
theorem dX6_within_6 : decode cX6_within 6 = .ok (.goto 13, 3) := by decide +kernel
theorem dX6_within_9 : decode cX6_within 9 = .ok (.iload_n 0, 1) := by decide +kernel
theorem dX6_within_10 : decode cX6_within 10 = .ok (.iload_n 2, 1) := by decide +kernel
theorem dX6_within_11 : decode cX6_within 11 = .ok (.if_icmp .le 7, 3) := by decide +kernel
theorem dX6_within_14 : decode cX6_within 14 = .ok (.iload_n 2, 1) := by decide +kernel
theorem dX6_within_15 : decode cX6_within 15 = .ok (.goto 4, 3) := by decide +kernel
theorem dX6_within_18 : decode cX6_within 18 = .ok (.iload_n 0, 1) := by decide +kernel
theorem dX6_within_19 : decode cX6_within 19 = .ok (.ireturn, 1) := by decide +kernel
theorem dX6_init_0 : decode cX6_init 0 = .ok (.aload_n 0, 1) := by decide +kernel
theorem dX6_init_1 : decode cX6_init 1 = .ok (.invokespecial 7, 3) := by decide +kernel
theorem dX6_init_4 : decode cX6_init 4 = .ok (.aload_n 0, 1) := by decide +kernel
theorem dX6_init_5 : decode cX6_init 5 = .ok (.sipush 960, 3) := by decide +kernel
theorem dX6_init_8 : decode cX6_init 8 = .ok (.newarray .int, 2) := by decide +kernel
theorem dX6_init_10 : decode cX6_init 10 = .ok (.putfield 13, 3) := by decide +kernel
theorem dX6_init_13 : decode cX6_init 13 = .ok (.aload_n 0, 1) := by decide +kernel
theorem dX6_init_14 : decode cX6_init 14 = .ok (.bipush 6, 2) := by decide +kernel
theorem dX6_init_16 : decode cX6_init 16 = .ok (.newarray .int, 2) := by decide +kernel
theorem dX6_init_18 : decode cX6_init 18 = .ok (.putfield 17, 3) := by decide +kernel
theorem dX6_init_21 : decode cX6_init 21 = .ok (.aload_n 0, 1) := by decide +kernel
theorem dX6_init_22 : decode cX6_init 22 = .ok (.sipush 160, 3) := by decide +kernel
theorem dX6_init_25 : decode cX6_init 25 = .ok (.newarray .int, 2) := by decide +kernel
theorem dX6_init_27 : decode cX6_init 27 = .ok (.putfield 20, 3) := by decide +kernel
theorem dX6_init_30 : decode cX6_init 30 = .ok (.aload_n 0, 1) := by decide +kernel
theorem dX6_init_31 : decode cX6_init 31 = .ok (.bipush 8, 2) := by decide +kernel
theorem dX6_init_33 : decode cX6_init 33 = .ok (.newarray .int, 2) := by decide +kernel
theorem dX6_init_35 : decode cX6_init 35 = .ok (.putfield 23, 3) := by decide +kernel
theorem dX6_init_38 : decode cX6_init 38 = .ok (.aload_n 0, 1) := by decide +kernel
theorem dX6_init_39 : decode cX6_init 39 = .ok (.bipush 40, 2) := by decide +kernel
theorem dX6_init_41 : decode cX6_init 41 = .ok (.newarray .int, 2) := by decide +kernel
theorem dX6_init_43 : decode cX6_init 43 = .ok (.putfield 26, 3) := by decide +kernel
theorem dX6_init_46 : decode cX6_init 46 = .ok (.aload_n 0, 1) := by decide +kernel
theorem dX6_init_47 : decode cX6_init 47 = .ok (.bipush 8, 2) := by decide +kernel
theorem dX6_init_49 : decode cX6_init 49 = .ok (.newarray .int, 2) := by decide +kernel
theorem dX6_init_51 : decode cX6_init 51 = .ok (.putfield 29, 3) := by decide +kernel
theorem dX6_init_54 : decode cX6_init 54 = .ok (.aload_n 0, 1) := by decide +kernel
theorem dX6_init_55 : decode cX6_init 55 = .ok (.bipush 8, 2) := by decide +kernel
theorem dX6_init_57 : decode cX6_init 57 = .ok (.newarray .int, 2) := by decide +kernel
theorem dX6_init_59 : decode cX6_init 59 = .ok (.putfield 32, 3) := by decide +kernel
theorem dX6_init_62 : decode cX6_init 62 = .ok (.aload_n 0, 1) := by decide +kernel
theorem dX6_init_63 : decode cX6_init 63 = .ok (.bipush 8, 2) := by decide +kernel
theorem dX6_init_65 : decode cX6_init 65 = .ok (.newarray .int, 2) := by decide +kernel
theorem dX6_init_67 : decode cX6_init 67 = .ok (.putfield 35, 3) := by decide +kernel
theorem dX6_init_70 : decode cX6_init 70 = .ok (.aload_n 0, 1) := by decide +kernel
theorem dX6_init_71 : decode cX6_init 71 = .ok (.bipush 40, 2) := by decide +kernel
theorem dX6_init_73 : decode cX6_init 73 = .ok (.newarray .int, 2) := by decide +kernel
theorem dX6_init_75 : decode cX6_init 75 = .ok (.putfield 38, 3) := by decide +kernel
theorem dX6_init_78 : decode cX6_init 78 = .ok (.aload_n 0, 1) := by decide +kernel
theorem dX6_init_79 : decode cX6_init 79 = .ok (.iconst (-1), 1) := by decide +kernel
theorem dX6_init_80 : decode cX6_init 80 = .ok (.putfield 41, 3) := by decide +kernel
theorem dX6_init_83 : decode cX6_init 83 = .ok (.aload_n 0, 1) := by decide +kernel
theorem dX6_init_84 : decode cX6_init 84 = .ok (.iconst 4, 1) := by decide +kernel
theorem dX6_init_85 : decode cX6_init 85 = .ok (.newarray .boolean, 2) := by decide +kernel
theorem dX6_init_87 : decode cX6_init 87 = .ok (.putfield 44, 3) := by decide +kernel
theorem dX6_init_90 : decode cX6_init 90 = .ok (.aload_n 0, 1) := by decide +kernel
theorem dX6_init_91 : decode cX6_init 91 = .ok (.iconst 4, 1) := by decide +kernel
theorem dX6_init_92 : decode cX6_init 92 = .ok (.newarray .int, 2) := by decide +kernel
theorem dX6_init_94 : decode cX6_init 94 = .ok (.putfield 48, 3) := by decide +kernel
theorem dX6_init_97 : decode cX6_init 97 = .ok (.aload_n 0, 1) := by decide +kernel
theorem dX6_init_98 : decode cX6_init 98 = .ok (.iconst 4, 1) := by decide +kernel
theorem dX6_init_99 : decode cX6_init 99 = .ok (.newarray .int, 2) := by decide +kernel
theorem dX6_init_101 : decode cX6_init 101 = .ok (.putfield 51, 3) := by decide +kernel
theorem dX6_init_104 : decode cX6_init 104 = .ok (.aload_n 0, 1) := by decide +kernel
theorem dX6_init_105 : decode cX6_init 105 = .ok (.sipush 160, 3) := by decide +kernel
theorem dX6_init_108 : decode cX6_init 108 = .ok (.newarray .int, 2) := by decide +kernel
theorem dX6_init_110 : decode cX6_init 110 = .ok (.putfield 54, 3) := by decide +kernel
theorem dX6_init_113 : decode cX6_init 113 = .ok (.aload_n 0, 1) := by decide +kernel
theorem dX6_init_114 : decode cX6_init 114 = .ok (.iconst 0, 1) := by decide +kernel
theorem dX6_init_115 : decode cX6_init 115 = .ok (.bipush 116, 2) := by decide +kernel
theorem dX6_init_117 : decode cX6_init 117 = .ok (.bipush 117, 2) := by decide +kernel
theorem dX6_init_119 : decode cX6_init 119 = .ok (.bipush 114, 2) := by decide +kernel
theorem dX6_init_121 : decode cX6_init 121 = .ok (.bipush 110, 2) := by decide +kernel
theorem dX6_init_123 : decode cX6_init 123 = .ok (.bipush 115, 2) := by decide +kernel
theorem dX6_init_125 : decode cX6_init 125 = .ok (.bipush 32, 2) := by decide +kernel
theorem dX6_init_127 : decode cX6_init 127 = .ok (.bipush 55, 2) := by decide +kernel
theorem dX6_init_129 : decode cX6_init 129 = .ok (.bipush 32, 2) := by decide +kernel
theorem dX6_init_131 : decode cX6_init 131 = .ok (.invokevirtual 57, 3) := by decide +kernel
theorem dX6_init_134 : decode cX6_init 134 = .ok (.aload_n 0, 1) := by decide +kernel
theorem dX6_init_135 : decode cX6_init 135 = .ok (.bipush 8, 2) := by decide +kernel
theorem dX6_init_137 : decode cX6_init 137 = .ok (.bipush 59, 2) := by decide +kernel
theorem dX6_init_139 : decode cX6_init 139 = .ok (.bipush 32, 2) := by decide +kernel
theorem dX6_init_141 : decode cX6_init 141 = .ok (.bipush 103, 2) := by decide +kernel
theorem dX6_init_143 : decode cX6_init 143 = .ok (.bipush 105, 2) := by decide +kernel
theorem dX6_init_145 : decode cX6_init 145 = .ok (.bipush 118, 2) := by decide +kernel
theorem dX6_init_147 : decode cX6_init 147 = .ok (.bipush 101, 2) := by decide +kernel
theorem dX6_init_149 : decode cX6_init 149 = .ok (.bipush 115, 2) := by decide +kernel
theorem dX6_init_151 : decode cX6_init 151 = .ok (.bipush 32, 2) := by decide +kernel
theorem dX6_init_153 : decode cX6_init 153 = .ok (.invokevirtual 57, 3) := by decide +kernel
theorem dX6_init_156 : decode cX6_init 156 = .ok (.aload_n 0, 1) := by decide +kernel
theorem dX6_init_157 : decode cX6_init 157 = .ok (.bipush 16, 2) := by decide +kernel
theorem dX6_init_159 : decode cX6_init 159 = .ok (.bipush 102, 2) := by decide +kernel
theorem dX6_init_161 : decode cX6_init 161 = .ok (.bipush 105, 2) := by decide +kernel
theorem dX6_init_163 : decode cX6_init 163 = .ok (.bipush 114, 2) := by decide +kernel
theorem dX6_init_165 : decode cX6_init 165 = .ok (.bipush 115, 2) := by decide +kernel
theorem dX6_init_167 : decode cX6_init 167 = .ok (.bipush 116, 2) := by decide +kernel
theorem dX6_init_169 : decode cX6_init 169 = .ok (.bipush 32, 2) := by decide +kernel
theorem dX6_init_171 : decode cX6_init 171 = .ok (.bipush 42, 2) := by decide +kernel
theorem dX6_init_173 : decode cX6_init 173 = .ok (.bipush 32, 2) := by decide +kernel
theorem dX6_init_175 : decode cX6_init 175 = .ok (.invokevirtual 57, 3) := by decide +kernel
theorem dX6_init_178 : decode cX6_init 178 = .ok (.aload_n 0, 1) := by decide +kernel
theorem dX6_init_179 : decode cX6_init 179 = .ok (.bipush 24, 2) := by decide +kernel
theorem dX6_init_181 : decode cX6_init 181 = .ok (.bipush 53, 2) := by decide +kernel
theorem dX6_init_183 : decode cX6_init 183 = .ok (.bipush 32, 2) := by decide +kernel
theorem dX6_init_185 : decode cX6_init 185 = .ok (.bipush 59, 2) := by decide +kernel
theorem dX6_init_187 : decode cX6_init 187 = .ok (.bipush 32, 2) := by decide +kernel
theorem dX6_init_189 : decode cX6_init 189 = .ok (.bipush 115, 2) := by decide +kernel
theorem dX6_init_191 : decode cX6_init 191 = .ok (.bipush 112, 2) := by decide +kernel
theorem dX6_init_193 : decode cX6_init 193 = .ok (.bipush 111, 2) := by decide +kernel
theorem dX6_init_195 : decode cX6_init 195 = .ok (.bipush 105, 2) := by decide +kernel
theorem dX6_init_197 : decode cX6_init 197 = .ok (.invokevirtual 57, 3) := by decide +kernel
theorem dX6_init_200 : decode cX6_init 200 = .ok (.aload_n 0, 1) := by decide +kernel
theorem dX6_init_201 : decode cX6_init 201 = .ok (.bipush 32, 2) := by decide +kernel
theorem dX6_init_203 : decode cX6_init 203 = .ok (.bipush 108, 2) := by decide +kernel
theorem dX6_init_205 : decode cX6_init 205 = .ok (.bipush 115, 2) := by decide +kernel
theorem dX6_init_207 : decode cX6_init 207 = .ok (.bipush 32, 2) := by decide +kernel
theorem dX6_init_209 : decode cX6_init 209 = .ok (.bipush 50, 2) := by decide +kernel
theorem dX6_init_211 : decode cX6_init 211 = .ok (.bipush 32, 2) := by decide +kernel
theorem dX6_init_213 : decode cX6_init 213 = .ok (.bipush 59, 2) := by decide +kernel
theorem dX6_init_215 : decode cX6_init 215 = .ok (.bipush 32, 2) := by decide +kernel
theorem dX6_init_217 : decode cX6_init 217 = .ok (.bipush 32, 2) := by decide +kernel
theorem dX6_init_219 : decode cX6_init 219 = .ok (.invokevirtual 57, 3) := by decide +kernel
theorem dX6_init_222 : decode cX6_init 222 = .ok (.aload_n 0, 1) := by decide +kernel
theorem dX6_init_223 : decode cX6_init 223 = .ok (.getfield 17, 3) := by decide +kernel
theorem dX6_init_226 : decode cX6_init 226 = .ok (.iconst 0, 1) := by decide +kernel
theorem dX6_init_227 : decode cX6_init 227 = .ok (.bipush 40, 2) := by decide +kernel
theorem dX6_init_229 : decode cX6_init 229 = .ok (.iastore, 1) := by decide +kernel
theorem dX6_init_230 : decode cX6_init 230 = .ok (.aload_n 0, 1) := by decide +kernel
theorem dX6_init_231 : decode cX6_init 231 = .ok (.iconst 1, 1) := by decide +kernel
theorem dX6_init_232 : decode cX6_init 232 = .ok (.putfield 61, 3) := by decide +kernel
theorem dX6_init_235 : decode cX6_init 235 = .ok (.return_, 1) := by decide +kernel
theorem dX6_spell_0 : decode cX6_spell 0 = .ok (.aload_n 0, 1) := by decide +kernel
theorem dX6_spell_1 : decode cX6_spell 1 = .ok (.getfield 13, 3) := by decide +kernel
theorem dX6_spell_4 : decode cX6_spell 4 = .ok (.iload_n 1, 1) := by decide +kernel
theorem dX6_spell_5 : decode cX6_spell 5 = .ok (.iload_n 2, 1) := by decide +kernel
theorem dX6_spell_6 : decode cX6_spell 6 = .ok (.iastore, 1) := by decide +kernel
theorem dX6_spell_7 : decode cX6_spell 7 = .ok (.aload_n 0, 1) := by decide +kernel
theorem dX6_spell_8 : decode cX6_spell 8 = .ok (.getfield 13, 3) := by decide +kernel
theorem dX6_spell_11 : decode cX6_spell 11 = .ok (.iload_n 1, 1) := by decide +kernel
theorem dX6_spell_12 : decode cX6_spell 12 = .ok (.iconst 1, 1) := by decide +kernel
theorem dX6_spell_13 : decode cX6_spell 13 = .ok (.iadd, 1) := by decide +kernel
theorem dX6_spell_14 : decode cX6_spell 14 = .ok (.iload_n 3, 1) := by decide +kernel
theorem dX6_spell_15 : decode cX6_spell 15 = .ok (.iastore, 1) := by decide +kernel
theorem dX6_spell_16 : decode cX6_spell 16 = .ok (.aload_n 0, 1) := by decide +kernel
theorem dX6_spell_17 : decode cX6_spell 17 = .ok (.getfield 13, 3) := by decide +kernel
theorem dX6_spell_20 : decode cX6_spell 20 = .ok (.iload_n 1, 1) := by decide +kernel
theorem dX6_spell_21 : decode cX6_spell 21 = .ok (.iconst 2, 1) := by decide +kernel
theorem dX6_spell_22 : decode cX6_spell 22 = .ok (.iadd, 1) := by decide +kernel
theorem dX6_spell_23 : decode cX6_spell 23 = .ok (.iload 4, 2) := by decide +kernel
theorem dX6_spell_25 : decode cX6_spell 25 = .ok (.iastore, 1) := by decide +kernel
theorem dX6_spell_26 : decode cX6_spell 26 = .ok (.aload_n 0, 1) := by decide +kernel
theorem dX6_spell_27 : decode cX6_spell 27 = .ok (.getfield 13, 3) := by decide +kernel
theorem dX6_spell_30 : decode cX6_spell 30 = .ok (.iload_n 1, 1) := by decide +kernel
theorem dX6_spell_31 : decode cX6_spell 31 = .ok (.iconst 3, 1) := by decide +kernel
theorem dX6_spell_32 : decode cX6_spell 32 = .ok (.iadd, 1) := by decide +kernel
theorem dX6_spell_33 : decode cX6_spell 33 = .ok (.iload 5, 2) := by decide +kernel
theorem dX6_spell_35 : decode cX6_spell 35 = .ok (.iastore, 1) := by decide +kernel
theorem dX6_spell_36 : decode cX6_spell 36 = .ok (.aload_n 0, 1) := by decide +kernel
theorem dX6_spell_37 : decode cX6_spell 37 = .ok (.getfield 13, 3) := by decide +kernel
theorem dX6_spell_40 : decode cX6_spell 40 = .ok (.iload_n 1, 1) := by decide +kernel
theorem dX6_spell_41 : decode cX6_spell 41 = .ok (.iconst 4, 1) := by decide +kernel
theorem dX6_spell_42 : decode cX6_spell 42 = .ok (.iadd, 1) := by decide +kernel
theorem dX6_spell_43 : decode cX6_spell 43 = .ok (.iload 6, 2) := by decide +kernel
theorem dX6_spell_45 : decode cX6_spell 45 = .ok (.iastore, 1) := by decide +kernel
theorem dX6_spell_46 : decode cX6_spell 46 = .ok (.aload_n 0, 1) := by decide +kernel
theorem dX6_spell_47 : decode cX6_spell 47 = .ok (.getfield 13, 3) := by decide +kernel
theorem dX6_spell_50 : decode cX6_spell 50 = .ok (.iload_n 1, 1) := by decide +kernel
theorem dX6_spell_51 : decode cX6_spell 51 = .ok (.iconst 5, 1) := by decide +kernel
theorem dX6_spell_52 : decode cX6_spell 52 = .ok (.iadd, 1) := by decide +kernel
theorem dX6_spell_53 : decode cX6_spell 53 = .ok (.iload 7, 2) := by decide +kernel
theorem dX6_spell_55 : decode cX6_spell 55 = .ok (.iastore, 1) := by decide +kernel
theorem dX6_spell_56 : decode cX6_spell 56 = .ok (.aload_n 0, 1) := by decide +kernel
theorem dX6_spell_57 : decode cX6_spell 57 = .ok (.getfield 13, 3) := by decide +kernel
theorem dX6_spell_60 : decode cX6_spell 60 = .ok (.iload_n 1, 1) := by decide +kernel
theorem dX6_spell_61 : decode cX6_spell 61 = .ok (.bipush 6, 2) := by decide +kernel
theorem dX6_spell_63 : decode cX6_spell 63 = .ok (.iadd, 1) := by decide +kernel
theorem dX6_spell_64 : decode cX6_spell 64 = .ok (.iload 8, 2) := by decide +kernel
theorem dX6_spell_66 : decode cX6_spell 66 = .ok (.iastore, 1) := by decide +kernel
theorem dX6_spell_67 : decode cX6_spell 67 = .ok (.aload_n 0, 1) := by decide +kernel
theorem dX6_spell_68 : decode cX6_spell 68 = .ok (.getfield 13, 3) := by decide +kernel
theorem dX6_spell_71 : decode cX6_spell 71 = .ok (.iload_n 1, 1) := by decide +kernel
theorem dX6_spell_72 : decode cX6_spell 72 = .ok (.bipush 7, 2) := by decide +kernel
theorem dX6_spell_74 : decode cX6_spell 74 = .ok (.iadd, 1) := by decide +kernel
theorem dX6_spell_75 : decode cX6_spell 75 = .ok (.iload 9, 2) := by decide +kernel
theorem dX6_spell_77 : decode cX6_spell 77 = .ok (.iastore, 1) := by decide +kernel
theorem dX6_spell_78 : decode cX6_spell 78 = .ok (.return_, 1) := by decide +kernel
theorem dX6_isCoin_0 : decode cX6_isCoin 0 = .ok (.iload_n 1, 1) := by decide +kernel
theorem dX6_isCoin_1 : decode cX6_isCoin 1 = .ok (.i2l, 1) := by decide +kernel
theorem dX6_isCoin_2 : decode cX6_isCoin 2 = .ok (.lconst 0, 1) := by decide +kernel
theorem dX6_isCoin_3 : decode cX6_isCoin 3 = .ok (.aload_n 0, 1) := by decide +kernel
theorem dX6_isCoin_4 : decode cX6_isCoin 4 = .ok (.getfield 64, 3) := by decide +kernel
theorem dX6_isCoin_7 : decode cX6_isCoin 7 = .ok (.iconst 1, 1) := by decide +kernel
theorem dX6_isCoin_8 : decode cX6_isCoin 8 = .ok (.isub, 1) := by decide +kernel
theorem dX6_isCoin_9 : decode cX6_isCoin 9 = .ok (.i2l, 1) := by decide +kernel
theorem dX6_isCoin_10 : decode cX6_isCoin 10 = .ok (.invokestatic 67, 3) := by decide +kernel
theorem dX6_isCoin_13 : decode cX6_isCoin 13 = .ok (.ireturn, 1) := by decide +kernel
theorem dX6_isOwner_0 : decode cX6_isOwner 0 = .ok (.iload_n 0, 1) := by decide +kernel
theorem dX6_isOwner_1 : decode cX6_isOwner 1 = .ok (.i2l, 1) := by decide +kernel
theorem dX6_isOwner_2 : decode cX6_isOwner 2 = .ok (.lconst 0, 1) := by decide +kernel
theorem dX6_isOwner_3 : decode cX6_isOwner 3 = .ok (.ldc2_w 71, 3) := by decide +kernel
theorem dX6_isOwner_6 : decode cX6_isOwner 6 = .ok (.invokestatic 67, 3) := by decide +kernel
theorem dX6_isOwner_9 : decode cX6_isOwner 9 = .ok (.ireturn, 1) := by decide +kernel
theorem dX6_mostOf_0 : decode cX6_mostOf 0 = .ok (.iload_n 0, 1) := by decide +kernel
theorem dX6_mostOf_1 : decode cX6_mostOf 1 = .ok (.ifCond .eq 8, 3) := by decide +kernel
theorem dX6_mostOf_4 : decode cX6_mostOf 4 = .ok (.iload_n 0, 1) := by decide +kernel
theorem dX6_mostOf_5 : decode cX6_mostOf 5 = .ok (.iconst 4, 1) := by decide +kernel
theorem dX6_mostOf_6 : decode cX6_mostOf 6 = .ok (.if_icmp .ne 9, 3) := by decide +kernel
theorem dX6_mostOf_9 : decode cX6_mostOf 9 = .ok (.sipush 999, 3) := by decide +kernel
theorem dX6_mostOf_12 : decode cX6_mostOf 12 = .ok (.goto 24, 3) := by decide +kernel
theorem dX6_mostOf_15 : decode cX6_mostOf 15 = .ok (.iload_n 0, 1) := by decide +kernel
theorem dX6_mostOf_16 : decode cX6_mostOf 16 = .ok (.iconst 2, 1) := by decide +kernel
theorem dX6_mostOf_17 : decode cX6_mostOf 17 = .ok (.if_icmp .ne 8, 3) := by decide +kernel
theorem dX6_mostOf_20 : decode cX6_mostOf 20 = .ok (.bipush 99, 2) := by decide +kernel
theorem dX6_mostOf_22 : decode cX6_mostOf 22 = .ok (.goto 14, 3) := by decide +kernel
theorem dX6_mostOf_25 : decode cX6_mostOf 25 = .ok (.iload_n 0, 1) := by decide +kernel
theorem dX6_mostOf_26 : decode cX6_mostOf 26 = .ok (.iconst 5, 1) := by decide +kernel
theorem dX6_mostOf_27 : decode cX6_mostOf 27 = .ok (.if_icmp .ne 7, 3) := by decide +kernel
theorem dX6_mostOf_30 : decode cX6_mostOf 30 = .ok (.iconst 3, 1) := by decide +kernel
theorem dX6_mostOf_31 : decode cX6_mostOf 31 = .ok (.goto 5, 3) := by decide +kernel
theorem dX6_mostOf_34 : decode cX6_mostOf 34 = .ok (.bipush 9, 2) := by decide +kernel
theorem dX6_mostOf_36 : decode cX6_mostOf 36 = .ok (.ireturn, 1) := by decide +kernel
theorem dX6_set_0 : decode cX6_set 0 = .ok (.iload_n 1, 1) := by decide +kernel
theorem dX6_set_1 : decode cX6_set 1 = .ok (.i2l, 1) := by decide +kernel
theorem dX6_set_2 : decode cX6_set 2 = .ok (.lconst 0, 1) := by decide +kernel
theorem dX6_set_3 : decode cX6_set 3 = .ok (.ldc2_w 73, 3) := by decide +kernel
theorem dX6_set_6 : decode cX6_set 6 = .ok (.invokestatic 67, 3) := by decide +kernel
theorem dX6_set_9 : decode cX6_set 9 = .ok (.ifCond .eq 38, 3) := by decide +kernel
theorem dX6_set_12 : decode cX6_set 12 = .ok (.iload_n 1, 1) := by decide +kernel
theorem dX6_set_13 : decode cX6_set 13 = .ok (.ifCond .le 11, 3) := by decide +kernel
theorem dX6_set_16 : decode cX6_set 16 = .ok (.aload_n 0, 1) := by decide +kernel
theorem dX6_set_17 : decode cX6_set 17 = .ok (.iload_n 2, 1) := by decide +kernel
theorem dX6_set_18 : decode cX6_set 18 = .ok (.invokevirtual 75, 3) := by decide +kernel
theorem dX6_set_21 : decode cX6_set 21 = .ok (.ifCond .eq 26, 3) := by decide +kernel
theorem dX6_set_24 : decode cX6_set 24 = .ok (.iload_n 3, 1) := by decide +kernel
theorem dX6_set_25 : decode cX6_set 25 = .ok (.i2l, 1) := by decide +kernel
theorem dX6_set_26 : decode cX6_set 26 = .ok (.iload_n 1, 1) := by decide +kernel
theorem dX6_set_27 : decode cX6_set 27 = .ok (.iconst 2, 1) := by decide +kernel
theorem dX6_set_28 : decode cX6_set 28 = .ok (.if_icmp .ne 7, 3) := by decide +kernel
theorem dX6_set_31 : decode cX6_set 31 = .ok (.lconst 1, 1) := by decide +kernel
theorem dX6_set_32 : decode cX6_set 32 = .ok (.goto 4, 3) := by decide +kernel
theorem dX6_set_35 : decode cX6_set 35 = .ok (.lconst 0, 1) := by decide +kernel
theorem dX6_set_36 : decode cX6_set 36 = .ok (.iload_n 1, 1) := by decide +kernel
theorem dX6_set_37 : decode cX6_set 37 = .ok (.invokestatic 79, 3) := by decide +kernel
theorem dX6_set_40 : decode cX6_set 40 = .ok (.i2l, 1) := by decide +kernel
theorem dX6_set_41 : decode cX6_set 41 = .ok (.invokestatic 67, 3) := by decide +kernel
theorem dX6_set_44 : decode cX6_set 44 = .ok (.ifCond .ne 6, 3) := by decide +kernel
theorem dX6_set_47 : decode cX6_set 47 = .ok (.bipush (-2), 2) := by decide +kernel
theorem dX6_set_49 : decode cX6_set 49 = .ok (.ireturn, 1) := by decide +kernel
theorem dX6_set_50 : decode cX6_set 50 = .ok (.aload_n 0, 1) := by decide +kernel
theorem dX6_set_51 : decode cX6_set 51 = .ok (.iload_n 2, 1) := by decide +kernel
theorem dX6_set_52 : decode cX6_set 52 = .ok (.iload_n 1, 1) := by decide +kernel
theorem dX6_set_53 : decode cX6_set 53 = .ok (.invokevirtual 83, 3) := by decide +kernel
theorem dX6_set_56 : decode cX6_set 56 = .ok (.istore 4, 2) := by decide +kernel
theorem dX6_set_58 : decode cX6_set 58 = .ok (.aload_n 0, 1) := by decide +kernel
theorem dX6_set_59 : decode cX6_set 59 = .ok (.iload_n 1, 1) := by decide +kernel
theorem dX6_set_60 : decode cX6_set 60 = .ok (.iload_n 2, 1) := by decide +kernel
theorem dX6_set_61 : decode cX6_set 61 = .ok (.iload_n 3, 1) := by decide +kernel
theorem dX6_set_62 : decode cX6_set 62 = .ok (.invokevirtual 87, 3) := by decide +kernel
theorem dX6_set_65 : decode cX6_set 65 = .ok (.iload 4, 2) := by decide +kernel
theorem dX6_set_67 : decode cX6_set 67 = .ok (.ireturn, 1) := by decide +kernel
theorem dX6_lays_0 : decode cX6_lays 0 = .ok (.iload_n 1, 1) := by decide +kernel
theorem dX6_lays_1 : decode cX6_lays 1 = .ok (.ifCond .ne 11, 3) := by decide +kernel
theorem dX6_lays_4 : decode cX6_lays 4 = .ok (.aload_n 0, 1) := by decide +kernel
theorem dX6_lays_5 : decode cX6_lays 5 = .ok (.iload_n 3, 1) := by decide +kernel
theorem dX6_lays_6 : decode cX6_lays 6 = .ok (.putfield 91, 3) := by decide +kernel
theorem dX6_lays_9 : decode cX6_lays 9 = .ok (.goto 46, 3) := by decide +kernel
theorem dX6_lays_12 : decode cX6_lays 12 = .ok (.iload_n 1, 1) := by decide +kernel
theorem dX6_lays_13 : decode cX6_lays 13 = .ok (.bipush 6, 2) := by decide +kernel
theorem dX6_lays_15 : decode cX6_lays 15 = .ok (.if_icmp .ge 19, 3) := by decide +kernel
theorem dX6_lays_18 : decode cX6_lays 18 = .ok (.aload_n 0, 1) := by decide +kernel
theorem dX6_lays_19 : decode cX6_lays 19 = .ok (.getfield 26, 3) := by decide +kernel
theorem dX6_lays_22 : decode cX6_lays 22 = .ok (.iconst 5, 1) := by decide +kernel
theorem dX6_lays_23 : decode cX6_lays 23 = .ok (.iload_n 2, 1) := by decide +kernel
theorem dX6_lays_24 : decode cX6_lays 24 = .ok (.imul, 1) := by decide +kernel
theorem dX6_lays_25 : decode cX6_lays 25 = .ok (.iload_n 1, 1) := by decide +kernel
theorem dX6_lays_26 : decode cX6_lays 26 = .ok (.iadd, 1) := by decide +kernel
theorem dX6_lays_27 : decode cX6_lays 27 = .ok (.iconst 1, 1) := by decide +kernel
theorem dX6_lays_28 : decode cX6_lays 28 = .ok (.isub, 1) := by decide +kernel
theorem dX6_lays_29 : decode cX6_lays 29 = .ok (.iload_n 3, 1) := by decide +kernel
theorem dX6_lays_30 : decode cX6_lays 30 = .ok (.iastore, 1) := by decide +kernel
theorem dX6_lays_31 : decode cX6_lays 31 = .ok (.goto 24, 3) := by decide +kernel
theorem dX6_lays_34 : decode cX6_lays 34 = .ok (.iload_n 1, 1) := by decide +kernel
theorem dX6_lays_35 : decode cX6_lays 35 = .ok (.bipush 6, 2) := by decide +kernel
theorem dX6_lays_37 : decode cX6_lays 37 = .ok (.if_icmp .ne 13, 3) := by decide +kernel
theorem dX6_lays_40 : decode cX6_lays 40 = .ok (.aload_n 0, 1) := by decide +kernel
theorem dX6_lays_41 : decode cX6_lays 41 = .ok (.getfield 23, 3) := by decide +kernel
theorem dX6_lays_44 : decode cX6_lays 44 = .ok (.iload_n 2, 1) := by decide +kernel
theorem dX6_lays_45 : decode cX6_lays 45 = .ok (.iload_n 3, 1) := by decide +kernel
theorem dX6_lays_46 : decode cX6_lays 46 = .ok (.iastore, 1) := by decide +kernel
theorem dX6_lays_47 : decode cX6_lays 47 = .ok (.goto 8, 3) := by decide +kernel
theorem dX6_lays_50 : decode cX6_lays 50 = .ok (.aload_n 0, 1) := by decide +kernel
theorem dX6_lays_51 : decode cX6_lays 51 = .ok (.iload_n 3, 1) := by decide +kernel
theorem dX6_lays_52 : decode cX6_lays 52 = .ok (.putfield 94, 3) := by decide +kernel
theorem dX6_lays_55 : decode cX6_lays 55 = .ok (.return_, 1) := by decide +kernel
theorem dX6_coin_0 : decode cX6_coin 0 = .ok (.iload_n 1, 1) := by decide +kernel
theorem dX6_coin_1 : decode cX6_coin 1 = .ok (.i2l, 1) := by decide +kernel
theorem dX6_coin_2 : decode cX6_coin 2 = .ok (.lconst 0, 1) := by decide +kernel
theorem dX6_coin_3 : decode cX6_coin 3 = .ok (.ldc2_w 73, 3) := by decide +kernel
theorem dX6_coin_6 : decode cX6_coin 6 = .ok (.invokestatic 67, 3) := by decide +kernel
theorem dX6_coin_9 : decode cX6_coin 9 = .ok (.ifCond .eq 27, 3) := by decide +kernel
theorem dX6_coin_12 : decode cX6_coin 12 = .ok (.iload_n 2, 1) := by decide +kernel
theorem dX6_coin_13 : decode cX6_coin 13 = .ok (.i2l, 1) := by decide +kernel
theorem dX6_coin_14 : decode cX6_coin 14 = .ok (.lconst 0, 1) := by decide +kernel
theorem dX6_coin_15 : decode cX6_coin 15 = .ok (.ldc2_w 97, 3) := by decide +kernel
theorem dX6_coin_18 : decode cX6_coin 18 = .ok (.invokestatic 67, 3) := by decide +kernel
theorem dX6_coin_21 : decode cX6_coin 21 = .ok (.ifCond .eq 15, 3) := by decide +kernel
theorem dX6_coin_24 : decode cX6_coin 24 = .ok (.iload_n 3, 1) := by decide +kernel
theorem dX6_coin_25 : decode cX6_coin 25 = .ok (.i2l, 1) := by decide +kernel
theorem dX6_coin_26 : decode cX6_coin 26 = .ok (.lconst 1, 1) := by decide +kernel
theorem dX6_coin_27 : decode cX6_coin 27 = .ok (.ldc2_w 99, 3) := by decide +kernel
theorem dX6_coin_30 : decode cX6_coin 30 = .ok (.invokestatic 67, 3) := by decide +kernel
theorem dX6_coin_33 : decode cX6_coin 33 = .ok (.ifCond .ne 6, 3) := by decide +kernel
theorem dX6_coin_36 : decode cX6_coin 36 = .ok (.bipush (-2), 2) := by decide +kernel
theorem dX6_coin_38 : decode cX6_coin 38 = .ok (.ireturn, 1) := by decide +kernel
theorem dX6_coin_39 : decode cX6_coin 39 = .ok (.aload_n 0, 1) := by decide +kernel
theorem dX6_coin_40 : decode cX6_coin 40 = .ok (.getfield 64, 3) := by decide +kernel
theorem dX6_coin_43 : decode cX6_coin 43 = .ok (.bipush 8, 2) := by decide +kernel
theorem dX6_coin_45 : decode cX6_coin 45 = .ok (.if_icmp .ne 6, 3) := by decide +kernel
theorem dX6_coin_48 : decode cX6_coin 48 = .ok (.bipush (-4), 2) := by decide +kernel
theorem dX6_coin_50 : decode cX6_coin 50 = .ok (.ireturn, 1) := by decide +kernel
theorem dX6_coin_51 : decode cX6_coin 51 = .ok (.aload_n 0, 1) := by decide +kernel
theorem dX6_coin_52 : decode cX6_coin 52 = .ok (.getfield 23, 3) := by decide +kernel
theorem dX6_coin_55 : decode cX6_coin 55 = .ok (.aload_n 0, 1) := by decide +kernel
theorem dX6_coin_56 : decode cX6_coin 56 = .ok (.getfield 64, 3) := by decide +kernel
theorem dX6_coin_59 : decode cX6_coin 59 = .ok (.iload_n 1, 1) := by decide +kernel
theorem dX6_coin_60 : decode cX6_coin 60 = .ok (.iastore, 1) := by decide +kernel
theorem dX6_coin_61 : decode cX6_coin 61 = .ok (.aload_n 0, 1) := by decide +kernel
theorem dX6_coin_62 : decode cX6_coin 62 = .ok (.getfield 26, 3) := by decide +kernel
theorem dX6_coin_65 : decode cX6_coin 65 = .ok (.iconst 5, 1) := by decide +kernel
theorem dX6_coin_66 : decode cX6_coin 66 = .ok (.aload_n 0, 1) := by decide +kernel
theorem dX6_coin_67 : decode cX6_coin 67 = .ok (.getfield 64, 3) := by decide +kernel
theorem dX6_coin_70 : decode cX6_coin 70 = .ok (.imul, 1) := by decide +kernel
theorem dX6_coin_71 : decode cX6_coin 71 = .ok (.iload_n 2, 1) := by decide +kernel
theorem dX6_coin_72 : decode cX6_coin 72 = .ok (.iastore, 1) := by decide +kernel
theorem dX6_coin_73 : decode cX6_coin 73 = .ok (.aload_n 0, 1) := by decide +kernel
theorem dX6_coin_74 : decode cX6_coin 74 = .ok (.getfield 26, 3) := by decide +kernel
theorem dX6_coin_77 : decode cX6_coin 77 = .ok (.iconst 5, 1) := by decide +kernel
theorem dX6_coin_78 : decode cX6_coin 78 = .ok (.aload_n 0, 1) := by decide +kernel
theorem dX6_coin_79 : decode cX6_coin 79 = .ok (.getfield 64, 3) := by decide +kernel
theorem dX6_coin_82 : decode cX6_coin 82 = .ok (.imul, 1) := by decide +kernel
theorem dX6_coin_83 : decode cX6_coin 83 = .ok (.iconst 1, 1) := by decide +kernel
theorem dX6_coin_84 : decode cX6_coin 84 = .ok (.iadd, 1) := by decide +kernel
theorem dX6_coin_85 : decode cX6_coin 85 = .ok (.iload_n 3, 1) := by decide +kernel
theorem dX6_coin_86 : decode cX6_coin 86 = .ok (.iastore, 1) := by decide +kernel
theorem dX6_coin_87 : decode cX6_coin 87 = .ok (.aload_n 0, 1) := by decide +kernel
theorem dX6_coin_88 : decode cX6_coin 88 = .ok (.getfield 26, 3) := by decide +kernel
theorem dX6_coin_91 : decode cX6_coin 91 = .ok (.iconst 5, 1) := by decide +kernel
theorem dX6_coin_92 : decode cX6_coin 92 = .ok (.aload_n 0, 1) := by decide +kernel
theorem dX6_coin_93 : decode cX6_coin 93 = .ok (.getfield 64, 3) := by decide +kernel
theorem dX6_coin_96 : decode cX6_coin 96 = .ok (.imul, 1) := by decide +kernel
theorem dX6_coin_97 : decode cX6_coin 97 = .ok (.iconst 2, 1) := by decide +kernel
theorem dX6_coin_98 : decode cX6_coin 98 = .ok (.iadd, 1) := by decide +kernel
theorem dX6_coin_99 : decode cX6_coin 99 = .ok (.iconst 0, 1) := by decide +kernel
theorem dX6_coin_100 : decode cX6_coin 100 = .ok (.iastore, 1) := by decide +kernel
theorem dX6_coin_101 : decode cX6_coin 101 = .ok (.aload_n 0, 1) := by decide +kernel
theorem dX6_coin_102 : decode cX6_coin 102 = .ok (.getfield 26, 3) := by decide +kernel
theorem dX6_coin_105 : decode cX6_coin 105 = .ok (.iconst 5, 1) := by decide +kernel
theorem dX6_coin_106 : decode cX6_coin 106 = .ok (.aload_n 0, 1) := by decide +kernel
theorem dX6_coin_107 : decode cX6_coin 107 = .ok (.getfield 64, 3) := by decide +kernel
theorem dX6_coin_110 : decode cX6_coin 110 = .ok (.imul, 1) := by decide +kernel
theorem dX6_coin_111 : decode cX6_coin 111 = .ok (.iconst 3, 1) := by decide +kernel
theorem dX6_coin_112 : decode cX6_coin 112 = .ok (.iadd, 1) := by decide +kernel
theorem dX6_coin_113 : decode cX6_coin 113 = .ok (.iconst 0, 1) := by decide +kernel
theorem dX6_coin_114 : decode cX6_coin 114 = .ok (.iastore, 1) := by decide +kernel
theorem dX6_coin_115 : decode cX6_coin 115 = .ok (.aload_n 0, 1) := by decide +kernel
theorem dX6_coin_116 : decode cX6_coin 116 = .ok (.getfield 26, 3) := by decide +kernel
theorem dX6_coin_119 : decode cX6_coin 119 = .ok (.iconst 5, 1) := by decide +kernel
theorem dX6_coin_120 : decode cX6_coin 120 = .ok (.aload_n 0, 1) := by decide +kernel
theorem dX6_coin_121 : decode cX6_coin 121 = .ok (.getfield 64, 3) := by decide +kernel
theorem dX6_coin_124 : decode cX6_coin 124 = .ok (.imul, 1) := by decide +kernel
theorem dX6_coin_125 : decode cX6_coin 125 = .ok (.iconst 4, 1) := by decide +kernel
theorem dX6_coin_126 : decode cX6_coin 126 = .ok (.iadd, 1) := by decide +kernel
theorem dX6_coin_127 : decode cX6_coin 127 = .ok (.iconst 0, 1) := by decide +kernel
theorem dX6_coin_128 : decode cX6_coin 128 = .ok (.iastore, 1) := by decide +kernel
theorem dX6_coin_129 : decode cX6_coin 129 = .ok (.aload_n 0, 1) := by decide +kernel
theorem dX6_coin_130 : decode cX6_coin 130 = .ok (.dup, 1) := by decide +kernel
theorem dX6_coin_131 : decode cX6_coin 131 = .ok (.getfield 64, 3) := by decide +kernel
theorem dX6_coin_134 : decode cX6_coin 134 = .ok (.iconst 1, 1) := by decide +kernel
theorem dX6_coin_135 : decode cX6_coin 135 = .ok (.iadd, 1) := by decide +kernel
theorem dX6_coin_136 : decode cX6_coin 136 = .ok (.putfield 64, 3) := by decide +kernel
theorem dX6_coin_139 : decode cX6_coin 139 = .ok (.aload_n 0, 1) := by decide +kernel
theorem dX6_coin_140 : decode cX6_coin 140 = .ok (.getfield 64, 3) := by decide +kernel
theorem dX6_coin_143 : decode cX6_coin 143 = .ok (.iconst 1, 1) := by decide +kernel
theorem dX6_coin_144 : decode cX6_coin 144 = .ok (.isub, 1) := by decide +kernel
theorem dX6_coin_145 : decode cX6_coin 145 = .ok (.ireturn, 1) := by decide +kernel
theorem dX6_told_0 : decode cX6_told 0 = .ok (.iload_n 2, 1) := by decide +kernel
theorem dX6_told_1 : decode cX6_told 1 = .ok (.i2l, 1) := by decide +kernel
theorem dX6_told_2 : decode cX6_told 2 = .ok (.lconst 0, 1) := by decide +kernel
theorem dX6_told_3 : decode cX6_told 3 = .ok (.ldc2_w 101, 3) := by decide +kernel
theorem dX6_told_6 : decode cX6_told 6 = .ok (.invokestatic 67, 3) := by decide +kernel
theorem dX6_told_9 : decode cX6_told 9 = .ok (.ifCond .eq 15, 3) := by decide +kernel
theorem dX6_told_12 : decode cX6_told 12 = .ok (.iload_n 2, 1) := by decide +kernel
theorem dX6_told_13 : decode cX6_told 13 = .ok (.ifCond .le 14, 3) := by decide +kernel
theorem dX6_told_16 : decode cX6_told 16 = .ok (.aload_n 0, 1) := by decide +kernel
theorem dX6_told_17 : decode cX6_told 17 = .ok (.iload_n 1, 1) := by decide +kernel
theorem dX6_told_18 : decode cX6_told 18 = .ok (.invokevirtual 75, 3) := by decide +kernel
theorem dX6_told_21 : decode cX6_told 21 = .ok (.ifCond .ne 6, 3) := by decide +kernel
theorem dX6_told_24 : decode cX6_told 24 = .ok (.ldc 103, 2) := by decide +kernel
theorem dX6_told_26 : decode cX6_told 26 = .ok (.ireturn, 1) := by decide +kernel
theorem dX6_told_27 : decode cX6_told 27 = .ok (.iload_n 2, 1) := by decide +kernel
theorem dX6_told_28 : decode cX6_told 28 = .ok (.bipush 7, 2) := by decide +kernel
theorem dX6_told_30 : decode cX6_told 30 = .ok (.if_icmp .ge 42, 3) := by decide +kernel
theorem dX6_told_33 : decode cX6_told 33 = .ok (.iload_n 2, 1) := by decide +kernel
theorem dX6_told_34 : decode cX6_told 34 = .ok (.ifCond .ne 10, 3) := by decide +kernel
theorem dX6_told_37 : decode cX6_told 37 = .ok (.aload_n 0, 1) := by decide +kernel
theorem dX6_told_38 : decode cX6_told 38 = .ok (.getfield 91, 3) := by decide +kernel
theorem dX6_told_41 : decode cX6_told 41 = .ok (.goto 30, 3) := by decide +kernel
theorem dX6_told_44 : decode cX6_told 44 = .ok (.iload_n 2, 1) := by decide +kernel
theorem dX6_told_45 : decode cX6_told 45 = .ok (.bipush 6, 2) := by decide +kernel
theorem dX6_told_47 : decode cX6_told 47 = .ok (.if_icmp .ge 18, 3) := by decide +kernel
theorem dX6_told_50 : decode cX6_told 50 = .ok (.aload_n 0, 1) := by decide +kernel
theorem dX6_told_51 : decode cX6_told 51 = .ok (.getfield 26, 3) := by decide +kernel
theorem dX6_told_54 : decode cX6_told 54 = .ok (.iconst 5, 1) := by decide +kernel
theorem dX6_told_55 : decode cX6_told 55 = .ok (.iload_n 1, 1) := by decide +kernel
theorem dX6_told_56 : decode cX6_told 56 = .ok (.imul, 1) := by decide +kernel
theorem dX6_told_57 : decode cX6_told 57 = .ok (.iload_n 2, 1) := by decide +kernel
theorem dX6_told_58 : decode cX6_told 58 = .ok (.iadd, 1) := by decide +kernel
theorem dX6_told_59 : decode cX6_told 59 = .ok (.iconst 1, 1) := by decide +kernel
theorem dX6_told_60 : decode cX6_told 60 = .ok (.isub, 1) := by decide +kernel
theorem dX6_told_61 : decode cX6_told 61 = .ok (.iaload, 1) := by decide +kernel
theorem dX6_told_62 : decode cX6_told 62 = .ok (.goto 9, 3) := by decide +kernel
theorem dX6_told_65 : decode cX6_told 65 = .ok (.aload_n 0, 1) := by decide +kernel
theorem dX6_told_66 : decode cX6_told 66 = .ok (.getfield 23, 3) := by decide +kernel
theorem dX6_told_69 : decode cX6_told 69 = .ok (.iload_n 1, 1) := by decide +kernel
theorem dX6_told_70 : decode cX6_told 70 = .ok (.iaload, 1) := by decide +kernel
theorem dX6_told_71 : decode cX6_told 71 = .ok (.ireturn, 1) := by decide +kernel
theorem dX6_told_72 : decode cX6_told 72 = .ok (.iload_n 2, 1) := by decide +kernel
theorem dX6_told_73 : decode cX6_told 73 = .ok (.bipush 10, 2) := by decide +kernel
theorem dX6_told_75 : decode cX6_told 75 = .ok (.if_icmp .ge 37, 3) := by decide +kernel
theorem dX6_told_78 : decode cX6_told 78 = .ok (.iload_n 2, 1) := by decide +kernel
theorem dX6_told_79 : decode cX6_told 79 = .ok (.bipush 7, 2) := by decide +kernel
theorem dX6_told_81 : decode cX6_told 81 = .ok (.if_icmp .ne 11, 3) := by decide +kernel
theorem dX6_told_84 : decode cX6_told 84 = .ok (.aload_n 0, 1) := by decide +kernel
theorem dX6_told_85 : decode cX6_told 85 = .ok (.iload_n 1, 1) := by decide +kernel
theorem dX6_told_86 : decode cX6_told 86 = .ok (.invokevirtual 104, 3) := by decide +kernel
theorem dX6_told_89 : decode cX6_told 89 = .ok (.goto 22, 3) := by decide +kernel
theorem dX6_told_92 : decode cX6_told 92 = .ok (.iload_n 2, 1) := by decide +kernel
theorem dX6_told_93 : decode cX6_told 93 = .ok (.bipush 8, 2) := by decide +kernel
theorem dX6_told_95 : decode cX6_told 95 = .ok (.if_icmp .ne 11, 3) := by decide +kernel
theorem dX6_told_98 : decode cX6_told 98 = .ok (.aload_n 0, 1) := by decide +kernel
theorem dX6_told_99 : decode cX6_told 99 = .ok (.iload_n 1, 1) := by decide +kernel
theorem dX6_told_100 : decode cX6_told 100 = .ok (.invokevirtual 107, 3) := by decide +kernel
theorem dX6_told_103 : decode cX6_told 103 = .ok (.goto 8, 3) := by decide +kernel
theorem dX6_told_106 : decode cX6_told 106 = .ok (.aload_n 0, 1) := by decide +kernel
theorem dX6_told_107 : decode cX6_told 107 = .ok (.iload_n 1, 1) := by decide +kernel
theorem dX6_told_108 : decode cX6_told 108 = .ok (.invokevirtual 110, 3) := by decide +kernel
theorem dX6_told_111 : decode cX6_told 111 = .ok (.ireturn, 1) := by decide +kernel
theorem dX6_told_112 : decode cX6_told 112 = .ok (.iload_n 2, 1) := by decide +kernel
theorem dX6_told_113 : decode cX6_told 113 = .ok (.bipush 10, 2) := by decide +kernel
theorem dX6_told_115 : decode cX6_told 115 = .ok (.if_icmp .ne 19, 3) := by decide +kernel
theorem dX6_told_118 : decode cX6_told 118 = .ok (.aload_n 0, 1) := by decide +kernel
theorem dX6_told_119 : decode cX6_told 119 = .ok (.iload_n 1, 1) := by decide +kernel
theorem dX6_told_120 : decode cX6_told 120 = .ok (.invokevirtual 113, 3) := by decide +kernel
theorem dX6_told_123 : decode cX6_told 123 = .ok (.ifCond .eq 7, 3) := by decide +kernel
theorem dX6_told_126 : decode cX6_told 126 = .ok (.iconst 1, 1) := by decide +kernel
theorem dX6_told_127 : decode cX6_told 127 = .ok (.goto 12, 3) := by decide +kernel
theorem dX6_told_130 : decode cX6_told 130 = .ok (.iconst 0, 1) := by decide +kernel
theorem dX6_told_131 : decode cX6_told 131 = .ok (.goto 8, 3) := by decide +kernel
theorem dX6_told_134 : decode cX6_told 134 = .ok (.aload_n 0, 1) := by decide +kernel
theorem dX6_told_135 : decode cX6_told 135 = .ok (.iload_n 1, 1) := by decide +kernel
theorem dX6_told_136 : decode cX6_told 136 = .ok (.invokevirtual 116, 3) := by decide +kernel
theorem dX6_told_139 : decode cX6_told 139 = .ok (.ireturn, 1) := by decide +kernel
theorem dX6_feed_0 : decode cX6_feed 0 = .ok (.iload_n 1, 1) := by decide +kernel
theorem dX6_feed_1 : decode cX6_feed 1 = .ok (.i2l, 1) := by decide +kernel
theorem dX6_feed_2 : decode cX6_feed 2 = .ok (.lconst 0, 1) := by decide +kernel
theorem dX6_feed_3 : decode cX6_feed 3 = .ok (.ldc2_w 119, 3) := by decide +kernel
theorem dX6_feed_6 : decode cX6_feed 6 = .ok (.invokestatic 67, 3) := by decide +kernel
theorem dX6_feed_9 : decode cX6_feed 9 = .ok (.ifCond .ne 6, 3) := by decide +kernel
theorem dX6_feed_12 : decode cX6_feed 12 = .ok (.bipush (-2), 2) := by decide +kernel
theorem dX6_feed_14 : decode cX6_feed 14 = .ok (.ireturn, 1) := by decide +kernel
theorem dX6_feed_15 : decode cX6_feed 15 = .ok (.aload_n 0, 1) := by decide +kernel
theorem dX6_feed_16 : decode cX6_feed 16 = .ok (.getfield 121, 3) := by decide +kernel
theorem dX6_feed_19 : decode cX6_feed 19 = .ok (.sipush 160, 3) := by decide +kernel
theorem dX6_feed_22 : decode cX6_feed 22 = .ok (.if_icmp .ne 6, 3) := by decide +kernel
theorem dX6_feed_25 : decode cX6_feed 25 = .ok (.bipush (-4), 2) := by decide +kernel
theorem dX6_feed_27 : decode cX6_feed 27 = .ok (.ireturn, 1) := by decide +kernel
theorem dX6_feed_28 : decode cX6_feed 28 = .ok (.aload_n 0, 1) := by decide +kernel
theorem dX6_feed_29 : decode cX6_feed 29 = .ok (.getfield 20, 3) := by decide +kernel
theorem dX6_feed_32 : decode cX6_feed 32 = .ok (.aload_n 0, 1) := by decide +kernel
theorem dX6_feed_33 : decode cX6_feed 33 = .ok (.getfield 121, 3) := by decide +kernel
theorem dX6_feed_36 : decode cX6_feed 36 = .ok (.iload_n 1, 1) := by decide +kernel
theorem dX6_feed_37 : decode cX6_feed 37 = .ok (.iastore, 1) := by decide +kernel
theorem dX6_feed_38 : decode cX6_feed 38 = .ok (.aload_n 0, 1) := by decide +kernel
theorem dX6_feed_39 : decode cX6_feed 39 = .ok (.dup, 1) := by decide +kernel
theorem dX6_feed_40 : decode cX6_feed 40 = .ok (.getfield 121, 3) := by decide +kernel
theorem dX6_feed_43 : decode cX6_feed 43 = .ok (.iconst 1, 1) := by decide +kernel
theorem dX6_feed_44 : decode cX6_feed 44 = .ok (.iadd, 1) := by decide +kernel
theorem dX6_feed_45 : decode cX6_feed 45 = .ok (.putfield 121, 3) := by decide +kernel
theorem dX6_feed_48 : decode cX6_feed 48 = .ok (.aload_n 0, 1) := by decide +kernel
theorem dX6_feed_49 : decode cX6_feed 49 = .ok (.getfield 121, 3) := by decide +kernel
theorem dX6_feed_52 : decode cX6_feed 52 = .ok (.ireturn, 1) := by decide +kernel
theorem dX6_byteAt_0 : decode cX6_byteAt 0 = .ok (.iload_n 1, 1) := by decide +kernel
theorem dX6_byteAt_1 : decode cX6_byteAt 1 = .ok (.aload_n 0, 1) := by decide +kernel
theorem dX6_byteAt_2 : decode cX6_byteAt 2 = .ok (.getfield 124, 3) := by decide +kernel
theorem dX6_byteAt_5 : decode cX6_byteAt 5 = .ok (.if_icmp .ge 17, 3) := by decide +kernel
theorem dX6_byteAt_8 : decode cX6_byteAt 8 = .ok (.aload_n 0, 1) := by decide +kernel
theorem dX6_byteAt_9 : decode cX6_byteAt 9 = .ok (.getfield 13, 3) := by decide +kernel
theorem dX6_byteAt_12 : decode cX6_byteAt 12 = .ok (.aload_n 0, 1) := by decide +kernel
theorem dX6_byteAt_13 : decode cX6_byteAt 13 = .ok (.getfield 127, 3) := by decide +kernel
theorem dX6_byteAt_16 : decode cX6_byteAt 16 = .ok (.iload_n 1, 1) := by decide +kernel
theorem dX6_byteAt_17 : decode cX6_byteAt 17 = .ok (.iadd, 1) := by decide +kernel
theorem dX6_byteAt_18 : decode cX6_byteAt 18 = .ok (.iaload, 1) := by decide +kernel
theorem dX6_byteAt_19 : decode cX6_byteAt 19 = .ok (.goto 4, 3) := by decide +kernel
theorem dX6_byteAt_22 : decode cX6_byteAt 22 = .ok (.iconst (-1), 1) := by decide +kernel
theorem dX6_byteAt_23 : decode cX6_byteAt 23 = .ok (.ireturn, 1) := by decide +kernel
theorem dX6_next_0 : decode cX6_next 0 = .ok (.aload_n 0, 1) := by decide +kernel
theorem dX6_next_1 : decode cX6_next 1 = .ok (.aload_n 0, 1) := by decide +kernel
theorem dX6_next_2 : decode cX6_next 2 = .ok (.getfield 130, 3) := by decide +kernel
theorem dX6_next_5 : decode cX6_next 5 = .ok (.invokevirtual 133, 3) := by decide +kernel
theorem dX6_next_8 : decode cX6_next 8 = .ok (.bipush 32, 2) := by decide +kernel
theorem dX6_next_10 : decode cX6_next 10 = .ok (.if_icmp .eq 16, 3) := by decide +kernel
theorem dX6_next_13 : decode cX6_next 13 = .ok (.aload_n 0, 1) := by decide +kernel
theorem dX6_next_14 : decode cX6_next 14 = .ok (.aload_n 0, 1) := by decide +kernel
theorem dX6_next_15 : decode cX6_next 15 = .ok (.getfield 130, 3) := by decide +kernel
theorem dX6_next_18 : decode cX6_next 18 = .ok (.invokevirtual 133, 3) := by decide +kernel
theorem dX6_next_21 : decode cX6_next 21 = .ok (.bipush 10, 2) := by decide +kernel
theorem dX6_next_23 : decode cX6_next 23 = .ok (.if_icmp .ne 16, 3) := by decide +kernel
theorem dX6_next_26 : decode cX6_next 26 = .ok (.aload_n 0, 1) := by decide +kernel
theorem dX6_next_27 : decode cX6_next 27 = .ok (.dup, 1) := by decide +kernel
theorem dX6_next_28 : decode cX6_next 28 = .ok (.getfield 130, 3) := by decide +kernel
theorem dX6_next_31 : decode cX6_next 31 = .ok (.iconst 1, 1) := by decide +kernel
theorem dX6_next_32 : decode cX6_next 32 = .ok (.iadd, 1) := by decide +kernel
theorem dX6_next_33 : decode cX6_next 33 = .ok (.putfield 130, 3) := by decide +kernel
theorem dX6_next_36 : decode cX6_next 36 = .ok (.goto (-36), 3) := by decide +kernel
theorem dX6_next_39 : decode cX6_next 39 = .ok (.aload_n 0, 1) := by decide +kernel
theorem dX6_next_40 : decode cX6_next 40 = .ok (.aload_n 0, 1) := by decide +kernel
theorem dX6_next_41 : decode cX6_next 41 = .ok (.getfield 130, 3) := by decide +kernel
theorem dX6_next_44 : decode cX6_next 44 = .ok (.putfield 136, 3) := by decide +kernel
theorem dX6_next_47 : decode cX6_next 47 = .ok (.aload_n 0, 1) := by decide +kernel
theorem dX6_next_48 : decode cX6_next 48 = .ok (.aload_n 0, 1) := by decide +kernel
theorem dX6_next_49 : decode cX6_next 49 = .ok (.getfield 130, 3) := by decide +kernel
theorem dX6_next_52 : decode cX6_next 52 = .ok (.invokevirtual 133, 3) := by decide +kernel
theorem dX6_next_55 : decode cX6_next 55 = .ok (.istore_n 1, 1) := by decide +kernel
theorem dX6_next_56 : decode cX6_next 56 = .ok (.aload_n 0, 1) := by decide +kernel
theorem dX6_next_57 : decode cX6_next 57 = .ok (.iconst 4, 1) := by decide +kernel
theorem dX6_next_58 : decode cX6_next 58 = .ok (.putfield 139, 3) := by decide +kernel
theorem dX6_next_61 : decode cX6_next 61 = .ok (.iload_n 1, 1) := by decide +kernel
theorem dX6_next_62 : decode cX6_next 62 = .ok (.ifCond .ge 19, 3) := by decide +kernel
theorem dX6_next_65 : decode cX6_next 65 = .ok (.aload_n 0, 1) := by decide +kernel
theorem dX6_next_66 : decode cX6_next 66 = .ok (.iconst 0, 1) := by decide +kernel
theorem dX6_next_67 : decode cX6_next 67 = .ok (.putfield 139, 3) := by decide +kernel
theorem dX6_next_70 : decode cX6_next 70 = .ok (.aload_n 0, 1) := by decide +kernel
theorem dX6_next_71 : decode cX6_next 71 = .ok (.aload_n 0, 1) := by decide +kernel
theorem dX6_next_72 : decode cX6_next 72 = .ok (.getfield 124, 3) := by decide +kernel
theorem dX6_next_75 : decode cX6_next 75 = .ok (.putfield 136, 3) := by decide +kernel
theorem dX6_next_78 : decode cX6_next 78 = .ok (.goto 243, 3) := by decide +kernel
theorem dX6_next_81 : decode cX6_next 81 = .ok (.iload_n 1, 1) := by decide +kernel
theorem dX6_next_82 : decode cX6_next 82 = .ok (.i2l, 1) := by decide +kernel
theorem dX6_next_83 : decode cX6_next 83 = .ok (.ldc2_w 142, 3) := by decide +kernel
theorem dX6_next_86 : decode cX6_next 86 = .ok (.ldc2_w 144, 3) := by decide +kernel
theorem dX6_next_89 : decode cX6_next 89 = .ok (.invokestatic 67, 3) := by decide +kernel
theorem dX6_next_92 : decode cX6_next 92 = .ok (.ifCond .eq 42, 3) := by decide +kernel
theorem dX6_next_95 : decode cX6_next 95 = .ok (.aload_n 0, 1) := by decide +kernel
theorem dX6_next_96 : decode cX6_next 96 = .ok (.iconst 1, 1) := by decide +kernel
theorem dX6_next_97 : decode cX6_next 97 = .ok (.putfield 139, 3) := by decide +kernel
theorem dX6_next_100 : decode cX6_next 100 = .ok (.aload_n 0, 1) := by decide +kernel
theorem dX6_next_101 : decode cX6_next 101 = .ok (.aload_n 0, 1) := by decide +kernel
theorem dX6_next_102 : decode cX6_next 102 = .ok (.getfield 130, 3) := by decide +kernel
theorem dX6_next_105 : decode cX6_next 105 = .ok (.invokevirtual 133, 3) := by decide +kernel
theorem dX6_next_108 : decode cX6_next 108 = .ok (.i2l, 1) := by decide +kernel
theorem dX6_next_109 : decode cX6_next 109 = .ok (.ldc2_w 142, 3) := by decide +kernel
theorem dX6_next_112 : decode cX6_next 112 = .ok (.ldc2_w 144, 3) := by decide +kernel
theorem dX6_next_115 : decode cX6_next 115 = .ok (.invokestatic 67, 3) := by decide +kernel
theorem dX6_next_118 : decode cX6_next 118 = .ok (.ifCond .eq 203, 3) := by decide +kernel
theorem dX6_next_121 : decode cX6_next 121 = .ok (.aload_n 0, 1) := by decide +kernel
theorem dX6_next_122 : decode cX6_next 122 = .ok (.dup, 1) := by decide +kernel
theorem dX6_next_123 : decode cX6_next 123 = .ok (.getfield 130, 3) := by decide +kernel
theorem dX6_next_126 : decode cX6_next 126 = .ok (.iconst 1, 1) := by decide +kernel
theorem dX6_next_127 : decode cX6_next 127 = .ok (.iadd, 1) := by decide +kernel
theorem dX6_next_128 : decode cX6_next 128 = .ok (.putfield 130, 3) := by decide +kernel
theorem dX6_next_131 : decode cX6_next 131 = .ok (.goto (-31), 3) := by decide +kernel
theorem dX6_next_134 : decode cX6_next 134 = .ok (.iload_n 1, 1) := by decide +kernel
theorem dX6_next_135 : decode cX6_next 135 = .ok (.i2l, 1) := by decide +kernel
theorem dX6_next_136 : decode cX6_next 136 = .ok (.ldc2_w 146, 3) := by decide +kernel
theorem dX6_next_139 : decode cX6_next 139 = .ok (.ldc2_w 148, 3) := by decide +kernel
theorem dX6_next_142 : decode cX6_next 142 = .ok (.invokestatic 67, 3) := by decide +kernel
theorem dX6_next_145 : decode cX6_next 145 = .ok (.ifCond .eq 107, 3) := by decide +kernel
theorem dX6_next_148 : decode cX6_next 148 = .ok (.aload_n 0, 1) := by decide +kernel
theorem dX6_next_149 : decode cX6_next 149 = .ok (.iconst 2, 1) := by decide +kernel
theorem dX6_next_150 : decode cX6_next 150 = .ok (.putfield 139, 3) := by decide +kernel
theorem dX6_next_153 : decode cX6_next 153 = .ok (.aload_n 0, 1) := by decide +kernel
theorem dX6_next_154 : decode cX6_next 154 = .ok (.lconst 0, 1) := by decide +kernel
theorem dX6_next_155 : decode cX6_next 155 = .ok (.putfield 150, 3) := by decide +kernel
theorem dX6_next_158 : decode cX6_next 158 = .ok (.iconst 0, 1) := by decide +kernel
theorem dX6_next_159 : decode cX6_next 159 = .ok (.istore_n 2, 1) := by decide +kernel
theorem dX6_next_160 : decode cX6_next 160 = .ok (.aload_n 0, 1) := by decide +kernel
theorem dX6_next_161 : decode cX6_next 161 = .ok (.aload_n 0, 1) := by decide +kernel
theorem dX6_next_162 : decode cX6_next 162 = .ok (.getfield 130, 3) := by decide +kernel
theorem dX6_next_165 : decode cX6_next 165 = .ok (.invokevirtual 133, 3) := by decide +kernel
theorem dX6_next_168 : decode cX6_next 168 = .ok (.i2l, 1) := by decide +kernel
theorem dX6_next_169 : decode cX6_next 169 = .ok (.ldc2_w 146, 3) := by decide +kernel
theorem dX6_next_172 : decode cX6_next 172 = .ok (.ldc2_w 148, 3) := by decide +kernel
theorem dX6_next_175 : decode cX6_next 175 = .ok (.invokestatic 67, 3) := by decide +kernel
theorem dX6_next_178 : decode cX6_next 178 = .ok (.ifCond .eq 57, 3) := by decide +kernel
theorem dX6_next_181 : decode cX6_next 181 = .ok (.aload_n 0, 1) := by decide +kernel
theorem dX6_next_182 : decode cX6_next 182 = .ok (.iload_n 2, 1) := by decide +kernel
theorem dX6_next_183 : decode cX6_next 183 = .ok (.iconst 4, 1) := by decide +kernel
theorem dX6_next_184 : decode cX6_next 184 = .ok (.if_icmp .ge 28, 3) := by decide +kernel
theorem dX6_next_187 : decode cX6_next 187 = .ok (.ldc2_w 154, 3) := by decide +kernel
theorem dX6_next_190 : decode cX6_next 190 = .ok (.aload_n 0, 1) := by decide +kernel
theorem dX6_next_191 : decode cX6_next 191 = .ok (.getfield 150, 3) := by decide +kernel
theorem dX6_next_194 : decode cX6_next 194 = .ok (.lmul, 1) := by decide +kernel
theorem dX6_next_195 : decode cX6_next 195 = .ok (.aload_n 0, 1) := by decide +kernel
theorem dX6_next_196 : decode cX6_next 196 = .ok (.aload_n 0, 1) := by decide +kernel
theorem dX6_next_197 : decode cX6_next 197 = .ok (.getfield 130, 3) := by decide +kernel
theorem dX6_next_200 : decode cX6_next 200 = .ok (.invokevirtual 133, 3) := by decide +kernel
theorem dX6_next_203 : decode cX6_next 203 = .ok (.i2l, 1) := by decide +kernel
theorem dX6_next_204 : decode cX6_next 204 = .ok (.ladd, 1) := by decide +kernel
theorem dX6_next_205 : decode cX6_next 205 = .ok (.ldc2_w 146, 3) := by decide +kernel
theorem dX6_next_208 : decode cX6_next 208 = .ok (.lsub, 1) := by decide +kernel
theorem dX6_next_209 : decode cX6_next 209 = .ok (.goto 7, 3) := by decide +kernel
theorem dX6_next_212 : decode cX6_next 212 = .ok (.aload_n 0, 1) := by decide +kernel
theorem dX6_next_213 : decode cX6_next 213 = .ok (.getfield 150, 3) := by decide +kernel
theorem dX6_next_216 : decode cX6_next 216 = .ok (.putfield 150, 3) := by decide +kernel
theorem dX6_next_219 : decode cX6_next 219 = .ok (.iinc 2 1, 3) := by decide +kernel
theorem dX6_next_222 : decode cX6_next 222 = .ok (.aload_n 0, 1) := by decide +kernel
theorem dX6_next_223 : decode cX6_next 223 = .ok (.dup, 1) := by decide +kernel
theorem dX6_next_224 : decode cX6_next 224 = .ok (.getfield 130, 3) := by decide +kernel
theorem dX6_next_227 : decode cX6_next 227 = .ok (.iconst 1, 1) := by decide +kernel
theorem dX6_next_228 : decode cX6_next 228 = .ok (.iadd, 1) := by decide +kernel
theorem dX6_next_229 : decode cX6_next 229 = .ok (.putfield 130, 3) := by decide +kernel
theorem dX6_next_232 : decode cX6_next 232 = .ok (.goto (-72), 3) := by decide +kernel
theorem dX6_next_235 : decode cX6_next 235 = .ok (.aload_n 0, 1) := by decide +kernel
theorem dX6_next_236 : decode cX6_next 236 = .ok (.iload_n 2, 1) := by decide +kernel
theorem dX6_next_237 : decode cX6_next 237 = .ok (.iconst 4, 1) := by decide +kernel
theorem dX6_next_238 : decode cX6_next 238 = .ok (.if_icmp .le 7, 3) := by decide +kernel
theorem dX6_next_241 : decode cX6_next 241 = .ok (.iconst 4, 1) := by decide +kernel
theorem dX6_next_242 : decode cX6_next 242 = .ok (.goto 4, 3) := by decide +kernel
theorem dX6_next_245 : decode cX6_next 245 = .ok (.iconst 2, 1) := by decide +kernel
theorem dX6_next_246 : decode cX6_next 246 = .ok (.putfield 139, 3) := by decide +kernel
theorem dX6_next_249 : decode cX6_next 249 = .ok (.goto 72, 3) := by decide +kernel
theorem dX6_next_252 : decode cX6_next 252 = .ok (.iload_n 1, 1) := by decide +kernel
theorem dX6_next_253 : decode cX6_next 253 = .ok (.bipush 40, 2) := by decide +kernel
theorem dX6_next_255 : decode cX6_next 255 = .ok (.if_icmp .eq 45, 3) := by decide +kernel
theorem dX6_next_258 : decode cX6_next 258 = .ok (.iload_n 1, 1) := by decide +kernel
theorem dX6_next_259 : decode cX6_next 259 = .ok (.bipush 41, 2) := by decide +kernel
theorem dX6_next_261 : decode cX6_next 261 = .ok (.if_icmp .eq 39, 3) := by decide +kernel
theorem dX6_next_264 : decode cX6_next 264 = .ok (.iload_n 1, 1) := by decide +kernel
theorem dX6_next_265 : decode cX6_next 265 = .ok (.bipush 59, 2) := by decide +kernel
theorem dX6_next_267 : decode cX6_next 267 = .ok (.if_icmp .eq 33, 3) := by decide +kernel
theorem dX6_next_270 : decode cX6_next 270 = .ok (.iload_n 1, 1) := by decide +kernel
theorem dX6_next_271 : decode cX6_next 271 = .ok (.bipush 43, 2) := by decide +kernel
theorem dX6_next_273 : decode cX6_next 273 = .ok (.if_icmp .eq 27, 3) := by decide +kernel
theorem dX6_next_276 : decode cX6_next 276 = .ok (.iload_n 1, 1) := by decide +kernel
theorem dX6_next_277 : decode cX6_next 277 = .ok (.bipush 45, 2) := by decide +kernel
theorem dX6_next_279 : decode cX6_next 279 = .ok (.if_icmp .eq 21, 3) := by decide +kernel
theorem dX6_next_282 : decode cX6_next 282 = .ok (.iload_n 1, 1) := by decide +kernel
theorem dX6_next_283 : decode cX6_next 283 = .ok (.bipush 42, 2) := by decide +kernel
theorem dX6_next_285 : decode cX6_next 285 = .ok (.if_icmp .eq 15, 3) := by decide +kernel
theorem dX6_next_288 : decode cX6_next 288 = .ok (.iload_n 1, 1) := by decide +kernel
theorem dX6_next_289 : decode cX6_next 289 = .ok (.bipush 60, 2) := by decide +kernel
theorem dX6_next_291 : decode cX6_next 291 = .ok (.if_icmp .eq 9, 3) := by decide +kernel
theorem dX6_next_294 : decode cX6_next 294 = .ok (.iload_n 1, 1) := by decide +kernel
theorem dX6_next_295 : decode cX6_next 295 = .ok (.bipush 61, 2) := by decide +kernel
theorem dX6_next_297 : decode cX6_next 297 = .ok (.if_icmp .ne 24, 3) := by decide +kernel
theorem dX6_next_300 : decode cX6_next 300 = .ok (.aload_n 0, 1) := by decide +kernel
theorem dX6_next_301 : decode cX6_next 301 = .ok (.iconst 3, 1) := by decide +kernel
theorem dX6_next_302 : decode cX6_next 302 = .ok (.putfield 139, 3) := by decide +kernel
theorem dX6_next_305 : decode cX6_next 305 = .ok (.aload_n 0, 1) := by decide +kernel
theorem dX6_next_306 : decode cX6_next 306 = .ok (.iload_n 1, 1) := by decide +kernel
theorem dX6_next_307 : decode cX6_next 307 = .ok (.i2l, 1) := by decide +kernel
theorem dX6_next_308 : decode cX6_next 308 = .ok (.putfield 150, 3) := by decide +kernel
theorem dX6_next_311 : decode cX6_next 311 = .ok (.aload_n 0, 1) := by decide +kernel
theorem dX6_next_312 : decode cX6_next 312 = .ok (.dup, 1) := by decide +kernel
theorem dX6_next_313 : decode cX6_next 313 = .ok (.getfield 130, 3) := by decide +kernel
theorem dX6_next_316 : decode cX6_next 316 = .ok (.iconst 1, 1) := by decide +kernel
theorem dX6_next_317 : decode cX6_next 317 = .ok (.iadd, 1) := by decide +kernel
theorem dX6_next_318 : decode cX6_next 318 = .ok (.putfield 130, 3) := by decide +kernel
theorem dX6_next_321 : decode cX6_next 321 = .ok (.return_, 1) := by decide +kernel
theorem dX6_fail_0 : decode cX6_fail 0 = .ok (.aload_n 0, 1) := by decide +kernel
theorem dX6_fail_1 : decode cX6_fail 1 = .ok (.getfield 156, 3) := by decide +kernel
theorem dX6_fail_4 : decode cX6_fail 4 = .ok (.ifCond .ne 16, 3) := by decide +kernel
theorem dX6_fail_7 : decode cX6_fail 7 = .ok (.aload_n 0, 1) := by decide +kernel
theorem dX6_fail_8 : decode cX6_fail 8 = .ok (.iconst 1, 1) := by decide +kernel
theorem dX6_fail_9 : decode cX6_fail 9 = .ok (.putfield 156, 3) := by decide +kernel
theorem dX6_fail_12 : decode cX6_fail 12 = .ok (.aload_n 0, 1) := by decide +kernel
theorem dX6_fail_13 : decode cX6_fail 13 = .ok (.aload_n 0, 1) := by decide +kernel
theorem dX6_fail_14 : decode cX6_fail 14 = .ok (.getfield 136, 3) := by decide +kernel
theorem dX6_fail_17 : decode cX6_fail 17 = .ok (.putfield 160, 3) := by decide +kernel
theorem dX6_fail_20 : decode cX6_fail 20 = .ok (.return_, 1) := by decide +kernel
theorem dX6_isLetter_0 : decode cX6_isLetter 0 = .ok (.aload_n 0, 1) := by decide +kernel
theorem dX6_isLetter_1 : decode cX6_isLetter 1 = .ok (.getfield 136, 3) := by decide +kernel
theorem dX6_isLetter_4 : decode cX6_isLetter 4 = .ok (.iload_n 1, 1) := by decide +kernel
theorem dX6_isLetter_5 : decode cX6_isLetter 5 = .ok (.iadd, 1) := by decide +kernel
theorem dX6_isLetter_6 : decode cX6_isLetter 6 = .ok (.aload_n 0, 1) := by decide +kernel
theorem dX6_isLetter_7 : decode cX6_isLetter 7 = .ok (.getfield 130, 3) := by decide +kernel
theorem dX6_isLetter_10 : decode cX6_isLetter 10 = .ok (.if_icmp .ge 25, 3) := by decide +kernel
theorem dX6_isLetter_13 : decode cX6_isLetter 13 = .ok (.aload_n 0, 1) := by decide +kernel
theorem dX6_isLetter_14 : decode cX6_isLetter 14 = .ok (.aload_n 0, 1) := by decide +kernel
theorem dX6_isLetter_15 : decode cX6_isLetter 15 = .ok (.getfield 136, 3) := by decide +kernel
theorem dX6_isLetter_18 : decode cX6_isLetter 18 = .ok (.iload_n 1, 1) := by decide +kernel
theorem dX6_isLetter_19 : decode cX6_isLetter 19 = .ok (.iadd, 1) := by decide +kernel
theorem dX6_isLetter_20 : decode cX6_isLetter 20 = .ok (.invokevirtual 133, 3) := by decide +kernel
theorem dX6_isLetter_23 : decode cX6_isLetter 23 = .ok (.iload_n 2, 1) := by decide +kernel
theorem dX6_isLetter_24 : decode cX6_isLetter 24 = .ok (.if_icmp .ne 7, 3) := by decide +kernel
theorem dX6_isLetter_27 : decode cX6_isLetter 27 = .ok (.iconst 1, 1) := by decide +kernel
theorem dX6_isLetter_28 : decode cX6_isLetter 28 = .ok (.goto 16, 3) := by decide +kernel
theorem dX6_isLetter_31 : decode cX6_isLetter 31 = .ok (.iconst 0, 1) := by decide +kernel
theorem dX6_isLetter_32 : decode cX6_isLetter 32 = .ok (.goto 12, 3) := by decide +kernel
theorem dX6_isLetter_35 : decode cX6_isLetter 35 = .ok (.iload_n 2, 1) := by decide +kernel
theorem dX6_isLetter_36 : decode cX6_isLetter 36 = .ok (.ifCond .ne 7, 3) := by decide +kernel
theorem dX6_isLetter_39 : decode cX6_isLetter 39 = .ok (.iconst 1, 1) := by decide +kernel
theorem dX6_isLetter_40 : decode cX6_isLetter 40 = .ok (.goto 4, 3) := by decide +kernel
theorem dX6_isLetter_43 : decode cX6_isLetter 43 = .ok (.iconst 0, 1) := by decide +kernel
theorem dX6_isLetter_44 : decode cX6_isLetter 44 = .ok (.ireturn, 1) := by decide +kernel
theorem dX6_isWord_0 : decode cX6_isWord 0 = .ok (.aload_n 0, 1) := by decide +kernel
theorem dX6_isWord_1 : decode cX6_isWord 1 = .ok (.getfield 156, 3) := by decide +kernel
theorem dX6_isWord_4 : decode cX6_isWord 4 = .ok (.ifCond .ne 108, 3) := by decide +kernel
theorem dX6_isWord_7 : decode cX6_isWord 7 = .ok (.aload_n 0, 1) := by decide +kernel
theorem dX6_isWord_8 : decode cX6_isWord 8 = .ok (.getfield 139, 3) := by decide +kernel
theorem dX6_isWord_11 : decode cX6_isWord 11 = .ok (.iconst 1, 1) := by decide +kernel
theorem dX6_isWord_12 : decode cX6_isWord 12 = .ok (.if_icmp .ne 100, 3) := by decide +kernel
theorem dX6_isWord_15 : decode cX6_isWord 15 = .ok (.aload_n 0, 1) := by decide +kernel
theorem dX6_isWord_16 : decode cX6_isWord 16 = .ok (.getfield 130, 3) := by decide +kernel
theorem dX6_isWord_19 : decode cX6_isWord 19 = .ok (.aload_n 0, 1) := by decide +kernel
theorem dX6_isWord_20 : decode cX6_isWord 20 = .ok (.getfield 136, 3) := by decide +kernel
theorem dX6_isWord_23 : decode cX6_isWord 23 = .ok (.bipush 8, 2) := by decide +kernel
theorem dX6_isWord_25 : decode cX6_isWord 25 = .ok (.iadd, 1) := by decide +kernel
theorem dX6_isWord_26 : decode cX6_isWord 26 = .ok (.if_icmp .gt 86, 3) := by decide +kernel
theorem dX6_isWord_29 : decode cX6_isWord 29 = .ok (.aload_n 0, 1) := by decide +kernel
theorem dX6_isWord_30 : decode cX6_isWord 30 = .ok (.iconst 0, 1) := by decide +kernel
theorem dX6_isWord_31 : decode cX6_isWord 31 = .ok (.iload_n 1, 1) := by decide +kernel
theorem dX6_isWord_32 : decode cX6_isWord 32 = .ok (.invokevirtual 163, 3) := by decide +kernel
theorem dX6_isWord_35 : decode cX6_isWord 35 = .ok (.ifCond .eq 77, 3) := by decide +kernel
theorem dX6_isWord_38 : decode cX6_isWord 38 = .ok (.aload_n 0, 1) := by decide +kernel
theorem dX6_isWord_39 : decode cX6_isWord 39 = .ok (.iconst 1, 1) := by decide +kernel
theorem dX6_isWord_40 : decode cX6_isWord 40 = .ok (.iload_n 2, 1) := by decide +kernel
theorem dX6_isWord_41 : decode cX6_isWord 41 = .ok (.invokevirtual 163, 3) := by decide +kernel
theorem dX6_isWord_44 : decode cX6_isWord 44 = .ok (.ifCond .eq 68, 3) := by decide +kernel
theorem dX6_isWord_47 : decode cX6_isWord 47 = .ok (.aload_n 0, 1) := by decide +kernel
theorem dX6_isWord_48 : decode cX6_isWord 48 = .ok (.iconst 2, 1) := by decide +kernel
theorem dX6_isWord_49 : decode cX6_isWord 49 = .ok (.iload_n 3, 1) := by decide +kernel
theorem dX6_isWord_50 : decode cX6_isWord 50 = .ok (.invokevirtual 163, 3) := by decide +kernel
theorem dX6_isWord_53 : decode cX6_isWord 53 = .ok (.ifCond .eq 59, 3) := by decide +kernel
theorem dX6_isWord_56 : decode cX6_isWord 56 = .ok (.aload_n 0, 1) := by decide +kernel
theorem dX6_isWord_57 : decode cX6_isWord 57 = .ok (.iconst 3, 1) := by decide +kernel
theorem dX6_isWord_58 : decode cX6_isWord 58 = .ok (.iload 4, 2) := by decide +kernel
theorem dX6_isWord_60 : decode cX6_isWord 60 = .ok (.invokevirtual 163, 3) := by decide +kernel
theorem dX6_isWord_63 : decode cX6_isWord 63 = .ok (.ifCond .eq 49, 3) := by decide +kernel
theorem dX6_isWord_66 : decode cX6_isWord 66 = .ok (.aload_n 0, 1) := by decide +kernel
theorem dX6_isWord_67 : decode cX6_isWord 67 = .ok (.iconst 4, 1) := by decide +kernel
theorem dX6_isWord_68 : decode cX6_isWord 68 = .ok (.iload 5, 2) := by decide +kernel
theorem dX6_isWord_70 : decode cX6_isWord 70 = .ok (.invokevirtual 163, 3) := by decide +kernel
theorem dX6_isWord_73 : decode cX6_isWord 73 = .ok (.ifCond .eq 39, 3) := by decide +kernel
theorem dX6_isWord_76 : decode cX6_isWord 76 = .ok (.aload_n 0, 1) := by decide +kernel
theorem dX6_isWord_77 : decode cX6_isWord 77 = .ok (.iconst 5, 1) := by decide +kernel
theorem dX6_isWord_78 : decode cX6_isWord 78 = .ok (.iload 6, 2) := by decide +kernel
theorem dX6_isWord_80 : decode cX6_isWord 80 = .ok (.invokevirtual 163, 3) := by decide +kernel
theorem dX6_isWord_83 : decode cX6_isWord 83 = .ok (.ifCond .eq 29, 3) := by decide +kernel
theorem dX6_isWord_86 : decode cX6_isWord 86 = .ok (.aload_n 0, 1) := by decide +kernel
theorem dX6_isWord_87 : decode cX6_isWord 87 = .ok (.bipush 6, 2) := by decide +kernel
theorem dX6_isWord_89 : decode cX6_isWord 89 = .ok (.iload 7, 2) := by decide +kernel
theorem dX6_isWord_91 : decode cX6_isWord 91 = .ok (.invokevirtual 163, 3) := by decide +kernel
theorem dX6_isWord_94 : decode cX6_isWord 94 = .ok (.ifCond .eq 18, 3) := by decide +kernel
theorem dX6_isWord_97 : decode cX6_isWord 97 = .ok (.aload_n 0, 1) := by decide +kernel
theorem dX6_isWord_98 : decode cX6_isWord 98 = .ok (.bipush 7, 2) := by decide +kernel
theorem dX6_isWord_100 : decode cX6_isWord 100 = .ok (.iload 8, 2) := by decide +kernel
theorem dX6_isWord_102 : decode cX6_isWord 102 = .ok (.invokevirtual 163, 3) := by decide +kernel
theorem dX6_isWord_105 : decode cX6_isWord 105 = .ok (.ifCond .eq 7, 3) := by decide +kernel
theorem dX6_isWord_108 : decode cX6_isWord 108 = .ok (.iconst 1, 1) := by decide +kernel
theorem dX6_isWord_109 : decode cX6_isWord 109 = .ok (.goto 4, 3) := by decide +kernel
theorem dX6_isWord_112 : decode cX6_isWord 112 = .ok (.iconst 0, 1) := by decide +kernel
theorem dX6_isWord_113 : decode cX6_isWord 113 = .ok (.ireturn, 1) := by decide +kernel
theorem dX6_isSign_0 : decode cX6_isSign 0 = .ok (.aload_n 0, 1) := by decide +kernel
theorem dX6_isSign_1 : decode cX6_isSign 1 = .ok (.getfield 156, 3) := by decide +kernel
theorem dX6_isSign_4 : decode cX6_isSign 4 = .ok (.ifCond .ne 25, 3) := by decide +kernel
theorem dX6_isSign_7 : decode cX6_isSign 7 = .ok (.aload_n 0, 1) := by decide +kernel
theorem dX6_isSign_8 : decode cX6_isSign 8 = .ok (.getfield 139, 3) := by decide +kernel
theorem dX6_isSign_11 : decode cX6_isSign 11 = .ok (.iconst 3, 1) := by decide +kernel
theorem dX6_isSign_12 : decode cX6_isSign 12 = .ok (.if_icmp .ne 17, 3) := by decide +kernel
theorem dX6_isSign_15 : decode cX6_isSign 15 = .ok (.aload_n 0, 1) := by decide +kernel
theorem dX6_isSign_16 : decode cX6_isSign 16 = .ok (.getfield 150, 3) := by decide +kernel
theorem dX6_isSign_19 : decode cX6_isSign 19 = .ok (.iload_n 1, 1) := by decide +kernel
theorem dX6_isSign_20 : decode cX6_isSign 20 = .ok (.i2l, 1) := by decide +kernel
theorem dX6_isSign_21 : decode cX6_isSign 21 = .ok (.lcmp, 1) := by decide +kernel
theorem dX6_isSign_22 : decode cX6_isSign 22 = .ok (.ifCond .ne 7, 3) := by decide +kernel
theorem dX6_isSign_25 : decode cX6_isSign 25 = .ok (.iconst 1, 1) := by decide +kernel
theorem dX6_isSign_26 : decode cX6_isSign 26 = .ok (.goto 4, 3) := by decide +kernel
theorem dX6_isSign_29 : decode cX6_isSign 29 = .ok (.iconst 0, 1) := by decide +kernel
theorem dX6_isSign_30 : decode cX6_isSign 30 = .ok (.ireturn, 1) := by decide +kernel
theorem dX6_opens_0 : decode cX6_opens 0 = .ok (.aload_n 0, 1) := by decide +kernel
theorem dX6_opens_1 : decode cX6_opens 1 = .ok (.getfield 167, 3) := by decide +kernel
theorem dX6_opens_4 : decode cX6_opens 4 = .ok (.iconst 5, 1) := by decide +kernel
theorem dX6_opens_5 : decode cX6_opens 5 = .ok (.if_icmp .ne 9, 3) := by decide +kernel
theorem dX6_opens_8 : decode cX6_opens 8 = .ok (.aload_n 0, 1) := by decide +kernel
theorem dX6_opens_9 : decode cX6_opens 9 = .ok (.invokevirtual 170, 3) := by decide +kernel
theorem dX6_opens_12 : decode cX6_opens 12 = .ok (.iconst 0, 1) := by decide +kernel
theorem dX6_opens_13 : decode cX6_opens 13 = .ok (.ireturn, 1) := by decide +kernel
theorem dX6_opens_14 : decode cX6_opens 14 = .ok (.aload_n 0, 1) := by decide +kernel
theorem dX6_opens_15 : decode cX6_opens 15 = .ok (.dup, 1) := by decide +kernel
theorem dX6_opens_16 : decode cX6_opens 16 = .ok (.getfield 167, 3) := by decide +kernel
theorem dX6_opens_19 : decode cX6_opens 19 = .ok (.iconst 1, 1) := by decide +kernel
theorem dX6_opens_20 : decode cX6_opens 20 = .ok (.iadd, 1) := by decide +kernel
theorem dX6_opens_21 : decode cX6_opens 21 = .ok (.putfield 167, 3) := by decide +kernel
theorem dX6_opens_24 : decode cX6_opens 24 = .ok (.aload_n 0, 1) := by decide +kernel
theorem dX6_opens_25 : decode cX6_opens 25 = .ok (.invokevirtual 173, 3) := by decide +kernel
theorem dX6_opens_28 : decode cX6_opens 28 = .ok (.iconst 1, 1) := by decide +kernel
theorem dX6_opens_29 : decode cX6_opens 29 = .ok (.ireturn, 1) := by decide +kernel
theorem dX6_name_0 : decode cX6_name 0 = .ok (.aload_n 0, 1) := by decide +kernel
theorem dX6_name_1 : decode cX6_name 1 = .ok (.bipush 118, 2) := by decide +kernel
theorem dX6_name_3 : decode cX6_name 3 = .ok (.bipush 97, 2) := by decide +kernel
theorem dX6_name_5 : decode cX6_name 5 = .ok (.bipush 108, 2) := by decide +kernel
theorem dX6_name_7 : decode cX6_name 7 = .ok (.bipush 117, 2) := by decide +kernel
theorem dX6_name_9 : decode cX6_name 9 = .ok (.bipush 101, 2) := by decide +kernel
theorem dX6_name_11 : decode cX6_name 11 = .ok (.iconst 0, 1) := by decide +kernel
theorem dX6_name_12 : decode cX6_name 12 = .ok (.iconst 0, 1) := by decide +kernel
theorem dX6_name_13 : decode cX6_name 13 = .ok (.iconst 0, 1) := by decide +kernel
theorem dX6_name_14 : decode cX6_name 14 = .ok (.invokevirtual 176, 3) := by decide +kernel
theorem dX6_name_17 : decode cX6_name 17 = .ok (.ifCond .eq 8, 3) := by decide +kernel
theorem dX6_name_20 : decode cX6_name 20 = .ok (.aload_n 0, 1) := by decide +kernel
theorem dX6_name_21 : decode cX6_name 21 = .ok (.getfield 180, 3) := by decide +kernel
theorem dX6_name_24 : decode cX6_name 24 = .ok (.ireturn, 1) := by decide +kernel
theorem dX6_name_25 : decode cX6_name 25 = .ok (.aload_n 0, 1) := by decide +kernel
theorem dX6_name_26 : decode cX6_name 26 = .ok (.bipush 102, 2) := by decide +kernel
theorem dX6_name_28 : decode cX6_name 28 = .ok (.bipush 105, 2) := by decide +kernel
theorem dX6_name_30 : decode cX6_name 30 = .ok (.bipush 114, 2) := by decide +kernel
theorem dX6_name_32 : decode cX6_name 32 = .ok (.bipush 115, 2) := by decide +kernel
theorem dX6_name_34 : decode cX6_name 34 = .ok (.bipush 116, 2) := by decide +kernel
theorem dX6_name_36 : decode cX6_name 36 = .ok (.iconst 0, 1) := by decide +kernel
theorem dX6_name_37 : decode cX6_name 37 = .ok (.iconst 0, 1) := by decide +kernel
theorem dX6_name_38 : decode cX6_name 38 = .ok (.iconst 0, 1) := by decide +kernel
theorem dX6_name_39 : decode cX6_name 39 = .ok (.invokevirtual 176, 3) := by decide +kernel
theorem dX6_name_42 : decode cX6_name 42 = .ok (.ifCond .eq 8, 3) := by decide +kernel
theorem dX6_name_45 : decode cX6_name 45 = .ok (.aload_n 0, 1) := by decide +kernel
theorem dX6_name_46 : decode cX6_name 46 = .ok (.getfield 183, 3) := by decide +kernel
theorem dX6_name_49 : decode cX6_name 49 = .ok (.ireturn, 1) := by decide +kernel
theorem dX6_name_50 : decode cX6_name 50 = .ok (.aload_n 0, 1) := by decide +kernel
theorem dX6_name_51 : decode cX6_name 51 = .ok (.bipush 110, 2) := by decide +kernel
theorem dX6_name_53 : decode cX6_name 53 = .ok (.bipush 117, 2) := by decide +kernel
theorem dX6_name_55 : decode cX6_name 55 = .ok (.bipush 109, 2) := by decide +kernel
theorem dX6_name_57 : decode cX6_name 57 = .ok (.bipush 98, 2) := by decide +kernel
theorem dX6_name_59 : decode cX6_name 59 = .ok (.bipush 101, 2) := by decide +kernel
theorem dX6_name_61 : decode cX6_name 61 = .ok (.bipush 114, 2) := by decide +kernel
theorem dX6_name_63 : decode cX6_name 63 = .ok (.iconst 0, 1) := by decide +kernel
theorem dX6_name_64 : decode cX6_name 64 = .ok (.iconst 0, 1) := by decide +kernel
theorem dX6_name_65 : decode cX6_name 65 = .ok (.invokevirtual 176, 3) := by decide +kernel
theorem dX6_name_68 : decode cX6_name 68 = .ok (.ifCond .eq 8, 3) := by decide +kernel
theorem dX6_name_71 : decode cX6_name 71 = .ok (.aload_n 0, 1) := by decide +kernel
theorem dX6_name_72 : decode cX6_name 72 = .ok (.getfield 186, 3) := by decide +kernel
theorem dX6_name_75 : decode cX6_name 75 = .ok (.ireturn, 1) := by decide +kernel
theorem dX6_name_76 : decode cX6_name 76 = .ok (.aload_n 0, 1) := by decide +kernel
theorem dX6_name_77 : decode cX6_name 77 = .ok (.bipush 97, 2) := by decide +kernel
theorem dX6_name_79 : decode cX6_name 79 = .ok (.bipush 103, 2) := by decide +kernel
theorem dX6_name_81 : decode cX6_name 81 = .ok (.bipush 101, 2) := by decide +kernel
theorem dX6_name_83 : decode cX6_name 83 = .ok (.iconst 0, 1) := by decide +kernel
theorem dX6_name_84 : decode cX6_name 84 = .ok (.iconst 0, 1) := by decide +kernel
theorem dX6_name_85 : decode cX6_name 85 = .ok (.iconst 0, 1) := by decide +kernel
theorem dX6_name_86 : decode cX6_name 86 = .ok (.iconst 0, 1) := by decide +kernel
theorem dX6_name_87 : decode cX6_name 87 = .ok (.iconst 0, 1) := by decide +kernel
theorem dX6_name_88 : decode cX6_name 88 = .ok (.invokevirtual 176, 3) := by decide +kernel
theorem dX6_name_91 : decode cX6_name 91 = .ok (.ifCond .eq 8, 3) := by decide +kernel
theorem dX6_name_94 : decode cX6_name 94 = .ok (.aload_n 0, 1) := by decide +kernel
theorem dX6_name_95 : decode cX6_name 95 = .ok (.getfield 189, 3) := by decide +kernel
theorem dX6_name_98 : decode cX6_name 98 = .ok (.ireturn, 1) := by decide +kernel
theorem dX6_name_99 : decode cX6_name 99 = .ok (.aload_n 0, 1) := by decide +kernel
theorem dX6_name_100 : decode cX6_name 100 = .ok (.bipush 111, 2) := by decide +kernel
theorem dX6_name_102 : decode cX6_name 102 = .ok (.bipush 119, 2) := by decide +kernel
theorem dX6_name_104 : decode cX6_name 104 = .ok (.bipush 110, 2) := by decide +kernel
theorem dX6_name_106 : decode cX6_name 106 = .ok (.bipush 101, 2) := by decide +kernel
theorem dX6_name_108 : decode cX6_name 108 = .ok (.bipush 114, 2) := by decide +kernel
theorem dX6_name_110 : decode cX6_name 110 = .ok (.iconst 0, 1) := by decide +kernel
theorem dX6_name_111 : decode cX6_name 111 = .ok (.iconst 0, 1) := by decide +kernel
theorem dX6_name_112 : decode cX6_name 112 = .ok (.iconst 0, 1) := by decide +kernel
theorem dX6_name_113 : decode cX6_name 113 = .ok (.invokevirtual 176, 3) := by decide +kernel
theorem dX6_name_116 : decode cX6_name 116 = .ok (.ifCond .eq 8, 3) := by decide +kernel
theorem dX6_name_119 : decode cX6_name 119 = .ok (.aload_n 0, 1) := by decide +kernel
theorem dX6_name_120 : decode cX6_name 120 = .ok (.getfield 192, 3) := by decide +kernel
theorem dX6_name_123 : decode cX6_name 123 = .ok (.ireturn, 1) := by decide +kernel
theorem dX6_name_124 : decode cX6_name 124 = .ok (.aload_n 0, 1) := by decide +kernel
theorem dX6_name_125 : decode cX6_name 125 = .ok (.bipush 100, 2) := by decide +kernel
theorem dX6_name_127 : decode cX6_name 127 = .ok (.bipush 97, 2) := by decide +kernel
theorem dX6_name_129 : decode cX6_name 129 = .ok (.bipush 121, 2) := by decide +kernel
theorem dX6_name_131 : decode cX6_name 131 = .ok (.iconst 0, 1) := by decide +kernel
theorem dX6_name_132 : decode cX6_name 132 = .ok (.iconst 0, 1) := by decide +kernel
theorem dX6_name_133 : decode cX6_name 133 = .ok (.iconst 0, 1) := by decide +kernel
theorem dX6_name_134 : decode cX6_name 134 = .ok (.iconst 0, 1) := by decide +kernel
theorem dX6_name_135 : decode cX6_name 135 = .ok (.iconst 0, 1) := by decide +kernel
theorem dX6_name_136 : decode cX6_name 136 = .ok (.invokevirtual 176, 3) := by decide +kernel
theorem dX6_name_139 : decode cX6_name 139 = .ok (.ifCond .eq 8, 3) := by decide +kernel
theorem dX6_name_142 : decode cX6_name 142 = .ok (.aload_n 0, 1) := by decide +kernel
theorem dX6_name_143 : decode cX6_name 143 = .ok (.getfield 195, 3) := by decide +kernel
theorem dX6_name_146 : decode cX6_name 146 = .ok (.ireturn, 1) := by decide +kernel
theorem dX6_name_147 : decode cX6_name 147 = .ok (.aload_n 0, 1) := by decide +kernel
theorem dX6_name_148 : decode cX6_name 148 = .ok (.invokevirtual 170, 3) := by decide +kernel
theorem dX6_name_151 : decode cX6_name 151 = .ok (.iconst 0, 1) := by decide +kernel
theorem dX6_name_152 : decode cX6_name 152 = .ok (.ireturn, 1) := by decide +kernel
theorem dX6_atom5_0 : decode cX6_atom5 0 = .ok (.iconst 0, 1) := by decide +kernel
theorem dX6_atom5_1 : decode cX6_atom5 1 = .ok (.istore_n 1, 1) := by decide +kernel
theorem dX6_atom5_2 : decode cX6_atom5 2 = .ok (.aload_n 0, 1) := by decide +kernel
theorem dX6_atom5_3 : decode cX6_atom5 3 = .ok (.bipush 45, 2) := by decide +kernel
theorem dX6_atom5_5 : decode cX6_atom5 5 = .ok (.invokevirtual 198, 3) := by decide +kernel
theorem dX6_atom5_8 : decode cX6_atom5 8 = .ok (.ifCond .eq 11, 3) := by decide +kernel
theorem dX6_atom5_11 : decode cX6_atom5 11 = .ok (.aload_n 0, 1) := by decide +kernel
theorem dX6_atom5_12 : decode cX6_atom5 12 = .ok (.invokevirtual 201, 3) := by decide +kernel
theorem dX6_atom5_15 : decode cX6_atom5 15 = .ok (.pop, 1) := by decide +kernel
theorem dX6_atom5_16 : decode cX6_atom5 16 = .ok (.goto 86, 3) := by decide +kernel
theorem dX6_atom5_19 : decode cX6_atom5 19 = .ok (.aload_n 0, 1) := by decide +kernel
theorem dX6_atom5_20 : decode cX6_atom5 20 = .ok (.bipush 40, 2) := by decide +kernel
theorem dX6_atom5_22 : decode cX6_atom5 22 = .ok (.invokevirtual 198, 3) := by decide +kernel
theorem dX6_atom5_25 : decode cX6_atom5 25 = .ok (.ifCond .eq 11, 3) := by decide +kernel
theorem dX6_atom5_28 : decode cX6_atom5 28 = .ok (.aload_n 0, 1) := by decide +kernel
theorem dX6_atom5_29 : decode cX6_atom5 29 = .ok (.invokevirtual 201, 3) := by decide +kernel
theorem dX6_atom5_32 : decode cX6_atom5 32 = .ok (.pop, 1) := by decide +kernel
theorem dX6_atom5_33 : decode cX6_atom5 33 = .ok (.goto 69, 3) := by decide +kernel
theorem dX6_atom5_36 : decode cX6_atom5 36 = .ok (.aload_n 0, 1) := by decide +kernel
theorem dX6_atom5_37 : decode cX6_atom5 37 = .ok (.getfield 156, 3) := by decide +kernel
theorem dX6_atom5_40 : decode cX6_atom5 40 = .ok (.ifCond .ne 24, 3) := by decide +kernel
theorem dX6_atom5_43 : decode cX6_atom5 43 = .ok (.aload_n 0, 1) := by decide +kernel
theorem dX6_atom5_44 : decode cX6_atom5 44 = .ok (.getfield 139, 3) := by decide +kernel
theorem dX6_atom5_47 : decode cX6_atom5 47 = .ok (.iconst 2, 1) := by decide +kernel
theorem dX6_atom5_48 : decode cX6_atom5 48 = .ok (.if_icmp .ne 16, 3) := by decide +kernel
theorem dX6_atom5_51 : decode cX6_atom5 51 = .ok (.aload_n 0, 1) := by decide +kernel
theorem dX6_atom5_52 : decode cX6_atom5 52 = .ok (.getfield 150, 3) := by decide +kernel
theorem dX6_atom5_55 : decode cX6_atom5 55 = .ok (.l2i, 1) := by decide +kernel
theorem dX6_atom5_56 : decode cX6_atom5 56 = .ok (.istore_n 1, 1) := by decide +kernel
theorem dX6_atom5_57 : decode cX6_atom5 57 = .ok (.aload_n 0, 1) := by decide +kernel
theorem dX6_atom5_58 : decode cX6_atom5 58 = .ok (.invokevirtual 173, 3) := by decide +kernel
theorem dX6_atom5_61 : decode cX6_atom5 61 = .ok (.goto 41, 3) := by decide +kernel
theorem dX6_atom5_64 : decode cX6_atom5 64 = .ok (.aload_n 0, 1) := by decide +kernel
theorem dX6_atom5_65 : decode cX6_atom5 65 = .ok (.getfield 156, 3) := by decide +kernel
theorem dX6_atom5_68 : decode cX6_atom5 68 = .ok (.ifCond .ne 30, 3) := by decide +kernel
theorem dX6_atom5_71 : decode cX6_atom5 71 = .ok (.aload_n 0, 1) := by decide +kernel
theorem dX6_atom5_72 : decode cX6_atom5 72 = .ok (.getfield 139, 3) := by decide +kernel
theorem dX6_atom5_75 : decode cX6_atom5 75 = .ok (.iconst 1, 1) := by decide +kernel
theorem dX6_atom5_76 : decode cX6_atom5 76 = .ok (.if_icmp .ne 22, 3) := by decide +kernel
theorem dX6_atom5_79 : decode cX6_atom5 79 = .ok (.aload_n 0, 1) := by decide +kernel
theorem dX6_atom5_80 : decode cX6_atom5 80 = .ok (.invokevirtual 205, 3) := by decide +kernel
theorem dX6_atom5_83 : decode cX6_atom5 83 = .ok (.istore_n 1, 1) := by decide +kernel
theorem dX6_atom5_84 : decode cX6_atom5 84 = .ok (.aload_n 0, 1) := by decide +kernel
theorem dX6_atom5_85 : decode cX6_atom5 85 = .ok (.getfield 156, 3) := by decide +kernel
theorem dX6_atom5_88 : decode cX6_atom5 88 = .ok (.ifCond .ne 14, 3) := by decide +kernel
theorem dX6_atom5_91 : decode cX6_atom5 91 = .ok (.aload_n 0, 1) := by decide +kernel
theorem dX6_atom5_92 : decode cX6_atom5 92 = .ok (.invokevirtual 173, 3) := by decide +kernel
theorem dX6_atom5_95 : decode cX6_atom5 95 = .ok (.goto 7, 3) := by decide +kernel
theorem dX6_atom5_98 : decode cX6_atom5 98 = .ok (.aload_n 0, 1) := by decide +kernel
theorem dX6_atom5_99 : decode cX6_atom5 99 = .ok (.invokevirtual 170, 3) := by decide +kernel
theorem dX6_atom5_102 : decode cX6_atom5 102 = .ok (.iload_n 1, 1) := by decide +kernel
theorem dX6_atom5_103 : decode cX6_atom5 103 = .ok (.ireturn, 1) := by decide +kernel
theorem dX6_term5_0 : decode cX6_term5 0 = .ok (.aload_n 0, 1) := by decide +kernel
theorem dX6_term5_1 : decode cX6_term5 1 = .ok (.invokevirtual 209, 3) := by decide +kernel
theorem dX6_term5_4 : decode cX6_term5 4 = .ok (.istore_n 1, 1) := by decide +kernel
theorem dX6_term5_5 : decode cX6_term5 5 = .ok (.aload_n 0, 1) := by decide +kernel
theorem dX6_term5_6 : decode cX6_term5 6 = .ok (.bipush 42, 2) := by decide +kernel
theorem dX6_term5_8 : decode cX6_term5 8 = .ok (.invokevirtual 198, 3) := by decide +kernel
theorem dX6_term5_11 : decode cX6_term5 11 = .ok (.ifCond .eq 17, 3) := by decide +kernel
theorem dX6_term5_14 : decode cX6_term5 14 = .ok (.aload_n 0, 1) := by decide +kernel
theorem dX6_term5_15 : decode cX6_term5 15 = .ok (.invokevirtual 173, 3) := by decide +kernel
theorem dX6_term5_18 : decode cX6_term5 18 = .ok (.iload_n 1, 1) := by decide +kernel
theorem dX6_term5_19 : decode cX6_term5 19 = .ok (.aload_n 0, 1) := by decide +kernel
theorem dX6_term5_20 : decode cX6_term5 20 = .ok (.invokevirtual 209, 3) := by decide +kernel
theorem dX6_term5_23 : decode cX6_term5 23 = .ok (.imul, 1) := by decide +kernel
theorem dX6_term5_24 : decode cX6_term5 24 = .ok (.istore_n 1, 1) := by decide +kernel
theorem dX6_term5_25 : decode cX6_term5 25 = .ok (.goto (-20), 3) := by decide +kernel
theorem dX6_term5_28 : decode cX6_term5 28 = .ok (.iload_n 1, 1) := by decide +kernel
theorem dX6_term5_29 : decode cX6_term5 29 = .ok (.ireturn, 1) := by decide +kernel
theorem dX6_added5_0 : decode cX6_added5 0 = .ok (.aload_n 0, 1) := by decide +kernel
theorem dX6_added5_1 : decode cX6_added5 1 = .ok (.invokevirtual 212, 3) := by decide +kernel
theorem dX6_added5_4 : decode cX6_added5 4 = .ok (.istore_n 1, 1) := by decide +kernel
theorem dX6_added5_5 : decode cX6_added5 5 = .ok (.aload_n 0, 1) := by decide +kernel
theorem dX6_added5_6 : decode cX6_added5 6 = .ok (.bipush 43, 2) := by decide +kernel
theorem dX6_added5_8 : decode cX6_added5 8 = .ok (.invokevirtual 198, 3) := by decide +kernel
theorem dX6_added5_11 : decode cX6_added5 11 = .ok (.ifCond .ne 12, 3) := by decide +kernel
theorem dX6_added5_14 : decode cX6_added5 14 = .ok (.aload_n 0, 1) := by decide +kernel
theorem dX6_added5_15 : decode cX6_added5 15 = .ok (.bipush 45, 2) := by decide +kernel
theorem dX6_added5_17 : decode cX6_added5 17 = .ok (.invokevirtual 198, 3) := by decide +kernel
theorem dX6_added5_20 : decode cX6_added5 20 = .ok (.ifCond .eq 46, 3) := by decide +kernel
theorem dX6_added5_23 : decode cX6_added5 23 = .ok (.aload_n 0, 1) := by decide +kernel
theorem dX6_added5_24 : decode cX6_added5 24 = .ok (.getfield 150, 3) := by decide +kernel
theorem dX6_added5_27 : decode cX6_added5 27 = .ok (.ldc2_w 215, 3) := by decide +kernel
theorem dX6_added5_30 : decode cX6_added5 30 = .ok (.lcmp, 1) := by decide +kernel
theorem dX6_added5_31 : decode cX6_added5 31 = .ok (.ifCond .ne 7, 3) := by decide +kernel
theorem dX6_added5_34 : decode cX6_added5 34 = .ok (.iconst 1, 1) := by decide +kernel
theorem dX6_added5_35 : decode cX6_added5 35 = .ok (.goto 4, 3) := by decide +kernel
theorem dX6_added5_38 : decode cX6_added5 38 = .ok (.iconst 0, 1) := by decide +kernel
theorem dX6_added5_39 : decode cX6_added5 39 = .ok (.istore_n 2, 1) := by decide +kernel
theorem dX6_added5_40 : decode cX6_added5 40 = .ok (.aload_n 0, 1) := by decide +kernel
theorem dX6_added5_41 : decode cX6_added5 41 = .ok (.invokevirtual 173, 3) := by decide +kernel
theorem dX6_added5_44 : decode cX6_added5 44 = .ok (.aload_n 0, 1) := by decide +kernel
theorem dX6_added5_45 : decode cX6_added5 45 = .ok (.invokevirtual 212, 3) := by decide +kernel
theorem dX6_added5_48 : decode cX6_added5 48 = .ok (.istore_n 3, 1) := by decide +kernel
theorem dX6_added5_49 : decode cX6_added5 49 = .ok (.iload_n 2, 1) := by decide +kernel
theorem dX6_added5_50 : decode cX6_added5 50 = .ok (.ifCond .eq 9, 3) := by decide +kernel
theorem dX6_added5_53 : decode cX6_added5 53 = .ok (.iload_n 1, 1) := by decide +kernel
theorem dX6_added5_54 : decode cX6_added5 54 = .ok (.iload_n 3, 1) := by decide +kernel
theorem dX6_added5_55 : decode cX6_added5 55 = .ok (.iadd, 1) := by decide +kernel
theorem dX6_added5_56 : decode cX6_added5 56 = .ok (.goto 6, 3) := by decide +kernel
theorem dX6_added5_59 : decode cX6_added5 59 = .ok (.iload_n 1, 1) := by decide +kernel
theorem dX6_added5_60 : decode cX6_added5 60 = .ok (.iload_n 3, 1) := by decide +kernel
theorem dX6_added5_61 : decode cX6_added5 61 = .ok (.isub, 1) := by decide +kernel
theorem dX6_added5_62 : decode cX6_added5 62 = .ok (.istore_n 1, 1) := by decide +kernel
theorem dX6_added5_63 : decode cX6_added5 63 = .ok (.goto (-58), 3) := by decide +kernel
theorem dX6_added5_66 : decode cX6_added5 66 = .ok (.iload_n 1, 1) := by decide +kernel
theorem dX6_added5_67 : decode cX6_added5 67 = .ok (.ireturn, 1) := by decide +kernel
theorem dX6_not5_0 : decode cX6_not5 0 = .ok (.aload_n 0, 1) := by decide +kernel
theorem dX6_not5_1 : decode cX6_not5 1 = .ok (.bipush 110, 2) := by decide +kernel
theorem dX6_not5_3 : decode cX6_not5 3 = .ok (.bipush 111, 2) := by decide +kernel
theorem dX6_not5_5 : decode cX6_not5 5 = .ok (.bipush 116, 2) := by decide +kernel
theorem dX6_not5_7 : decode cX6_not5 7 = .ok (.iconst 0, 1) := by decide +kernel
theorem dX6_not5_8 : decode cX6_not5 8 = .ok (.iconst 0, 1) := by decide +kernel
theorem dX6_not5_9 : decode cX6_not5 9 = .ok (.iconst 0, 1) := by decide +kernel
theorem dX6_not5_10 : decode cX6_not5 10 = .ok (.iconst 0, 1) := by decide +kernel
theorem dX6_not5_11 : decode cX6_not5 11 = .ok (.iconst 0, 1) := by decide +kernel
theorem dX6_not5_12 : decode cX6_not5 12 = .ok (.invokevirtual 176, 3) := by decide +kernel
theorem dX6_not5_15 : decode cX6_not5 15 = .ok (.ifCond .eq 10, 3) := by decide +kernel
theorem dX6_not5_18 : decode cX6_not5 18 = .ok (.aload_n 0, 1) := by decide +kernel
theorem dX6_not5_19 : decode cX6_not5 19 = .ok (.invokevirtual 201, 3) := by decide +kernel
theorem dX6_not5_22 : decode cX6_not5 22 = .ok (.pop, 1) := by decide +kernel
theorem dX6_not5_23 : decode cX6_not5 23 = .ok (.iconst 0, 1) := by decide +kernel
theorem dX6_not5_24 : decode cX6_not5 24 = .ok (.ireturn, 1) := by decide +kernel
theorem dX6_not5_25 : decode cX6_not5 25 = .ok (.aload_n 0, 1) := by decide +kernel
theorem dX6_not5_26 : decode cX6_not5 26 = .ok (.invokevirtual 217, 3) := by decide +kernel
theorem dX6_not5_29 : decode cX6_not5 29 = .ok (.istore_n 1, 1) := by decide +kernel
theorem dX6_not5_30 : decode cX6_not5 30 = .ok (.aload_n 0, 1) := by decide +kernel
theorem dX6_not5_31 : decode cX6_not5 31 = .ok (.bipush 60, 2) := by decide +kernel
theorem dX6_not5_33 : decode cX6_not5 33 = .ok (.invokevirtual 198, 3) := by decide +kernel
theorem dX6_not5_36 : decode cX6_not5 36 = .ok (.ifCond .ne 14, 3) := by decide +kernel
theorem dX6_not5_39 : decode cX6_not5 39 = .ok (.aload_n 0, 1) := by decide +kernel
theorem dX6_not5_40 : decode cX6_not5 40 = .ok (.bipush 61, 2) := by decide +kernel
theorem dX6_not5_42 : decode cX6_not5 42 = .ok (.invokevirtual 198, 3) := by decide +kernel
theorem dX6_not5_45 : decode cX6_not5 45 = .ok (.ifCond .ne 5, 3) := by decide +kernel
theorem dX6_not5_48 : decode cX6_not5 48 = .ok (.iload_n 1, 1) := by decide +kernel
theorem dX6_not5_49 : decode cX6_not5 49 = .ok (.ireturn, 1) := by decide +kernel
theorem dX6_not5_50 : decode cX6_not5 50 = .ok (.aload_n 0, 1) := by decide +kernel
theorem dX6_not5_51 : decode cX6_not5 51 = .ok (.getfield 150, 3) := by decide +kernel
theorem dX6_not5_54 : decode cX6_not5 54 = .ok (.ldc2_w 220, 3) := by decide +kernel
theorem dX6_not5_57 : decode cX6_not5 57 = .ok (.lcmp, 1) := by decide +kernel
theorem dX6_not5_58 : decode cX6_not5 58 = .ok (.ifCond .ne 7, 3) := by decide +kernel
theorem dX6_not5_61 : decode cX6_not5 61 = .ok (.iconst 1, 1) := by decide +kernel
theorem dX6_not5_62 : decode cX6_not5 62 = .ok (.goto 4, 3) := by decide +kernel
theorem dX6_not5_65 : decode cX6_not5 65 = .ok (.iconst 0, 1) := by decide +kernel
theorem dX6_not5_66 : decode cX6_not5 66 = .ok (.istore_n 2, 1) := by decide +kernel
theorem dX6_not5_67 : decode cX6_not5 67 = .ok (.aload_n 0, 1) := by decide +kernel
theorem dX6_not5_68 : decode cX6_not5 68 = .ok (.invokevirtual 173, 3) := by decide +kernel
theorem dX6_not5_71 : decode cX6_not5 71 = .ok (.aload_n 0, 1) := by decide +kernel
theorem dX6_not5_72 : decode cX6_not5 72 = .ok (.invokevirtual 217, 3) := by decide +kernel
theorem dX6_not5_75 : decode cX6_not5 75 = .ok (.istore_n 3, 1) := by decide +kernel
theorem dX6_not5_76 : decode cX6_not5 76 = .ok (.iload_n 2, 1) := by decide +kernel
theorem dX6_not5_77 : decode cX6_not5 77 = .ok (.ifCond .eq 11, 3) := by decide +kernel
theorem dX6_not5_80 : decode cX6_not5 80 = .ok (.iload_n 1, 1) := by decide +kernel
theorem dX6_not5_81 : decode cX6_not5 81 = .ok (.iload_n 3, 1) := by decide +kernel
theorem dX6_not5_82 : decode cX6_not5 82 = .ok (.if_icmp .ge 15, 3) := by decide +kernel
theorem dX6_not5_85 : decode cX6_not5 85 = .ok (.goto 8, 3) := by decide +kernel
theorem dX6_not5_88 : decode cX6_not5 88 = .ok (.iload_n 1, 1) := by decide +kernel
theorem dX6_not5_89 : decode cX6_not5 89 = .ok (.iload_n 3, 1) := by decide +kernel
theorem dX6_not5_90 : decode cX6_not5 90 = .ok (.if_icmp .ne 7, 3) := by decide +kernel
theorem dX6_not5_93 : decode cX6_not5 93 = .ok (.iconst 1, 1) := by decide +kernel
theorem dX6_not5_94 : decode cX6_not5 94 = .ok (.goto 4, 3) := by decide +kernel
theorem dX6_not5_97 : decode cX6_not5 97 = .ok (.iconst 0, 1) := by decide +kernel
theorem dX6_not5_98 : decode cX6_not5 98 = .ok (.ireturn, 1) := by decide +kernel
theorem dX6_both5_0 : decode cX6_both5 0 = .ok (.aload_n 0, 1) := by decide +kernel
theorem dX6_both5_1 : decode cX6_both5 1 = .ok (.invokevirtual 222, 3) := by decide +kernel
theorem dX6_both5_4 : decode cX6_both5 4 = .ok (.istore_n 1, 1) := by decide +kernel
theorem dX6_both5_5 : decode cX6_both5 5 = .ok (.aload_n 0, 1) := by decide +kernel
theorem dX6_both5_6 : decode cX6_both5 6 = .ok (.bipush 97, 2) := by decide +kernel
theorem dX6_both5_8 : decode cX6_both5 8 = .ok (.bipush 110, 2) := by decide +kernel
theorem dX6_both5_10 : decode cX6_both5 10 = .ok (.bipush 100, 2) := by decide +kernel
theorem dX6_both5_12 : decode cX6_both5 12 = .ok (.iconst 0, 1) := by decide +kernel
theorem dX6_both5_13 : decode cX6_both5 13 = .ok (.iconst 0, 1) := by decide +kernel
theorem dX6_both5_14 : decode cX6_both5 14 = .ok (.iconst 0, 1) := by decide +kernel
theorem dX6_both5_15 : decode cX6_both5 15 = .ok (.iconst 0, 1) := by decide +kernel
theorem dX6_both5_16 : decode cX6_both5 16 = .ok (.iconst 0, 1) := by decide +kernel
theorem dX6_both5_17 : decode cX6_both5 17 = .ok (.invokevirtual 176, 3) := by decide +kernel
theorem dX6_both5_20 : decode cX6_both5 20 = .ok (.ifCond .eq 29, 3) := by decide +kernel
theorem dX6_both5_23 : decode cX6_both5 23 = .ok (.aload_n 0, 1) := by decide +kernel
theorem dX6_both5_24 : decode cX6_both5 24 = .ok (.invokevirtual 173, 3) := by decide +kernel
theorem dX6_both5_27 : decode cX6_both5 27 = .ok (.aload_n 0, 1) := by decide +kernel
theorem dX6_both5_28 : decode cX6_both5 28 = .ok (.invokevirtual 222, 3) := by decide +kernel
theorem dX6_both5_31 : decode cX6_both5 31 = .ok (.istore_n 2, 1) := by decide +kernel
theorem dX6_both5_32 : decode cX6_both5 32 = .ok (.iload_n 1, 1) := by decide +kernel
theorem dX6_both5_33 : decode cX6_both5 33 = .ok (.ifCond .eq 11, 3) := by decide +kernel
theorem dX6_both5_36 : decode cX6_both5 36 = .ok (.iload_n 2, 1) := by decide +kernel
theorem dX6_both5_37 : decode cX6_both5 37 = .ok (.ifCond .eq 7, 3) := by decide +kernel
theorem dX6_both5_40 : decode cX6_both5 40 = .ok (.iconst 1, 1) := by decide +kernel
theorem dX6_both5_41 : decode cX6_both5 41 = .ok (.goto 4, 3) := by decide +kernel
theorem dX6_both5_44 : decode cX6_both5 44 = .ok (.iconst 0, 1) := by decide +kernel
theorem dX6_both5_45 : decode cX6_both5 45 = .ok (.istore_n 1, 1) := by decide +kernel
theorem dX6_both5_46 : decode cX6_both5 46 = .ok (.goto (-41), 3) := by decide +kernel
theorem dX6_both5_49 : decode cX6_both5 49 = .ok (.iload_n 1, 1) := by decide +kernel
theorem dX6_both5_50 : decode cX6_both5 50 = .ok (.ireturn, 1) := by decide +kernel
theorem dX6_either5_0 : decode cX6_either5 0 = .ok (.aload_n 0, 1) := by decide +kernel
theorem dX6_either5_1 : decode cX6_either5 1 = .ok (.invokevirtual 225, 3) := by decide +kernel
theorem dX6_either5_4 : decode cX6_either5 4 = .ok (.istore_n 1, 1) := by decide +kernel
theorem dX6_either5_5 : decode cX6_either5 5 = .ok (.aload_n 0, 1) := by decide +kernel
theorem dX6_either5_6 : decode cX6_either5 6 = .ok (.bipush 111, 2) := by decide +kernel
theorem dX6_either5_8 : decode cX6_either5 8 = .ok (.bipush 114, 2) := by decide +kernel
theorem dX6_either5_10 : decode cX6_either5 10 = .ok (.iconst 0, 1) := by decide +kernel
theorem dX6_either5_11 : decode cX6_either5 11 = .ok (.iconst 0, 1) := by decide +kernel
theorem dX6_either5_12 : decode cX6_either5 12 = .ok (.iconst 0, 1) := by decide +kernel
theorem dX6_either5_13 : decode cX6_either5 13 = .ok (.iconst 0, 1) := by decide +kernel
theorem dX6_either5_14 : decode cX6_either5 14 = .ok (.iconst 0, 1) := by decide +kernel
theorem dX6_either5_15 : decode cX6_either5 15 = .ok (.iconst 0, 1) := by decide +kernel
theorem dX6_either5_16 : decode cX6_either5 16 = .ok (.invokevirtual 176, 3) := by decide +kernel
theorem dX6_either5_19 : decode cX6_either5 19 = .ok (.ifCond .eq 29, 3) := by decide +kernel
theorem dX6_either5_22 : decode cX6_either5 22 = .ok (.aload_n 0, 1) := by decide +kernel
theorem dX6_either5_23 : decode cX6_either5 23 = .ok (.invokevirtual 173, 3) := by decide +kernel
theorem dX6_either5_26 : decode cX6_either5 26 = .ok (.aload_n 0, 1) := by decide +kernel
theorem dX6_either5_27 : decode cX6_either5 27 = .ok (.invokevirtual 225, 3) := by decide +kernel
theorem dX6_either5_30 : decode cX6_either5 30 = .ok (.istore_n 2, 1) := by decide +kernel
theorem dX6_either5_31 : decode cX6_either5 31 = .ok (.iload_n 1, 1) := by decide +kernel
theorem dX6_either5_32 : decode cX6_either5 32 = .ok (.ifCond .ne 7, 3) := by decide +kernel
theorem dX6_either5_35 : decode cX6_either5 35 = .ok (.iload_n 2, 1) := by decide +kernel
theorem dX6_either5_36 : decode cX6_either5 36 = .ok (.ifCond .eq 7, 3) := by decide +kernel
theorem dX6_either5_39 : decode cX6_either5 39 = .ok (.iconst 1, 1) := by decide +kernel
theorem dX6_either5_40 : decode cX6_either5 40 = .ok (.goto 4, 3) := by decide +kernel
theorem dX6_either5_43 : decode cX6_either5 43 = .ok (.iconst 0, 1) := by decide +kernel
theorem dX6_either5_44 : decode cX6_either5 44 = .ok (.istore_n 1, 1) := by decide +kernel
theorem dX6_either5_45 : decode cX6_either5 45 = .ok (.goto (-40), 3) := by decide +kernel
theorem dX6_either5_48 : decode cX6_either5 48 = .ok (.iload_n 1, 1) := by decide +kernel
theorem dX6_either5_49 : decode cX6_either5 49 = .ok (.ireturn, 1) := by decide +kernel
theorem dX6_atom4_0 : decode cX6_atom4 0 = .ok (.iconst 0, 1) := by decide +kernel
theorem dX6_atom4_1 : decode cX6_atom4 1 = .ok (.istore_n 1, 1) := by decide +kernel
theorem dX6_atom4_2 : decode cX6_atom4 2 = .ok (.aload_n 0, 1) := by decide +kernel
theorem dX6_atom4_3 : decode cX6_atom4 3 = .ok (.bipush 45, 2) := by decide +kernel
theorem dX6_atom4_5 : decode cX6_atom4 5 = .ok (.invokevirtual 198, 3) := by decide +kernel
theorem dX6_atom4_8 : decode cX6_atom4 8 = .ok (.ifCond .eq 29, 3) := by decide +kernel
theorem dX6_atom4_11 : decode cX6_atom4 11 = .ok (.aload_n 0, 1) := by decide +kernel
theorem dX6_atom4_12 : decode cX6_atom4 12 = .ok (.invokevirtual 201, 3) := by decide +kernel
theorem dX6_atom4_15 : decode cX6_atom4 15 = .ok (.ifCond .eq 146, 3) := by decide +kernel
theorem dX6_atom4_18 : decode cX6_atom4 18 = .ok (.aload_n 0, 1) := by decide +kernel
theorem dX6_atom4_19 : decode cX6_atom4 19 = .ok (.invokevirtual 209, 3) := by decide +kernel
theorem dX6_atom4_22 : decode cX6_atom4 22 = .ok (.ineg, 1) := by decide +kernel
theorem dX6_atom4_23 : decode cX6_atom4 23 = .ok (.istore_n 1, 1) := by decide +kernel
theorem dX6_atom4_24 : decode cX6_atom4 24 = .ok (.aload_n 0, 1) := by decide +kernel
theorem dX6_atom4_25 : decode cX6_atom4 25 = .ok (.dup, 1) := by decide +kernel
theorem dX6_atom4_26 : decode cX6_atom4 26 = .ok (.getfield 167, 3) := by decide +kernel
theorem dX6_atom4_29 : decode cX6_atom4 29 = .ok (.iconst 1, 1) := by decide +kernel
theorem dX6_atom4_30 : decode cX6_atom4 30 = .ok (.isub, 1) := by decide +kernel
theorem dX6_atom4_31 : decode cX6_atom4 31 = .ok (.putfield 167, 3) := by decide +kernel
theorem dX6_atom4_34 : decode cX6_atom4 34 = .ok (.goto 127, 3) := by decide +kernel
theorem dX6_atom4_37 : decode cX6_atom4 37 = .ok (.aload_n 0, 1) := by decide +kernel
theorem dX6_atom4_38 : decode cX6_atom4 38 = .ok (.bipush 40, 2) := by decide +kernel
theorem dX6_atom4_40 : decode cX6_atom4 40 = .ok (.invokevirtual 198, 3) := by decide +kernel
theorem dX6_atom4_43 : decode cX6_atom4 43 = .ok (.ifCond .eq 52, 3) := by decide +kernel
theorem dX6_atom4_46 : decode cX6_atom4 46 = .ok (.aload_n 0, 1) := by decide +kernel
theorem dX6_atom4_47 : decode cX6_atom4 47 = .ok (.invokevirtual 201, 3) := by decide +kernel
theorem dX6_atom4_50 : decode cX6_atom4 50 = .ok (.ifCond .eq 111, 3) := by decide +kernel
theorem dX6_atom4_53 : decode cX6_atom4 53 = .ok (.aload_n 0, 1) := by decide +kernel
theorem dX6_atom4_54 : decode cX6_atom4 54 = .ok (.invokevirtual 228, 3) := by decide +kernel
theorem dX6_atom4_57 : decode cX6_atom4 57 = .ok (.istore_n 1, 1) := by decide +kernel
theorem dX6_atom4_58 : decode cX6_atom4 58 = .ok (.aload_n 0, 1) := by decide +kernel
theorem dX6_atom4_59 : decode cX6_atom4 59 = .ok (.bipush 41, 2) := by decide +kernel
theorem dX6_atom4_61 : decode cX6_atom4 61 = .ok (.invokevirtual 198, 3) := by decide +kernel
theorem dX6_atom4_64 : decode cX6_atom4 64 = .ok (.ifCond .ne 7, 3) := by decide +kernel
theorem dX6_atom4_67 : decode cX6_atom4 67 = .ok (.aload_n 0, 1) := by decide +kernel
theorem dX6_atom4_68 : decode cX6_atom4 68 = .ok (.invokevirtual 170, 3) := by decide +kernel
theorem dX6_atom4_71 : decode cX6_atom4 71 = .ok (.aload_n 0, 1) := by decide +kernel
theorem dX6_atom4_72 : decode cX6_atom4 72 = .ok (.dup, 1) := by decide +kernel
theorem dX6_atom4_73 : decode cX6_atom4 73 = .ok (.getfield 167, 3) := by decide +kernel
theorem dX6_atom4_76 : decode cX6_atom4 76 = .ok (.iconst 1, 1) := by decide +kernel
theorem dX6_atom4_77 : decode cX6_atom4 77 = .ok (.isub, 1) := by decide +kernel
theorem dX6_atom4_78 : decode cX6_atom4 78 = .ok (.putfield 167, 3) := by decide +kernel
theorem dX6_atom4_81 : decode cX6_atom4 81 = .ok (.aload_n 0, 1) := by decide +kernel
theorem dX6_atom4_82 : decode cX6_atom4 82 = .ok (.getfield 156, 3) := by decide +kernel
theorem dX6_atom4_85 : decode cX6_atom4 85 = .ok (.ifCond .ne 76, 3) := by decide +kernel
theorem dX6_atom4_88 : decode cX6_atom4 88 = .ok (.aload_n 0, 1) := by decide +kernel
theorem dX6_atom4_89 : decode cX6_atom4 89 = .ok (.invokevirtual 173, 3) := by decide +kernel
theorem dX6_atom4_92 : decode cX6_atom4 92 = .ok (.goto 69, 3) := by decide +kernel
theorem dX6_atom4_95 : decode cX6_atom4 95 = .ok (.aload_n 0, 1) := by decide +kernel
theorem dX6_atom4_96 : decode cX6_atom4 96 = .ok (.getfield 156, 3) := by decide +kernel
theorem dX6_atom4_99 : decode cX6_atom4 99 = .ok (.ifCond .ne 24, 3) := by decide +kernel
theorem dX6_atom4_102 : decode cX6_atom4 102 = .ok (.aload_n 0, 1) := by decide +kernel
theorem dX6_atom4_103 : decode cX6_atom4 103 = .ok (.getfield 139, 3) := by decide +kernel
theorem dX6_atom4_106 : decode cX6_atom4 106 = .ok (.iconst 2, 1) := by decide +kernel
theorem dX6_atom4_107 : decode cX6_atom4 107 = .ok (.if_icmp .ne 16, 3) := by decide +kernel
theorem dX6_atom4_110 : decode cX6_atom4 110 = .ok (.aload_n 0, 1) := by decide +kernel
theorem dX6_atom4_111 : decode cX6_atom4 111 = .ok (.getfield 150, 3) := by decide +kernel
theorem dX6_atom4_114 : decode cX6_atom4 114 = .ok (.l2i, 1) := by decide +kernel
theorem dX6_atom4_115 : decode cX6_atom4 115 = .ok (.istore_n 1, 1) := by decide +kernel
theorem dX6_atom4_116 : decode cX6_atom4 116 = .ok (.aload_n 0, 1) := by decide +kernel
theorem dX6_atom4_117 : decode cX6_atom4 117 = .ok (.invokevirtual 173, 3) := by decide +kernel
theorem dX6_atom4_120 : decode cX6_atom4 120 = .ok (.goto 41, 3) := by decide +kernel
theorem dX6_atom4_123 : decode cX6_atom4 123 = .ok (.aload_n 0, 1) := by decide +kernel
theorem dX6_atom4_124 : decode cX6_atom4 124 = .ok (.getfield 156, 3) := by decide +kernel
theorem dX6_atom4_127 : decode cX6_atom4 127 = .ok (.ifCond .ne 30, 3) := by decide +kernel
theorem dX6_atom4_130 : decode cX6_atom4 130 = .ok (.aload_n 0, 1) := by decide +kernel
theorem dX6_atom4_131 : decode cX6_atom4 131 = .ok (.getfield 139, 3) := by decide +kernel
theorem dX6_atom4_134 : decode cX6_atom4 134 = .ok (.iconst 1, 1) := by decide +kernel
theorem dX6_atom4_135 : decode cX6_atom4 135 = .ok (.if_icmp .ne 22, 3) := by decide +kernel
theorem dX6_atom4_138 : decode cX6_atom4 138 = .ok (.aload_n 0, 1) := by decide +kernel
theorem dX6_atom4_139 : decode cX6_atom4 139 = .ok (.invokevirtual 205, 3) := by decide +kernel
theorem dX6_atom4_142 : decode cX6_atom4 142 = .ok (.istore_n 1, 1) := by decide +kernel
theorem dX6_atom4_143 : decode cX6_atom4 143 = .ok (.aload_n 0, 1) := by decide +kernel
theorem dX6_atom4_144 : decode cX6_atom4 144 = .ok (.getfield 156, 3) := by decide +kernel
theorem dX6_atom4_147 : decode cX6_atom4 147 = .ok (.ifCond .ne 14, 3) := by decide +kernel
theorem dX6_atom4_150 : decode cX6_atom4 150 = .ok (.aload_n 0, 1) := by decide +kernel
theorem dX6_atom4_151 : decode cX6_atom4 151 = .ok (.invokevirtual 173, 3) := by decide +kernel
theorem dX6_atom4_154 : decode cX6_atom4 154 = .ok (.goto 7, 3) := by decide +kernel
theorem dX6_atom4_157 : decode cX6_atom4 157 = .ok (.aload_n 0, 1) := by decide +kernel
theorem dX6_atom4_158 : decode cX6_atom4 158 = .ok (.invokevirtual 170, 3) := by decide +kernel
theorem dX6_atom4_161 : decode cX6_atom4 161 = .ok (.iload_n 1, 1) := by decide +kernel
theorem dX6_atom4_162 : decode cX6_atom4 162 = .ok (.ireturn, 1) := by decide +kernel
theorem dX6_term4_0 : decode cX6_term4 0 = .ok (.aload_n 0, 1) := by decide +kernel
theorem dX6_term4_1 : decode cX6_term4 1 = .ok (.invokevirtual 231, 3) := by decide +kernel
theorem dX6_term4_4 : decode cX6_term4 4 = .ok (.istore_n 1, 1) := by decide +kernel
theorem dX6_term4_5 : decode cX6_term4 5 = .ok (.aload_n 0, 1) := by decide +kernel
theorem dX6_term4_6 : decode cX6_term4 6 = .ok (.bipush 42, 2) := by decide +kernel
theorem dX6_term4_8 : decode cX6_term4 8 = .ok (.invokevirtual 198, 3) := by decide +kernel
theorem dX6_term4_11 : decode cX6_term4 11 = .ok (.ifCond .eq 17, 3) := by decide +kernel
theorem dX6_term4_14 : decode cX6_term4 14 = .ok (.aload_n 0, 1) := by decide +kernel
theorem dX6_term4_15 : decode cX6_term4 15 = .ok (.invokevirtual 173, 3) := by decide +kernel
theorem dX6_term4_18 : decode cX6_term4 18 = .ok (.iload_n 1, 1) := by decide +kernel
theorem dX6_term4_19 : decode cX6_term4 19 = .ok (.aload_n 0, 1) := by decide +kernel
theorem dX6_term4_20 : decode cX6_term4 20 = .ok (.invokevirtual 231, 3) := by decide +kernel
theorem dX6_term4_23 : decode cX6_term4 23 = .ok (.imul, 1) := by decide +kernel
theorem dX6_term4_24 : decode cX6_term4 24 = .ok (.istore_n 1, 1) := by decide +kernel
theorem dX6_term4_25 : decode cX6_term4 25 = .ok (.goto (-20), 3) := by decide +kernel
theorem dX6_term4_28 : decode cX6_term4 28 = .ok (.iload_n 1, 1) := by decide +kernel
theorem dX6_term4_29 : decode cX6_term4 29 = .ok (.ireturn, 1) := by decide +kernel
theorem dX6_added4_0 : decode cX6_added4 0 = .ok (.aload_n 0, 1) := by decide +kernel
theorem dX6_added4_1 : decode cX6_added4 1 = .ok (.invokevirtual 234, 3) := by decide +kernel
theorem dX6_added4_4 : decode cX6_added4 4 = .ok (.istore_n 1, 1) := by decide +kernel
theorem dX6_added4_5 : decode cX6_added4 5 = .ok (.aload_n 0, 1) := by decide +kernel
theorem dX6_added4_6 : decode cX6_added4 6 = .ok (.bipush 43, 2) := by decide +kernel
theorem dX6_added4_8 : decode cX6_added4 8 = .ok (.invokevirtual 198, 3) := by decide +kernel
theorem dX6_added4_11 : decode cX6_added4 11 = .ok (.ifCond .ne 12, 3) := by decide +kernel
theorem dX6_added4_14 : decode cX6_added4 14 = .ok (.aload_n 0, 1) := by decide +kernel
theorem dX6_added4_15 : decode cX6_added4 15 = .ok (.bipush 45, 2) := by decide +kernel
theorem dX6_added4_17 : decode cX6_added4 17 = .ok (.invokevirtual 198, 3) := by decide +kernel
theorem dX6_added4_20 : decode cX6_added4 20 = .ok (.ifCond .eq 46, 3) := by decide +kernel
theorem dX6_added4_23 : decode cX6_added4 23 = .ok (.aload_n 0, 1) := by decide +kernel
theorem dX6_added4_24 : decode cX6_added4 24 = .ok (.getfield 150, 3) := by decide +kernel
theorem dX6_added4_27 : decode cX6_added4 27 = .ok (.ldc2_w 215, 3) := by decide +kernel
theorem dX6_added4_30 : decode cX6_added4 30 = .ok (.lcmp, 1) := by decide +kernel
theorem dX6_added4_31 : decode cX6_added4 31 = .ok (.ifCond .ne 7, 3) := by decide +kernel
theorem dX6_added4_34 : decode cX6_added4 34 = .ok (.iconst 1, 1) := by decide +kernel
theorem dX6_added4_35 : decode cX6_added4 35 = .ok (.goto 4, 3) := by decide +kernel
theorem dX6_added4_38 : decode cX6_added4 38 = .ok (.iconst 0, 1) := by decide +kernel
theorem dX6_added4_39 : decode cX6_added4 39 = .ok (.istore_n 2, 1) := by decide +kernel
theorem dX6_added4_40 : decode cX6_added4 40 = .ok (.aload_n 0, 1) := by decide +kernel
theorem dX6_added4_41 : decode cX6_added4 41 = .ok (.invokevirtual 173, 3) := by decide +kernel
theorem dX6_added4_44 : decode cX6_added4 44 = .ok (.aload_n 0, 1) := by decide +kernel
theorem dX6_added4_45 : decode cX6_added4 45 = .ok (.invokevirtual 234, 3) := by decide +kernel
theorem dX6_added4_48 : decode cX6_added4 48 = .ok (.istore_n 3, 1) := by decide +kernel
theorem dX6_added4_49 : decode cX6_added4 49 = .ok (.iload_n 2, 1) := by decide +kernel
theorem dX6_added4_50 : decode cX6_added4 50 = .ok (.ifCond .eq 9, 3) := by decide +kernel
theorem dX6_added4_53 : decode cX6_added4 53 = .ok (.iload_n 1, 1) := by decide +kernel
theorem dX6_added4_54 : decode cX6_added4 54 = .ok (.iload_n 3, 1) := by decide +kernel
theorem dX6_added4_55 : decode cX6_added4 55 = .ok (.iadd, 1) := by decide +kernel
theorem dX6_added4_56 : decode cX6_added4 56 = .ok (.goto 6, 3) := by decide +kernel
theorem dX6_added4_59 : decode cX6_added4 59 = .ok (.iload_n 1, 1) := by decide +kernel
theorem dX6_added4_60 : decode cX6_added4 60 = .ok (.iload_n 3, 1) := by decide +kernel
theorem dX6_added4_61 : decode cX6_added4 61 = .ok (.isub, 1) := by decide +kernel
theorem dX6_added4_62 : decode cX6_added4 62 = .ok (.istore_n 1, 1) := by decide +kernel
theorem dX6_added4_63 : decode cX6_added4 63 = .ok (.goto (-58), 3) := by decide +kernel
theorem dX6_added4_66 : decode cX6_added4 66 = .ok (.iload_n 1, 1) := by decide +kernel
theorem dX6_added4_67 : decode cX6_added4 67 = .ok (.ireturn, 1) := by decide +kernel
theorem dX6_not4_0 : decode cX6_not4 0 = .ok (.aload_n 0, 1) := by decide +kernel
theorem dX6_not4_1 : decode cX6_not4 1 = .ok (.bipush 110, 2) := by decide +kernel
theorem dX6_not4_3 : decode cX6_not4 3 = .ok (.bipush 111, 2) := by decide +kernel
theorem dX6_not4_5 : decode cX6_not4 5 = .ok (.bipush 116, 2) := by decide +kernel
theorem dX6_not4_7 : decode cX6_not4 7 = .ok (.iconst 0, 1) := by decide +kernel
theorem dX6_not4_8 : decode cX6_not4 8 = .ok (.iconst 0, 1) := by decide +kernel
theorem dX6_not4_9 : decode cX6_not4 9 = .ok (.iconst 0, 1) := by decide +kernel
theorem dX6_not4_10 : decode cX6_not4 10 = .ok (.iconst 0, 1) := by decide +kernel
theorem dX6_not4_11 : decode cX6_not4 11 = .ok (.iconst 0, 1) := by decide +kernel
theorem dX6_not4_12 : decode cX6_not4 12 = .ok (.invokevirtual 176, 3) := by decide +kernel
theorem dX6_not4_15 : decode cX6_not4 15 = .ok (.ifCond .eq 37, 3) := by decide +kernel
theorem dX6_not4_18 : decode cX6_not4 18 = .ok (.aload_n 0, 1) := by decide +kernel
theorem dX6_not4_19 : decode cX6_not4 19 = .ok (.invokevirtual 201, 3) := by decide +kernel
theorem dX6_not4_22 : decode cX6_not4 22 = .ok (.ifCond .ne 5, 3) := by decide +kernel
theorem dX6_not4_25 : decode cX6_not4 25 = .ok (.iconst 0, 1) := by decide +kernel
theorem dX6_not4_26 : decode cX6_not4 26 = .ok (.ireturn, 1) := by decide +kernel
theorem dX6_not4_27 : decode cX6_not4 27 = .ok (.aload_n 0, 1) := by decide +kernel
theorem dX6_not4_28 : decode cX6_not4 28 = .ok (.invokevirtual 222, 3) := by decide +kernel
theorem dX6_not4_31 : decode cX6_not4 31 = .ok (.istore_n 1, 1) := by decide +kernel
theorem dX6_not4_32 : decode cX6_not4 32 = .ok (.aload_n 0, 1) := by decide +kernel
theorem dX6_not4_33 : decode cX6_not4 33 = .ok (.dup, 1) := by decide +kernel
theorem dX6_not4_34 : decode cX6_not4 34 = .ok (.getfield 167, 3) := by decide +kernel
theorem dX6_not4_37 : decode cX6_not4 37 = .ok (.iconst 1, 1) := by decide +kernel
theorem dX6_not4_38 : decode cX6_not4 38 = .ok (.isub, 1) := by decide +kernel
theorem dX6_not4_39 : decode cX6_not4 39 = .ok (.putfield 167, 3) := by decide +kernel
theorem dX6_not4_42 : decode cX6_not4 42 = .ok (.iload_n 1, 1) := by decide +kernel
theorem dX6_not4_43 : decode cX6_not4 43 = .ok (.ifCond .ne 7, 3) := by decide +kernel
theorem dX6_not4_46 : decode cX6_not4 46 = .ok (.iconst 1, 1) := by decide +kernel
theorem dX6_not4_47 : decode cX6_not4 47 = .ok (.goto 4, 3) := by decide +kernel
theorem dX6_not4_50 : decode cX6_not4 50 = .ok (.iconst 0, 1) := by decide +kernel
theorem dX6_not4_51 : decode cX6_not4 51 = .ok (.ireturn, 1) := by decide +kernel
theorem dX6_not4_52 : decode cX6_not4 52 = .ok (.aload_n 0, 1) := by decide +kernel
theorem dX6_not4_53 : decode cX6_not4 53 = .ok (.invokevirtual 237, 3) := by decide +kernel
theorem dX6_not4_56 : decode cX6_not4 56 = .ok (.istore_n 1, 1) := by decide +kernel
theorem dX6_not4_57 : decode cX6_not4 57 = .ok (.aload_n 0, 1) := by decide +kernel
theorem dX6_not4_58 : decode cX6_not4 58 = .ok (.bipush 60, 2) := by decide +kernel
theorem dX6_not4_60 : decode cX6_not4 60 = .ok (.invokevirtual 198, 3) := by decide +kernel
theorem dX6_not4_63 : decode cX6_not4 63 = .ok (.ifCond .ne 14, 3) := by decide +kernel
theorem dX6_not4_66 : decode cX6_not4 66 = .ok (.aload_n 0, 1) := by decide +kernel
theorem dX6_not4_67 : decode cX6_not4 67 = .ok (.bipush 61, 2) := by decide +kernel
theorem dX6_not4_69 : decode cX6_not4 69 = .ok (.invokevirtual 198, 3) := by decide +kernel
theorem dX6_not4_72 : decode cX6_not4 72 = .ok (.ifCond .ne 5, 3) := by decide +kernel
theorem dX6_not4_75 : decode cX6_not4 75 = .ok (.iload_n 1, 1) := by decide +kernel
theorem dX6_not4_76 : decode cX6_not4 76 = .ok (.ireturn, 1) := by decide +kernel
theorem dX6_not4_77 : decode cX6_not4 77 = .ok (.aload_n 0, 1) := by decide +kernel
theorem dX6_not4_78 : decode cX6_not4 78 = .ok (.getfield 150, 3) := by decide +kernel
theorem dX6_not4_81 : decode cX6_not4 81 = .ok (.ldc2_w 220, 3) := by decide +kernel
theorem dX6_not4_84 : decode cX6_not4 84 = .ok (.lcmp, 1) := by decide +kernel
theorem dX6_not4_85 : decode cX6_not4 85 = .ok (.ifCond .ne 7, 3) := by decide +kernel
theorem dX6_not4_88 : decode cX6_not4 88 = .ok (.iconst 1, 1) := by decide +kernel
theorem dX6_not4_89 : decode cX6_not4 89 = .ok (.goto 4, 3) := by decide +kernel
theorem dX6_not4_92 : decode cX6_not4 92 = .ok (.iconst 0, 1) := by decide +kernel
theorem dX6_not4_93 : decode cX6_not4 93 = .ok (.istore_n 2, 1) := by decide +kernel
theorem dX6_not4_94 : decode cX6_not4 94 = .ok (.aload_n 0, 1) := by decide +kernel
theorem dX6_not4_95 : decode cX6_not4 95 = .ok (.invokevirtual 173, 3) := by decide +kernel
theorem dX6_not4_98 : decode cX6_not4 98 = .ok (.aload_n 0, 1) := by decide +kernel
theorem dX6_not4_99 : decode cX6_not4 99 = .ok (.invokevirtual 237, 3) := by decide +kernel
theorem dX6_not4_102 : decode cX6_not4 102 = .ok (.istore_n 3, 1) := by decide +kernel
theorem dX6_not4_103 : decode cX6_not4 103 = .ok (.iload_n 2, 1) := by decide +kernel
theorem dX6_not4_104 : decode cX6_not4 104 = .ok (.ifCond .eq 11, 3) := by decide +kernel
theorem dX6_not4_107 : decode cX6_not4 107 = .ok (.iload_n 1, 1) := by decide +kernel
theorem dX6_not4_108 : decode cX6_not4 108 = .ok (.iload_n 3, 1) := by decide +kernel
theorem dX6_not4_109 : decode cX6_not4 109 = .ok (.if_icmp .ge 15, 3) := by decide +kernel
theorem dX6_not4_112 : decode cX6_not4 112 = .ok (.goto 8, 3) := by decide +kernel
theorem dX6_not4_115 : decode cX6_not4 115 = .ok (.iload_n 1, 1) := by decide +kernel
theorem dX6_not4_116 : decode cX6_not4 116 = .ok (.iload_n 3, 1) := by decide +kernel
theorem dX6_not4_117 : decode cX6_not4 117 = .ok (.if_icmp .ne 7, 3) := by decide +kernel
theorem dX6_not4_120 : decode cX6_not4 120 = .ok (.iconst 1, 1) := by decide +kernel
theorem dX6_not4_121 : decode cX6_not4 121 = .ok (.goto 4, 3) := by decide +kernel
theorem dX6_not4_124 : decode cX6_not4 124 = .ok (.iconst 0, 1) := by decide +kernel
theorem dX6_not4_125 : decode cX6_not4 125 = .ok (.ireturn, 1) := by decide +kernel
theorem dX6_both4_0 : decode cX6_both4 0 = .ok (.aload_n 0, 1) := by decide +kernel
theorem dX6_both4_1 : decode cX6_both4 1 = .ok (.invokevirtual 240, 3) := by decide +kernel
theorem dX6_both4_4 : decode cX6_both4 4 = .ok (.istore_n 1, 1) := by decide +kernel
theorem dX6_both4_5 : decode cX6_both4 5 = .ok (.aload_n 0, 1) := by decide +kernel
theorem dX6_both4_6 : decode cX6_both4 6 = .ok (.bipush 97, 2) := by decide +kernel
theorem dX6_both4_8 : decode cX6_both4 8 = .ok (.bipush 110, 2) := by decide +kernel
theorem dX6_both4_10 : decode cX6_both4 10 = .ok (.bipush 100, 2) := by decide +kernel
theorem dX6_both4_12 : decode cX6_both4 12 = .ok (.iconst 0, 1) := by decide +kernel
theorem dX6_both4_13 : decode cX6_both4 13 = .ok (.iconst 0, 1) := by decide +kernel
theorem dX6_both4_14 : decode cX6_both4 14 = .ok (.iconst 0, 1) := by decide +kernel
theorem dX6_both4_15 : decode cX6_both4 15 = .ok (.iconst 0, 1) := by decide +kernel
theorem dX6_both4_16 : decode cX6_both4 16 = .ok (.iconst 0, 1) := by decide +kernel
theorem dX6_both4_17 : decode cX6_both4 17 = .ok (.invokevirtual 176, 3) := by decide +kernel
theorem dX6_both4_20 : decode cX6_both4 20 = .ok (.ifCond .eq 29, 3) := by decide +kernel
theorem dX6_both4_23 : decode cX6_both4 23 = .ok (.aload_n 0, 1) := by decide +kernel
theorem dX6_both4_24 : decode cX6_both4 24 = .ok (.invokevirtual 173, 3) := by decide +kernel
theorem dX6_both4_27 : decode cX6_both4 27 = .ok (.aload_n 0, 1) := by decide +kernel
theorem dX6_both4_28 : decode cX6_both4 28 = .ok (.invokevirtual 240, 3) := by decide +kernel
theorem dX6_both4_31 : decode cX6_both4 31 = .ok (.istore_n 2, 1) := by decide +kernel
theorem dX6_both4_32 : decode cX6_both4 32 = .ok (.iload_n 1, 1) := by decide +kernel
theorem dX6_both4_33 : decode cX6_both4 33 = .ok (.ifCond .eq 11, 3) := by decide +kernel
theorem dX6_both4_36 : decode cX6_both4 36 = .ok (.iload_n 2, 1) := by decide +kernel
theorem dX6_both4_37 : decode cX6_both4 37 = .ok (.ifCond .eq 7, 3) := by decide +kernel
theorem dX6_both4_40 : decode cX6_both4 40 = .ok (.iconst 1, 1) := by decide +kernel
theorem dX6_both4_41 : decode cX6_both4 41 = .ok (.goto 4, 3) := by decide +kernel
theorem dX6_both4_44 : decode cX6_both4 44 = .ok (.iconst 0, 1) := by decide +kernel
theorem dX6_both4_45 : decode cX6_both4 45 = .ok (.istore_n 1, 1) := by decide +kernel
theorem dX6_both4_46 : decode cX6_both4 46 = .ok (.goto (-41), 3) := by decide +kernel
theorem dX6_both4_49 : decode cX6_both4 49 = .ok (.iload_n 1, 1) := by decide +kernel
theorem dX6_both4_50 : decode cX6_both4 50 = .ok (.ireturn, 1) := by decide +kernel
theorem dX6_either4_0 : decode cX6_either4 0 = .ok (.aload_n 0, 1) := by decide +kernel
theorem dX6_either4_1 : decode cX6_either4 1 = .ok (.invokevirtual 243, 3) := by decide +kernel
theorem dX6_either4_4 : decode cX6_either4 4 = .ok (.istore_n 1, 1) := by decide +kernel
theorem dX6_either4_5 : decode cX6_either4 5 = .ok (.aload_n 0, 1) := by decide +kernel
theorem dX6_either4_6 : decode cX6_either4 6 = .ok (.bipush 111, 2) := by decide +kernel
theorem dX6_either4_8 : decode cX6_either4 8 = .ok (.bipush 114, 2) := by decide +kernel
theorem dX6_either4_10 : decode cX6_either4 10 = .ok (.iconst 0, 1) := by decide +kernel
theorem dX6_either4_11 : decode cX6_either4 11 = .ok (.iconst 0, 1) := by decide +kernel
theorem dX6_either4_12 : decode cX6_either4 12 = .ok (.iconst 0, 1) := by decide +kernel
theorem dX6_either4_13 : decode cX6_either4 13 = .ok (.iconst 0, 1) := by decide +kernel
theorem dX6_either4_14 : decode cX6_either4 14 = .ok (.iconst 0, 1) := by decide +kernel
theorem dX6_either4_15 : decode cX6_either4 15 = .ok (.iconst 0, 1) := by decide +kernel
theorem dX6_either4_16 : decode cX6_either4 16 = .ok (.invokevirtual 176, 3) := by decide +kernel
theorem dX6_either4_19 : decode cX6_either4 19 = .ok (.ifCond .eq 29, 3) := by decide +kernel
theorem dX6_either4_22 : decode cX6_either4 22 = .ok (.aload_n 0, 1) := by decide +kernel
theorem dX6_either4_23 : decode cX6_either4 23 = .ok (.invokevirtual 173, 3) := by decide +kernel
theorem dX6_either4_26 : decode cX6_either4 26 = .ok (.aload_n 0, 1) := by decide +kernel
theorem dX6_either4_27 : decode cX6_either4 27 = .ok (.invokevirtual 243, 3) := by decide +kernel
theorem dX6_either4_30 : decode cX6_either4 30 = .ok (.istore_n 2, 1) := by decide +kernel
theorem dX6_either4_31 : decode cX6_either4 31 = .ok (.iload_n 1, 1) := by decide +kernel
theorem dX6_either4_32 : decode cX6_either4 32 = .ok (.ifCond .ne 7, 3) := by decide +kernel
theorem dX6_either4_35 : decode cX6_either4 35 = .ok (.iload_n 2, 1) := by decide +kernel
theorem dX6_either4_36 : decode cX6_either4 36 = .ok (.ifCond .eq 7, 3) := by decide +kernel
theorem dX6_either4_39 : decode cX6_either4 39 = .ok (.iconst 1, 1) := by decide +kernel
theorem dX6_either4_40 : decode cX6_either4 40 = .ok (.goto 4, 3) := by decide +kernel
theorem dX6_either4_43 : decode cX6_either4 43 = .ok (.iconst 0, 1) := by decide +kernel
theorem dX6_either4_44 : decode cX6_either4 44 = .ok (.istore_n 1, 1) := by decide +kernel
theorem dX6_either4_45 : decode cX6_either4 45 = .ok (.goto (-40), 3) := by decide +kernel
theorem dX6_either4_48 : decode cX6_either4 48 = .ok (.iload_n 1, 1) := by decide +kernel
theorem dX6_either4_49 : decode cX6_either4 49 = .ok (.ireturn, 1) := by decide +kernel
theorem dX6_atom3_0 : decode cX6_atom3 0 = .ok (.iconst 0, 1) := by decide +kernel
theorem dX6_atom3_1 : decode cX6_atom3 1 = .ok (.istore_n 1, 1) := by decide +kernel
theorem dX6_atom3_2 : decode cX6_atom3 2 = .ok (.aload_n 0, 1) := by decide +kernel
theorem dX6_atom3_3 : decode cX6_atom3 3 = .ok (.bipush 45, 2) := by decide +kernel
theorem dX6_atom3_5 : decode cX6_atom3 5 = .ok (.invokevirtual 198, 3) := by decide +kernel
theorem dX6_atom3_8 : decode cX6_atom3 8 = .ok (.ifCond .eq 29, 3) := by decide +kernel
theorem dX6_atom3_11 : decode cX6_atom3 11 = .ok (.aload_n 0, 1) := by decide +kernel
theorem dX6_atom3_12 : decode cX6_atom3 12 = .ok (.invokevirtual 201, 3) := by decide +kernel
theorem dX6_atom3_15 : decode cX6_atom3 15 = .ok (.ifCond .eq 146, 3) := by decide +kernel
theorem dX6_atom3_18 : decode cX6_atom3 18 = .ok (.aload_n 0, 1) := by decide +kernel
theorem dX6_atom3_19 : decode cX6_atom3 19 = .ok (.invokevirtual 231, 3) := by decide +kernel
theorem dX6_atom3_22 : decode cX6_atom3 22 = .ok (.ineg, 1) := by decide +kernel
theorem dX6_atom3_23 : decode cX6_atom3 23 = .ok (.istore_n 1, 1) := by decide +kernel
theorem dX6_atom3_24 : decode cX6_atom3 24 = .ok (.aload_n 0, 1) := by decide +kernel
theorem dX6_atom3_25 : decode cX6_atom3 25 = .ok (.dup, 1) := by decide +kernel
theorem dX6_atom3_26 : decode cX6_atom3 26 = .ok (.getfield 167, 3) := by decide +kernel
theorem dX6_atom3_29 : decode cX6_atom3 29 = .ok (.iconst 1, 1) := by decide +kernel
theorem dX6_atom3_30 : decode cX6_atom3 30 = .ok (.isub, 1) := by decide +kernel
theorem dX6_atom3_31 : decode cX6_atom3 31 = .ok (.putfield 167, 3) := by decide +kernel
theorem dX6_atom3_34 : decode cX6_atom3 34 = .ok (.goto 127, 3) := by decide +kernel
theorem dX6_atom3_37 : decode cX6_atom3 37 = .ok (.aload_n 0, 1) := by decide +kernel
theorem dX6_atom3_38 : decode cX6_atom3 38 = .ok (.bipush 40, 2) := by decide +kernel
theorem dX6_atom3_40 : decode cX6_atom3 40 = .ok (.invokevirtual 198, 3) := by decide +kernel
theorem dX6_atom3_43 : decode cX6_atom3 43 = .ok (.ifCond .eq 52, 3) := by decide +kernel
theorem dX6_atom3_46 : decode cX6_atom3 46 = .ok (.aload_n 0, 1) := by decide +kernel
theorem dX6_atom3_47 : decode cX6_atom3 47 = .ok (.invokevirtual 201, 3) := by decide +kernel
theorem dX6_atom3_50 : decode cX6_atom3 50 = .ok (.ifCond .eq 111, 3) := by decide +kernel
theorem dX6_atom3_53 : decode cX6_atom3 53 = .ok (.aload_n 0, 1) := by decide +kernel
theorem dX6_atom3_54 : decode cX6_atom3 54 = .ok (.invokevirtual 246, 3) := by decide +kernel
theorem dX6_atom3_57 : decode cX6_atom3 57 = .ok (.istore_n 1, 1) := by decide +kernel
theorem dX6_atom3_58 : decode cX6_atom3 58 = .ok (.aload_n 0, 1) := by decide +kernel
theorem dX6_atom3_59 : decode cX6_atom3 59 = .ok (.bipush 41, 2) := by decide +kernel
theorem dX6_atom3_61 : decode cX6_atom3 61 = .ok (.invokevirtual 198, 3) := by decide +kernel
theorem dX6_atom3_64 : decode cX6_atom3 64 = .ok (.ifCond .ne 7, 3) := by decide +kernel
theorem dX6_atom3_67 : decode cX6_atom3 67 = .ok (.aload_n 0, 1) := by decide +kernel
theorem dX6_atom3_68 : decode cX6_atom3 68 = .ok (.invokevirtual 170, 3) := by decide +kernel
theorem dX6_atom3_71 : decode cX6_atom3 71 = .ok (.aload_n 0, 1) := by decide +kernel
theorem dX6_atom3_72 : decode cX6_atom3 72 = .ok (.dup, 1) := by decide +kernel
theorem dX6_atom3_73 : decode cX6_atom3 73 = .ok (.getfield 167, 3) := by decide +kernel
theorem dX6_atom3_76 : decode cX6_atom3 76 = .ok (.iconst 1, 1) := by decide +kernel
theorem dX6_atom3_77 : decode cX6_atom3 77 = .ok (.isub, 1) := by decide +kernel
theorem dX6_atom3_78 : decode cX6_atom3 78 = .ok (.putfield 167, 3) := by decide +kernel
theorem dX6_atom3_81 : decode cX6_atom3 81 = .ok (.aload_n 0, 1) := by decide +kernel
theorem dX6_atom3_82 : decode cX6_atom3 82 = .ok (.getfield 156, 3) := by decide +kernel
theorem dX6_atom3_85 : decode cX6_atom3 85 = .ok (.ifCond .ne 76, 3) := by decide +kernel
theorem dX6_atom3_88 : decode cX6_atom3 88 = .ok (.aload_n 0, 1) := by decide +kernel
theorem dX6_atom3_89 : decode cX6_atom3 89 = .ok (.invokevirtual 173, 3) := by decide +kernel
theorem dX6_atom3_92 : decode cX6_atom3 92 = .ok (.goto 69, 3) := by decide +kernel
theorem dX6_atom3_95 : decode cX6_atom3 95 = .ok (.aload_n 0, 1) := by decide +kernel
