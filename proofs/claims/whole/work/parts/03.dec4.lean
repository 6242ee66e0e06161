theorem dX6_bitsOf_1 : decode cX6_bitsOf 1 = .ok (.istore_n 1, 1) := by decide +kernel
theorem dX6_bitsOf_2 : decode cX6_bitsOf 2 = .ok (.iload_n 0, 1) := by decide +kernel
theorem dX6_bitsOf_3 : decode cX6_bitsOf 3 = .ok (.istore_n 2, 1) := by decide +kernel
theorem dX6_bitsOf_4 : decode cX6_bitsOf 4 = .ok (.iload_n 2, 1) := by decide +kernel
theorem dX6_bitsOf_5 : decode cX6_bitsOf 5 = .ok (.ifCond .eq 15, 3) := by decide +kernel
theorem dX6_bitsOf_8 : decode cX6_bitsOf 8 = .ok (.iinc 1 1, 3) := by decide +kernel
theorem dX6_bitsOf_11 : decode cX6_bitsOf 11 = .ok (.iload_n 2, 1) := by decide +kernel
theorem dX6_bitsOf_12 : decode cX6_bitsOf 12 = .ok (.iload_n 2, 1) := by decide +kernel
theorem dX6_bitsOf_13 : decode cX6_bitsOf 13 = .ok (.iconst 1, 1) := by decide +kernel
theorem dX6_bitsOf_14 : decode cX6_bitsOf 14 = .ok (.isub, 1) := by decide +kernel
theorem dX6_bitsOf_15 : decode cX6_bitsOf 15 = .ok (.iand, 1) := by decide +kernel
theorem dX6_bitsOf_16 : decode cX6_bitsOf 16 = .ok (.istore_n 2, 1) := by decide +kernel
theorem dX6_bitsOf_17 : decode cX6_bitsOf 17 = .ok (.goto (-13), 3) := by decide +kernel
theorem dX6_bitsOf_20 : decode cX6_bitsOf 20 = .ok (.iload_n 1, 1) := by decide +kernel
theorem dX6_bitsOf_21 : decode cX6_bitsOf 21 = .ok (.ireturn, 1) := by decide +kernel
theorem dX6_valuesOf_0 : decode cX6_valuesOf 0 = .ok (.iconst 0, 1) := by decide +kernel
theorem dX6_valuesOf_1 : decode cX6_valuesOf 1 = .ok (.istore_n 2, 1) := by decide +kernel
theorem dX6_valuesOf_2 : decode cX6_valuesOf 2 = .ok (.iconst 0, 1) := by decide +kernel
theorem dX6_valuesOf_3 : decode cX6_valuesOf 3 = .ok (.istore_n 3, 1) := by decide +kernel
theorem dX6_valuesOf_4 : decode cX6_valuesOf 4 = .ok (.iload_n 3, 1) := by decide +kernel
theorem dX6_valuesOf_5 : decode cX6_valuesOf 5 = .ok (.aload_n 0, 1) := by decide +kernel
theorem dX6_valuesOf_6 : decode cX6_valuesOf 6 = .ok (.getfield 64, 3) := by decide +kernel
theorem dX6_valuesOf_9 : decode cX6_valuesOf 9 = .ok (.if_icmp .ge 35, 3) := by decide +kernel
theorem dX6_valuesOf_12 : decode cX6_valuesOf 12 = .ok (.iload_n 2, 1) := by decide +kernel
theorem dX6_valuesOf_13 : decode cX6_valuesOf 13 = .ok (.iload_n 1, 1) := by decide +kernel
theorem dX6_valuesOf_14 : decode cX6_valuesOf 14 = .ok (.iload_n 3, 1) := by decide +kernel
theorem dX6_valuesOf_15 : decode cX6_valuesOf 15 = .ok (.ishr, 1) := by decide +kernel
theorem dX6_valuesOf_16 : decode cX6_valuesOf 16 = .ok (.iconst 1, 1) := by decide +kernel
theorem dX6_valuesOf_17 : decode cX6_valuesOf 17 = .ok (.iand, 1) := by decide +kernel
theorem dX6_valuesOf_18 : decode cX6_valuesOf 18 = .ok (.iconst 1, 1) := by decide +kernel
theorem dX6_valuesOf_19 : decode cX6_valuesOf 19 = .ok (.if_icmp .ne 16, 3) := by decide +kernel
theorem dX6_valuesOf_22 : decode cX6_valuesOf 22 = .ok (.aload_n 0, 1) := by decide +kernel
theorem dX6_valuesOf_23 : decode cX6_valuesOf 23 = .ok (.getfield 26, 3) := by decide +kernel
theorem dX6_valuesOf_26 : decode cX6_valuesOf 26 = .ok (.iconst 5, 1) := by decide +kernel
theorem dX6_valuesOf_27 : decode cX6_valuesOf 27 = .ok (.iload_n 3, 1) := by decide +kernel
theorem dX6_valuesOf_28 : decode cX6_valuesOf 28 = .ok (.imul, 1) := by decide +kernel
theorem dX6_valuesOf_29 : decode cX6_valuesOf 29 = .ok (.iconst 1, 1) := by decide +kernel
theorem dX6_valuesOf_30 : decode cX6_valuesOf 30 = .ok (.iadd, 1) := by decide +kernel
theorem dX6_valuesOf_31 : decode cX6_valuesOf 31 = .ok (.iaload, 1) := by decide +kernel
theorem dX6_valuesOf_32 : decode cX6_valuesOf 32 = .ok (.goto 4, 3) := by decide +kernel
theorem dX6_valuesOf_35 : decode cX6_valuesOf 35 = .ok (.iconst 0, 1) := by decide +kernel
theorem dX6_valuesOf_36 : decode cX6_valuesOf 36 = .ok (.iadd, 1) := by decide +kernel
theorem dX6_valuesOf_37 : decode cX6_valuesOf 37 = .ok (.istore_n 2, 1) := by decide +kernel
theorem dX6_valuesOf_38 : decode cX6_valuesOf 38 = .ok (.iinc 3 1, 3) := by decide +kernel
theorem dX6_valuesOf_41 : decode cX6_valuesOf 41 = .ok (.goto (-37), 3) := by decide +kernel
theorem dX6_valuesOf_44 : decode cX6_valuesOf 44 = .ok (.iload_n 2, 1) := by decide +kernel
theorem dX6_valuesOf_45 : decode cX6_valuesOf 45 = .ok (.ireturn, 1) := by decide +kernel
theorem dX6_passes_0 : decode cX6_passes 0 = .ok (.iconst 0, 1) := by decide +kernel
theorem dX6_passes_1 : decode cX6_passes 1 = .ok (.istore_n 1, 1) := by decide +kernel
theorem dX6_passes_2 : decode cX6_passes 2 = .ok (.iconst 0, 1) := by decide +kernel
theorem dX6_passes_3 : decode cX6_passes 3 = .ok (.istore_n 2, 1) := by decide +kernel
theorem dX6_passes_4 : decode cX6_passes 4 = .ok (.iload_n 2, 1) := by decide +kernel
theorem dX6_passes_5 : decode cX6_passes 5 = .ok (.aload_n 0, 1) := by decide +kernel
theorem dX6_passes_6 : decode cX6_passes 6 = .ok (.getfield 64, 3) := by decide +kernel
theorem dX6_passes_9 : decode cX6_passes 9 = .ok (.if_icmp .ge 27, 3) := by decide +kernel
theorem dX6_passes_12 : decode cX6_passes 12 = .ok (.iload_n 1, 1) := by decide +kernel
theorem dX6_passes_13 : decode cX6_passes 13 = .ok (.aload_n 0, 1) := by decide +kernel
theorem dX6_passes_14 : decode cX6_passes 14 = .ok (.iload_n 2, 1) := by decide +kernel
theorem dX6_passes_15 : decode cX6_passes 15 = .ok (.invokevirtual 113, 3) := by decide +kernel
theorem dX6_passes_18 : decode cX6_passes 18 = .ok (.ifCond .eq 9, 3) := by decide +kernel
theorem dX6_passes_21 : decode cX6_passes 21 = .ok (.iconst 1, 1) := by decide +kernel
theorem dX6_passes_22 : decode cX6_passes 22 = .ok (.iload_n 2, 1) := by decide +kernel
theorem dX6_passes_23 : decode cX6_passes 23 = .ok (.ishl, 1) := by decide +kernel
theorem dX6_passes_24 : decode cX6_passes 24 = .ok (.goto 4, 3) := by decide +kernel
theorem dX6_passes_27 : decode cX6_passes 27 = .ok (.iconst 0, 1) := by decide +kernel
theorem dX6_passes_28 : decode cX6_passes 28 = .ok (.iadd, 1) := by decide +kernel
theorem dX6_passes_29 : decode cX6_passes 29 = .ok (.istore_n 1, 1) := by decide +kernel
theorem dX6_passes_30 : decode cX6_passes 30 = .ok (.iinc 2 1, 3) := by decide +kernel
theorem dX6_passes_33 : decode cX6_passes 33 = .ok (.goto (-29), 3) := by decide +kernel
theorem dX6_passes_36 : decode cX6_passes 36 = .ok (.iconst 0, 1) := by decide +kernel
theorem dX6_passes_37 : decode cX6_passes 37 = .ok (.istore_n 2, 1) := by decide +kernel
theorem dX6_passes_38 : decode cX6_passes 38 = .ok (.iload_n 2, 1) := by decide +kernel
theorem dX6_passes_39 : decode cX6_passes 39 = .ok (.aload_n 0, 1) := by decide +kernel
theorem dX6_passes_40 : decode cX6_passes 40 = .ok (.getfield 64, 3) := by decide +kernel
theorem dX6_passes_43 : decode cX6_passes 43 = .ok (.if_icmp .ge 38, 3) := by decide +kernel
theorem dX6_passes_46 : decode cX6_passes 46 = .ok (.aload_n 0, 1) := by decide +kernel
theorem dX6_passes_47 : decode cX6_passes 47 = .ok (.getfield 26, 3) := by decide +kernel
theorem dX6_passes_50 : decode cX6_passes 50 = .ok (.iconst 5, 1) := by decide +kernel
theorem dX6_passes_51 : decode cX6_passes 51 = .ok (.iload_n 2, 1) := by decide +kernel
theorem dX6_passes_52 : decode cX6_passes 52 = .ok (.imul, 1) := by decide +kernel
theorem dX6_passes_53 : decode cX6_passes 53 = .ok (.iconst 3, 1) := by decide +kernel
theorem dX6_passes_54 : decode cX6_passes 54 = .ok (.iadd, 1) := by decide +kernel
theorem dX6_passes_55 : decode cX6_passes 55 = .ok (.aload_n 0, 1) := by decide +kernel
theorem dX6_passes_56 : decode cX6_passes 56 = .ok (.getfield 26, 3) := by decide +kernel
theorem dX6_passes_59 : decode cX6_passes 59 = .ok (.iconst 5, 1) := by decide +kernel
theorem dX6_passes_60 : decode cX6_passes 60 = .ok (.iload_n 2, 1) := by decide +kernel
theorem dX6_passes_61 : decode cX6_passes 61 = .ok (.imul, 1) := by decide +kernel
theorem dX6_passes_62 : decode cX6_passes 62 = .ok (.iconst 3, 1) := by decide +kernel
theorem dX6_passes_63 : decode cX6_passes 63 = .ok (.iadd, 1) := by decide +kernel
theorem dX6_passes_64 : decode cX6_passes 64 = .ok (.iaload, 1) := by decide +kernel
theorem dX6_passes_65 : decode cX6_passes 65 = .ok (.iconst 1, 1) := by decide +kernel
theorem dX6_passes_66 : decode cX6_passes 66 = .ok (.iadd, 1) := by decide +kernel
theorem dX6_passes_67 : decode cX6_passes 67 = .ok (.iconst 0, 1) := by decide +kernel
theorem dX6_passes_68 : decode cX6_passes 68 = .ok (.sipush 999, 3) := by decide +kernel
theorem dX6_passes_71 : decode cX6_passes 71 = .ok (.invokestatic 328, 3) := by decide +kernel
theorem dX6_passes_74 : decode cX6_passes 74 = .ok (.iastore, 1) := by decide +kernel
theorem dX6_passes_75 : decode cX6_passes 75 = .ok (.iinc 2 1, 3) := by decide +kernel
theorem dX6_passes_78 : decode cX6_passes 78 = .ok (.goto (-40), 3) := by decide +kernel
theorem dX6_passes_81 : decode cX6_passes 81 = .ok (.aload_n 0, 1) := by decide +kernel
theorem dX6_passes_82 : decode cX6_passes 82 = .ok (.dup, 1) := by decide +kernel
theorem dX6_passes_83 : decode cX6_passes 83 = .ok (.getfield 91, 3) := by decide +kernel
theorem dX6_passes_86 : decode cX6_passes 86 = .ok (.iconst 1, 1) := by decide +kernel
theorem dX6_passes_87 : decode cX6_passes 87 = .ok (.iadd, 1) := by decide +kernel
theorem dX6_passes_88 : decode cX6_passes 88 = .ok (.putfield 91, 3) := by decide +kernel
theorem dX6_passes_91 : decode cX6_passes 91 = .ok (.iconst 0, 1) := by decide +kernel
theorem dX6_passes_92 : decode cX6_passes 92 = .ok (.istore_n 2, 1) := by decide +kernel
theorem dX6_passes_93 : decode cX6_passes 93 = .ok (.iload_n 2, 1) := by decide +kernel
theorem dX6_passes_94 : decode cX6_passes 94 = .ok (.aload_n 0, 1) := by decide +kernel
theorem dX6_passes_95 : decode cX6_passes 95 = .ok (.getfield 64, 3) := by decide +kernel
theorem dX6_passes_98 : decode cX6_passes 98 = .ok (.if_icmp .ge 29, 3) := by decide +kernel
theorem dX6_passes_101 : decode cX6_passes 101 = .ok (.iload_n 1, 1) := by decide +kernel
theorem dX6_passes_102 : decode cX6_passes 102 = .ok (.aload_n 0, 1) := by decide +kernel
theorem dX6_passes_103 : decode cX6_passes 103 = .ok (.iload_n 2, 1) := by decide +kernel
theorem dX6_passes_104 : decode cX6_passes 104 = .ok (.invokevirtual 113, 3) := by decide +kernel
theorem dX6_passes_107 : decode cX6_passes 107 = .ok (.ifCond .eq 11, 3) := by decide +kernel
theorem dX6_passes_110 : decode cX6_passes 110 = .ok (.iconst 1, 1) := by decide +kernel
theorem dX6_passes_111 : decode cX6_passes 111 = .ok (.iload_n 2, 1) := by decide +kernel
theorem dX6_passes_112 : decode cX6_passes 112 = .ok (.ishl, 1) := by decide +kernel
theorem dX6_passes_113 : decode cX6_passes 113 = .ok (.iconst (-1), 1) := by decide +kernel
theorem dX6_passes_114 : decode cX6_passes 114 = .ok (.ixor, 1) := by decide +kernel
theorem dX6_passes_115 : decode cX6_passes 115 = .ok (.goto 4, 3) := by decide +kernel
theorem dX6_passes_118 : decode cX6_passes 118 = .ok (.iconst (-1), 1) := by decide +kernel
theorem dX6_passes_119 : decode cX6_passes 119 = .ok (.iand, 1) := by decide +kernel
theorem dX6_passes_120 : decode cX6_passes 120 = .ok (.istore_n 1, 1) := by decide +kernel
theorem dX6_passes_121 : decode cX6_passes 121 = .ok (.iinc 2 1, 3) := by decide +kernel
theorem dX6_passes_124 : decode cX6_passes 124 = .ok (.goto (-31), 3) := by decide +kernel
theorem dX6_passes_127 : decode cX6_passes 127 = .ok (.iload_n 1, 1) := by decide +kernel
theorem dX6_passes_128 : decode cX6_passes 128 = .ok (.invokestatic 338, 3) := by decide +kernel
theorem dX6_passes_131 : decode cX6_passes 131 = .ok (.ireturn, 1) := by decide +kernel
theorem dX6_day_0 : decode cX6_day 0 = .ok (.aload_n 0, 1) := by decide +kernel
theorem dX6_day_1 : decode cX6_day 1 = .ok (.getfield 91, 3) := by decide +kernel
theorem dX6_day_4 : decode cX6_day 4 = .ok (.sipush 999, 3) := by decide +kernel
theorem dX6_day_7 : decode cX6_day 7 = .ok (.if_icmp .ne 8, 3) := by decide +kernel
theorem dX6_day_10 : decode cX6_day 10 = .ok (.bipush (-3), 2) := by decide +kernel
theorem dX6_day_12 : decode cX6_day 12 = .ok (.goto 7, 3) := by decide +kernel
theorem dX6_day_15 : decode cX6_day 15 = .ok (.aload_n 0, 1) := by decide +kernel
theorem dX6_day_16 : decode cX6_day 16 = .ok (.invokevirtual 341, 3) := by decide +kernel
theorem dX6_day_19 : decode cX6_day 19 = .ok (.ireturn, 1) := by decide +kernel
theorem dX6_pays_0 : decode cX6_pays 0 = .ok (.aload_n 0, 1) := by decide +kernel
theorem dX6_pays_1 : decode cX6_pays 1 = .ok (.getfield 26, 3) := by decide +kernel
theorem dX6_pays_4 : decode cX6_pays 4 = .ok (.iconst 5, 1) := by decide +kernel
theorem dX6_pays_5 : decode cX6_pays 5 = .ok (.iload_n 1, 1) := by decide +kernel
theorem dX6_pays_6 : decode cX6_pays 6 = .ok (.imul, 1) := by decide +kernel
theorem dX6_pays_7 : decode cX6_pays 7 = .ok (.iconst 4, 1) := by decide +kernel
theorem dX6_pays_8 : decode cX6_pays 8 = .ok (.iadd, 1) := by decide +kernel
theorem dX6_pays_9 : decode cX6_pays 9 = .ok (.iload_n 2, 1) := by decide +kernel
theorem dX6_pays_10 : decode cX6_pays 10 = .ok (.iastore, 1) := by decide +kernel
theorem dX6_pays_11 : decode cX6_pays 11 = .ok (.aload_n 0, 1) := by decide +kernel
theorem dX6_pays_12 : decode cX6_pays 12 = .ok (.getfield 26, 3) := by decide +kernel
theorem dX6_pays_15 : decode cX6_pays 15 = .ok (.iconst 5, 1) := by decide +kernel
theorem dX6_pays_16 : decode cX6_pays 16 = .ok (.iload_n 1, 1) := by decide +kernel
theorem dX6_pays_17 : decode cX6_pays 17 = .ok (.imul, 1) := by decide +kernel
theorem dX6_pays_18 : decode cX6_pays 18 = .ok (.iconst 3, 1) := by decide +kernel
theorem dX6_pays_19 : decode cX6_pays 19 = .ok (.iadd, 1) := by decide +kernel
theorem dX6_pays_20 : decode cX6_pays 20 = .ok (.iconst 0, 1) := by decide +kernel
theorem dX6_pays_21 : decode cX6_pays 21 = .ok (.iastore, 1) := by decide +kernel
theorem dX6_pays_22 : decode cX6_pays 22 = .ok (.return_, 1) := by decide +kernel
theorem dX6_pay_0 : decode cX6_pay 0 = .ok (.aload_n 0, 1) := by decide +kernel
theorem dX6_pay_1 : decode cX6_pay 1 = .ok (.iload_n 1, 1) := by decide +kernel
theorem dX6_pay_2 : decode cX6_pay 2 = .ok (.invokevirtual 75, 3) := by decide +kernel
theorem dX6_pay_5 : decode cX6_pay 5 = .ok (.ifCond .eq 10, 3) := by decide +kernel
theorem dX6_pay_8 : decode cX6_pay 8 = .ok (.iload_n 2, 1) := by decide +kernel
theorem dX6_pay_9 : decode cX6_pay 9 = .ok (.invokestatic 344, 3) := by decide +kernel
theorem dX6_pay_12 : decode cX6_pay 12 = .ok (.ifCond .ne 6, 3) := by decide +kernel
theorem dX6_pay_15 : decode cX6_pay 15 = .ok (.bipush (-2), 2) := by decide +kernel
theorem dX6_pay_17 : decode cX6_pay 17 = .ok (.ireturn, 1) := by decide +kernel
theorem dX6_pay_18 : decode cX6_pay 18 = .ok (.aload_n 0, 1) := by decide +kernel
theorem dX6_pay_19 : decode cX6_pay 19 = .ok (.getfield 26, 3) := by decide +kernel
theorem dX6_pay_22 : decode cX6_pay 22 = .ok (.iconst 5, 1) := by decide +kernel
theorem dX6_pay_23 : decode cX6_pay 23 = .ok (.iload_n 1, 1) := by decide +kernel
theorem dX6_pay_24 : decode cX6_pay 24 = .ok (.imul, 1) := by decide +kernel
theorem dX6_pay_25 : decode cX6_pay 25 = .ok (.iconst 4, 1) := by decide +kernel
theorem dX6_pay_26 : decode cX6_pay 26 = .ok (.iadd, 1) := by decide +kernel
theorem dX6_pay_27 : decode cX6_pay 27 = .ok (.iaload, 1) := by decide +kernel
theorem dX6_pay_28 : decode cX6_pay 28 = .ok (.istore_n 3, 1) := by decide +kernel
theorem dX6_pay_29 : decode cX6_pay 29 = .ok (.aload_n 0, 1) := by decide +kernel
theorem dX6_pay_30 : decode cX6_pay 30 = .ok (.iload_n 1, 1) := by decide +kernel
theorem dX6_pay_31 : decode cX6_pay 31 = .ok (.invokevirtual 113, 3) := by decide +kernel
theorem dX6_pay_34 : decode cX6_pay 34 = .ok (.ifCond .eq 8, 3) := by decide +kernel
theorem dX6_pay_37 : decode cX6_pay 37 = .ok (.iload_n 3, 1) := by decide +kernel
theorem dX6_pay_38 : decode cX6_pay 38 = .ok (.iload_n 2, 1) := by decide +kernel
theorem dX6_pay_39 : decode cX6_pay 39 = .ok (.if_icmp .ne 6, 3) := by decide +kernel
theorem dX6_pay_42 : decode cX6_pay 42 = .ok (.bipush (-3), 2) := by decide +kernel
theorem dX6_pay_44 : decode cX6_pay 44 = .ok (.ireturn, 1) := by decide +kernel
theorem dX6_pay_45 : decode cX6_pay 45 = .ok (.aload_n 0, 1) := by decide +kernel
theorem dX6_pay_46 : decode cX6_pay 46 = .ok (.iload_n 1, 1) := by decide +kernel
theorem dX6_pay_47 : decode cX6_pay 47 = .ok (.iload_n 2, 1) := by decide +kernel
theorem dX6_pay_48 : decode cX6_pay 48 = .ok (.invokevirtual 347, 3) := by decide +kernel
theorem dX6_pay_51 : decode cX6_pay 51 = .ok (.iload_n 3, 1) := by decide +kernel
theorem dX6_pay_52 : decode cX6_pay 52 = .ok (.ireturn, 1) := by decide +kernel
theorem dX6_buy_0 : decode cX6_buy 0 = .ok (.iload_n 1, 1) := by decide +kernel
theorem dX6_buy_1 : decode cX6_buy 1 = .ok (.invokestatic 344, 3) := by decide +kernel
theorem dX6_buy_4 : decode cX6_buy 4 = .ok (.ifCond .eq 27, 3) := by decide +kernel
theorem dX6_buy_7 : decode cX6_buy 7 = .ok (.iload_n 2, 1) := by decide +kernel
theorem dX6_buy_8 : decode cX6_buy 8 = .ok (.invokestatic 344, 3) := by decide +kernel
theorem dX6_buy_11 : decode cX6_buy 11 = .ok (.ifCond .eq 20, 3) := by decide +kernel
theorem dX6_buy_14 : decode cX6_buy 14 = .ok (.iload_n 1, 1) := by decide +kernel
theorem dX6_buy_15 : decode cX6_buy 15 = .ok (.iload_n 2, 1) := by decide +kernel
theorem dX6_buy_16 : decode cX6_buy 16 = .ok (.if_icmp .eq 15, 3) := by decide +kernel
theorem dX6_buy_19 : decode cX6_buy 19 = .ok (.iload_n 3, 1) := by decide +kernel
theorem dX6_buy_20 : decode cX6_buy 20 = .ok (.i2l, 1) := by decide +kernel
theorem dX6_buy_21 : decode cX6_buy 21 = .ok (.lconst 0, 1) := by decide +kernel
theorem dX6_buy_22 : decode cX6_buy 22 = .ok (.ldc2_w 351, 3) := by decide +kernel
theorem dX6_buy_25 : decode cX6_buy 25 = .ok (.invokestatic 67, 3) := by decide +kernel
theorem dX6_buy_28 : decode cX6_buy 28 = .ok (.ifCond .ne 6, 3) := by decide +kernel
theorem dX6_buy_31 : decode cX6_buy 31 = .ok (.bipush (-2), 2) := by decide +kernel
theorem dX6_buy_33 : decode cX6_buy 33 = .ok (.ireturn, 1) := by decide +kernel
theorem dX6_buy_34 : decode cX6_buy 34 = .ok (.aload_n 0, 1) := by decide +kernel
theorem dX6_buy_35 : decode cX6_buy 35 = .ok (.iload_n 1, 1) := by decide +kernel
theorem dX6_buy_36 : decode cX6_buy 36 = .ok (.iload_n 3, 1) := by decide +kernel
theorem dX6_buy_37 : decode cX6_buy 37 = .ok (.invokevirtual 353, 3) := by decide +kernel
theorem dX6_buy_40 : decode cX6_buy 40 = .ok (.istore 4, 2) := by decide +kernel
theorem dX6_buy_42 : decode cX6_buy 42 = .ok (.iload 4, 2) := by decide +kernel
theorem dX6_buy_44 : decode cX6_buy 44 = .ok (.iconst (-1), 1) := by decide +kernel
theorem dX6_buy_45 : decode cX6_buy 45 = .ok (.if_icmp .ne 6, 3) := by decide +kernel
theorem dX6_buy_48 : decode cX6_buy 48 = .ok (.bipush (-3), 2) := by decide +kernel
theorem dX6_buy_50 : decode cX6_buy 50 = .ok (.ireturn, 1) := by decide +kernel
theorem dX6_buy_51 : decode cX6_buy 51 = .ok (.iconst 0, 1) := by decide +kernel
theorem dX6_buy_52 : decode cX6_buy 52 = .ok (.istore 5, 2) := by decide +kernel
theorem dX6_buy_54 : decode cX6_buy 54 = .ok (.iload 5, 2) := by decide +kernel
theorem dX6_buy_56 : decode cX6_buy 56 = .ok (.aload_n 0, 1) := by decide +kernel
theorem dX6_buy_57 : decode cX6_buy 57 = .ok (.getfield 64, 3) := by decide +kernel
theorem dX6_buy_60 : decode cX6_buy 60 = .ok (.if_icmp .ge 27, 3) := by decide +kernel
theorem dX6_buy_63 : decode cX6_buy 63 = .ok (.iload 4, 2) := by decide +kernel
theorem dX6_buy_65 : decode cX6_buy 65 = .ok (.iload 5, 2) := by decide +kernel
theorem dX6_buy_67 : decode cX6_buy 67 = .ok (.ishr, 1) := by decide +kernel
theorem dX6_buy_68 : decode cX6_buy 68 = .ok (.iconst 1, 1) := by decide +kernel
theorem dX6_buy_69 : decode cX6_buy 69 = .ok (.iand, 1) := by decide +kernel
theorem dX6_buy_70 : decode cX6_buy 70 = .ok (.iconst 1, 1) := by decide +kernel
theorem dX6_buy_71 : decode cX6_buy 71 = .ok (.if_icmp .ne 10, 3) := by decide +kernel
theorem dX6_buy_74 : decode cX6_buy 74 = .ok (.aload_n 0, 1) := by decide +kernel
theorem dX6_buy_75 : decode cX6_buy 75 = .ok (.iload 5, 2) := by decide +kernel
theorem dX6_buy_77 : decode cX6_buy 77 = .ok (.iload_n 2, 1) := by decide +kernel
theorem dX6_buy_78 : decode cX6_buy 78 = .ok (.invokevirtual 347, 3) := by decide +kernel
theorem dX6_buy_81 : decode cX6_buy 81 = .ok (.iinc 5 1, 3) := by decide +kernel
theorem dX6_buy_84 : decode cX6_buy 84 = .ok (.goto (-30), 3) := by decide +kernel
theorem dX6_buy_87 : decode cX6_buy 87 = .ok (.iload 4, 2) := by decide +kernel
theorem dX6_buy_89 : decode cX6_buy 89 = .ok (.invokestatic 338, 3) := by decide +kernel
theorem dX6_buy_92 : decode cX6_buy 92 = .ok (.ireturn, 1) := by decide +kernel
theorem dX6_laysAside_0 : decode cX6_laysAside 0 = .ok (.iconst 0, 1) := by decide +kernel
theorem dX6_laysAside_1 : decode cX6_laysAside 1 = .ok (.istore_n 1, 1) := by decide +kernel
theorem dX6_laysAside_2 : decode cX6_laysAside 2 = .ok (.iload_n 1, 1) := by decide +kernel
theorem dX6_laysAside_3 : decode cX6_laysAside 3 = .ok (.bipush 8, 2) := by decide +kernel
theorem dX6_laysAside_5 : decode cX6_laysAside 5 = .ok (.if_icmp .ge 41, 3) := by decide +kernel
theorem dX6_laysAside_8 : decode cX6_laysAside 8 = .ok (.aload_n 0, 1) := by decide +kernel
theorem dX6_laysAside_9 : decode cX6_laysAside 9 = .ok (.getfield 29, 3) := by decide +kernel
theorem dX6_laysAside_12 : decode cX6_laysAside 12 = .ok (.iload_n 1, 1) := by decide +kernel
theorem dX6_laysAside_13 : decode cX6_laysAside 13 = .ok (.aload_n 0, 1) := by decide +kernel
theorem dX6_laysAside_14 : decode cX6_laysAside 14 = .ok (.getfield 26, 3) := by decide +kernel
theorem dX6_laysAside_17 : decode cX6_laysAside 17 = .ok (.iconst 5, 1) := by decide +kernel
theorem dX6_laysAside_18 : decode cX6_laysAside 18 = .ok (.iload_n 1, 1) := by decide +kernel
theorem dX6_laysAside_19 : decode cX6_laysAside 19 = .ok (.imul, 1) := by decide +kernel
theorem dX6_laysAside_20 : decode cX6_laysAside 20 = .ok (.iconst 3, 1) := by decide +kernel
theorem dX6_laysAside_21 : decode cX6_laysAside 21 = .ok (.iadd, 1) := by decide +kernel
theorem dX6_laysAside_22 : decode cX6_laysAside 22 = .ok (.iaload, 1) := by decide +kernel
theorem dX6_laysAside_23 : decode cX6_laysAside 23 = .ok (.iastore, 1) := by decide +kernel
theorem dX6_laysAside_24 : decode cX6_laysAside 24 = .ok (.aload_n 0, 1) := by decide +kernel
theorem dX6_laysAside_25 : decode cX6_laysAside 25 = .ok (.getfield 32, 3) := by decide +kernel
theorem dX6_laysAside_28 : decode cX6_laysAside 28 = .ok (.iload_n 1, 1) := by decide +kernel
theorem dX6_laysAside_29 : decode cX6_laysAside 29 = .ok (.aload_n 0, 1) := by decide +kernel
theorem dX6_laysAside_30 : decode cX6_laysAside 30 = .ok (.getfield 26, 3) := by decide +kernel
theorem dX6_laysAside_33 : decode cX6_laysAside 33 = .ok (.iconst 5, 1) := by decide +kernel
theorem dX6_laysAside_34 : decode cX6_laysAside 34 = .ok (.iload_n 1, 1) := by decide +kernel
theorem dX6_laysAside_35 : decode cX6_laysAside 35 = .ok (.imul, 1) := by decide +kernel
theorem dX6_laysAside_36 : decode cX6_laysAside 36 = .ok (.iconst 4, 1) := by decide +kernel
theorem dX6_laysAside_37 : decode cX6_laysAside 37 = .ok (.iadd, 1) := by decide +kernel
theorem dX6_laysAside_38 : decode cX6_laysAside 38 = .ok (.iaload, 1) := by decide +kernel
theorem dX6_laysAside_39 : decode cX6_laysAside 39 = .ok (.iastore, 1) := by decide +kernel
theorem dX6_laysAside_40 : decode cX6_laysAside 40 = .ok (.iinc 1 1, 3) := by decide +kernel
theorem dX6_laysAside_43 : decode cX6_laysAside 43 = .ok (.goto (-41), 3) := by decide +kernel
theorem dX6_laysAside_46 : decode cX6_laysAside 46 = .ok (.aload_n 0, 1) := by decide +kernel
theorem dX6_laysAside_47 : decode cX6_laysAside 47 = .ok (.aload_n 0, 1) := by decide +kernel
theorem dX6_laysAside_48 : decode cX6_laysAside 48 = .ok (.getfield 91, 3) := by decide +kernel
theorem dX6_laysAside_51 : decode cX6_laysAside 51 = .ok (.putfield 356, 3) := by decide +kernel
theorem dX6_laysAside_54 : decode cX6_laysAside 54 = .ok (.return_, 1) := by decide +kernel
theorem dX6_laysBack_0 : decode cX6_laysBack 0 = .ok (.iconst 0, 1) := by decide +kernel
theorem dX6_laysBack_1 : decode cX6_laysBack 1 = .ok (.istore_n 1, 1) := by decide +kernel
theorem dX6_laysBack_2 : decode cX6_laysBack 2 = .ok (.iload_n 1, 1) := by decide +kernel
theorem dX6_laysBack_3 : decode cX6_laysBack 3 = .ok (.bipush 8, 2) := by decide +kernel
theorem dX6_laysBack_5 : decode cX6_laysBack 5 = .ok (.if_icmp .ge 41, 3) := by decide +kernel
theorem dX6_laysBack_8 : decode cX6_laysBack 8 = .ok (.aload_n 0, 1) := by decide +kernel
theorem dX6_laysBack_9 : decode cX6_laysBack 9 = .ok (.getfield 26, 3) := by decide +kernel
theorem dX6_laysBack_12 : decode cX6_laysBack 12 = .ok (.iconst 5, 1) := by decide +kernel
theorem dX6_laysBack_13 : decode cX6_laysBack 13 = .ok (.iload_n 1, 1) := by decide +kernel
theorem dX6_laysBack_14 : decode cX6_laysBack 14 = .ok (.imul, 1) := by decide +kernel
theorem dX6_laysBack_15 : decode cX6_laysBack 15 = .ok (.iconst 3, 1) := by decide +kernel
theorem dX6_laysBack_16 : decode cX6_laysBack 16 = .ok (.iadd, 1) := by decide +kernel
theorem dX6_laysBack_17 : decode cX6_laysBack 17 = .ok (.aload_n 0, 1) := by decide +kernel
theorem dX6_laysBack_18 : decode cX6_laysBack 18 = .ok (.getfield 29, 3) := by decide +kernel
theorem dX6_laysBack_21 : decode cX6_laysBack 21 = .ok (.iload_n 1, 1) := by decide +kernel
theorem dX6_laysBack_22 : decode cX6_laysBack 22 = .ok (.iaload, 1) := by decide +kernel
theorem dX6_laysBack_23 : decode cX6_laysBack 23 = .ok (.iastore, 1) := by decide +kernel
theorem dX6_laysBack_24 : decode cX6_laysBack 24 = .ok (.aload_n 0, 1) := by decide +kernel
theorem dX6_laysBack_25 : decode cX6_laysBack 25 = .ok (.getfield 26, 3) := by decide +kernel
theorem dX6_laysBack_28 : decode cX6_laysBack 28 = .ok (.iconst 5, 1) := by decide +kernel
theorem dX6_laysBack_29 : decode cX6_laysBack 29 = .ok (.iload_n 1, 1) := by decide +kernel
theorem dX6_laysBack_30 : decode cX6_laysBack 30 = .ok (.imul, 1) := by decide +kernel
theorem dX6_laysBack_31 : decode cX6_laysBack 31 = .ok (.iconst 4, 1) := by decide +kernel
theorem dX6_laysBack_32 : decode cX6_laysBack 32 = .ok (.iadd, 1) := by decide +kernel
theorem dX6_laysBack_33 : decode cX6_laysBack 33 = .ok (.aload_n 0, 1) := by decide +kernel
theorem dX6_laysBack_34 : decode cX6_laysBack 34 = .ok (.getfield 32, 3) := by decide +kernel
theorem dX6_laysBack_37 : decode cX6_laysBack 37 = .ok (.iload_n 1, 1) := by decide +kernel
theorem dX6_laysBack_38 : decode cX6_laysBack 38 = .ok (.iaload, 1) := by decide +kernel
theorem dX6_laysBack_39 : decode cX6_laysBack 39 = .ok (.iastore, 1) := by decide +kernel
theorem dX6_laysBack_40 : decode cX6_laysBack 40 = .ok (.iinc 1 1, 3) := by decide +kernel
theorem dX6_laysBack_43 : decode cX6_laysBack 43 = .ok (.goto (-41), 3) := by decide +kernel
theorem dX6_laysBack_46 : decode cX6_laysBack 46 = .ok (.aload_n 0, 1) := by decide +kernel
theorem dX6_laysBack_47 : decode cX6_laysBack 47 = .ok (.aload_n 0, 1) := by decide +kernel
theorem dX6_laysBack_48 : decode cX6_laysBack 48 = .ok (.getfield 356, 3) := by decide +kernel
theorem dX6_laysBack_51 : decode cX6_laysBack 51 = .ok (.putfield 91, 3) := by decide +kernel
theorem dX6_laysBack_54 : decode cX6_laysBack 54 = .ok (.return_, 1) := by decide +kernel
theorem dX6_spendOf_0 : decode cX6_spendOf 0 = .ok (.aload_n 0, 1) := by decide +kernel
theorem dX6_spendOf_1 : decode cX6_spendOf 1 = .ok (.iload_n 1, 1) := by decide +kernel
theorem dX6_spendOf_2 : decode cX6_spendOf 2 = .ok (.invokevirtual 359, 3) := by decide +kernel
theorem dX6_spendOf_5 : decode cX6_spendOf 5 = .ok (.istore_n 2, 1) := by decide +kernel
theorem dX6_spendOf_6 : decode cX6_spendOf 6 = .ok (.iconst (-1), 1) := by decide +kernel
theorem dX6_spendOf_7 : decode cX6_spendOf 7 = .ok (.istore_n 3, 1) := by decide +kernel
theorem dX6_spendOf_8 : decode cX6_spendOf 8 = .ok (.iconst 0, 1) := by decide +kernel
theorem dX6_spendOf_9 : decode cX6_spendOf 9 = .ok (.istore 4, 2) := by decide +kernel
theorem dX6_spendOf_11 : decode cX6_spendOf 11 = .ok (.iconst 0, 1) := by decide +kernel
theorem dX6_spendOf_12 : decode cX6_spendOf 12 = .ok (.istore 5, 2) := by decide +kernel
theorem dX6_spendOf_14 : decode cX6_spendOf 14 = .ok (.iload 5, 2) := by decide +kernel
theorem dX6_spendOf_16 : decode cX6_spendOf 16 = .ok (.aload_n 0, 1) := by decide +kernel
theorem dX6_spendOf_17 : decode cX6_spendOf 17 = .ok (.getfield 64, 3) := by decide +kernel
theorem dX6_spendOf_20 : decode cX6_spendOf 20 = .ok (.if_icmp .ge 58, 3) := by decide +kernel
theorem dX6_spendOf_23 : decode cX6_spendOf 23 = .ok (.aload_n 0, 1) := by decide +kernel
theorem dX6_spendOf_24 : decode cX6_spendOf 24 = .ok (.iload 5, 2) := by decide +kernel
theorem dX6_spendOf_26 : decode cX6_spendOf 26 = .ok (.invokevirtual 104, 3) := by decide +kernel
theorem dX6_spendOf_29 : decode cX6_spendOf 29 = .ok (.aload_n 0, 1) := by decide +kernel
theorem dX6_spendOf_30 : decode cX6_spendOf 30 = .ok (.getfield 26, 3) := by decide +kernel
theorem dX6_spendOf_33 : decode cX6_spendOf 33 = .ok (.iconst 5, 1) := by decide +kernel
theorem dX6_spendOf_34 : decode cX6_spendOf 34 = .ok (.iload 5, 2) := by decide +kernel
theorem dX6_spendOf_36 : decode cX6_spendOf 36 = .ok (.imul, 1) := by decide +kernel
theorem dX6_spendOf_37 : decode cX6_spendOf 37 = .ok (.iconst 3, 1) := by decide +kernel
theorem dX6_spendOf_38 : decode cX6_spendOf 38 = .ok (.iadd, 1) := by decide +kernel
theorem dX6_spendOf_39 : decode cX6_spendOf 39 = .ok (.iaload, 1) := by decide +kernel
theorem dX6_spendOf_40 : decode cX6_spendOf 40 = .ok (.isub, 1) := by decide +kernel
theorem dX6_spendOf_41 : decode cX6_spendOf 41 = .ok (.istore 6, 2) := by decide +kernel
theorem dX6_spendOf_43 : decode cX6_spendOf 43 = .ok (.iload_n 2, 1) := by decide +kernel
theorem dX6_spendOf_44 : decode cX6_spendOf 44 = .ok (.iload 5, 2) := by decide +kernel
theorem dX6_spendOf_46 : decode cX6_spendOf 46 = .ok (.ishr, 1) := by decide +kernel
theorem dX6_spendOf_47 : decode cX6_spendOf 47 = .ok (.iconst 1, 1) := by decide +kernel
theorem dX6_spendOf_48 : decode cX6_spendOf 48 = .ok (.iand, 1) := by decide +kernel
theorem dX6_spendOf_49 : decode cX6_spendOf 49 = .ok (.iconst 1, 1) := by decide +kernel
theorem dX6_spendOf_50 : decode cX6_spendOf 50 = .ok (.if_icmp .ne 22, 3) := by decide +kernel
theorem dX6_spendOf_53 : decode cX6_spendOf 53 = .ok (.iload_n 3, 1) := by decide +kernel
theorem dX6_spendOf_54 : decode cX6_spendOf 54 = .ok (.iconst (-1), 1) := by decide +kernel
theorem dX6_spendOf_55 : decode cX6_spendOf 55 = .ok (.if_icmp .eq 10, 3) := by decide +kernel
theorem dX6_spendOf_58 : decode cX6_spendOf 58 = .ok (.iload 6, 2) := by decide +kernel
theorem dX6_spendOf_60 : decode cX6_spendOf 60 = .ok (.iload 4, 2) := by decide +kernel
theorem dX6_spendOf_62 : decode cX6_spendOf 62 = .ok (.if_icmp .ge 10, 3) := by decide +kernel
theorem dX6_spendOf_65 : decode cX6_spendOf 65 = .ok (.iload 5, 2) := by decide +kernel
theorem dX6_spendOf_67 : decode cX6_spendOf 67 = .ok (.istore_n 3, 1) := by decide +kernel
theorem dX6_spendOf_68 : decode cX6_spendOf 68 = .ok (.iload 6, 2) := by decide +kernel
theorem dX6_spendOf_70 : decode cX6_spendOf 70 = .ok (.istore 4, 2) := by decide +kernel
theorem dX6_spendOf_72 : decode cX6_spendOf 72 = .ok (.iinc 5 1, 3) := by decide +kernel
theorem dX6_spendOf_75 : decode cX6_spendOf 75 = .ok (.goto (-61), 3) := by decide +kernel
theorem dX6_spendOf_78 : decode cX6_spendOf 78 = .ok (.iload_n 3, 1) := by decide +kernel
theorem dX6_spendOf_79 : decode cX6_spendOf 79 = .ok (.ireturn, 1) := by decide +kernel
theorem dX6_goneOf_0 : decode cX6_goneOf 0 = .ok (.aload_n 0, 1) := by decide +kernel
theorem dX6_goneOf_1 : decode cX6_goneOf 1 = .ok (.invokevirtual 362, 3) := by decide +kernel
theorem dX6_goneOf_4 : decode cX6_goneOf 4 = .ok (.iconst 0, 1) := by decide +kernel
theorem dX6_goneOf_5 : decode cX6_goneOf 5 = .ok (.istore_n 2, 1) := by decide +kernel
theorem dX6_goneOf_6 : decode cX6_goneOf 6 = .ok (.iload_n 2, 1) := by decide +kernel
theorem dX6_goneOf_7 : decode cX6_goneOf 7 = .ok (.bipush 40, 2) := by decide +kernel
theorem dX6_goneOf_9 : decode cX6_goneOf 9 = .ok (.if_icmp .gt 22, 3) := by decide +kernel
theorem dX6_goneOf_12 : decode cX6_goneOf 12 = .ok (.aload_n 0, 1) := by decide +kernel
theorem dX6_goneOf_13 : decode cX6_goneOf 13 = .ok (.iload_n 1, 1) := by decide +kernel
theorem dX6_goneOf_14 : decode cX6_goneOf 14 = .ok (.invokevirtual 359, 3) := by decide +kernel
theorem dX6_goneOf_17 : decode cX6_goneOf 17 = .ok (.ifCond .eq 14, 3) := by decide +kernel
theorem dX6_goneOf_20 : decode cX6_goneOf 20 = .ok (.aload_n 0, 1) := by decide +kernel
theorem dX6_goneOf_21 : decode cX6_goneOf 21 = .ok (.invokevirtual 341, 3) := by decide +kernel
theorem dX6_goneOf_24 : decode cX6_goneOf 24 = .ok (.pop, 1) := by decide +kernel
theorem dX6_goneOf_25 : decode cX6_goneOf 25 = .ok (.iinc 2 1, 3) := by decide +kernel
theorem dX6_goneOf_28 : decode cX6_goneOf 28 = .ok (.goto (-22), 3) := by decide +kernel
theorem dX6_goneOf_31 : decode cX6_goneOf 31 = .ok (.aload_n 0, 1) := by decide +kernel
theorem dX6_goneOf_32 : decode cX6_goneOf 32 = .ok (.invokevirtual 365, 3) := by decide +kernel
theorem dX6_goneOf_35 : decode cX6_goneOf 35 = .ok (.iload_n 2, 1) := by decide +kernel
theorem dX6_goneOf_36 : decode cX6_goneOf 36 = .ok (.bipush 40, 2) := by decide +kernel
theorem dX6_goneOf_38 : decode cX6_goneOf 38 = .ok (.if_icmp .le 7, 3) := by decide +kernel
theorem dX6_goneOf_41 : decode cX6_goneOf 41 = .ok (.iconst (-1), 1) := by decide +kernel
theorem dX6_goneOf_42 : decode cX6_goneOf 42 = .ok (.goto 4, 3) := by decide +kernel
theorem dX6_goneOf_45 : decode cX6_goneOf 45 = .ok (.iload_n 2, 1) := by decide +kernel
theorem dX6_goneOf_46 : decode cX6_goneOf 46 = .ok (.ireturn, 1) := by decide +kernel
theorem dX6_taxOf_0 : decode cX6_taxOf 0 = .ok (.iconst 0, 1) := by decide +kernel
theorem dX6_taxOf_1 : decode cX6_taxOf 1 = .ok (.istore_n 2, 1) := by decide +kernel
theorem dX6_taxOf_2 : decode cX6_taxOf 2 = .ok (.iconst 0, 1) := by decide +kernel
theorem dX6_taxOf_3 : decode cX6_taxOf 3 = .ok (.istore_n 3, 1) := by decide +kernel
theorem dX6_taxOf_4 : decode cX6_taxOf 4 = .ok (.iload_n 3, 1) := by decide +kernel
theorem dX6_taxOf_5 : decode cX6_taxOf 5 = .ok (.aload_n 0, 1) := by decide +kernel
theorem dX6_taxOf_6 : decode cX6_taxOf 6 = .ok (.getfield 64, 3) := by decide +kernel
theorem dX6_taxOf_9 : decode cX6_taxOf 9 = .ok (.if_icmp .ge 26, 3) := by decide +kernel
theorem dX6_taxOf_12 : decode cX6_taxOf 12 = .ok (.iload_n 2, 1) := by decide +kernel
theorem dX6_taxOf_13 : decode cX6_taxOf 13 = .ok (.aload_n 0, 1) := by decide +kernel
theorem dX6_taxOf_14 : decode cX6_taxOf 14 = .ok (.iload_n 3, 1) := by decide +kernel
theorem dX6_taxOf_15 : decode cX6_taxOf 15 = .ok (.iload_n 1, 1) := by decide +kernel
theorem dX6_taxOf_16 : decode cX6_taxOf 16 = .ok (.invokevirtual 335, 3) := by decide +kernel
theorem dX6_taxOf_19 : decode cX6_taxOf 19 = .ok (.ifCond .eq 7, 3) := by decide +kernel
theorem dX6_taxOf_22 : decode cX6_taxOf 22 = .ok (.iconst 1, 1) := by decide +kernel
theorem dX6_taxOf_23 : decode cX6_taxOf 23 = .ok (.goto 4, 3) := by decide +kernel
theorem dX6_taxOf_26 : decode cX6_taxOf 26 = .ok (.iconst 0, 1) := by decide +kernel
theorem dX6_taxOf_27 : decode cX6_taxOf 27 = .ok (.iadd, 1) := by decide +kernel
theorem dX6_taxOf_28 : decode cX6_taxOf 28 = .ok (.istore_n 2, 1) := by decide +kernel
theorem dX6_taxOf_29 : decode cX6_taxOf 29 = .ok (.iinc 3 1, 3) := by decide +kernel
theorem dX6_taxOf_32 : decode cX6_taxOf 32 = .ok (.goto (-28), 3) := by decide +kernel
theorem dX6_taxOf_35 : decode cX6_taxOf 35 = .ok (.iconst 0, 1) := by decide +kernel
theorem dX6_taxOf_36 : decode cX6_taxOf 36 = .ok (.istore_n 3, 1) := by decide +kernel
theorem dX6_taxOf_37 : decode cX6_taxOf 37 = .ok (.iconst 0, 1) := by decide +kernel
theorem dX6_taxOf_38 : decode cX6_taxOf 38 = .ok (.istore 4, 2) := by decide +kernel
theorem dX6_taxOf_40 : decode cX6_taxOf 40 = .ok (.iconst 0, 1) := by decide +kernel
theorem dX6_taxOf_41 : decode cX6_taxOf 41 = .ok (.istore 5, 2) := by decide +kernel
theorem dX6_taxOf_43 : decode cX6_taxOf 43 = .ok (.iload 5, 2) := by decide +kernel
theorem dX6_taxOf_45 : decode cX6_taxOf 45 = .ok (.iload_n 2, 1) := by decide +kernel
theorem dX6_taxOf_46 : decode cX6_taxOf 46 = .ok (.iconst 2, 1) := by decide +kernel
theorem dX6_taxOf_47 : decode cX6_taxOf 47 = .ok (.idiv, 1) := by decide +kernel
theorem dX6_taxOf_48 : decode cX6_taxOf 48 = .ok (.if_icmp .ge 104, 3) := by decide +kernel
theorem dX6_taxOf_51 : decode cX6_taxOf 51 = .ok (.iconst (-1), 1) := by decide +kernel
theorem dX6_taxOf_52 : decode cX6_taxOf 52 = .ok (.istore 6, 2) := by decide +kernel
theorem dX6_taxOf_54 : decode cX6_taxOf 54 = .ok (.iconst 0, 1) := by decide +kernel
theorem dX6_taxOf_55 : decode cX6_taxOf 55 = .ok (.istore 7, 2) := by decide +kernel
theorem dX6_taxOf_57 : decode cX6_taxOf 57 = .ok (.iload 7, 2) := by decide +kernel
theorem dX6_taxOf_59 : decode cX6_taxOf 59 = .ok (.aload_n 0, 1) := by decide +kernel
theorem dX6_taxOf_60 : decode cX6_taxOf 60 = .ok (.getfield 64, 3) := by decide +kernel
theorem dX6_taxOf_63 : decode cX6_taxOf 63 = .ok (.if_icmp .ge 65, 3) := by decide +kernel
theorem dX6_taxOf_66 : decode cX6_taxOf 66 = .ok (.aload_n 0, 1) := by decide +kernel
theorem dX6_taxOf_67 : decode cX6_taxOf 67 = .ok (.iload 7, 2) := by decide +kernel
theorem dX6_taxOf_69 : decode cX6_taxOf 69 = .ok (.iload_n 1, 1) := by decide +kernel
theorem dX6_taxOf_70 : decode cX6_taxOf 70 = .ok (.invokevirtual 335, 3) := by decide +kernel
theorem dX6_taxOf_73 : decode cX6_taxOf 73 = .ok (.ifCond .eq 16, 3) := by decide +kernel
theorem dX6_taxOf_76 : decode cX6_taxOf 76 = .ok (.iload_n 3, 1) := by decide +kernel
theorem dX6_taxOf_77 : decode cX6_taxOf 77 = .ok (.iload 7, 2) := by decide +kernel
theorem dX6_taxOf_79 : decode cX6_taxOf 79 = .ok (.ishr, 1) := by decide +kernel
theorem dX6_taxOf_80 : decode cX6_taxOf 80 = .ok (.iconst 1, 1) := by decide +kernel
theorem dX6_taxOf_81 : decode cX6_taxOf 81 = .ok (.iand, 1) := by decide +kernel
theorem dX6_taxOf_82 : decode cX6_taxOf 82 = .ok (.ifCond .ne 7, 3) := by decide +kernel
theorem dX6_taxOf_85 : decode cX6_taxOf 85 = .ok (.iconst 1, 1) := by decide +kernel
theorem dX6_taxOf_86 : decode cX6_taxOf 86 = .ok (.goto 4, 3) := by decide +kernel
theorem dX6_taxOf_89 : decode cX6_taxOf 89 = .ok (.iconst 0, 1) := by decide +kernel
theorem dX6_taxOf_90 : decode cX6_taxOf 90 = .ok (.istore 8, 2) := by decide +kernel
theorem dX6_taxOf_92 : decode cX6_taxOf 92 = .ok (.iload 8, 2) := by decide +kernel
theorem dX6_taxOf_94 : decode cX6_taxOf 94 = .ok (.ifCond .eq 28, 3) := by decide +kernel
theorem dX6_taxOf_97 : decode cX6_taxOf 97 = .ok (.iload 6, 2) := by decide +kernel
theorem dX6_taxOf_99 : decode cX6_taxOf 99 = .ok (.iconst (-1), 1) := by decide +kernel
theorem dX6_taxOf_100 : decode cX6_taxOf 100 = .ok (.if_icmp .eq 18, 3) := by decide +kernel
theorem dX6_taxOf_103 : decode cX6_taxOf 103 = .ok (.aload_n 0, 1) := by decide +kernel
theorem dX6_taxOf_104 : decode cX6_taxOf 104 = .ok (.iload 7, 2) := by decide +kernel
theorem dX6_taxOf_106 : decode cX6_taxOf 106 = .ok (.invokevirtual 116, 3) := by decide +kernel
theorem dX6_taxOf_109 : decode cX6_taxOf 109 = .ok (.aload_n 0, 1) := by decide +kernel
theorem dX6_taxOf_110 : decode cX6_taxOf 110 = .ok (.iload 6, 2) := by decide +kernel
theorem dX6_taxOf_112 : decode cX6_taxOf 112 = .ok (.invokevirtual 116, 3) := by decide +kernel
theorem dX6_taxOf_115 : decode cX6_taxOf 115 = .ok (.if_icmp .le 7, 3) := by decide +kernel
theorem dX6_taxOf_118 : decode cX6_taxOf 118 = .ok (.iload 7, 2) := by decide +kernel
theorem dX6_taxOf_120 : decode cX6_taxOf 120 = .ok (.istore 6, 2) := by decide +kernel
theorem dX6_taxOf_122 : decode cX6_taxOf 122 = .ok (.iinc 7 1, 3) := by decide +kernel
theorem dX6_taxOf_125 : decode cX6_taxOf 125 = .ok (.goto (-68), 3) := by decide +kernel
theorem dX6_taxOf_128 : decode cX6_taxOf 128 = .ok (.iload_n 3, 1) := by decide +kernel
theorem dX6_taxOf_129 : decode cX6_taxOf 129 = .ok (.iconst 1, 1) := by decide +kernel
theorem dX6_taxOf_130 : decode cX6_taxOf 130 = .ok (.iload 6, 2) := by decide +kernel
theorem dX6_taxOf_132 : decode cX6_taxOf 132 = .ok (.ishl, 1) := by decide +kernel
theorem dX6_taxOf_133 : decode cX6_taxOf 133 = .ok (.ior, 1) := by decide +kernel
theorem dX6_taxOf_134 : decode cX6_taxOf 134 = .ok (.istore_n 3, 1) := by decide +kernel
theorem dX6_taxOf_135 : decode cX6_taxOf 135 = .ok (.iload 4, 2) := by decide +kernel
theorem dX6_taxOf_137 : decode cX6_taxOf 137 = .ok (.aload_n 0, 1) := by decide +kernel
theorem dX6_taxOf_138 : decode cX6_taxOf 138 = .ok (.iload 6, 2) := by decide +kernel
theorem dX6_taxOf_140 : decode cX6_taxOf 140 = .ok (.invokevirtual 116, 3) := by decide +kernel
theorem dX6_taxOf_143 : decode cX6_taxOf 143 = .ok (.iadd, 1) := by decide +kernel
theorem dX6_taxOf_144 : decode cX6_taxOf 144 = .ok (.istore 4, 2) := by decide +kernel
theorem dX6_taxOf_146 : decode cX6_taxOf 146 = .ok (.iinc 5 1, 3) := by decide +kernel
theorem dX6_taxOf_149 : decode cX6_taxOf 149 = .ok (.goto (-106), 3) := by decide +kernel
theorem dX6_taxOf_152 : decode cX6_taxOf 152 = .ok (.iload 4, 2) := by decide +kernel
theorem dX6_taxOf_154 : decode cX6_taxOf 154 = .ok (.ireturn, 1) := by decide +kernel
theorem dX6_turnedOf_0 : decode cX6_turnedOf 0 = .ok (.iconst 0, 1) := by decide +kernel
theorem dX6_turnedOf_1 : decode cX6_turnedOf 1 = .ok (.istore_n 2, 1) := by decide +kernel
theorem dX6_turnedOf_2 : decode cX6_turnedOf 2 = .ok (.iconst 0, 1) := by decide +kernel
theorem dX6_turnedOf_3 : decode cX6_turnedOf 3 = .ok (.istore_n 3, 1) := by decide +kernel
theorem dX6_turnedOf_4 : decode cX6_turnedOf 4 = .ok (.iload_n 3, 1) := by decide +kernel
theorem dX6_turnedOf_5 : decode cX6_turnedOf 5 = .ok (.aload_n 0, 1) := by decide +kernel
theorem dX6_turnedOf_6 : decode cX6_turnedOf 6 = .ok (.getfield 64, 3) := by decide +kernel
theorem dX6_turnedOf_9 : decode cX6_turnedOf 9 = .ok (.if_icmp .ge 36, 3) := by decide +kernel
theorem dX6_turnedOf_12 : decode cX6_turnedOf 12 = .ok (.iload_n 2, 1) := by decide +kernel
theorem dX6_turnedOf_13 : decode cX6_turnedOf 13 = .ok (.aload_n 0, 1) := by decide +kernel
theorem dX6_turnedOf_14 : decode cX6_turnedOf 14 = .ok (.iload_n 3, 1) := by decide +kernel
theorem dX6_turnedOf_15 : decode cX6_turnedOf 15 = .ok (.iload_n 1, 1) := by decide +kernel
theorem dX6_turnedOf_16 : decode cX6_turnedOf 16 = .ok (.invokevirtual 335, 3) := by decide +kernel
theorem dX6_turnedOf_19 : decode cX6_turnedOf 19 = .ok (.ifCond .eq 15, 3) := by decide +kernel
theorem dX6_turnedOf_22 : decode cX6_turnedOf 22 = .ok (.aload_n 0, 1) := by decide +kernel
theorem dX6_turnedOf_23 : decode cX6_turnedOf 23 = .ok (.iload_n 3, 1) := by decide +kernel
theorem dX6_turnedOf_24 : decode cX6_turnedOf 24 = .ok (.invokevirtual 113, 3) := by decide +kernel
theorem dX6_turnedOf_27 : decode cX6_turnedOf 27 = .ok (.ifCond .ne 7, 3) := by decide +kernel
theorem dX6_turnedOf_30 : decode cX6_turnedOf 30 = .ok (.iconst 1, 1) := by decide +kernel
theorem dX6_turnedOf_31 : decode cX6_turnedOf 31 = .ok (.goto 4, 3) := by decide +kernel
theorem dX6_turnedOf_34 : decode cX6_turnedOf 34 = .ok (.iconst 0, 1) := by decide +kernel
theorem dX6_turnedOf_35 : decode cX6_turnedOf 35 = .ok (.iload_n 3, 1) := by decide +kernel
theorem dX6_turnedOf_36 : decode cX6_turnedOf 36 = .ok (.ishl, 1) := by decide +kernel
theorem dX6_turnedOf_37 : decode cX6_turnedOf 37 = .ok (.ior, 1) := by decide +kernel
theorem dX6_turnedOf_38 : decode cX6_turnedOf 38 = .ok (.istore_n 2, 1) := by decide +kernel
theorem dX6_turnedOf_39 : decode cX6_turnedOf 39 = .ok (.iinc 3 1, 3) := by decide +kernel
theorem dX6_turnedOf_42 : decode cX6_turnedOf 42 = .ok (.goto (-38), 3) := by decide +kernel
theorem dX6_turnedOf_45 : decode cX6_turnedOf 45 = .ok (.iload_n 2, 1) := by decide +kernel
theorem dX6_turnedOf_46 : decode cX6_turnedOf 46 = .ok (.ireturn, 1) := by decide +kernel
theorem dX6_has_0 : decode cX6_has 0 = .ok (.iload_n 1, 1) := by decide +kernel
theorem dX6_has_1 : decode cX6_has 1 = .ok (.invokestatic 344, 3) := by decide +kernel
theorem dX6_has_4 : decode cX6_has 4 = .ok (.ifCond .eq 15, 3) := by decide +kernel
theorem dX6_has_7 : decode cX6_has 7 = .ok (.iload_n 2, 1) := by decide +kernel
theorem dX6_has_8 : decode cX6_has 8 = .ok (.i2l, 1) := by decide +kernel
theorem dX6_has_9 : decode cX6_has 9 = .ok (.lconst 0, 1) := by decide +kernel
theorem dX6_has_10 : decode cX6_has 10 = .ok (.ldc2_w 368, 3) := by decide +kernel
theorem dX6_has_13 : decode cX6_has 13 = .ok (.invokestatic 67, 3) := by decide +kernel
theorem dX6_has_16 : decode cX6_has 16 = .ok (.ifCond .ne 6, 3) := by decide +kernel
theorem dX6_has_19 : decode cX6_has 19 = .ok (.ldc 103, 2) := by decide +kernel
theorem dX6_has_21 : decode cX6_has 21 = .ok (.ireturn, 1) := by decide +kernel
theorem dX6_has_22 : decode cX6_has 22 = .ok (.iload_n 2, 1) := by decide +kernel
theorem dX6_has_23 : decode cX6_has 23 = .ok (.iconst 3, 1) := by decide +kernel
theorem dX6_has_24 : decode cX6_has 24 = .ok (.if_icmp .ge 38, 3) := by decide +kernel
theorem dX6_has_27 : decode cX6_has 27 = .ok (.iload_n 2, 1) := by decide +kernel
theorem dX6_has_28 : decode cX6_has 28 = .ok (.ifCond .ne 11, 3) := by decide +kernel
theorem dX6_has_31 : decode cX6_has 31 = .ok (.aload_n 0, 1) := by decide +kernel
theorem dX6_has_32 : decode cX6_has 32 = .ok (.iload_n 1, 1) := by decide +kernel
theorem dX6_has_33 : decode cX6_has 33 = .ok (.invokevirtual 370, 3) := by decide +kernel
theorem dX6_has_36 : decode cX6_has 36 = .ok (.goto 25, 3) := by decide +kernel
theorem dX6_has_39 : decode cX6_has 39 = .ok (.iload_n 2, 1) := by decide +kernel
theorem dX6_has_40 : decode cX6_has 40 = .ok (.iconst 1, 1) := by decide +kernel
theorem dX6_has_41 : decode cX6_has 41 = .ok (.if_icmp .ne 11, 3) := by decide +kernel
theorem dX6_has_44 : decode cX6_has 44 = .ok (.aload_n 0, 1) := by decide +kernel
theorem dX6_has_45 : decode cX6_has 45 = .ok (.iload_n 1, 1) := by decide +kernel
theorem dX6_has_46 : decode cX6_has 46 = .ok (.invokevirtual 359, 3) := by decide +kernel
theorem dX6_has_49 : decode cX6_has 49 = .ok (.goto 12, 3) := by decide +kernel
theorem dX6_has_52 : decode cX6_has 52 = .ok (.aload_n 0, 1) := by decide +kernel
theorem dX6_has_53 : decode cX6_has 53 = .ok (.aload_n 0, 1) := by decide +kernel
theorem dX6_has_54 : decode cX6_has 54 = .ok (.iload_n 1, 1) := by decide +kernel
theorem dX6_has_55 : decode cX6_has 55 = .ok (.invokevirtual 359, 3) := by decide +kernel
theorem dX6_has_58 : decode cX6_has 58 = .ok (.invokevirtual 373, 3) := by decide +kernel
theorem dX6_has_61 : decode cX6_has 61 = .ok (.ireturn, 1) := by decide +kernel
theorem dX6_has_62 : decode cX6_has 62 = .ok (.iload_n 2, 1) := by decide +kernel
theorem dX6_has_63 : decode cX6_has 63 = .ok (.iconst 3, 1) := by decide +kernel
theorem dX6_has_64 : decode cX6_has 64 = .ok (.if_icmp .ne 11, 3) := by decide +kernel
theorem dX6_has_67 : decode cX6_has 67 = .ok (.aload_n 0, 1) := by decide +kernel
theorem dX6_has_68 : decode cX6_has 68 = .ok (.iload_n 1, 1) := by decide +kernel
theorem dX6_has_69 : decode cX6_has 69 = .ok (.invokevirtual 376, 3) := by decide +kernel
theorem dX6_has_72 : decode cX6_has 72 = .ok (.goto 34, 3) := by decide +kernel
theorem dX6_has_75 : decode cX6_has 75 = .ok (.iload_n 2, 1) := by decide +kernel
theorem dX6_has_76 : decode cX6_has 76 = .ok (.iconst 4, 1) := by decide +kernel
theorem dX6_has_77 : decode cX6_has 77 = .ok (.if_icmp .ne 11, 3) := by decide +kernel
theorem dX6_has_80 : decode cX6_has 80 = .ok (.aload_n 0, 1) := by decide +kernel
theorem dX6_has_81 : decode cX6_has 81 = .ok (.iload_n 1, 1) := by decide +kernel
theorem dX6_has_82 : decode cX6_has 82 = .ok (.invokevirtual 379, 3) := by decide +kernel
theorem dX6_has_85 : decode cX6_has 85 = .ok (.goto 21, 3) := by decide +kernel
theorem dX6_has_88 : decode cX6_has 88 = .ok (.iload_n 2, 1) := by decide +kernel
theorem dX6_has_89 : decode cX6_has 89 = .ok (.iconst 5, 1) := by decide +kernel
theorem dX6_has_90 : decode cX6_has 90 = .ok (.if_icmp .ne 11, 3) := by decide +kernel
theorem dX6_has_93 : decode cX6_has 93 = .ok (.aload_n 0, 1) := by decide +kernel
theorem dX6_has_94 : decode cX6_has 94 = .ok (.iload_n 1, 1) := by decide +kernel
theorem dX6_has_95 : decode cX6_has 95 = .ok (.invokevirtual 382, 3) := by decide +kernel
theorem dX6_has_98 : decode cX6_has 98 = .ok (.goto 8, 3) := by decide +kernel
theorem dX6_has_101 : decode cX6_has 101 = .ok (.aload_n 0, 1) := by decide +kernel
theorem dX6_has_102 : decode cX6_has 102 = .ok (.iload_n 1, 1) := by decide +kernel
theorem dX6_has_103 : decode cX6_has 103 = .ok (.invokevirtual 385, 3) := by decide +kernel
theorem dX6_has_106 : decode cX6_has 106 = .ok (.ireturn, 1) := by decide +kernel
theorem dX6_run_0 : decode cX6_run 0 = .ok (.iload_n 1, 1) := by decide +kernel
theorem dX6_run_1 : decode cX6_run 1 = .ok (.invokestatic 344, 3) := by decide +kernel
theorem dX6_run_4 : decode cX6_run 4 = .ok (.ifCond .eq 25, 3) := by decide +kernel
theorem dX6_run_7 : decode cX6_run 7 = .ok (.iload_n 2, 1) := by decide +kernel
theorem dX6_run_8 : decode cX6_run 8 = .ok (.i2l, 1) := by decide +kernel
theorem dX6_run_9 : decode cX6_run 9 = .ok (.lconst 0, 1) := by decide +kernel
theorem dX6_run_10 : decode cX6_run 10 = .ok (.ldc2_w 388, 3) := by decide +kernel
theorem dX6_run_13 : decode cX6_run 13 = .ok (.invokestatic 67, 3) := by decide +kernel
theorem dX6_run_16 : decode cX6_run 16 = .ok (.ifCond .eq 13, 3) := by decide +kernel
theorem dX6_run_19 : decode cX6_run 19 = .ok (.iload_n 3, 1) := by decide +kernel
theorem dX6_run_20 : decode cX6_run 20 = .ok (.i2l, 1) := by decide +kernel
theorem dX6_run_21 : decode cX6_run 21 = .ok (.lconst 0, 1) := by decide +kernel
theorem dX6_run_22 : decode cX6_run 22 = .ok (.lconst 1, 1) := by decide +kernel
theorem dX6_run_23 : decode cX6_run 23 = .ok (.invokestatic 67, 3) := by decide +kernel
theorem dX6_run_26 : decode cX6_run 26 = .ok (.ifCond .ne 6, 3) := by decide +kernel
theorem dX6_run_29 : decode cX6_run 29 = .ok (.ldc 103, 2) := by decide +kernel
theorem dX6_run_31 : decode cX6_run 31 = .ok (.ireturn, 1) := by decide +kernel
theorem dX6_run_32 : decode cX6_run 32 = .ok (.aload_n 0, 1) := by decide +kernel
theorem dX6_run_33 : decode cX6_run 33 = .ok (.invokevirtual 362, 3) := by decide +kernel
theorem dX6_run_36 : decode cX6_run 36 = .ok (.iconst 0, 1) := by decide +kernel
theorem dX6_run_37 : decode cX6_run 37 = .ok (.istore 4, 2) := by decide +kernel
theorem dX6_run_39 : decode cX6_run 39 = .ok (.iload 4, 2) := by decide +kernel
theorem dX6_run_41 : decode cX6_run 41 = .ok (.iload_n 2, 1) := by decide +kernel
theorem dX6_run_42 : decode cX6_run 42 = .ok (.if_icmp .ge 14, 3) := by decide +kernel
theorem dX6_run_45 : decode cX6_run 45 = .ok (.aload_n 0, 1) := by decide +kernel
theorem dX6_run_46 : decode cX6_run 46 = .ok (.invokevirtual 341, 3) := by decide +kernel
theorem dX6_run_49 : decode cX6_run 49 = .ok (.pop, 1) := by decide +kernel
theorem dX6_run_50 : decode cX6_run 50 = .ok (.iinc 4 1, 3) := by decide +kernel
theorem dX6_run_53 : decode cX6_run 53 = .ok (.goto (-14), 3) := by decide +kernel
theorem dX6_run_56 : decode cX6_run 56 = .ok (.iload_n 3, 1) := by decide +kernel
theorem dX6_run_57 : decode cX6_run 57 = .ok (.ifCond .ne 11, 3) := by decide +kernel
theorem dX6_run_60 : decode cX6_run 60 = .ok (.aload_n 0, 1) := by decide +kernel
theorem dX6_run_61 : decode cX6_run 61 = .ok (.iload_n 1, 1) := by decide +kernel
theorem dX6_run_62 : decode cX6_run 62 = .ok (.invokevirtual 370, 3) := by decide +kernel
theorem dX6_run_65 : decode cX6_run 65 = .ok (.goto 11, 3) := by decide +kernel
theorem dX6_run_68 : decode cX6_run 68 = .ok (.aload_n 0, 1) := by decide +kernel
theorem dX6_run_69 : decode cX6_run 69 = .ok (.iload_n 1, 1) := by decide +kernel
theorem dX6_run_70 : decode cX6_run 70 = .ok (.invokevirtual 359, 3) := by decide +kernel
theorem dX6_run_73 : decode cX6_run 73 = .ok (.invokestatic 338, 3) := by decide +kernel
theorem dX6_run_76 : decode cX6_run 76 = .ok (.istore 4, 2) := by decide +kernel
theorem dX6_run_78 : decode cX6_run 78 = .ok (.aload_n 0, 1) := by decide +kernel
theorem dX6_run_79 : decode cX6_run 79 = .ok (.invokevirtual 365, 3) := by decide +kernel
theorem dX6_run_82 : decode cX6_run 82 = .ok (.iload 4, 2) := by decide +kernel
theorem dX6_run_84 : decode cX6_run 84 = .ok (.ireturn, 1) := by decide +kernel
theorem dX6_exactOf_0 : decode cX6_exactOf 0 = .ok (.aload_n 0, 1) := by decide +kernel
theorem dX6_exactOf_1 : decode cX6_exactOf 1 = .ok (.iload_n 1, 1) := by decide +kernel
theorem dX6_exactOf_2 : decode cX6_exactOf 2 = .ok (.invokevirtual 359, 3) := by decide +kernel
theorem dX6_exactOf_5 : decode cX6_exactOf 5 = .ok (.istore_n 3, 1) := by decide +kernel
theorem dX6_exactOf_6 : decode cX6_exactOf 6 = .ok (.iconst (-1), 1) := by decide +kernel
theorem dX6_exactOf_7 : decode cX6_exactOf 7 = .ok (.istore 4, 2) := by decide +kernel
theorem dX6_exactOf_9 : decode cX6_exactOf 9 = .ok (.iconst 0, 1) := by decide +kernel
theorem dX6_exactOf_10 : decode cX6_exactOf 10 = .ok (.istore 5, 2) := by decide +kernel
theorem dX6_exactOf_12 : decode cX6_exactOf 12 = .ok (.iload 5, 2) := by decide +kernel
theorem dX6_exactOf_14 : decode cX6_exactOf 14 = .ok (.iconst 1, 1) := by decide +kernel
theorem dX6_exactOf_15 : decode cX6_exactOf 15 = .ok (.aload_n 0, 1) := by decide +kernel
theorem dX6_exactOf_16 : decode cX6_exactOf 16 = .ok (.getfield 64, 3) := by decide +kernel
theorem dX6_exactOf_19 : decode cX6_exactOf 19 = .ok (.ishl, 1) := by decide +kernel
theorem dX6_exactOf_20 : decode cX6_exactOf 20 = .ok (.if_icmp .ge 63, 3) := by decide +kernel
theorem dX6_exactOf_23 : decode cX6_exactOf 23 = .ok (.iload 5, 2) := by decide +kernel
theorem dX6_exactOf_25 : decode cX6_exactOf 25 = .ok (.iload_n 3, 1) := by decide +kernel
theorem dX6_exactOf_26 : decode cX6_exactOf 26 = .ok (.iconst (-1), 1) := by decide +kernel
theorem dX6_exactOf_27 : decode cX6_exactOf 27 = .ok (.ixor, 1) := by decide +kernel
theorem dX6_exactOf_28 : decode cX6_exactOf 28 = .ok (.iand, 1) := by decide +kernel
theorem dX6_exactOf_29 : decode cX6_exactOf 29 = .ok (.ifCond .ne 17, 3) := by decide +kernel
theorem dX6_exactOf_32 : decode cX6_exactOf 32 = .ok (.aload_n 0, 1) := by decide +kernel
theorem dX6_exactOf_33 : decode cX6_exactOf 33 = .ok (.iload 5, 2) := by decide +kernel
theorem dX6_exactOf_35 : decode cX6_exactOf 35 = .ok (.invokevirtual 373, 3) := by decide +kernel
theorem dX6_exactOf_38 : decode cX6_exactOf 38 = .ok (.iload_n 2, 1) := by decide +kernel
theorem dX6_exactOf_39 : decode cX6_exactOf 39 = .ok (.if_icmp .ne 7, 3) := by decide +kernel
theorem dX6_exactOf_42 : decode cX6_exactOf 42 = .ok (.iconst 1, 1) := by decide +kernel
theorem dX6_exactOf_43 : decode cX6_exactOf 43 = .ok (.goto 4, 3) := by decide +kernel
theorem dX6_exactOf_46 : decode cX6_exactOf 46 = .ok (.iconst 0, 1) := by decide +kernel
theorem dX6_exactOf_47 : decode cX6_exactOf 47 = .ok (.istore 6, 2) := by decide +kernel
theorem dX6_exactOf_49 : decode cX6_exactOf 49 = .ok (.iload 6, 2) := by decide +kernel
theorem dX6_exactOf_51 : decode cX6_exactOf 51 = .ok (.ifCond .eq 26, 3) := by decide +kernel
theorem dX6_exactOf_54 : decode cX6_exactOf 54 = .ok (.iload 4, 2) := by decide +kernel
theorem dX6_exactOf_56 : decode cX6_exactOf 56 = .ok (.iconst (-1), 1) := by decide +kernel
theorem dX6_exactOf_57 : decode cX6_exactOf 57 = .ok (.if_icmp .eq 16, 3) := by decide +kernel
theorem dX6_exactOf_60 : decode cX6_exactOf 60 = .ok (.iload 5, 2) := by decide +kernel
theorem dX6_exactOf_62 : decode cX6_exactOf 62 = .ok (.invokestatic 338, 3) := by decide +kernel
theorem dX6_exactOf_65 : decode cX6_exactOf 65 = .ok (.iload 4, 2) := by decide +kernel
theorem dX6_exactOf_67 : decode cX6_exactOf 67 = .ok (.invokestatic 338, 3) := by decide +kernel
theorem dX6_exactOf_70 : decode cX6_exactOf 70 = .ok (.if_icmp .ge 7, 3) := by decide +kernel
theorem dX6_exactOf_73 : decode cX6_exactOf 73 = .ok (.iload 5, 2) := by decide +kernel
theorem dX6_exactOf_75 : decode cX6_exactOf 75 = .ok (.istore 4, 2) := by decide +kernel
theorem dX6_exactOf_77 : decode cX6_exactOf 77 = .ok (.iinc 5 1, 3) := by decide +kernel
theorem dX6_exactOf_80 : decode cX6_exactOf 80 = .ok (.goto (-68), 3) := by decide +kernel
theorem dX6_exactOf_83 : decode cX6_exactOf 83 = .ok (.iload 4, 2) := by decide +kernel
theorem dX6_exactOf_85 : decode cX6_exactOf 85 = .ok (.ireturn, 1) := by decide +kernel
theorem dX6_overOf_0 : decode cX6_overOf 0 = .ok (.aload_n 0, 1) := by decide +kernel
theorem dX6_overOf_1 : decode cX6_overOf 1 = .ok (.iload_n 1, 1) := by decide +kernel
theorem dX6_overOf_2 : decode cX6_overOf 2 = .ok (.invokevirtual 359, 3) := by decide +kernel
theorem dX6_overOf_5 : decode cX6_overOf 5 = .ok (.istore_n 3, 1) := by decide +kernel
theorem dX6_overOf_6 : decode cX6_overOf 6 = .ok (.iconst (-1), 1) := by decide +kernel
theorem dX6_overOf_7 : decode cX6_overOf 7 = .ok (.istore 4, 2) := by decide +kernel
theorem dX6_overOf_9 : decode cX6_overOf 9 = .ok (.iconst 0, 1) := by decide +kernel
theorem dX6_overOf_10 : decode cX6_overOf 10 = .ok (.istore 5, 2) := by decide +kernel
theorem dX6_overOf_12 : decode cX6_overOf 12 = .ok (.iconst 0, 1) := by decide +kernel
theorem dX6_overOf_13 : decode cX6_overOf 13 = .ok (.istore 6, 2) := by decide +kernel
theorem dX6_overOf_15 : decode cX6_overOf 15 = .ok (.iload 6, 2) := by decide +kernel
theorem dX6_overOf_17 : decode cX6_overOf 17 = .ok (.iconst 1, 1) := by decide +kernel
theorem dX6_overOf_18 : decode cX6_overOf 18 = .ok (.aload_n 0, 1) := by decide +kernel
theorem dX6_overOf_19 : decode cX6_overOf 19 = .ok (.getfield 64, 3) := by decide +kernel
theorem dX6_overOf_22 : decode cX6_overOf 22 = .ok (.ishl, 1) := by decide +kernel
theorem dX6_overOf_23 : decode cX6_overOf 23 = .ok (.if_icmp .ge 85, 3) := by decide +kernel
theorem dX6_overOf_26 : decode cX6_overOf 26 = .ok (.aload_n 0, 1) := by decide +kernel
theorem dX6_overOf_27 : decode cX6_overOf 27 = .ok (.iload 6, 2) := by decide +kernel
theorem dX6_overOf_29 : decode cX6_overOf 29 = .ok (.invokevirtual 373, 3) := by decide +kernel
theorem dX6_overOf_32 : decode cX6_overOf 32 = .ok (.istore 7, 2) := by decide +kernel
theorem dX6_overOf_34 : decode cX6_overOf 34 = .ok (.iload 6, 2) := by decide +kernel
theorem dX6_overOf_36 : decode cX6_overOf 36 = .ok (.iload_n 3, 1) := by decide +kernel
theorem dX6_overOf_37 : decode cX6_overOf 37 = .ok (.iconst (-1), 1) := by decide +kernel
theorem dX6_overOf_38 : decode cX6_overOf 38 = .ok (.ixor, 1) := by decide +kernel
theorem dX6_overOf_39 : decode cX6_overOf 39 = .ok (.iand, 1) := by decide +kernel
theorem dX6_overOf_40 : decode cX6_overOf 40 = .ok (.ifCond .ne 13, 3) := by decide +kernel
theorem dX6_overOf_43 : decode cX6_overOf 43 = .ok (.iload 7, 2) := by decide +kernel
theorem dX6_overOf_45 : decode cX6_overOf 45 = .ok (.iload_n 2, 1) := by decide +kernel
theorem dX6_overOf_46 : decode cX6_overOf 46 = .ok (.if_icmp .lt 7, 3) := by decide +kernel
theorem dX6_overOf_49 : decode cX6_overOf 49 = .ok (.iconst 1, 1) := by decide +kernel
theorem dX6_overOf_50 : decode cX6_overOf 50 = .ok (.goto 4, 3) := by decide +kernel
theorem dX6_overOf_53 : decode cX6_overOf 53 = .ok (.iconst 0, 1) := by decide +kernel
theorem dX6_overOf_54 : decode cX6_overOf 54 = .ok (.istore 8, 2) := by decide +kernel
theorem dX6_overOf_56 : decode cX6_overOf 56 = .ok (.iload 8, 2) := by decide +kernel
theorem dX6_overOf_58 : decode cX6_overOf 58 = .ok (.ifCond .eq 44, 3) := by decide +kernel
theorem dX6_overOf_61 : decode cX6_overOf 61 = .ok (.iload 4, 2) := by decide +kernel
theorem dX6_overOf_63 : decode cX6_overOf 63 = .ok (.iconst (-1), 1) := by decide +kernel
theorem dX6_overOf_64 : decode cX6_overOf 64 = .ok (.if_icmp .eq 30, 3) := by decide +kernel
theorem dX6_overOf_67 : decode cX6_overOf 67 = .ok (.iload 7, 2) := by decide +kernel
theorem dX6_overOf_69 : decode cX6_overOf 69 = .ok (.iload 5, 2) := by decide +kernel
theorem dX6_overOf_71 : decode cX6_overOf 71 = .ok (.if_icmp .lt 23, 3) := by decide +kernel
theorem dX6_overOf_74 : decode cX6_overOf 74 = .ok (.iload 7, 2) := by decide +kernel
theorem dX6_overOf_76 : decode cX6_overOf 76 = .ok (.iload 5, 2) := by decide +kernel
theorem dX6_overOf_78 : decode cX6_overOf 78 = .ok (.if_icmp .ne 24, 3) := by decide +kernel
theorem dX6_overOf_81 : decode cX6_overOf 81 = .ok (.iload 6, 2) := by decide +kernel
theorem dX6_overOf_83 : decode cX6_overOf 83 = .ok (.invokestatic 338, 3) := by decide +kernel
theorem dX6_overOf_86 : decode cX6_overOf 86 = .ok (.iload 4, 2) := by decide +kernel
theorem dX6_overOf_88 : decode cX6_overOf 88 = .ok (.invokestatic 338, 3) := by decide +kernel
theorem dX6_overOf_91 : decode cX6_overOf 91 = .ok (.if_icmp .ge 11, 3) := by decide +kernel
theorem dX6_overOf_94 : decode cX6_overOf 94 = .ok (.iload 6, 2) := by decide +kernel
theorem dX6_overOf_96 : decode cX6_overOf 96 = .ok (.istore 4, 2) := by decide +kernel
theorem dX6_overOf_98 : decode cX6_overOf 98 = .ok (.iload 7, 2) := by decide +kernel
theorem dX6_overOf_100 : decode cX6_overOf 100 = .ok (.istore 5, 2) := by decide +kernel
theorem dX6_overOf_102 : decode cX6_overOf 102 = .ok (.iinc 6 1, 3) := by decide +kernel
theorem dX6_overOf_105 : decode cX6_overOf 105 = .ok (.goto (-90), 3) := by decide +kernel
theorem dX6_overOf_108 : decode cX6_overOf 108 = .ok (.iload 4, 2) := by decide +kernel
theorem dX6_overOf_110 : decode cX6_overOf 110 = .ok (.ireturn, 1) := by decide +kernel
theorem dX6_exact_0 : decode cX6_exact 0 = .ok (.iload_n 1, 1) := by decide +kernel
theorem dX6_exact_1 : decode cX6_exact 1 = .ok (.invokestatic 344, 3) := by decide +kernel
theorem dX6_exact_4 : decode cX6_exact 4 = .ok (.ifCond .eq 27, 3) := by decide +kernel
theorem dX6_exact_7 : decode cX6_exact 7 = .ok (.iload_n 2, 1) := by decide +kernel
theorem dX6_exact_8 : decode cX6_exact 8 = .ok (.i2l, 1) := by decide +kernel
theorem dX6_exact_9 : decode cX6_exact 9 = .ok (.lconst 0, 1) := by decide +kernel
theorem dX6_exact_10 : decode cX6_exact 10 = .ok (.ldc2_w 351, 3) := by decide +kernel
theorem dX6_exact_13 : decode cX6_exact 13 = .ok (.invokestatic 67, 3) := by decide +kernel
theorem dX6_exact_16 : decode cX6_exact 16 = .ok (.ifCond .eq 15, 3) := by decide +kernel
theorem dX6_exact_19 : decode cX6_exact 19 = .ok (.iload_n 3, 1) := by decide +kernel
theorem dX6_exact_20 : decode cX6_exact 20 = .ok (.i2l, 1) := by decide +kernel
theorem dX6_exact_21 : decode cX6_exact 21 = .ok (.lconst 0, 1) := by decide +kernel
theorem dX6_exact_22 : decode cX6_exact 22 = .ok (.ldc2_w 71, 3) := by decide +kernel
theorem dX6_exact_25 : decode cX6_exact 25 = .ok (.invokestatic 67, 3) := by decide +kernel
theorem dX6_exact_28 : decode cX6_exact 28 = .ok (.ifCond .ne 6, 3) := by decide +kernel
theorem dX6_exact_31 : decode cX6_exact 31 = .ok (.bipush (-2), 2) := by decide +kernel
theorem dX6_exact_33 : decode cX6_exact 33 = .ok (.ireturn, 1) := by decide +kernel
theorem dX6_exact_34 : decode cX6_exact 34 = .ok (.iload_n 3, 1) := by decide +kernel
theorem dX6_exact_35 : decode cX6_exact 35 = .ok (.iconst 2, 1) := by decide +kernel
theorem dX6_exact_36 : decode cX6_exact 36 = .ok (.if_icmp .ge 12, 3) := by decide +kernel
theorem dX6_exact_39 : decode cX6_exact 39 = .ok (.aload_n 0, 1) := by decide +kernel
theorem dX6_exact_40 : decode cX6_exact 40 = .ok (.iload_n 1, 1) := by decide +kernel
theorem dX6_exact_41 : decode cX6_exact 41 = .ok (.iload_n 2, 1) := by decide +kernel
theorem dX6_exact_42 : decode cX6_exact 42 = .ok (.invokevirtual 353, 3) := by decide +kernel
theorem dX6_exact_45 : decode cX6_exact 45 = .ok (.goto 9, 3) := by decide +kernel
theorem dX6_exact_48 : decode cX6_exact 48 = .ok (.aload_n 0, 1) := by decide +kernel
theorem dX6_exact_49 : decode cX6_exact 49 = .ok (.iload_n 1, 1) := by decide +kernel
theorem dX6_exact_50 : decode cX6_exact 50 = .ok (.iload_n 2, 1) := by decide +kernel
theorem dX6_exact_51 : decode cX6_exact 51 = .ok (.invokevirtual 390, 3) := by decide +kernel
theorem dX6_exact_54 : decode cX6_exact 54 = .ok (.istore 4, 2) := by decide +kernel
theorem dX6_exact_56 : decode cX6_exact 56 = .ok (.iload 4, 2) := by decide +kernel
theorem dX6_exact_58 : decode cX6_exact 58 = .ok (.iconst (-1), 1) := by decide +kernel
theorem dX6_exact_59 : decode cX6_exact 59 = .ok (.if_icmp .eq 12, 3) := by decide +kernel
theorem dX6_exact_62 : decode cX6_exact 62 = .ok (.iload_n 3, 1) := by decide +kernel
theorem dX6_exact_63 : decode cX6_exact 63 = .ok (.ifCond .eq 8, 3) := by decide +kernel
theorem dX6_exact_66 : decode cX6_exact 66 = .ok (.iload_n 3, 1) := by decide +kernel
theorem dX6_exact_67 : decode cX6_exact 67 = .ok (.iconst 2, 1) := by decide +kernel
theorem dX6_exact_68 : decode cX6_exact 68 = .ok (.if_icmp .ne 8, 3) := by decide +kernel
theorem dX6_exact_71 : decode cX6_exact 71 = .ok (.iload 4, 2) := by decide +kernel
theorem dX6_exact_73 : decode cX6_exact 73 = .ok (.goto 22, 3) := by decide +kernel
theorem dX6_exact_76 : decode cX6_exact 76 = .ok (.iload_n 3, 1) := by decide +kernel
theorem dX6_exact_77 : decode cX6_exact 77 = .ok (.iconst 1, 1) := by decide +kernel
theorem dX6_exact_78 : decode cX6_exact 78 = .ok (.if_icmp .ne 11, 3) := by decide +kernel
theorem dX6_exact_81 : decode cX6_exact 81 = .ok (.iload 4, 2) := by decide +kernel
theorem dX6_exact_83 : decode cX6_exact 83 = .ok (.invokestatic 338, 3) := by decide +kernel
theorem dX6_exact_86 : decode cX6_exact 86 = .ok (.goto 9, 3) := by decide +kernel
theorem dX6_exact_89 : decode cX6_exact 89 = .ok (.aload_n 0, 1) := by decide +kernel
theorem dX6_exact_90 : decode cX6_exact 90 = .ok (.iload 4, 2) := by decide +kernel
theorem dX6_exact_92 : decode cX6_exact 92 = .ok (.invokevirtual 373, 3) := by decide +kernel
theorem dX6_exact_95 : decode cX6_exact 95 = .ok (.ireturn, 1) := by decide +kernel
theorem dX6_wise_0 : decode cX6_wise 0 = .ok (.iload_n 1, 1) := by decide +kernel
theorem dX6_wise_1 : decode cX6_wise 1 = .ok (.invokestatic 344, 3) := by decide +kernel
theorem dX6_wise_4 : decode cX6_wise 4 = .ok (.ifCond .eq 38, 3) := by decide +kernel
theorem dX6_wise_7 : decode cX6_wise 7 = .ok (.iload_n 2, 1) := by decide +kernel
theorem dX6_wise_8 : decode cX6_wise 8 = .ok (.i2l, 1) := by decide +kernel
theorem dX6_wise_9 : decode cX6_wise 9 = .ok (.lconst 0, 1) := by decide +kernel
theorem dX6_wise_10 : decode cX6_wise 10 = .ok (.ldc2_w 351, 3) := by decide +kernel
theorem dX6_wise_13 : decode cX6_wise 13 = .ok (.invokestatic 67, 3) := by decide +kernel
theorem dX6_wise_16 : decode cX6_wise 16 = .ok (.ifCond .eq 26, 3) := by decide +kernel
theorem dX6_wise_19 : decode cX6_wise 19 = .ok (.iload_n 3, 1) := by decide +kernel
theorem dX6_wise_20 : decode cX6_wise 20 = .ok (.i2l, 1) := by decide +kernel
theorem dX6_wise_21 : decode cX6_wise 21 = .ok (.lconst 0, 1) := by decide +kernel
theorem dX6_wise_22 : decode cX6_wise 22 = .ok (.ldc2_w 388, 3) := by decide +kernel
theorem dX6_wise_25 : decode cX6_wise 25 = .ok (.invokestatic 67, 3) := by decide +kernel
theorem dX6_wise_28 : decode cX6_wise 28 = .ok (.ifCond .eq 14, 3) := by decide +kernel
theorem dX6_wise_31 : decode cX6_wise 31 = .ok (.iload 4, 2) := by decide +kernel
theorem dX6_wise_33 : decode cX6_wise 33 = .ok (.i2l, 1) := by decide +kernel
theorem dX6_wise_34 : decode cX6_wise 34 = .ok (.lconst 0, 1) := by decide +kernel
theorem dX6_wise_35 : decode cX6_wise 35 = .ok (.lconst 1, 1) := by decide +kernel
theorem dX6_wise_36 : decode cX6_wise 36 = .ok (.invokestatic 67, 3) := by decide +kernel
theorem dX6_wise_39 : decode cX6_wise 39 = .ok (.ifCond .ne 6, 3) := by decide +kernel
theorem dX6_wise_42 : decode cX6_wise 42 = .ok (.bipush (-2), 2) := by decide +kernel
theorem dX6_wise_44 : decode cX6_wise 44 = .ok (.ireturn, 1) := by decide +kernel
theorem dX6_wise_45 : decode cX6_wise 45 = .ok (.aload_n 0, 1) := by decide +kernel
theorem dX6_wise_46 : decode cX6_wise 46 = .ok (.iload_n 1, 1) := by decide +kernel
theorem dX6_wise_47 : decode cX6_wise 47 = .ok (.invokevirtual 359, 3) := by decide +kernel
theorem dX6_wise_50 : decode cX6_wise 50 = .ok (.istore 5, 2) := by decide +kernel
theorem dX6_wise_52 : decode cX6_wise 52 = .ok (.aload_n 0, 1) := by decide +kernel
theorem dX6_wise_53 : decode cX6_wise 53 = .ok (.invokevirtual 362, 3) := by decide +kernel
theorem dX6_wise_56 : decode cX6_wise 56 = .ok (.iconst 0, 1) := by decide +kernel
theorem dX6_wise_57 : decode cX6_wise 57 = .ok (.istore 6, 2) := by decide +kernel
theorem dX6_wise_59 : decode cX6_wise 59 = .ok (.iload 6, 2) := by decide +kernel
theorem dX6_wise_61 : decode cX6_wise 61 = .ok (.iload_n 3, 1) := by decide +kernel
theorem dX6_wise_62 : decode cX6_wise 62 = .ok (.if_icmp .ge 14, 3) := by decide +kernel
theorem dX6_wise_65 : decode cX6_wise 65 = .ok (.aload_n 0, 1) := by decide +kernel
theorem dX6_wise_66 : decode cX6_wise 66 = .ok (.invokevirtual 341, 3) := by decide +kernel
theorem dX6_wise_69 : decode cX6_wise 69 = .ok (.pop, 1) := by decide +kernel
theorem dX6_wise_70 : decode cX6_wise 70 = .ok (.iinc 6 1, 3) := by decide +kernel
theorem dX6_wise_73 : decode cX6_wise 73 = .ok (.goto (-14), 3) := by decide +kernel
theorem dX6_wise_76 : decode cX6_wise 76 = .ok (.iconst 0, 1) := by decide +kernel
theorem dX6_wise_77 : decode cX6_wise 77 = .ok (.istore 6, 2) := by decide +kernel
theorem dX6_wise_79 : decode cX6_wise 79 = .ok (.iload 6, 2) := by decide +kernel
theorem dX6_wise_81 : decode cX6_wise 81 = .ok (.aload_n 0, 1) := by decide +kernel
theorem dX6_wise_82 : decode cX6_wise 82 = .ok (.getfield 64, 3) := by decide +kernel
theorem dX6_wise_85 : decode cX6_wise 85 = .ok (.if_icmp .ge 36, 3) := by decide +kernel
theorem dX6_wise_88 : decode cX6_wise 88 = .ok (.aload_n 0, 1) := by decide +kernel
theorem dX6_wise_89 : decode cX6_wise 89 = .ok (.getfield 35, 3) := by decide +kernel
theorem dX6_wise_92 : decode cX6_wise 92 = .ok (.iload 6, 2) := by decide +kernel
theorem dX6_wise_94 : decode cX6_wise 94 = .ok (.aload_n 0, 1) := by decide +kernel
theorem dX6_wise_95 : decode cX6_wise 95 = .ok (.iload 6, 2) := by decide +kernel
theorem dX6_wise_97 : decode cX6_wise 97 = .ok (.iload_n 1, 1) := by decide +kernel
theorem dX6_wise_98 : decode cX6_wise 98 = .ok (.invokevirtual 335, 3) := by decide +kernel
theorem dX6_wise_101 : decode cX6_wise 101 = .ok (.ifCond .eq 12, 3) := by decide +kernel
theorem dX6_wise_104 : decode cX6_wise 104 = .ok (.aload_n 0, 1) := by decide +kernel
theorem dX6_wise_105 : decode cX6_wise 105 = .ok (.iload 6, 2) := by decide +kernel
theorem dX6_wise_107 : decode cX6_wise 107 = .ok (.invokevirtual 116, 3) := by decide +kernel
theorem dX6_wise_110 : decode cX6_wise 110 = .ok (.goto 4, 3) := by decide +kernel
theorem dX6_wise_113 : decode cX6_wise 113 = .ok (.iconst 0, 1) := by decide +kernel
theorem dX6_wise_114 : decode cX6_wise 114 = .ok (.iastore, 1) := by decide +kernel
theorem dX6_wise_115 : decode cX6_wise 115 = .ok (.iinc 6 1, 3) := by decide +kernel
theorem dX6_wise_118 : decode cX6_wise 118 = .ok (.goto (-39), 3) := by decide +kernel
theorem dX6_wise_121 : decode cX6_wise 121 = .ok (.aload_n 0, 1) := by decide +kernel
theorem dX6_wise_122 : decode cX6_wise 122 = .ok (.invokevirtual 365, 3) := by decide +kernel
theorem dX6_wise_125 : decode cX6_wise 125 = .ok (.iconst (-1), 1) := by decide +kernel
theorem dX6_wise_126 : decode cX6_wise 126 = .ok (.istore 6, 2) := by decide +kernel
theorem dX6_wise_128 : decode cX6_wise 128 = .ok (.ldc 103, 2) := by decide +kernel
theorem dX6_wise_130 : decode cX6_wise 130 = .ok (.istore 7, 2) := by decide +kernel
theorem dX6_wise_132 : decode cX6_wise 132 = .ok (.iconst 0, 1) := by decide +kernel
theorem dX6_wise_133 : decode cX6_wise 133 = .ok (.istore 8, 2) := by decide +kernel
theorem dX6_wise_135 : decode cX6_wise 135 = .ok (.iload 8, 2) := by decide +kernel
theorem dX6_wise_137 : decode cX6_wise 137 = .ok (.iconst 1, 1) := by decide +kernel
theorem dX6_wise_138 : decode cX6_wise 138 = .ok (.aload_n 0, 1) := by decide +kernel
theorem dX6_wise_139 : decode cX6_wise 139 = .ok (.getfield 64, 3) := by decide +kernel
theorem dX6_wise_142 : decode cX6_wise 142 = .ok (.ishl, 1) := by decide +kernel
theorem dX6_wise_143 : decode cX6_wise 143 = .ok (.if_icmp .ge 110, 3) := by decide +kernel
theorem dX6_wise_146 : decode cX6_wise 146 = .ok (.iconst 0, 1) := by decide +kernel
theorem dX6_wise_147 : decode cX6_wise 147 = .ok (.istore 9, 2) := by decide +kernel
theorem dX6_wise_149 : decode cX6_wise 149 = .ok (.iconst 0, 1) := by decide +kernel
theorem dX6_wise_150 : decode cX6_wise 150 = .ok (.istore 10, 2) := by decide +kernel
theorem dX6_wise_152 : decode cX6_wise 152 = .ok (.iload 10, 2) := by decide +kernel
theorem dX6_wise_154 : decode cX6_wise 154 = .ok (.aload_n 0, 1) := by decide +kernel
theorem dX6_wise_155 : decode cX6_wise 155 = .ok (.getfield 64, 3) := by decide +kernel
theorem dX6_wise_158 : decode cX6_wise 158 = .ok (.if_icmp .ge 36, 3) := by decide +kernel
theorem dX6_wise_161 : decode cX6_wise 161 = .ok (.iload 9, 2) := by decide +kernel
theorem dX6_wise_163 : decode cX6_wise 163 = .ok (.iload 8, 2) := by decide +kernel
theorem dX6_wise_165 : decode cX6_wise 165 = .ok (.iload 10, 2) := by decide +kernel
theorem dX6_wise_167 : decode cX6_wise 167 = .ok (.ishr, 1) := by decide +kernel
theorem dX6_wise_168 : decode cX6_wise 168 = .ok (.iconst 1, 1) := by decide +kernel
theorem dX6_wise_169 : decode cX6_wise 169 = .ok (.iand, 1) := by decide +kernel
theorem dX6_wise_170 : decode cX6_wise 170 = .ok (.iconst 1, 1) := by decide +kernel
theorem dX6_wise_171 : decode cX6_wise 171 = .ok (.if_icmp .ne 7, 3) := by decide +kernel
theorem dX6_wise_174 : decode cX6_wise 174 = .ok (.iconst 0, 1) := by decide +kernel
theorem dX6_wise_175 : decode cX6_wise 175 = .ok (.goto 10, 3) := by decide +kernel
theorem dX6_wise_178 : decode cX6_wise 178 = .ok (.aload_n 0, 1) := by decide +kernel
theorem dX6_wise_179 : decode cX6_wise 179 = .ok (.getfield 35, 3) := by decide +kernel
theorem dX6_wise_182 : decode cX6_wise 182 = .ok (.iload 10, 2) := by decide +kernel
theorem dX6_wise_184 : decode cX6_wise 184 = .ok (.iaload, 1) := by decide +kernel
theorem dX6_wise_185 : decode cX6_wise 185 = .ok (.iadd, 1) := by decide +kernel
theorem dX6_wise_186 : decode cX6_wise 186 = .ok (.istore 9, 2) := by decide +kernel
theorem dX6_wise_188 : decode cX6_wise 188 = .ok (.iinc 10 1, 3) := by decide +kernel
theorem dX6_wise_191 : decode cX6_wise 191 = .ok (.goto (-39), 3) := by decide +kernel
theorem dX6_wise_194 : decode cX6_wise 194 = .ok (.iload 8, 2) := by decide +kernel
theorem dX6_wise_196 : decode cX6_wise 196 = .ok (.iload 5, 2) := by decide +kernel
theorem dX6_wise_198 : decode cX6_wise 198 = .ok (.iconst (-1), 1) := by decide +kernel
theorem dX6_wise_199 : decode cX6_wise 199 = .ok (.ixor, 1) := by decide +kernel
theorem dX6_wise_200 : decode cX6_wise 200 = .ok (.iand, 1) := by decide +kernel
theorem dX6_wise_201 : decode cX6_wise 201 = .ok (.ifCond .ne 17, 3) := by decide +kernel
theorem dX6_wise_204 : decode cX6_wise 204 = .ok (.aload_n 0, 1) := by decide +kernel
theorem dX6_wise_205 : decode cX6_wise 205 = .ok (.iload 8, 2) := by decide +kernel
theorem dX6_wise_207 : decode cX6_wise 207 = .ok (.invokevirtual 373, 3) := by decide +kernel
theorem dX6_wise_210 : decode cX6_wise 210 = .ok (.iload_n 2, 1) := by decide +kernel
theorem dX6_wise_211 : decode cX6_wise 211 = .ok (.if_icmp .lt 7, 3) := by decide +kernel
theorem dX6_wise_214 : decode cX6_wise 214 = .ok (.iconst 1, 1) := by decide +kernel
theorem dX6_wise_215 : decode cX6_wise 215 = .ok (.goto 4, 3) := by decide +kernel
theorem dX6_wise_218 : decode cX6_wise 218 = .ok (.iconst 0, 1) := by decide +kernel
theorem dX6_wise_219 : decode cX6_wise 219 = .ok (.istore 10, 2) := by decide +kernel
theorem dX6_wise_221 : decode cX6_wise 221 = .ok (.iload 10, 2) := by decide +kernel
theorem dX6_wise_223 : decode cX6_wise 223 = .ok (.ifCond .eq 24, 3) := by decide +kernel
theorem dX6_wise_226 : decode cX6_wise 226 = .ok (.iload 6, 2) := by decide +kernel
theorem dX6_wise_228 : decode cX6_wise 228 = .ok (.iconst (-1), 1) := by decide +kernel
theorem dX6_wise_229 : decode cX6_wise 229 = .ok (.if_icmp .eq 10, 3) := by decide +kernel
theorem dX6_wise_232 : decode cX6_wise 232 = .ok (.iload 9, 2) := by decide +kernel
theorem dX6_wise_234 : decode cX6_wise 234 = .ok (.iload 7, 2) := by decide +kernel
theorem dX6_wise_236 : decode cX6_wise 236 = .ok (.if_icmp .le 11, 3) := by decide +kernel
theorem dX6_wise_239 : decode cX6_wise 239 = .ok (.iload 8, 2) := by decide +kernel
theorem dX6_wise_241 : decode cX6_wise 241 = .ok (.istore 6, 2) := by decide +kernel
theorem dX6_wise_243 : decode cX6_wise 243 = .ok (.iload 9, 2) := by decide +kernel
theorem dX6_wise_245 : decode cX6_wise 245 = .ok (.istore 7, 2) := by decide +kernel
theorem dX6_wise_247 : decode cX6_wise 247 = .ok (.iinc 8 1, 3) := by decide +kernel
theorem dX6_wise_250 : decode cX6_wise 250 = .ok (.goto (-115), 3) := by decide +kernel
theorem dX6_wise_253 : decode cX6_wise 253 = .ok (.iload 4, 2) := by decide +kernel
theorem dX6_wise_255 : decode cX6_wise 255 = .ok (.ifCond .ne 8, 3) := by decide +kernel
theorem dX6_wise_258 : decode cX6_wise 258 = .ok (.iload 6, 2) := by decide +kernel
theorem dX6_wise_260 : decode cX6_wise 260 = .ok (.goto 5, 3) := by decide +kernel
theorem dX6_wise_263 : decode cX6_wise 263 = .ok (.iload 7, 2) := by decide +kernel
theorem dX6_wise_265 : decode cX6_wise 265 = .ok (.ireturn, 1) := by decide +kernel
theorem dX6_bothBehind_0 : decode cX6_bothBehind 0 = .ok (.iconst 0, 1) := by decide +kernel
theorem dX6_bothBehind_1 : decode cX6_bothBehind 1 = .ok (.istore_n 3, 1) := by decide +kernel
theorem dX6_bothBehind_2 : decode cX6_bothBehind 2 = .ok (.iload_n 3, 1) := by decide +kernel
theorem dX6_bothBehind_3 : decode cX6_bothBehind 3 = .ok (.bipush 10, 2) := by decide +kernel
theorem dX6_bothBehind_5 : decode cX6_bothBehind 5 = .ok (.if_icmp .ge 14, 3) := by decide +kernel
theorem dX6_bothBehind_8 : decode cX6_bothBehind 8 = .ok (.aload_n 0, 1) := by decide +kernel
theorem dX6_bothBehind_9 : decode cX6_bothBehind 9 = .ok (.invokevirtual 341, 3) := by decide +kernel
theorem dX6_bothBehind_12 : decode cX6_bothBehind 12 = .ok (.pop, 1) := by decide +kernel
theorem dX6_bothBehind_13 : decode cX6_bothBehind 13 = .ok (.iinc 3 1, 3) := by decide +kernel
theorem dX6_bothBehind_16 : decode cX6_bothBehind 16 = .ok (.goto (-14), 3) := by decide +kernel
theorem dX6_bothBehind_19 : decode cX6_bothBehind 19 = .ok (.aload_n 0, 1) := by decide +kernel
theorem dX6_bothBehind_20 : decode cX6_bothBehind 20 = .ok (.iload_n 1, 1) := by decide +kernel
theorem dX6_bothBehind_21 : decode cX6_bothBehind 21 = .ok (.invokevirtual 370, 3) := by decide +kernel
theorem dX6_bothBehind_24 : decode cX6_bothBehind 24 = .ok (.aload_n 0, 1) := by decide +kernel
theorem dX6_bothBehind_25 : decode cX6_bothBehind 25 = .ok (.iload_n 2, 1) := by decide +kernel
theorem dX6_bothBehind_26 : decode cX6_bothBehind 26 = .ok (.invokevirtual 370, 3) := by decide +kernel
theorem dX6_bothBehind_29 : decode cX6_bothBehind 29 = .ok (.iadd, 1) := by decide +kernel
theorem dX6_bothBehind_30 : decode cX6_bothBehind 30 = .ok (.ireturn, 1) := by decide +kernel
theorem dX6_change_0 : decode cX6_change 0 = .ok (.iload_n 1, 1) := by decide +kernel
theorem dX6_change_1 : decode cX6_change 1 = .ok (.invokestatic 344, 3) := by decide +kernel
theorem dX6_change_4 : decode cX6_change 4 = .ok (.ifCond .eq 25, 3) := by decide +kernel
theorem dX6_change_7 : decode cX6_change 7 = .ok (.iload_n 2, 1) := by decide +kernel
theorem dX6_change_8 : decode cX6_change 8 = .ok (.invokestatic 344, 3) := by decide +kernel
theorem dX6_change_11 : decode cX6_change 11 = .ok (.ifCond .eq 18, 3) := by decide +kernel
theorem dX6_change_14 : decode cX6_change 14 = .ok (.iload_n 1, 1) := by decide +kernel
theorem dX6_change_15 : decode cX6_change 15 = .ok (.iload_n 2, 1) := by decide +kernel
theorem dX6_change_16 : decode cX6_change 16 = .ok (.if_icmp .eq 13, 3) := by decide +kernel
theorem dX6_change_19 : decode cX6_change 19 = .ok (.iload_n 3, 1) := by decide +kernel
theorem dX6_change_20 : decode cX6_change 20 = .ok (.i2l, 1) := by decide +kernel
theorem dX6_change_21 : decode cX6_change 21 = .ok (.lconst 0, 1) := by decide +kernel
theorem dX6_change_22 : decode cX6_change 22 = .ok (.lconst 1, 1) := by decide +kernel
theorem dX6_change_23 : decode cX6_change 23 = .ok (.invokestatic 67, 3) := by decide +kernel
theorem dX6_change_26 : decode cX6_change 26 = .ok (.ifCond .ne 6, 3) := by decide +kernel
theorem dX6_change_29 : decode cX6_change 29 = .ok (.ldc 103, 2) := by decide +kernel
theorem dX6_change_31 : decode cX6_change 31 = .ok (.ireturn, 1) := by decide +kernel
theorem dX6_change_32 : decode cX6_change 32 = .ok (.aload_n 0, 1) := by decide +kernel
theorem dX6_change_33 : decode cX6_change 33 = .ok (.iload_n 1, 1) := by decide +kernel
theorem dX6_change_34 : decode cX6_change 34 = .ok (.invokevirtual 359, 3) := by decide +kernel
theorem dX6_change_37 : decode cX6_change 37 = .ok (.istore 4, 2) := by decide +kernel
theorem dX6_change_39 : decode cX6_change 39 = .ok (.aload_n 0, 1) := by decide +kernel
theorem dX6_change_40 : decode cX6_change 40 = .ok (.iload_n 2, 1) := by decide +kernel
theorem dX6_change_41 : decode cX6_change 41 = .ok (.invokevirtual 359, 3) := by decide +kernel
theorem dX6_change_44 : decode cX6_change 44 = .ok (.istore 5, 2) := by decide +kernel
theorem dX6_change_46 : decode cX6_change 46 = .ok (.aload_n 0, 1) := by decide +kernel
theorem dX6_change_47 : decode cX6_change 47 = .ok (.invokevirtual 362, 3) := by decide +kernel
theorem dX6_change_50 : decode cX6_change 50 = .ok (.iconst (-1), 1) := by decide +kernel
theorem dX6_change_51 : decode cX6_change 51 = .ok (.istore 6, 2) := by decide +kernel
theorem dX6_change_53 : decode cX6_change 53 = .ok (.aload_n 0, 1) := by decide +kernel
theorem dX6_change_54 : decode cX6_change 54 = .ok (.iload_n 1, 1) := by decide +kernel
theorem dX6_change_55 : decode cX6_change 55 = .ok (.iload_n 2, 1) := by decide +kernel
theorem dX6_change_56 : decode cX6_change 56 = .ok (.invokevirtual 393, 3) := by decide +kernel
theorem dX6_change_59 : decode cX6_change 59 = .ok (.istore 7, 2) := by decide +kernel
theorem dX6_change_61 : decode cX6_change 61 = .ok (.aload_n 0, 1) := by decide +kernel
theorem dX6_change_62 : decode cX6_change 62 = .ok (.invokevirtual 365, 3) := by decide +kernel
theorem dX6_change_65 : decode cX6_change 65 = .ok (.iconst 0, 1) := by decide +kernel
theorem dX6_change_66 : decode cX6_change 66 = .ok (.istore 8, 2) := by decide +kernel
theorem dX6_change_68 : decode cX6_change 68 = .ok (.iload 8, 2) := by decide +kernel
theorem dX6_change_70 : decode cX6_change 70 = .ok (.bipush 64, 2) := by decide +kernel
theorem dX6_change_72 : decode cX6_change 72 = .ok (.if_icmp .ge 92, 3) := by decide +kernel
theorem dX6_change_75 : decode cX6_change 75 = .ok (.iload 8, 2) := by decide +kernel
theorem dX6_change_77 : decode cX6_change 77 = .ok (.bipush 8, 2) := by decide +kernel
theorem dX6_change_79 : decode cX6_change 79 = .ok (.idiv, 1) := by decide +kernel
theorem dX6_change_80 : decode cX6_change 80 = .ok (.istore 9, 2) := by decide +kernel
theorem dX6_change_82 : decode cX6_change 82 = .ok (.iload 8, 2) := by decide +kernel
theorem dX6_change_84 : decode cX6_change 84 = .ok (.bipush 8, 2) := by decide +kernel
theorem dX6_change_86 : decode cX6_change 86 = .ok (.irem, 1) := by decide +kernel
theorem dX6_change_87 : decode cX6_change 87 = .ok (.istore 10, 2) := by decide +kernel
theorem dX6_change_89 : decode cX6_change 89 = .ok (.iload 4, 2) := by decide +kernel
theorem dX6_change_91 : decode cX6_change 91 = .ok (.iload 9, 2) := by decide +kernel
theorem dX6_change_93 : decode cX6_change 93 = .ok (.ishr, 1) := by decide +kernel
theorem dX6_change_94 : decode cX6_change 94 = .ok (.iconst 1, 1) := by decide +kernel
theorem dX6_change_95 : decode cX6_change 95 = .ok (.iand, 1) := by decide +kernel
theorem dX6_change_96 : decode cX6_change 96 = .ok (.iconst 1, 1) := by decide +kernel
theorem dX6_change_97 : decode cX6_change 97 = .ok (.if_icmp .ne 61, 3) := by decide +kernel
theorem dX6_change_100 : decode cX6_change 100 = .ok (.iload 5, 2) := by decide +kernel
theorem dX6_change_102 : decode cX6_change 102 = .ok (.iload 10, 2) := by decide +kernel
theorem dX6_change_104 : decode cX6_change 104 = .ok (.ishr, 1) := by decide +kernel
theorem dX6_change_105 : decode cX6_change 105 = .ok (.iconst 1, 1) := by decide +kernel
theorem dX6_change_106 : decode cX6_change 106 = .ok (.iand, 1) := by decide +kernel
theorem dX6_change_107 : decode cX6_change 107 = .ok (.iconst 1, 1) := by decide +kernel
theorem dX6_change_108 : decode cX6_change 108 = .ok (.if_icmp .ne 50, 3) := by decide +kernel
theorem dX6_change_111 : decode cX6_change 111 = .ok (.aload_n 0, 1) := by decide +kernel
theorem dX6_change_112 : decode cX6_change 112 = .ok (.iload 9, 2) := by decide +kernel
theorem dX6_change_114 : decode cX6_change 114 = .ok (.iload_n 2, 1) := by decide +kernel
theorem dX6_change_115 : decode cX6_change 115 = .ok (.invokevirtual 347, 3) := by decide +kernel
theorem dX6_change_118 : decode cX6_change 118 = .ok (.aload_n 0, 1) := by decide +kernel
theorem dX6_change_119 : decode cX6_change 119 = .ok (.iload 10, 2) := by decide +kernel
theorem dX6_change_121 : decode cX6_change 121 = .ok (.iload_n 1, 1) := by decide +kernel
theorem dX6_change_122 : decode cX6_change 122 = .ok (.invokevirtual 347, 3) := by decide +kernel
theorem dX6_change_125 : decode cX6_change 125 = .ok (.aload_n 0, 1) := by decide +kernel
theorem dX6_change_126 : decode cX6_change 126 = .ok (.iload_n 1, 1) := by decide +kernel
theorem dX6_change_127 : decode cX6_change 127 = .ok (.iload_n 2, 1) := by decide +kernel
theorem dX6_change_128 : decode cX6_change 128 = .ok (.invokevirtual 393, 3) := by decide +kernel
theorem dX6_change_131 : decode cX6_change 131 = .ok (.istore 11, 2) := by decide +kernel
theorem dX6_change_133 : decode cX6_change 133 = .ok (.aload_n 0, 1) := by decide +kernel
theorem dX6_change_134 : decode cX6_change 134 = .ok (.invokevirtual 365, 3) := by decide +kernel
theorem dX6_change_137 : decode cX6_change 137 = .ok (.iload 11, 2) := by decide +kernel
theorem dX6_change_139 : decode cX6_change 139 = .ok (.iload 7, 2) := by decide +kernel
theorem dX6_change_141 : decode cX6_change 141 = .ok (.if_icmp .le 17, 3) := by decide +kernel
theorem dX6_change_144 : decode cX6_change 144 = .ok (.bipush 10, 2) := by decide +kernel
theorem dX6_change_146 : decode cX6_change 146 = .ok (.iload 9, 2) := by decide +kernel
theorem dX6_change_148 : decode cX6_change 148 = .ok (.imul, 1) := by decide +kernel
theorem dX6_change_149 : decode cX6_change 149 = .ok (.iload 10, 2) := by decide +kernel
theorem dX6_change_151 : decode cX6_change 151 = .ok (.iadd, 1) := by decide +kernel
theorem dX6_change_152 : decode cX6_change 152 = .ok (.istore 6, 2) := by decide +kernel
theorem dX6_change_154 : decode cX6_change 154 = .ok (.iload 11, 2) := by decide +kernel
theorem dX6_change_156 : decode cX6_change 156 = .ok (.istore 7, 2) := by decide +kernel
theorem dX6_change_158 : decode cX6_change 158 = .ok (.iinc 8 1, 3) := by decide +kernel
theorem dX6_change_161 : decode cX6_change 161 = .ok (.goto (-93), 3) := by decide +kernel
theorem dX6_change_164 : decode cX6_change 164 = .ok (.iload_n 3, 1) := by decide +kernel
theorem dX6_change_165 : decode cX6_change 165 = .ok (.ifCond .ne 8, 3) := by decide +kernel
theorem dX6_change_168 : decode cX6_change 168 = .ok (.iload 6, 2) := by decide +kernel
theorem dX6_change_170 : decode cX6_change 170 = .ok (.goto 5, 3) := by decide +kernel
theorem dX6_change_173 : decode cX6_change 173 = .ok (.iload 7, 2) := by decide +kernel
theorem dX6_change_175 : decode cX6_change 175 = .ok (.ireturn, 1) := by decide +kernel
theorem dX6_firstOther_0 : decode cX6_firstOther 0 = .ok (.aload_n 0, 1) := by decide +kernel
theorem dX6_firstOther_1 : decode cX6_firstOther 1 = .ok (.invokevirtual 362, 3) := by decide +kernel
theorem dX6_firstOther_4 : decode cX6_firstOther 4 = .ok (.iconst (-1), 1) := by decide +kernel
theorem dX6_firstOther_5 : decode cX6_firstOther 5 = .ok (.istore_n 3, 1) := by decide +kernel
theorem dX6_firstOther_6 : decode cX6_firstOther 6 = .ok (.iconst 0, 1) := by decide +kernel
theorem dX6_firstOther_7 : decode cX6_firstOther 7 = .ok (.istore 4, 2) := by decide +kernel
theorem dX6_firstOther_9 : decode cX6_firstOther 9 = .ok (.iload 4, 2) := by decide +kernel
theorem dX6_firstOther_11 : decode cX6_firstOther 11 = .ok (.aload_n 0, 1) := by decide +kernel
theorem dX6_firstOther_12 : decode cX6_firstOther 12 = .ok (.getfield 51, 3) := by decide +kernel
theorem dX6_firstOther_15 : decode cX6_firstOther 15 = .ok (.iload_n 1, 1) := by decide +kernel
theorem dX6_firstOther_16 : decode cX6_firstOther 16 = .ok (.iaload, 1) := by decide +kernel
theorem dX6_firstOther_17 : decode cX6_firstOther 17 = .ok (.if_icmp .ge 46, 3) := by decide +kernel
theorem dX6_firstOther_20 : decode cX6_firstOther 20 = .ok (.iload_n 3, 1) := by decide +kernel
theorem dX6_firstOther_21 : decode cX6_firstOther 21 = .ok (.iconst (-1), 1) := by decide +kernel
theorem dX6_firstOther_22 : decode cX6_firstOther 22 = .ok (.if_icmp .ne 41, 3) := by decide +kernel
theorem dX6_firstOther_25 : decode cX6_firstOther 25 = .ok (.aload_n 0, 1) := by decide +kernel
theorem dX6_firstOther_26 : decode cX6_firstOther 26 = .ok (.iload_n 2, 1) := by decide +kernel
theorem dX6_firstOther_27 : decode cX6_firstOther 27 = .ok (.invokevirtual 116, 3) := by decide +kernel
theorem dX6_firstOther_30 : decode cX6_firstOther 30 = .ok (.aload_n 0, 1) := by decide +kernel
theorem dX6_firstOther_31 : decode cX6_firstOther 31 = .ok (.getfield 54, 3) := by decide +kernel
theorem dX6_firstOther_34 : decode cX6_firstOther 34 = .ok (.bipush 40, 2) := by decide +kernel
theorem dX6_firstOther_36 : decode cX6_firstOther 36 = .ok (.iload_n 1, 1) := by decide +kernel
theorem dX6_firstOther_37 : decode cX6_firstOther 37 = .ok (.imul, 1) := by decide +kernel
theorem dX6_firstOther_38 : decode cX6_firstOther 38 = .ok (.iload 4, 2) := by decide +kernel
theorem dX6_firstOther_40 : decode cX6_firstOther 40 = .ok (.iadd, 1) := by decide +kernel
theorem dX6_firstOther_41 : decode cX6_firstOther 41 = .ok (.iaload, 1) := by decide +kernel
theorem dX6_firstOther_42 : decode cX6_firstOther 42 = .ok (.if_icmp .ne 7, 3) := by decide +kernel
theorem dX6_firstOther_45 : decode cX6_firstOther 45 = .ok (.iconst (-1), 1) := by decide +kernel
theorem dX6_firstOther_46 : decode cX6_firstOther 46 = .ok (.goto 5, 3) := by decide +kernel
theorem dX6_firstOther_49 : decode cX6_firstOther 49 = .ok (.iload 4, 2) := by decide +kernel
theorem dX6_firstOther_51 : decode cX6_firstOther 51 = .ok (.istore_n 3, 1) := by decide +kernel
theorem dX6_firstOther_52 : decode cX6_firstOther 52 = .ok (.aload_n 0, 1) := by decide +kernel
theorem dX6_firstOther_53 : decode cX6_firstOther 53 = .ok (.invokevirtual 341, 3) := by decide +kernel
theorem dX6_firstOther_56 : decode cX6_firstOther 56 = .ok (.pop, 1) := by decide +kernel
theorem dX6_firstOther_57 : decode cX6_firstOther 57 = .ok (.iinc 4 1, 3) := by decide +kernel
theorem dX6_firstOther_60 : decode cX6_firstOther 60 = .ok (.goto (-51), 3) := by decide +kernel
theorem dX6_firstOther_63 : decode cX6_firstOther 63 = .ok (.aload_n 0, 1) := by decide +kernel
theorem dX6_firstOther_64 : decode cX6_firstOther 64 = .ok (.invokevirtual 365, 3) := by decide +kernel
theorem dX6_firstOther_67 : decode cX6_firstOther 67 = .ok (.iload_n 3, 1) := by decide +kernel
theorem dX6_firstOther_68 : decode cX6_firstOther 68 = .ok (.ireturn, 1) := by decide +kernel
theorem dX6_likeSet_0 : decode cX6_likeSet 0 = .ok (.iconst 0, 1) := by decide +kernel
theorem dX6_likeSet_1 : decode cX6_likeSet 1 = .ok (.istore_n 2, 1) := by decide +kernel
theorem dX6_likeSet_2 : decode cX6_likeSet 2 = .ok (.iconst 0, 1) := by decide +kernel
theorem dX6_likeSet_3 : decode cX6_likeSet 3 = .ok (.istore_n 3, 1) := by decide +kernel
theorem dX6_likeSet_4 : decode cX6_likeSet 4 = .ok (.iload_n 3, 1) := by decide +kernel
theorem dX6_likeSet_5 : decode cX6_likeSet 5 = .ok (.aload_n 0, 1) := by decide +kernel
theorem dX6_likeSet_6 : decode cX6_likeSet 6 = .ok (.getfield 64, 3) := by decide +kernel
theorem dX6_likeSet_9 : decode cX6_likeSet 9 = .ok (.if_icmp .ge 29, 3) := by decide +kernel
theorem dX6_likeSet_12 : decode cX6_likeSet 12 = .ok (.iload_n 2, 1) := by decide +kernel
theorem dX6_likeSet_13 : decode cX6_likeSet 13 = .ok (.aload_n 0, 1) := by decide +kernel
theorem dX6_likeSet_14 : decode cX6_likeSet 14 = .ok (.iload_n 1, 1) := by decide +kernel
theorem dX6_likeSet_15 : decode cX6_likeSet 15 = .ok (.iload_n 3, 1) := by decide +kernel
theorem dX6_likeSet_16 : decode cX6_likeSet 16 = .ok (.invokevirtual 396, 3) := by decide +kernel
theorem dX6_likeSet_19 : decode cX6_likeSet 19 = .ok (.iconst (-1), 1) := by decide +kernel
theorem dX6_likeSet_20 : decode cX6_likeSet 20 = .ok (.if_icmp .ne 7, 3) := by decide +kernel
theorem dX6_likeSet_23 : decode cX6_likeSet 23 = .ok (.iconst 1, 1) := by decide +kernel
theorem dX6_likeSet_24 : decode cX6_likeSet 24 = .ok (.goto 4, 3) := by decide +kernel
theorem dX6_likeSet_27 : decode cX6_likeSet 27 = .ok (.iconst 0, 1) := by decide +kernel
theorem dX6_likeSet_28 : decode cX6_likeSet 28 = .ok (.iload_n 3, 1) := by decide +kernel
theorem dX6_likeSet_29 : decode cX6_likeSet 29 = .ok (.ishl, 1) := by decide +kernel
theorem dX6_likeSet_30 : decode cX6_likeSet 30 = .ok (.ior, 1) := by decide +kernel
theorem dX6_likeSet_31 : decode cX6_likeSet 31 = .ok (.istore_n 2, 1) := by decide +kernel
theorem dX6_likeSet_32 : decode cX6_likeSet 32 = .ok (.iinc 3 1, 3) := by decide +kernel
theorem dX6_likeSet_35 : decode cX6_likeSet 35 = .ok (.goto (-31), 3) := by decide +kernel
theorem dX6_likeSet_38 : decode cX6_likeSet 38 = .ok (.iload_n 2, 1) := by decide +kernel
theorem dX6_likeSet_39 : decode cX6_likeSet 39 = .ok (.ireturn, 1) := by decide +kernel
theorem dX6_tells_0 : decode cX6_tells 0 = .ok (.iload_n 1, 1) := by decide +kernel
theorem dX6_tells_1 : decode cX6_tells 1 = .ok (.invokestatic 399, 3) := by decide +kernel
theorem dX6_tells_4 : decode cX6_tells 4 = .ok (.ifCond .eq 23, 3) := by decide +kernel
theorem dX6_tells_7 : decode cX6_tells 7 = .ok (.aload_n 0, 1) := by decide +kernel
theorem dX6_tells_8 : decode cX6_tells 8 = .ok (.iload_n 2, 1) := by decide +kernel
theorem dX6_tells_9 : decode cX6_tells 9 = .ok (.invokevirtual 75, 3) := by decide +kernel
theorem dX6_tells_12 : decode cX6_tells 12 = .ok (.ifCond .eq 15, 3) := by decide +kernel
theorem dX6_tells_15 : decode cX6_tells 15 = .ok (.iload_n 3, 1) := by decide +kernel
theorem dX6_tells_16 : decode cX6_tells 16 = .ok (.i2l, 1) := by decide +kernel
theorem dX6_tells_17 : decode cX6_tells 17 = .ok (.lconst 0, 1) := by decide +kernel
theorem dX6_tells_18 : decode cX6_tells 18 = .ok (.ldc2_w 97, 3) := by decide +kernel
theorem dX6_tells_21 : decode cX6_tells 21 = .ok (.invokestatic 67, 3) := by decide +kernel
theorem dX6_tells_24 : decode cX6_tells 24 = .ok (.ifCond .ne 6, 3) := by decide +kernel
theorem dX6_tells_27 : decode cX6_tells 27 = .ok (.bipush (-2), 2) := by decide +kernel
theorem dX6_tells_29 : decode cX6_tells 29 = .ok (.ireturn, 1) := by decide +kernel
theorem dX6_tells_30 : decode cX6_tells 30 = .ok (.aload_n 0, 1) := by decide +kernel
theorem dX6_tells_31 : decode cX6_tells 31 = .ok (.getfield 44, 3) := by decide +kernel
theorem dX6_tells_34 : decode cX6_tells 34 = .ok (.iload_n 1, 1) := by decide +kernel
theorem dX6_tells_35 : decode cX6_tells 35 = .ok (.baload, 1) := by decide +kernel
theorem dX6_tells_36 : decode cX6_tells 36 = .ok (.ifCond .ne 6, 3) := by decide +kernel
theorem dX6_tells_39 : decode cX6_tells 39 = .ok (.bipush (-11), 2) := by decide +kernel
theorem dX6_tells_41 : decode cX6_tells 41 = .ok (.ireturn, 1) := by decide +kernel
theorem dX6_tells_42 : decode cX6_tells 42 = .ok (.iload_n 3, 1) := by decide +kernel
theorem dX6_tells_43 : decode cX6_tells 43 = .ok (.ifCond .eq 9, 3) := by decide +kernel
theorem dX6_tells_46 : decode cX6_tells 46 = .ok (.iload_n 3, 1) := by decide +kernel
theorem dX6_tells_47 : decode cX6_tells 47 = .ok (.bipush 9, 2) := by decide +kernel
theorem dX6_tells_49 : decode cX6_tells 49 = .ok (.if_icmp .ne 22, 3) := by decide +kernel
theorem dX6_tells_52 : decode cX6_tells 52 = .ok (.iload_n 3, 1) := by decide +kernel
theorem dX6_tells_53 : decode cX6_tells 53 = .ok (.ifCond .ne 12, 3) := by decide +kernel
theorem dX6_tells_56 : decode cX6_tells 56 = .ok (.aload_n 0, 1) := by decide +kernel
theorem dX6_tells_57 : decode cX6_tells 57 = .ok (.iload_n 1, 1) := by decide +kernel
theorem dX6_tells_58 : decode cX6_tells 58 = .ok (.iload_n 2, 1) := by decide +kernel
theorem dX6_tells_59 : decode cX6_tells 59 = .ok (.invokevirtual 396, 3) := by decide +kernel
theorem dX6_tells_62 : decode cX6_tells 62 = .ok (.goto 8, 3) := by decide +kernel
theorem dX6_tells_65 : decode cX6_tells 65 = .ok (.aload_n 0, 1) := by decide +kernel
theorem dX6_tells_66 : decode cX6_tells 66 = .ok (.iload_n 1, 1) := by decide +kernel
theorem dX6_tells_67 : decode cX6_tells 67 = .ok (.invokevirtual 402, 3) := by decide +kernel
theorem dX6_tells_70 : decode cX6_tells 70 = .ok (.ireturn, 1) := by decide +kernel
theorem dX6_tells_71 : decode cX6_tells 71 = .ok (.iload_n 3, 1) := by decide +kernel
theorem dX6_tells_72 : decode cX6_tells 72 = .ok (.iconst 1, 1) := by decide +kernel
theorem dX6_tells_73 : decode cX6_tells 73 = .ok (.if_icmp .ne 8, 3) := by decide +kernel
theorem dX6_tells_76 : decode cX6_tells 76 = .ok (.bipush 6, 2) := by decide +kernel
theorem dX6_tells_78 : decode cX6_tells 78 = .ok (.goto 43, 3) := by decide +kernel
theorem dX6_tells_81 : decode cX6_tells 81 = .ok (.iload_n 3, 1) := by decide +kernel
theorem dX6_tells_82 : decode cX6_tells 82 = .ok (.iconst 2, 1) := by decide +kernel
theorem dX6_tells_83 : decode cX6_tells 83 = .ok (.if_icmp .ne 7, 3) := by decide +kernel
theorem dX6_tells_86 : decode cX6_tells 86 = .ok (.iconst 1, 1) := by decide +kernel
theorem dX6_tells_87 : decode cX6_tells 87 = .ok (.goto 34, 3) := by decide +kernel
theorem dX6_tells_90 : decode cX6_tells 90 = .ok (.iload_n 3, 1) := by decide +kernel
theorem dX6_tells_91 : decode cX6_tells 91 = .ok (.iconst 3, 1) := by decide +kernel
theorem dX6_tells_92 : decode cX6_tells 92 = .ok (.if_icmp .ne 7, 3) := by decide +kernel
theorem dX6_tells_95 : decode cX6_tells 95 = .ok (.iconst 3, 1) := by decide +kernel
theorem dX6_tells_96 : decode cX6_tells 96 = .ok (.goto 25, 3) := by decide +kernel
theorem dX6_tells_99 : decode cX6_tells 99 = .ok (.iload_n 3, 1) := by decide +kernel
theorem dX6_tells_100 : decode cX6_tells 100 = .ok (.bipush 6, 2) := by decide +kernel
theorem dX6_tells_102 : decode cX6_tells 102 = .ok (.if_icmp .ge 7, 3) := by decide +kernel
theorem dX6_tells_105 : decode cX6_tells 105 = .ok (.iconst 4, 1) := by decide +kernel
theorem dX6_tells_106 : decode cX6_tells 106 = .ok (.goto 15, 3) := by decide +kernel
theorem dX6_tells_109 : decode cX6_tells 109 = .ok (.iload_n 3, 1) := by decide +kernel
theorem dX6_tells_110 : decode cX6_tells 110 = .ok (.bipush 8, 2) := by decide +kernel
theorem dX6_tells_112 : decode cX6_tells 112 = .ok (.if_icmp .ge 7, 3) := by decide +kernel
theorem dX6_tells_115 : decode cX6_tells 115 = .ok (.iconst 2, 1) := by decide +kernel
theorem dX6_tells_116 : decode cX6_tells 116 = .ok (.goto 5, 3) := by decide +kernel
theorem dX6_tells_119 : decode cX6_tells 119 = .ok (.bipush 7, 2) := by decide +kernel
theorem dX6_tells_121 : decode cX6_tells 121 = .ok (.istore 4, 2) := by decide +kernel
theorem dX6_tells_123 : decode cX6_tells 123 = .ok (.iload 4, 2) := by decide +kernel
theorem dX6_tells_125 : decode cX6_tells 125 = .ok (.bipush 7, 2) := by decide +kernel
theorem dX6_tells_127 : decode cX6_tells 127 = .ok (.if_icmp .ne 10, 3) := by decide +kernel
theorem dX6_tells_130 : decode cX6_tells 130 = .ok (.aload_n 0, 1) := by decide +kernel
theorem dX6_tells_131 : decode cX6_tells 131 = .ok (.getfield 94, 3) := by decide +kernel
theorem dX6_tells_134 : decode cX6_tells 134 = .ok (.goto 10, 3) := by decide +kernel
theorem dX6_tells_137 : decode cX6_tells 137 = .ok (.aload_n 0, 1) := by decide +kernel
theorem dX6_tells_138 : decode cX6_tells 138 = .ok (.iload_n 2, 1) := by decide +kernel
theorem dX6_tells_139 : decode cX6_tells 139 = .ok (.iload 4, 2) := by decide +kernel
theorem dX6_tells_141 : decode cX6_tells 141 = .ok (.invokevirtual 83, 3) := by decide +kernel
theorem dX6_tells_144 : decode cX6_tells 144 = .ok (.istore 5, 2) := by decide +kernel
theorem dX6_tells_146 : decode cX6_tells 146 = .ok (.iload 4, 2) := by decide +kernel
theorem dX6_tells_148 : decode cX6_tells 148 = .ok (.bipush 7, 2) := by decide +kernel
theorem dX6_tells_150 : decode cX6_tells 150 = .ok (.if_icmp .ne 12, 3) := by decide +kernel
theorem dX6_tells_153 : decode cX6_tells 153 = .ok (.aload_n 0, 1) := by decide +kernel
theorem dX6_tells_154 : decode cX6_tells 154 = .ok (.getfield 61, 3) := by decide +kernel
theorem dX6_tells_157 : decode cX6_tells 157 = .ok (.iconst 1, 1) := by decide +kernel
theorem dX6_tells_158 : decode cX6_tells 158 = .ok (.isub, 1) := by decide +kernel
theorem dX6_tells_159 : decode cX6_tells 159 = .ok (.goto 33, 3) := by decide +kernel
theorem dX6_tells_162 : decode cX6_tells 162 = .ok (.iload 4, 2) := by decide +kernel
theorem dX6_tells_164 : decode cX6_tells 164 = .ok (.bipush 6, 2) := by decide +kernel
theorem dX6_tells_166 : decode cX6_tells 166 = .ok (.if_icmp .ne 7, 3) := by decide +kernel
theorem dX6_tells_169 : decode cX6_tells 169 = .ok (.iconst 5, 1) := by decide +kernel
theorem dX6_tells_170 : decode cX6_tells 170 = .ok (.goto 22, 3) := by decide +kernel
theorem dX6_tells_173 : decode cX6_tells 173 = .ok (.iload 4, 2) := by decide +kernel
theorem dX6_tells_175 : decode cX6_tells 175 = .ok (.iconst 1, 1) := by decide +kernel
theorem dX6_tells_176 : decode cX6_tells 176 = .ok (.if_icmp .eq 9, 3) := by decide +kernel
theorem dX6_tells_179 : decode cX6_tells 179 = .ok (.iload 4, 2) := by decide +kernel
theorem dX6_tells_181 : decode cX6_tells 181 = .ok (.iconst 3, 1) := by decide +kernel
theorem dX6_tells_182 : decode cX6_tells 182 = .ok (.if_icmp .ne 8, 3) := by decide +kernel
theorem dX6_tells_185 : decode cX6_tells 185 = .ok (.bipush 9, 2) := by decide +kernel
theorem dX6_tells_187 : decode cX6_tells 187 = .ok (.goto 5, 3) := by decide +kernel
theorem dX6_tells_190 : decode cX6_tells 190 = .ok (.bipush 99, 2) := by decide +kernel
theorem dX6_tells_192 : decode cX6_tells 192 = .ok (.istore 6, 2) := by decide +kernel
theorem dX6_tells_194 : decode cX6_tells 194 = .ok (.iconst 0, 1) := by decide +kernel
theorem dX6_tells_195 : decode cX6_tells 195 = .ok (.istore 7, 2) := by decide +kernel
theorem dX6_tells_197 : decode cX6_tells 197 = .ok (.iconst 0, 1) := by decide +kernel
theorem dX6_tells_198 : decode cX6_tells 198 = .ok (.istore 8, 2) := by decide +kernel
theorem dX6_tells_200 : decode cX6_tells 200 = .ok (.iconst (-1), 1) := by decide +kernel
theorem dX6_tells_201 : decode cX6_tells 201 = .ok (.istore 9, 2) := by decide +kernel
theorem dX6_tells_203 : decode cX6_tells 203 = .ok (.iload 6, 2) := by decide +kernel
theorem dX6_tells_205 : decode cX6_tells 205 = .ok (.istore 10, 2) := by decide +kernel
theorem dX6_tells_207 : decode cX6_tells 207 = .ok (.iload 10, 2) := by decide +kernel
theorem dX6_tells_209 : decode cX6_tells 209 = .ok (.iload 4, 2) := by decide +kernel
theorem dX6_tells_211 : decode cX6_tells 211 = .ok (.iconst 2, 1) := by decide +kernel
theorem dX6_tells_212 : decode cX6_tells 212 = .ok (.if_icmp .ne 7, 3) := by decide +kernel
theorem dX6_tells_215 : decode cX6_tells 215 = .ok (.iconst 1, 1) := by decide +kernel
theorem dX6_tells_216 : decode cX6_tells 216 = .ok (.goto 4, 3) := by decide +kernel
theorem dX6_tells_219 : decode cX6_tells 219 = .ok (.iconst 0, 1) := by decide +kernel
theorem dX6_tells_220 : decode cX6_tells 220 = .ok (.if_icmp .lt 55, 3) := by decide +kernel
theorem dX6_tells_223 : decode cX6_tells 223 = .ok (.aload_n 0, 1) := by decide +kernel
theorem dX6_tells_224 : decode cX6_tells 224 = .ok (.iload 4, 2) := by decide +kernel
theorem dX6_tells_226 : decode cX6_tells 226 = .ok (.iload_n 2, 1) := by decide +kernel
theorem dX6_tells_227 : decode cX6_tells 227 = .ok (.iload 10, 2) := by decide +kernel
theorem dX6_tells_229 : decode cX6_tells 229 = .ok (.invokevirtual 87, 3) := by decide +kernel
theorem dX6_tells_232 : decode cX6_tells 232 = .ok (.aload_n 0, 1) := by decide +kernel
theorem dX6_tells_233 : decode cX6_tells 233 = .ok (.iload_n 1, 1) := by decide +kernel
theorem dX6_tells_234 : decode cX6_tells 234 = .ok (.iload_n 2, 1) := by decide +kernel
theorem dX6_tells_235 : decode cX6_tells 235 = .ok (.invokevirtual 396, 3) := by decide +kernel
theorem dX6_tells_238 : decode cX6_tells 238 = .ok (.iconst (-1), 1) := by decide +kernel
theorem dX6_tells_239 : decode cX6_tells 239 = .ok (.if_icmp .ne 30, 3) := by decide +kernel
theorem dX6_tells_242 : decode cX6_tells 242 = .ok (.iload 7, 2) := by decide +kernel
theorem dX6_tells_244 : decode cX6_tells 244 = .ok (.iload 10, 2) := by decide +kernel
theorem dX6_tells_246 : decode cX6_tells 246 = .ok (.bipush 10, 2) := by decide +kernel
theorem dX6_tells_248 : decode cX6_tells 248 = .ok (.if_icmp .ge 10, 3) := by decide +kernel
theorem dX6_tells_251 : decode cX6_tells 251 = .ok (.iconst 1, 1) := by decide +kernel
theorem dX6_tells_252 : decode cX6_tells 252 = .ok (.iload 10, 2) := by decide +kernel
theorem dX6_tells_254 : decode cX6_tells 254 = .ok (.ishl, 1) := by decide +kernel
theorem dX6_tells_255 : decode cX6_tells 255 = .ok (.goto 4, 3) := by decide +kernel
theorem dX6_tells_258 : decode cX6_tells 258 = .ok (.iconst 0, 1) := by decide +kernel
theorem dX6_tells_259 : decode cX6_tells 259 = .ok (.ior, 1) := by decide +kernel
theorem dX6_tells_260 : decode cX6_tells 260 = .ok (.istore 7, 2) := by decide +kernel
theorem dX6_tells_262 : decode cX6_tells 262 = .ok (.iinc 8 1, 3) := by decide +kernel
theorem dX6_tells_265 : decode cX6_tells 265 = .ok (.iload 10, 2) := by decide +kernel
theorem dX6_tells_267 : decode cX6_tells 267 = .ok (.istore 9, 2) := by decide +kernel
theorem dX6_tells_269 : decode cX6_tells 269 = .ok (.iinc 10 (-1), 3) := by decide +kernel
theorem dX6_tells_272 : decode cX6_tells 272 = .ok (.goto (-65), 3) := by decide +kernel
theorem dX6_tells_275 : decode cX6_tells 275 = .ok (.aload_n 0, 1) := by decide +kernel
theorem dX6_tells_276 : decode cX6_tells 276 = .ok (.iload 4, 2) := by decide +kernel
theorem dX6_tells_278 : decode cX6_tells 278 = .ok (.iload_n 2, 1) := by decide +kernel
theorem dX6_tells_279 : decode cX6_tells 279 = .ok (.iload 5, 2) := by decide +kernel
theorem dX6_tells_281 : decode cX6_tells 281 = .ok (.invokevirtual 87, 3) := by decide +kernel
theorem dX6_tells_284 : decode cX6_tells 284 = .ok (.iload_n 3, 1) := by decide +kernel
theorem dX6_tells_285 : decode cX6_tells 285 = .ok (.iconst 4, 1) := by decide +kernel
theorem dX6_tells_286 : decode cX6_tells 286 = .ok (.if_icmp .eq 9, 3) := by decide +kernel
theorem dX6_tells_289 : decode cX6_tells 289 = .ok (.iload_n 3, 1) := by decide +kernel
theorem dX6_tells_290 : decode cX6_tells 290 = .ok (.bipush 6, 2) := by decide +kernel
theorem dX6_tells_292 : decode cX6_tells 292 = .ok (.if_icmp .ne 8, 3) := by decide +kernel
theorem dX6_tells_295 : decode cX6_tells 295 = .ok (.iload 8, 2) := by decide +kernel
theorem dX6_tells_297 : decode cX6_tells 297 = .ok (.goto 21, 3) := by decide +kernel
theorem dX6_tells_300 : decode cX6_tells 300 = .ok (.iload_n 3, 1) := by decide +kernel
theorem dX6_tells_301 : decode cX6_tells 301 = .ok (.iconst 5, 1) := by decide +kernel
theorem dX6_tells_302 : decode cX6_tells 302 = .ok (.if_icmp .eq 9, 3) := by decide +kernel
theorem dX6_tells_305 : decode cX6_tells 305 = .ok (.iload_n 3, 1) := by decide +kernel
theorem dX6_tells_306 : decode cX6_tells 306 = .ok (.bipush 7, 2) := by decide +kernel
theorem dX6_tells_308 : decode cX6_tells 308 = .ok (.if_icmp .ne 8, 3) := by decide +kernel
theorem dX6_tells_311 : decode cX6_tells 311 = .ok (.iload 9, 2) := by decide +kernel
theorem dX6_tells_313 : decode cX6_tells 313 = .ok (.goto 5, 3) := by decide +kernel
theorem dX6_tells_316 : decode cX6_tells 316 = .ok (.iload 7, 2) := by decide +kernel
theorem dX6_tells_318 : decode cX6_tells 318 = .ok (.ireturn, 1) := by decide +kernel
theorem dX6_film_0 : decode cX6_film 0 = .ok (.iload_n 1, 1) := by decide +kernel
theorem dX6_film_1 : decode cX6_film 1 = .ok (.invokestatic 399, 3) := by decide +kernel
theorem dX6_film_4 : decode cX6_film 4 = .ok (.ifCond .eq 23, 3) := by decide +kernel
theorem dX6_film_7 : decode cX6_film 7 = .ok (.aload_n 0, 1) := by decide +kernel
theorem dX6_film_8 : decode cX6_film 8 = .ok (.iload_n 2, 1) := by decide +kernel
theorem dX6_film_9 : decode cX6_film 9 = .ok (.invokevirtual 75, 3) := by decide +kernel
theorem dX6_film_12 : decode cX6_film 12 = .ok (.ifCond .eq 15, 3) := by decide +kernel
theorem dX6_film_15 : decode cX6_film 15 = .ok (.iload_n 3, 1) := by decide +kernel
theorem dX6_film_16 : decode cX6_film 16 = .ok (.i2l, 1) := by decide +kernel
theorem dX6_film_17 : decode cX6_film 17 = .ok (.lconst 0, 1) := by decide +kernel
theorem dX6_film_18 : decode cX6_film 18 = .ok (.ldc2_w 388, 3) := by decide +kernel
theorem dX6_film_21 : decode cX6_film 21 = .ok (.invokestatic 67, 3) := by decide +kernel
theorem dX6_film_24 : decode cX6_film 24 = .ok (.ifCond .ne 6, 3) := by decide +kernel
theorem dX6_film_27 : decode cX6_film 27 = .ok (.bipush (-2), 2) := by decide +kernel
theorem dX6_film_29 : decode cX6_film 29 = .ok (.ireturn, 1) := by decide +kernel
theorem dX6_film_30 : decode cX6_film 30 = .ok (.aload_n 0, 1) := by decide +kernel
theorem dX6_film_31 : decode cX6_film 31 = .ok (.iload_n 1, 1) := by decide +kernel
theorem dX6_film_32 : decode cX6_film 32 = .ok (.iconst 2, 1) := by decide +kernel
theorem dX6_film_33 : decode cX6_film 33 = .ok (.iload_n 3, 1) := by decide +kernel
theorem dX6_film_34 : decode cX6_film 34 = .ok (.invokevirtual 405, 3) := by decide +kernel
theorem dX6_film_37 : decode cX6_film 37 = .ok (.pop, 1) := by decide +kernel
theorem dX6_film_38 : decode cX6_film 38 = .ok (.aload_n 0, 1) := by decide +kernel
theorem dX6_film_39 : decode cX6_film 39 = .ok (.invokevirtual 362, 3) := by decide +kernel
theorem dX6_film_42 : decode cX6_film 42 = .ok (.iconst 0, 1) := by decide +kernel
theorem dX6_film_43 : decode cX6_film 43 = .ok (.istore 4, 2) := by decide +kernel
theorem dX6_film_45 : decode cX6_film 45 = .ok (.iload 4, 2) := by decide +kernel
theorem dX6_film_47 : decode cX6_film 47 = .ok (.iload_n 3, 1) := by decide +kernel
theorem dX6_film_48 : decode cX6_film 48 = .ok (.if_icmp .ge 31, 3) := by decide +kernel
theorem dX6_film_51 : decode cX6_film 51 = .ok (.aload_n 0, 1) := by decide +kernel
theorem dX6_film_52 : decode cX6_film 52 = .ok (.getfield 54, 3) := by decide +kernel
theorem dX6_film_55 : decode cX6_film 55 = .ok (.bipush 40, 2) := by decide +kernel
theorem dX6_film_57 : decode cX6_film 57 = .ok (.iload_n 1, 1) := by decide +kernel
theorem dX6_film_58 : decode cX6_film 58 = .ok (.imul, 1) := by decide +kernel
theorem dX6_film_59 : decode cX6_film 59 = .ok (.iload 4, 2) := by decide +kernel
theorem dX6_film_61 : decode cX6_film 61 = .ok (.iadd, 1) := by decide +kernel
theorem dX6_film_62 : decode cX6_film 62 = .ok (.aload_n 0, 1) := by decide +kernel
theorem dX6_film_63 : decode cX6_film 63 = .ok (.iload_n 2, 1) := by decide +kernel
theorem dX6_film_64 : decode cX6_film 64 = .ok (.invokevirtual 116, 3) := by decide +kernel
theorem dX6_film_67 : decode cX6_film 67 = .ok (.iastore, 1) := by decide +kernel
theorem dX6_film_68 : decode cX6_film 68 = .ok (.aload_n 0, 1) := by decide +kernel
theorem dX6_film_69 : decode cX6_film 69 = .ok (.invokevirtual 341, 3) := by decide +kernel
theorem dX6_film_72 : decode cX6_film 72 = .ok (.pop, 1) := by decide +kernel
theorem dX6_film_73 : decode cX6_film 73 = .ok (.iinc 4 1, 3) := by decide +kernel
theorem dX6_film_76 : decode cX6_film 76 = .ok (.goto (-31), 3) := by decide +kernel
theorem dX6_film_79 : decode cX6_film 79 = .ok (.aload_n 0, 1) := by decide +kernel
theorem dX6_film_80 : decode cX6_film 80 = .ok (.invokevirtual 365, 3) := by decide +kernel
theorem dX6_film_83 : decode cX6_film 83 = .ok (.iload_n 3, 1) := by decide +kernel
theorem dX6_film_84 : decode cX6_film 84 = .ok (.ireturn, 1) := by decide +kernel
theorem dX6_draws_0 : decode cX6_draws 0 = .ok (.iload_n 1, 1) := by decide +kernel
theorem dX6_draws_1 : decode cX6_draws 1 = .ok (.istore_n 2, 1) := by decide +kernel
theorem dX6_draws_2 : decode cX6_draws 2 = .ok (.iconst 0, 1) := by decide +kernel
theorem dX6_draws_3 : decode cX6_draws 3 = .ok (.istore_n 3, 1) := by decide +kernel
theorem dX6_draws_4 : decode cX6_draws 4 = .ok (.iload_n 3, 1) := by decide +kernel
theorem dX6_draws_5 : decode cX6_draws 5 = .ok (.aload_n 0, 1) := by decide +kernel
theorem dX6_draws_6 : decode cX6_draws 6 = .ok (.getfield 64, 3) := by decide +kernel
theorem dX6_draws_9 : decode cX6_draws 9 = .ok (.if_icmp .ge 36, 3) := by decide +kernel
theorem dX6_draws_12 : decode cX6_draws 12 = .ok (.iload_n 2, 1) := by decide +kernel
theorem dX6_draws_13 : decode cX6_draws 13 = .ok (.ldc_w 408, 3) := by decide +kernel
theorem dX6_draws_16 : decode cX6_draws 16 = .ok (.imul, 1) := by decide +kernel
theorem dX6_draws_17 : decode cX6_draws 17 = .ok (.sipush 12345, 3) := by decide +kernel
theorem dX6_draws_20 : decode cX6_draws 20 = .ok (.iadd, 1) := by decide +kernel
theorem dX6_draws_21 : decode cX6_draws 21 = .ok (.istore_n 2, 1) := by decide +kernel
theorem dX6_draws_22 : decode cX6_draws 22 = .ok (.aload_n 0, 1) := by decide +kernel
theorem dX6_draws_23 : decode cX6_draws 23 = .ok (.getfield 26, 3) := by decide +kernel
theorem dX6_draws_26 : decode cX6_draws 26 = .ok (.iconst 5, 1) := by decide +kernel
theorem dX6_draws_27 : decode cX6_draws 27 = .ok (.iload_n 3, 1) := by decide +kernel
theorem dX6_draws_28 : decode cX6_draws 28 = .ok (.imul, 1) := by decide +kernel
theorem dX6_draws_29 : decode cX6_draws 29 = .ok (.iconst 3, 1) := by decide +kernel
theorem dX6_draws_30 : decode cX6_draws 30 = .ok (.iadd, 1) := by decide +kernel
theorem dX6_draws_31 : decode cX6_draws 31 = .ok (.iload_n 2, 1) := by decide +kernel
theorem dX6_draws_32 : decode cX6_draws 32 = .ok (.bipush 9, 2) := by decide +kernel
theorem dX6_draws_34 : decode cX6_draws 34 = .ok (.iushr, 1) := by decide +kernel
theorem dX6_draws_35 : decode cX6_draws 35 = .ok (.bipush 15, 2) := by decide +kernel
theorem dX6_draws_37 : decode cX6_draws 37 = .ok (.irem, 1) := by decide +kernel
theorem dX6_draws_38 : decode cX6_draws 38 = .ok (.iastore, 1) := by decide +kernel
theorem dX6_draws_39 : decode cX6_draws 39 = .ok (.iinc 3 1, 3) := by decide +kernel
theorem dX6_draws_42 : decode cX6_draws 42 = .ok (.goto (-38), 3) := by decide +kernel
theorem dX6_draws_45 : decode cX6_draws 45 = .ok (.return_, 1) := by decide +kernel
theorem dX6_drawn_0 : decode cX6_drawn 0 = .ok (.iload_n 2, 1) := by decide +kernel
theorem dX6_drawn_1 : decode cX6_drawn 1 = .ok (.invokestatic 344, 3) := by decide +kernel
theorem dX6_drawn_4 : decode cX6_drawn 4 = .ok (.ifCond .ne 6, 3) := by decide +kernel
theorem dX6_drawn_7 : decode cX6_drawn 7 = .ok (.ldc 103, 2) := by decide +kernel
theorem dX6_drawn_9 : decode cX6_drawn 9 = .ok (.ireturn, 1) := by decide +kernel
theorem dX6_drawn_10 : decode cX6_drawn 10 = .ok (.aload_n 0, 1) := by decide +kernel
theorem dX6_drawn_11 : decode cX6_drawn 11 = .ok (.invokevirtual 362, 3) := by decide +kernel
theorem dX6_drawn_14 : decode cX6_drawn 14 = .ok (.aload_n 0, 1) := by decide +kernel
theorem dX6_drawn_15 : decode cX6_drawn 15 = .ok (.iload_n 1, 1) := by decide +kernel
theorem dX6_drawn_16 : decode cX6_drawn 16 = .ok (.invokevirtual 409, 3) := by decide +kernel
theorem dX6_drawn_19 : decode cX6_drawn 19 = .ok (.aload_n 0, 1) := by decide +kernel
theorem dX6_drawn_20 : decode cX6_drawn 20 = .ok (.iload_n 2, 1) := by decide +kernel
theorem dX6_drawn_21 : decode cX6_drawn 21 = .ok (.invokevirtual 370, 3) := by decide +kernel
theorem dX6_drawn_24 : decode cX6_drawn 24 = .ok (.istore_n 3, 1) := by decide +kernel
theorem dX6_drawn_25 : decode cX6_drawn 25 = .ok (.aload_n 0, 1) := by decide +kernel
theorem dX6_drawn_26 : decode cX6_drawn 26 = .ok (.invokevirtual 365, 3) := by decide +kernel
theorem dX6_drawn_29 : decode cX6_drawn 29 = .ok (.iload_n 3, 1) := by decide +kernel
theorem dX6_drawn_30 : decode cX6_drawn 30 = .ok (.ireturn, 1) := by decide +kernel
theorem dX6_chance_0 : decode cX6_chance 0 = .ok (.iload_n 2, 1) := by decide +kernel
theorem dX6_chance_1 : decode cX6_chance 1 = .ok (.i2l, 1) := by decide +kernel
theorem dX6_chance_2 : decode cX6_chance 2 = .ok (.lconst 1, 1) := by decide +kernel
theorem dX6_chance_3 : decode cX6_chance 3 = .ok (.ldc2_w 413, 3) := by decide +kernel
theorem dX6_chance_6 : decode cX6_chance 6 = .ok (.invokestatic 67, 3) := by decide +kernel
theorem dX6_chance_9 : decode cX6_chance 9 = .ok (.ifCond .eq 34, 3) := by decide +kernel
theorem dX6_chance_12 : decode cX6_chance 12 = .ok (.iload_n 3, 1) := by decide +kernel
theorem dX6_chance_13 : decode cX6_chance 13 = .ok (.invokestatic 344, 3) := by decide +kernel
theorem dX6_chance_16 : decode cX6_chance 16 = .ok (.ifCond .eq 27, 3) := by decide +kernel
theorem dX6_chance_19 : decode cX6_chance 19 = .ok (.iload 4, 2) := by decide +kernel
theorem dX6_chance_21 : decode cX6_chance 21 = .ok (.i2l, 1) := by decide +kernel
theorem dX6_chance_22 : decode cX6_chance 22 = .ok (.lconst 0, 1) := by decide +kernel
theorem dX6_chance_23 : decode cX6_chance 23 = .ok (.ldc2_w 415, 3) := by decide +kernel
theorem dX6_chance_26 : decode cX6_chance 26 = .ok (.invokestatic 67, 3) := by decide +kernel
theorem dX6_chance_29 : decode cX6_chance 29 = .ok (.ifCond .eq 14, 3) := by decide +kernel
theorem dX6_chance_32 : decode cX6_chance 32 = .ok (.iload 5, 2) := by decide +kernel
theorem dX6_chance_34 : decode cX6_chance 34 = .ok (.i2l, 1) := by decide +kernel
theorem dX6_chance_35 : decode cX6_chance 35 = .ok (.lconst 0, 1) := by decide +kernel
theorem dX6_chance_36 : decode cX6_chance 36 = .ok (.lconst 1, 1) := by decide +kernel
theorem dX6_chance_37 : decode cX6_chance 37 = .ok (.invokestatic 67, 3) := by decide +kernel
theorem dX6_chance_40 : decode cX6_chance 40 = .ok (.ifCond .ne 7, 3) := by decide +kernel
theorem dX6_chance_43 : decode cX6_chance 43 = .ok (.ldc2_w 417, 3) := by decide +kernel
theorem dX6_chance_46 : decode cX6_chance 46 = .ok (.lreturn, 1) := by decide +kernel
theorem dX6_chance_47 : decode cX6_chance 47 = .ok (.lconst 0, 1) := by decide +kernel
theorem dX6_chance_48 : decode cX6_chance 48 = .ok (.lstore 6, 2) := by decide +kernel
theorem dX6_chance_50 : decode cX6_chance 50 = .ok (.aload_n 0, 1) := by decide +kernel
theorem dX6_chance_51 : decode cX6_chance 51 = .ok (.invokevirtual 362, 3) := by decide +kernel
theorem dX6_chance_54 : decode cX6_chance 54 = .ok (.iconst 0, 1) := by decide +kernel
theorem dX6_chance_55 : decode cX6_chance 55 = .ok (.istore 8, 2) := by decide +kernel
theorem dX6_chance_57 : decode cX6_chance 57 = .ok (.iload 8, 2) := by decide +kernel
theorem dX6_chance_59 : decode cX6_chance 59 = .ok (.iload_n 2, 1) := by decide +kernel
theorem dX6_chance_60 : decode cX6_chance 60 = .ok (.if_icmp .ge 40, 3) := by decide +kernel
theorem dX6_chance_63 : decode cX6_chance 63 = .ok (.aload_n 0, 1) := by decide +kernel
theorem dX6_chance_64 : decode cX6_chance 64 = .ok (.iload_n 1, 1) := by decide +kernel
theorem dX6_chance_65 : decode cX6_chance 65 = .ok (.iload 8, 2) := by decide +kernel
theorem dX6_chance_67 : decode cX6_chance 67 = .ok (.iadd, 1) := by decide +kernel
theorem dX6_chance_68 : decode cX6_chance 68 = .ok (.invokevirtual 409, 3) := by decide +kernel
theorem dX6_chance_71 : decode cX6_chance 71 = .ok (.lload 6, 2) := by decide +kernel
theorem dX6_chance_73 : decode cX6_chance 73 = .ok (.aload_n 0, 1) := by decide +kernel
theorem dX6_chance_74 : decode cX6_chance 74 = .ok (.iload_n 3, 1) := by decide +kernel
theorem dX6_chance_75 : decode cX6_chance 75 = .ok (.invokevirtual 359, 3) := by decide +kernel
theorem dX6_chance_78 : decode cX6_chance 78 = .ok (.invokestatic 338, 3) := by decide +kernel
theorem dX6_chance_81 : decode cX6_chance 81 = .ok (.iload 4, 2) := by decide +kernel
theorem dX6_chance_83 : decode cX6_chance 83 = .ok (.if_icmp .lt 7, 3) := by decide +kernel
theorem dX6_chance_86 : decode cX6_chance 86 = .ok (.lconst 1, 1) := by decide +kernel
theorem dX6_chance_87 : decode cX6_chance 87 = .ok (.goto 4, 3) := by decide +kernel
theorem dX6_chance_90 : decode cX6_chance 90 = .ok (.lconst 0, 1) := by decide +kernel
theorem dX6_chance_91 : decode cX6_chance 91 = .ok (.ladd, 1) := by decide +kernel
theorem dX6_chance_92 : decode cX6_chance 92 = .ok (.lstore 6, 2) := by decide +kernel
theorem dX6_chance_94 : decode cX6_chance 94 = .ok (.iinc 8 1, 3) := by decide +kernel
theorem dX6_chance_97 : decode cX6_chance 97 = .ok (.goto (-40), 3) := by decide +kernel
theorem dX6_chance_100 : decode cX6_chance 100 = .ok (.aload_n 0, 1) := by decide +kernel
theorem dX6_chance_101 : decode cX6_chance 101 = .ok (.invokevirtual 365, 3) := by decide +kernel
theorem dX6_chance_104 : decode cX6_chance 104 = .ok (.lload 6, 2) := by decide +kernel
theorem dX6_chance_106 : decode cX6_chance 106 = .ok (.lstore 8, 2) := by decide +kernel
theorem dX6_chance_108 : decode cX6_chance 108 = .ok (.iload_n 2, 1) := by decide +kernel
theorem dX6_chance_109 : decode cX6_chance 109 = .ok (.i2l, 1) := by decide +kernel
theorem dX6_chance_110 : decode cX6_chance 110 = .ok (.lstore 10, 2) := by decide +kernel
theorem dX6_chance_112 : decode cX6_chance 112 = .ok (.lload 10, 2) := by decide +kernel
theorem dX6_chance_114 : decode cX6_chance 114 = .ok (.lconst 0, 1) := by decide +kernel
theorem dX6_chance_115 : decode cX6_chance 115 = .ok (.lcmp, 1) := by decide +kernel
theorem dX6_chance_116 : decode cX6_chance 116 = .ok (.ifCond .eq 21, 3) := by decide +kernel
theorem dX6_chance_119 : decode cX6_chance 119 = .ok (.lload 8, 2) := by decide +kernel
theorem dX6_chance_121 : decode cX6_chance 121 = .ok (.lload 10, 2) := by decide +kernel
theorem dX6_chance_123 : decode cX6_chance 123 = .ok (.lrem, 1) := by decide +kernel
theorem dX6_chance_124 : decode cX6_chance 124 = .ok (.lstore 12, 2) := by decide +kernel
theorem dX6_chance_126 : decode cX6_chance 126 = .ok (.lload 10, 2) := by decide +kernel
theorem dX6_chance_128 : decode cX6_chance 128 = .ok (.lstore 8, 2) := by decide +kernel
theorem dX6_chance_130 : decode cX6_chance 130 = .ok (.lload 12, 2) := by decide +kernel
theorem dX6_chance_132 : decode cX6_chance 132 = .ok (.lstore 10, 2) := by decide +kernel
theorem dX6_chance_134 : decode cX6_chance 134 = .ok (.goto (-22), 3) := by decide +kernel
theorem dX6_chance_137 : decode cX6_chance 137 = .ok (.iload 5, 2) := by decide +kernel
theorem dX6_chance_139 : decode cX6_chance 139 = .ok (.ifCond .ne 11, 3) := by decide +kernel
theorem dX6_chance_142 : decode cX6_chance 142 = .ok (.lload 6, 2) := by decide +kernel
theorem dX6_chance_144 : decode cX6_chance 144 = .ok (.lload 8, 2) := by decide +kernel
theorem dX6_chance_146 : decode cX6_chance 146 = .ok (.ldiv, 1) := by decide +kernel
theorem dX6_chance_147 : decode cX6_chance 147 = .ok (.goto 8, 3) := by decide +kernel
theorem dX6_chance_150 : decode cX6_chance 150 = .ok (.iload_n 2, 1) := by decide +kernel
theorem dX6_chance_151 : decode cX6_chance 151 = .ok (.i2l, 1) := by decide +kernel
theorem dX6_chance_152 : decode cX6_chance 152 = .ok (.lload 8, 2) := by decide +kernel
theorem dX6_chance_154 : decode cX6_chance 154 = .ok (.ldiv, 1) := by decide +kernel
theorem dX6_chance_155 : decode cX6_chance 155 = .ok (.lreturn, 1) := by decide +kernel
theorem dX6_image_0 : decode cX6_image 0 = .ok (.iconst 0, 1) := by decide +kernel
theorem dX6_image_1 : decode cX6_image 1 = .ok (.istore_n 1, 1) := by decide +kernel
theorem dX6_image_2 : decode cX6_image 2 = .ok (.iload_n 1, 1) := by decide +kernel
theorem dX6_image_3 : decode cX6_image 3 = .ok (.bipush 40, 2) := by decide +kernel
theorem dX6_image_5 : decode cX6_image 5 = .ok (.if_icmp .ge 21, 3) := by decide +kernel
theorem dX6_image_8 : decode cX6_image 8 = .ok (.aload_n 0, 1) := by decide +kernel
theorem dX6_image_9 : decode cX6_image 9 = .ok (.getfield 38, 3) := by decide +kernel
theorem dX6_image_12 : decode cX6_image 12 = .ok (.iload_n 1, 1) := by decide +kernel
theorem dX6_image_13 : decode cX6_image 13 = .ok (.aload_n 0, 1) := by decide +kernel
theorem dX6_image_14 : decode cX6_image 14 = .ok (.getfield 26, 3) := by decide +kernel
theorem dX6_image_17 : decode cX6_image 17 = .ok (.iload_n 1, 1) := by decide +kernel
theorem dX6_image_18 : decode cX6_image 18 = .ok (.iaload, 1) := by decide +kernel
theorem dX6_image_19 : decode cX6_image 19 = .ok (.iastore, 1) := by decide +kernel
theorem dX6_image_20 : decode cX6_image 20 = .ok (.iinc 1 1, 3) := by decide +kernel
theorem dX6_image_23 : decode cX6_image 23 = .ok (.goto (-21), 3) := by decide +kernel
theorem dX6_image_26 : decode cX6_image 26 = .ok (.aload_n 0, 1) := by decide +kernel
theorem dX6_image_27 : decode cX6_image 27 = .ok (.aload_n 0, 1) := by decide +kernel
theorem dX6_image_28 : decode cX6_image 28 = .ok (.getfield 64, 3) := by decide +kernel
theorem dX6_image_31 : decode cX6_image 31 = .ok (.putfield 41, 3) := by decide +kernel
theorem dX6_image_34 : decode cX6_image 34 = .ok (.aload_n 0, 1) := by decide +kernel
theorem dX6_image_35 : decode cX6_image 35 = .ok (.aload_n 0, 1) := by decide +kernel
theorem dX6_image_36 : decode cX6_image 36 = .ok (.getfield 91, 3) := by decide +kernel
theorem dX6_image_39 : decode cX6_image 39 = .ok (.putfield 419, 3) := by decide +kernel
theorem dX6_image_42 : decode cX6_image 42 = .ok (.aload_n 0, 1) := by decide +kernel
theorem dX6_image_43 : decode cX6_image 43 = .ok (.aload_n 0, 1) := by decide +kernel
theorem dX6_image_44 : decode cX6_image 44 = .ok (.getfield 94, 3) := by decide +kernel
theorem dX6_image_47 : decode cX6_image 47 = .ok (.putfield 422, 3) := by decide +kernel
theorem dX6_image_50 : decode cX6_image 50 = .ok (.aload_n 0, 1) := by decide +kernel
theorem dX6_image_51 : decode cX6_image 51 = .ok (.getfield 64, 3) := by decide +kernel
theorem dX6_image_54 : decode cX6_image 54 = .ok (.ireturn, 1) := by decide +kernel
theorem dX6_back_0 : decode cX6_back 0 = .ok (.aload_n 0, 1) := by decide +kernel
theorem dX6_back_1 : decode cX6_back 1 = .ok (.getfield 41, 3) := by decide +kernel
theorem dX6_back_4 : decode cX6_back 4 = .ok (.iconst (-1), 1) := by decide +kernel
theorem dX6_back_5 : decode cX6_back 5 = .ok (.if_icmp .ne 6, 3) := by decide +kernel
theorem dX6_back_8 : decode cX6_back 8 = .ok (.bipush (-3), 2) := by decide +kernel
theorem dX6_back_10 : decode cX6_back 10 = .ok (.ireturn, 1) := by decide +kernel
theorem dX6_back_11 : decode cX6_back 11 = .ok (.iconst 0, 1) := by decide +kernel
theorem dX6_back_12 : decode cX6_back 12 = .ok (.istore_n 1, 1) := by decide +kernel
theorem dX6_back_13 : decode cX6_back 13 = .ok (.iload_n 1, 1) := by decide +kernel
theorem dX6_back_14 : decode cX6_back 14 = .ok (.bipush 40, 2) := by decide +kernel
theorem dX6_back_16 : decode cX6_back 16 = .ok (.if_icmp .ge 21, 3) := by decide +kernel
theorem dX6_back_19 : decode cX6_back 19 = .ok (.aload_n 0, 1) := by decide +kernel
theorem dX6_back_20 : decode cX6_back 20 = .ok (.getfield 26, 3) := by decide +kernel
theorem dX6_back_23 : decode cX6_back 23 = .ok (.iload_n 1, 1) := by decide +kernel
theorem dX6_back_24 : decode cX6_back 24 = .ok (.aload_n 0, 1) := by decide +kernel
theorem dX6_back_25 : decode cX6_back 25 = .ok (.getfield 38, 3) := by decide +kernel
theorem dX6_back_28 : decode cX6_back 28 = .ok (.iload_n 1, 1) := by decide +kernel
theorem dX6_back_29 : decode cX6_back 29 = .ok (.iaload, 1) := by decide +kernel
theorem dX6_back_30 : decode cX6_back 30 = .ok (.iastore, 1) := by decide +kernel
theorem dX6_back_31 : decode cX6_back 31 = .ok (.iinc 1 1, 3) := by decide +kernel
theorem dX6_back_34 : decode cX6_back 34 = .ok (.goto (-21), 3) := by decide +kernel
theorem dX6_back_37 : decode cX6_back 37 = .ok (.aload_n 0, 1) := by decide +kernel
theorem dX6_back_38 : decode cX6_back 38 = .ok (.aload_n 0, 1) := by decide +kernel
theorem dX6_back_39 : decode cX6_back 39 = .ok (.getfield 41, 3) := by decide +kernel
theorem dX6_back_42 : decode cX6_back 42 = .ok (.putfield 64, 3) := by decide +kernel
theorem dX6_back_45 : decode cX6_back 45 = .ok (.aload_n 0, 1) := by decide +kernel
theorem dX6_back_46 : decode cX6_back 46 = .ok (.aload_n 0, 1) := by decide +kernel
theorem dX6_back_47 : decode cX6_back 47 = .ok (.getfield 419, 3) := by decide +kernel
theorem dX6_back_50 : decode cX6_back 50 = .ok (.putfield 91, 3) := by decide +kernel
theorem dX6_back_53 : decode cX6_back 53 = .ok (.aload_n 0, 1) := by decide +kernel
theorem dX6_back_54 : decode cX6_back 54 = .ok (.aload_n 0, 1) := by decide +kernel
theorem dX6_back_55 : decode cX6_back 55 = .ok (.getfield 422, 3) := by decide +kernel
theorem dX6_back_58 : decode cX6_back 58 = .ok (.putfield 94, 3) := by decide +kernel
theorem dX6_back_61 : decode cX6_back 61 = .ok (.aload_n 0, 1) := by decide +kernel
theorem dX6_back_62 : decode cX6_back 62 = .ok (.getfield 64, 3) := by decide +kernel
theorem dX6_back_65 : decode cX6_back 65 = .ok (.ireturn, 1) := by decide +kernel
theorem dX6_count_0 : decode cX6_count 0 = .ok (.iload_n 1, 1) := by decide +kernel
theorem dX6_count_1 : decode cX6_count 1 = .ok (.i2l, 1) := by decide +kernel
theorem dX6_count_2 : decode cX6_count 2 = .ok (.lconst 0, 1) := by decide +kernel
theorem dX6_count_3 : decode cX6_count 3 = .ok (.ldc2_w 73, 3) := by decide +kernel
theorem dX6_count_6 : decode cX6_count 6 = .ok (.invokestatic 67, 3) := by decide +kernel
theorem dX6_count_9 : decode cX6_count 9 = .ok (.ifCond .ne 6, 3) := by decide +kernel
theorem dX6_count_12 : decode cX6_count 12 = .ok (.bipush (-2), 2) := by decide +kernel
theorem dX6_count_14 : decode cX6_count 14 = .ok (.ireturn, 1) := by decide +kernel
theorem dX6_count_15 : decode cX6_count 15 = .ok (.iconst 0, 1) := by decide +kernel
theorem dX6_count_16 : decode cX6_count 16 = .ok (.istore_n 2, 1) := by decide +kernel
theorem dX6_count_17 : decode cX6_count 17 = .ok (.iconst 0, 1) := by decide +kernel
theorem dX6_count_18 : decode cX6_count 18 = .ok (.istore_n 3, 1) := by decide +kernel
theorem dX6_count_19 : decode cX6_count 19 = .ok (.iload_n 3, 1) := by decide +kernel
theorem dX6_count_20 : decode cX6_count 20 = .ok (.aload_n 0, 1) := by decide +kernel
theorem dX6_count_21 : decode cX6_count 21 = .ok (.getfield 64, 3) := by decide +kernel
theorem dX6_count_24 : decode cX6_count 24 = .ok (.if_icmp .ge 30, 3) := by decide +kernel
theorem dX6_count_27 : decode cX6_count 27 = .ok (.iload_n 1, 1) := by decide +kernel
theorem dX6_count_28 : decode cX6_count 28 = .ok (.iconst 1, 1) := by decide +kernel
theorem dX6_count_29 : decode cX6_count 29 = .ok (.if_icmp .ne 25, 3) := by decide +kernel
theorem dX6_count_32 : decode cX6_count 32 = .ok (.iload_n 2, 1) := by decide +kernel
theorem dX6_count_33 : decode cX6_count 33 = .ok (.aload_n 0, 1) := by decide +kernel
theorem dX6_count_34 : decode cX6_count 34 = .ok (.iload_n 3, 1) := by decide +kernel
theorem dX6_count_35 : decode cX6_count 35 = .ok (.invokevirtual 113, 3) := by decide +kernel
theorem dX6_count_38 : decode cX6_count 38 = .ok (.ifCond .eq 7, 3) := by decide +kernel
theorem dX6_count_41 : decode cX6_count 41 = .ok (.iconst 1, 1) := by decide +kernel
theorem dX6_count_42 : decode cX6_count 42 = .ok (.goto 4, 3) := by decide +kernel
theorem dX6_count_45 : decode cX6_count 45 = .ok (.iconst 0, 1) := by decide +kernel
theorem dX6_count_46 : decode cX6_count 46 = .ok (.iadd, 1) := by decide +kernel
theorem dX6_count_47 : decode cX6_count 47 = .ok (.istore_n 2, 1) := by decide +kernel
theorem dX6_count_48 : decode cX6_count 48 = .ok (.iinc 3 1, 3) := by decide +kernel
theorem dX6_count_51 : decode cX6_count 51 = .ok (.goto (-32), 3) := by decide +kernel
theorem dX6_count_54 : decode cX6_count 54 = .ok (.iload_n 1, 1) := by decide +kernel
theorem dX6_count_55 : decode cX6_count 55 = .ok (.ifCond .ne 10, 3) := by decide +kernel
theorem dX6_count_58 : decode cX6_count 58 = .ok (.aload_n 0, 1) := by decide +kernel
theorem dX6_count_59 : decode cX6_count 59 = .ok (.getfield 64, 3) := by decide +kernel
theorem dX6_count_62 : decode cX6_count 62 = .ok (.goto 52, 3) := by decide +kernel
theorem dX6_count_65 : decode cX6_count 65 = .ok (.iload_n 1, 1) := by decide +kernel
theorem dX6_count_66 : decode cX6_count 66 = .ok (.iconst 1, 1) := by decide +kernel
theorem dX6_count_67 : decode cX6_count 67 = .ok (.if_icmp .ne 7, 3) := by decide +kernel
theorem dX6_count_70 : decode cX6_count 70 = .ok (.iload_n 2, 1) := by decide +kernel
theorem dX6_count_71 : decode cX6_count 71 = .ok (.goto 43, 3) := by decide +kernel
theorem dX6_count_74 : decode cX6_count 74 = .ok (.iload_n 1, 1) := by decide +kernel
theorem dX6_count_75 : decode cX6_count 75 = .ok (.iconst 2, 1) := by decide +kernel
theorem dX6_count_76 : decode cX6_count 76 = .ok (.if_icmp .ne 10, 3) := by decide +kernel
theorem dX6_count_79 : decode cX6_count 79 = .ok (.aload_n 0, 1) := by decide +kernel
theorem dX6_count_80 : decode cX6_count 80 = .ok (.getfield 91, 3) := by decide +kernel
theorem dX6_count_83 : decode cX6_count 83 = .ok (.goto 31, 3) := by decide +kernel
theorem dX6_count_86 : decode cX6_count 86 = .ok (.iload_n 1, 1) := by decide +kernel
theorem dX6_count_87 : decode cX6_count 87 = .ok (.iconst 3, 1) := by decide +kernel
theorem dX6_count_88 : decode cX6_count 88 = .ok (.if_icmp .ne 10, 3) := by decide +kernel
theorem dX6_count_91 : decode cX6_count 91 = .ok (.aload_n 0, 1) := by decide +kernel
theorem dX6_count_92 : decode cX6_count 92 = .ok (.getfield 61, 3) := by decide +kernel
theorem dX6_count_95 : decode cX6_count 95 = .ok (.goto 19, 3) := by decide +kernel
theorem dX6_count_98 : decode cX6_count 98 = .ok (.iload_n 1, 1) := by decide +kernel
theorem dX6_count_99 : decode cX6_count 99 = .ok (.iconst 4, 1) := by decide +kernel
theorem dX6_count_100 : decode cX6_count 100 = .ok (.if_icmp .ne 10, 3) := by decide +kernel
theorem dX6_count_103 : decode cX6_count 103 = .ok (.aload_n 0, 1) := by decide +kernel
theorem dX6_count_104 : decode cX6_count 104 = .ok (.getfield 121, 3) := by decide +kernel
theorem dX6_count_107 : decode cX6_count 107 = .ok (.goto 7, 3) := by decide +kernel
theorem dX6_count_110 : decode cX6_count 110 = .ok (.aload_n 0, 1) := by decide +kernel
theorem dX6_count_111 : decode cX6_count 111 = .ok (.getfield 94, 3) := by decide +kernel
theorem dX6_count_114 : decode cX6_count 114 = .ok (.ireturn, 1) := by decide +kernel
theorem dX6_isSheet_0 : decode cX6_isSheet 0 = .ok (.iload_n 0, 1) := by decide +kernel
theorem dX6_isSheet_1 : decode cX6_isSheet 1 = .ok (.i2l, 1) := by decide +kernel
theorem dX6_isSheet_2 : decode cX6_isSheet 2 = .ok (.lconst 0, 1) := by decide +kernel
theorem dX6_isSheet_3 : decode cX6_isSheet 3 = .ok (.ldc2_w 71, 3) := by decide +kernel
theorem dX6_isSheet_6 : decode cX6_isSheet 6 = .ok (.invokestatic 67, 3) := by decide +kernel
theorem dX6_isSheet_9 : decode cX6_isSheet 9 = .ok (.ireturn, 1) := by decide +kernel
theorem dX6_sheet_0 : decode cX6_sheet 0 = .ok (.iload_n 1, 1) := by decide +kernel
theorem dX6_sheet_1 : decode cX6_sheet 1 = .ok (.invokestatic 399, 3) := by decide +kernel
theorem dX6_sheet_4 : decode cX6_sheet 4 = .ok (.ifCond .eq 27, 3) := by decide +kernel
theorem dX6_sheet_7 : decode cX6_sheet 7 = .ok (.iload_n 2, 1) := by decide +kernel
theorem dX6_sheet_8 : decode cX6_sheet 8 = .ok (.i2l, 1) := by decide +kernel
theorem dX6_sheet_9 : decode cX6_sheet 9 = .ok (.ldc2_w 425, 3) := by decide +kernel
theorem dX6_sheet_12 : decode cX6_sheet 12 = .ok (.ldc2_w 427, 3) := by decide +kernel
theorem dX6_sheet_15 : decode cX6_sheet 15 = .ok (.invokestatic 67, 3) := by decide +kernel
theorem dX6_sheet_18 : decode cX6_sheet 18 = .ok (.ifCond .eq 13, 3) := by decide +kernel
theorem dX6_sheet_21 : decode cX6_sheet 21 = .ok (.iload_n 2, 1) := by decide +kernel
theorem dX6_sheet_22 : decode cX6_sheet 22 = .ok (.ifCond .lt 12, 3) := by decide +kernel
theorem dX6_sheet_25 : decode cX6_sheet 25 = .ok (.iload_n 3, 1) := by decide +kernel
theorem dX6_sheet_26 : decode cX6_sheet 26 = .ok (.bipush 40, 2) := by decide +kernel
theorem dX6_sheet_28 : decode cX6_sheet 28 = .ok (.if_icmp .le 6, 3) := by decide +kernel
theorem dX6_sheet_31 : decode cX6_sheet 31 = .ok (.bipush (-2), 2) := by decide +kernel
theorem dX6_sheet_33 : decode cX6_sheet 33 = .ok (.ireturn, 1) := by decide +kernel
theorem dX6_sheet_34 : decode cX6_sheet 34 = .ok (.iload_n 2, 1) := by decide +kernel
theorem dX6_sheet_35 : decode cX6_sheet 35 = .ok (.ifCond .lt 10, 3) := by decide +kernel
theorem dX6_sheet_38 : decode cX6_sheet 38 = .ok (.iload_n 3, 1) := by decide +kernel
theorem dX6_sheet_39 : decode cX6_sheet 39 = .ok (.ifCond .ge 6, 3) := by decide +kernel
theorem dX6_sheet_42 : decode cX6_sheet 42 = .ok (.bipush (-14), 2) := by decide +kernel
theorem dX6_sheet_44 : decode cX6_sheet 44 = .ok (.ireturn, 1) := by decide +kernel
theorem dX6_sheet_45 : decode cX6_sheet 45 = .ok (.aload_n 0, 1) := by decide +kernel
theorem dX6_sheet_46 : decode cX6_sheet 46 = .ok (.getfield 44, 3) := by decide +kernel
theorem dX6_sheet_49 : decode cX6_sheet 49 = .ok (.iload_n 1, 1) := by decide +kernel
theorem dX6_sheet_50 : decode cX6_sheet 50 = .ok (.iload_n 2, 1) := by decide +kernel
theorem dX6_sheet_51 : decode cX6_sheet 51 = .ok (.ifCond .lt 7, 3) := by decide +kernel
theorem dX6_sheet_54 : decode cX6_sheet 54 = .ok (.iconst 1, 1) := by decide +kernel
theorem dX6_sheet_55 : decode cX6_sheet 55 = .ok (.goto 4, 3) := by decide +kernel
theorem dX6_sheet_58 : decode cX6_sheet 58 = .ok (.iconst 0, 1) := by decide +kernel
theorem dX6_sheet_59 : decode cX6_sheet 59 = .ok (.bastore, 1) := by decide +kernel
theorem dX6_sheet_60 : decode cX6_sheet 60 = .ok (.aload_n 0, 1) := by decide +kernel
theorem dX6_sheet_61 : decode cX6_sheet 61 = .ok (.getfield 48, 3) := by decide +kernel
theorem dX6_sheet_64 : decode cX6_sheet 64 = .ok (.iload_n 1, 1) := by decide +kernel
theorem dX6_sheet_65 : decode cX6_sheet 65 = .ok (.iload_n 2, 1) := by decide +kernel
theorem dX6_sheet_66 : decode cX6_sheet 66 = .ok (.iastore, 1) := by decide +kernel
theorem dX6_sheet_67 : decode cX6_sheet 67 = .ok (.aload_n 0, 1) := by decide +kernel
theorem dX6_sheet_68 : decode cX6_sheet 68 = .ok (.getfield 51, 3) := by decide +kernel
theorem dX6_sheet_71 : decode cX6_sheet 71 = .ok (.iload_n 1, 1) := by decide +kernel
theorem dX6_sheet_72 : decode cX6_sheet 72 = .ok (.iload_n 3, 1) := by decide +kernel
theorem dX6_sheet_73 : decode cX6_sheet 73 = .ok (.iastore, 1) := by decide +kernel
theorem dX6_sheet_74 : decode cX6_sheet 74 = .ok (.iconst 0, 1) := by decide +kernel
theorem dX6_sheet_75 : decode cX6_sheet 75 = .ok (.istore 4, 2) := by decide +kernel
theorem dX6_sheet_77 : decode cX6_sheet 77 = .ok (.iload 4, 2) := by decide +kernel
theorem dX6_sheet_79 : decode cX6_sheet 79 = .ok (.iload_n 3, 1) := by decide +kernel
theorem dX6_sheet_80 : decode cX6_sheet 80 = .ok (.if_icmp .ge 26, 3) := by decide +kernel
theorem dX6_sheet_83 : decode cX6_sheet 83 = .ok (.iload_n 2, 1) := by decide +kernel
theorem dX6_sheet_84 : decode cX6_sheet 84 = .ok (.ifCond .lt 22, 3) := by decide +kernel
theorem dX6_sheet_87 : decode cX6_sheet 87 = .ok (.aload_n 0, 1) := by decide +kernel
theorem dX6_sheet_88 : decode cX6_sheet 88 = .ok (.getfield 54, 3) := by decide +kernel
theorem dX6_sheet_91 : decode cX6_sheet 91 = .ok (.bipush 40, 2) := by decide +kernel
theorem dX6_sheet_93 : decode cX6_sheet 93 = .ok (.iload_n 1, 1) := by decide +kernel
