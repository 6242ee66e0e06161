theorem dX5_has_11 : decode cX5_has 11 = .ok (.iload_n 2, 1) := by decide +kernel
theorem dX5_has_12 : decode cX5_has 12 = .ok (.tableswitch 102 0 6 #[44, 51, 58, 69, 84, 90, 96], 44) := by decide +kernel
theorem dX5_has_56 : decode cX5_has 56 = .ok (.aload_n 0, 1) := by decide +kernel
theorem dX5_has_57 : decode cX5_has 57 = .ok (.iload_n 1, 1) := by decide +kernel
theorem dX5_has_58 : decode cX5_has 58 = .ok (.iconst 0, 1) := by decide +kernel
theorem dX5_has_59 : decode cX5_has 59 = .ok (.invokevirtual 169, 3) := by decide +kernel
theorem dX5_has_62 : decode cX5_has 62 = .ok (.ireturn, 1) := by decide +kernel
theorem dX5_has_63 : decode cX5_has 63 = .ok (.aload_n 0, 1) := by decide +kernel
theorem dX5_has_64 : decode cX5_has 64 = .ok (.iload_n 1, 1) := by decide +kernel
theorem dX5_has_65 : decode cX5_has 65 = .ok (.iconst 0, 1) := by decide +kernel
theorem dX5_has_66 : decode cX5_has 66 = .ok (.invokevirtual 172, 3) := by decide +kernel
theorem dX5_has_69 : decode cX5_has 69 = .ok (.ireturn, 1) := by decide +kernel
theorem dX5_has_70 : decode cX5_has 70 = .ok (.aload_n 0, 1) := by decide +kernel
theorem dX5_has_71 : decode cX5_has 71 = .ok (.aload_n 0, 1) := by decide +kernel
theorem dX5_has_72 : decode cX5_has 72 = .ok (.iload_n 1, 1) := by decide +kernel
theorem dX5_has_73 : decode cX5_has 73 = .ok (.iconst 0, 1) := by decide +kernel
theorem dX5_has_74 : decode cX5_has 74 = .ok (.invokevirtual 172, 3) := by decide +kernel
theorem dX5_has_77 : decode cX5_has 77 = .ok (.invokevirtual 175, 3) := by decide +kernel
theorem dX5_has_80 : decode cX5_has 80 = .ok (.ireturn, 1) := by decide +kernel
theorem dX5_has_81 : decode cX5_has 81 = .ok (.aload_n 0, 1) := by decide +kernel
theorem dX5_has_82 : decode cX5_has 82 = .ok (.iload_n 1, 1) := by decide +kernel
theorem dX5_has_83 : decode cX5_has 83 = .ok (.invokevirtual 178, 3) := by decide +kernel
theorem dX5_has_86 : decode cX5_has 86 = .ok (.aload_n 0, 1) := by decide +kernel
theorem dX5_has_87 : decode cX5_has 87 = .ok (.iload_n 1, 1) := by decide +kernel
theorem dX5_has_88 : decode cX5_has 88 = .ok (.iconst 0, 1) := by decide +kernel
theorem dX5_has_89 : decode cX5_has 89 = .ok (.invokevirtual 172, 3) := by decide +kernel
theorem dX5_has_92 : decode cX5_has 92 = .ok (.iconst (-1), 1) := by decide +kernel
theorem dX5_has_93 : decode cX5_has 93 = .ok (.ixor, 1) := by decide +kernel
theorem dX5_has_94 : decode cX5_has 94 = .ok (.iand, 1) := by decide +kernel
theorem dX5_has_95 : decode cX5_has 95 = .ok (.ireturn, 1) := by decide +kernel
theorem dX5_has_96 : decode cX5_has 96 = .ok (.aload_n 0, 1) := by decide +kernel
theorem dX5_has_97 : decode cX5_has 97 = .ok (.iload_n 1, 1) := by decide +kernel
theorem dX5_has_98 : decode cX5_has 98 = .ok (.invokevirtual 181, 3) := by decide +kernel
theorem dX5_has_101 : decode cX5_has 101 = .ok (.ireturn, 1) := by decide +kernel
theorem dX5_has_102 : decode cX5_has 102 = .ok (.aload_n 0, 1) := by decide +kernel
theorem dX5_has_103 : decode cX5_has 103 = .ok (.iload_n 1, 1) := by decide +kernel
theorem dX5_has_104 : decode cX5_has 104 = .ok (.invokevirtual 184, 3) := by decide +kernel
theorem dX5_has_107 : decode cX5_has 107 = .ok (.ireturn, 1) := by decide +kernel
theorem dX5_has_108 : decode cX5_has 108 = .ok (.aload_n 0, 1) := by decide +kernel
theorem dX5_has_109 : decode cX5_has 109 = .ok (.iload_n 1, 1) := by decide +kernel
theorem dX5_has_110 : decode cX5_has 110 = .ok (.invokevirtual 187, 3) := by decide +kernel
theorem dX5_has_113 : decode cX5_has 113 = .ok (.ireturn, 1) := by decide +kernel
theorem dX5_has_114 : decode cX5_has 114 = .ok (.ldc 110, 2) := by decide +kernel
theorem dX5_has_116 : decode cX5_has 116 = .ok (.ireturn, 1) := by decide +kernel
theorem dX5_run_0 : decode cX5_run 0 = .ok (.iconst 5, 1) := by decide +kernel
theorem dX5_run_1 : decode cX5_run 1 = .ok (.iload_n 1, 1) := by decide +kernel
theorem dX5_run_2 : decode cX5_run 2 = .ok (.invokestatic 99, 3) := by decide +kernel
theorem dX5_run_5 : decode cX5_run 5 = .ok (.ifCond .eq 22, 3) := by decide +kernel
theorem dX5_run_8 : decode cX5_run 8 = .ok (.iload_n 2, 1) := by decide +kernel
theorem dX5_run_9 : decode cX5_run 9 = .ok (.iconst 0, 1) := by decide +kernel
theorem dX5_run_10 : decode cX5_run 10 = .ok (.bipush 40, 2) := by decide +kernel
theorem dX5_run_12 : decode cX5_run 12 = .ok (.invokestatic 73, 3) := by decide +kernel
theorem dX5_run_15 : decode cX5_run 15 = .ok (.ifCond .eq 12, 3) := by decide +kernel
theorem dX5_run_18 : decode cX5_run 18 = .ok (.iload_n 3, 1) := by decide +kernel
theorem dX5_run_19 : decode cX5_run 19 = .ok (.iconst 0, 1) := by decide +kernel
theorem dX5_run_20 : decode cX5_run 20 = .ok (.iconst 1, 1) := by decide +kernel
theorem dX5_run_21 : decode cX5_run 21 = .ok (.invokestatic 73, 3) := by decide +kernel
theorem dX5_run_24 : decode cX5_run 24 = .ok (.ifCond .ne 6, 3) := by decide +kernel
theorem dX5_run_27 : decode cX5_run 27 = .ok (.ldc 110, 2) := by decide +kernel
theorem dX5_run_29 : decode cX5_run 29 = .ok (.ireturn, 1) := by decide +kernel
theorem dX5_run_30 : decode cX5_run 30 = .ok (.iload_n 3, 1) := by decide +kernel
theorem dX5_run_31 : decode cX5_run 31 = .ok (.ifCond .ne 12, 3) := by decide +kernel
theorem dX5_run_34 : decode cX5_run 34 = .ok (.aload_n 0, 1) := by decide +kernel
theorem dX5_run_35 : decode cX5_run 35 = .ok (.iload_n 1, 1) := by decide +kernel
theorem dX5_run_36 : decode cX5_run 36 = .ok (.iload_n 2, 1) := by decide +kernel
theorem dX5_run_37 : decode cX5_run 37 = .ok (.invokevirtual 169, 3) := by decide +kernel
theorem dX5_run_40 : decode cX5_run 40 = .ok (.goto 12, 3) := by decide +kernel
theorem dX5_run_43 : decode cX5_run 43 = .ok (.aload_n 0, 1) := by decide +kernel
theorem dX5_run_44 : decode cX5_run 44 = .ok (.iload_n 1, 1) := by decide +kernel
theorem dX5_run_45 : decode cX5_run 45 = .ok (.iload_n 2, 1) := by decide +kernel
theorem dX5_run_46 : decode cX5_run 46 = .ok (.invokevirtual 172, 3) := by decide +kernel
theorem dX5_run_49 : decode cX5_run 49 = .ok (.invokestatic 164, 3) := by decide +kernel
theorem dX5_run_52 : decode cX5_run 52 = .ok (.ireturn, 1) := by decide +kernel
theorem dX5_exact_0 : decode cX5_exact 0 = .ok (.iconst 5, 1) := by decide +kernel
theorem dX5_exact_1 : decode cX5_exact 1 = .ok (.iload_n 1, 1) := by decide +kernel
theorem dX5_exact_2 : decode cX5_exact 2 = .ok (.invokestatic 99, 3) := by decide +kernel
theorem dX5_exact_5 : decode cX5_exact 5 = .ok (.ifCond .eq 23, 3) := by decide +kernel
theorem dX5_exact_8 : decode cX5_exact 8 = .ok (.iload_n 2, 1) := by decide +kernel
theorem dX5_exact_9 : decode cX5_exact 9 = .ok (.iconst 0, 1) := by decide +kernel
theorem dX5_exact_10 : decode cX5_exact 10 = .ok (.sipush 999, 3) := by decide +kernel
theorem dX5_exact_13 : decode cX5_exact 13 = .ok (.invokestatic 73, 3) := by decide +kernel
theorem dX5_exact_16 : decode cX5_exact 16 = .ok (.ifCond .eq 12, 3) := by decide +kernel
theorem dX5_exact_19 : decode cX5_exact 19 = .ok (.iload_n 3, 1) := by decide +kernel
theorem dX5_exact_20 : decode cX5_exact 20 = .ok (.iconst 0, 1) := by decide +kernel
theorem dX5_exact_21 : decode cX5_exact 21 = .ok (.iconst 3, 1) := by decide +kernel
theorem dX5_exact_22 : decode cX5_exact 22 = .ok (.invokestatic 73, 3) := by decide +kernel
theorem dX5_exact_25 : decode cX5_exact 25 = .ok (.ifCond .ne 6, 3) := by decide +kernel
theorem dX5_exact_28 : decode cX5_exact 28 = .ok (.bipush (-2), 2) := by decide +kernel
theorem dX5_exact_30 : decode cX5_exact 30 = .ok (.ireturn, 1) := by decide +kernel
theorem dX5_exact_31 : decode cX5_exact 31 = .ok (.iload_n 3, 1) := by decide +kernel
theorem dX5_exact_32 : decode cX5_exact 32 = .ok (.iconst 2, 1) := by decide +kernel
theorem dX5_exact_33 : decode cX5_exact 33 = .ok (.if_icmp .ge 12, 3) := by decide +kernel
theorem dX5_exact_36 : decode cX5_exact 36 = .ok (.aload_n 0, 1) := by decide +kernel
theorem dX5_exact_37 : decode cX5_exact 37 = .ok (.iload_n 1, 1) := by decide +kernel
theorem dX5_exact_38 : decode cX5_exact 38 = .ok (.iload_n 2, 1) := by decide +kernel
theorem dX5_exact_39 : decode cX5_exact 39 = .ok (.invokevirtual 157, 3) := by decide +kernel
theorem dX5_exact_42 : decode cX5_exact 42 = .ok (.goto 9, 3) := by decide +kernel
theorem dX5_exact_45 : decode cX5_exact 45 = .ok (.aload_n 0, 1) := by decide +kernel
theorem dX5_exact_46 : decode cX5_exact 46 = .ok (.iload_n 1, 1) := by decide +kernel
theorem dX5_exact_47 : decode cX5_exact 47 = .ok (.iload_n 2, 1) := by decide +kernel
theorem dX5_exact_48 : decode cX5_exact 48 = .ok (.invokevirtual 190, 3) := by decide +kernel
theorem dX5_exact_51 : decode cX5_exact 51 = .ok (.istore 4, 2) := by decide +kernel
theorem dX5_exact_53 : decode cX5_exact 53 = .ok (.iload 4, 2) := by decide +kernel
theorem dX5_exact_55 : decode cX5_exact 55 = .ok (.iconst (-1), 1) := by decide +kernel
theorem dX5_exact_56 : decode cX5_exact 56 = .ok (.if_icmp .ne 5, 3) := by decide +kernel
theorem dX5_exact_59 : decode cX5_exact 59 = .ok (.iconst (-1), 1) := by decide +kernel
theorem dX5_exact_60 : decode cX5_exact 60 = .ok (.ireturn, 1) := by decide +kernel
theorem dX5_exact_61 : decode cX5_exact 61 = .ok (.iload_n 3, 1) := by decide +kernel
theorem dX5_exact_62 : decode cX5_exact 62 = .ok (.iconst 1, 1) := by decide +kernel
theorem dX5_exact_63 : decode cX5_exact 63 = .ok (.if_icmp .ne 9, 3) := by decide +kernel
theorem dX5_exact_66 : decode cX5_exact 66 = .ok (.iload 4, 2) := by decide +kernel
theorem dX5_exact_68 : decode cX5_exact 68 = .ok (.invokestatic 164, 3) := by decide +kernel
theorem dX5_exact_71 : decode cX5_exact 71 = .ok (.ireturn, 1) := by decide +kernel
theorem dX5_exact_72 : decode cX5_exact 72 = .ok (.iload_n 3, 1) := by decide +kernel
theorem dX5_exact_73 : decode cX5_exact 73 = .ok (.iconst 3, 1) := by decide +kernel
theorem dX5_exact_74 : decode cX5_exact 74 = .ok (.if_icmp .ne 12, 3) := by decide +kernel
theorem dX5_exact_77 : decode cX5_exact 77 = .ok (.aload_n 0, 1) := by decide +kernel
theorem dX5_exact_78 : decode cX5_exact 78 = .ok (.iload 4, 2) := by decide +kernel
theorem dX5_exact_80 : decode cX5_exact 80 = .ok (.invokevirtual 175, 3) := by decide +kernel
theorem dX5_exact_83 : decode cX5_exact 83 = .ok (.goto 5, 3) := by decide +kernel
theorem dX5_exact_86 : decode cX5_exact 86 = .ok (.iload 4, 2) := by decide +kernel
theorem dX5_exact_88 : decode cX5_exact 88 = .ok (.ireturn, 1) := by decide +kernel
theorem dX5_wise_0 : decode cX5_wise 0 = .ok (.iconst 5, 1) := by decide +kernel
theorem dX5_wise_1 : decode cX5_wise 1 = .ok (.iload_n 1, 1) := by decide +kernel
theorem dX5_wise_2 : decode cX5_wise 2 = .ok (.invokestatic 99, 3) := by decide +kernel
theorem dX5_wise_5 : decode cX5_wise 5 = .ok (.ifCond .eq 34, 3) := by decide +kernel
theorem dX5_wise_8 : decode cX5_wise 8 = .ok (.iload_n 2, 1) := by decide +kernel
theorem dX5_wise_9 : decode cX5_wise 9 = .ok (.iconst 0, 1) := by decide +kernel
theorem dX5_wise_10 : decode cX5_wise 10 = .ok (.sipush 999, 3) := by decide +kernel
theorem dX5_wise_13 : decode cX5_wise 13 = .ok (.invokestatic 73, 3) := by decide +kernel
theorem dX5_wise_16 : decode cX5_wise 16 = .ok (.ifCond .eq 23, 3) := by decide +kernel
theorem dX5_wise_19 : decode cX5_wise 19 = .ok (.iload_n 3, 1) := by decide +kernel
theorem dX5_wise_20 : decode cX5_wise 20 = .ok (.iconst 0, 1) := by decide +kernel
theorem dX5_wise_21 : decode cX5_wise 21 = .ok (.bipush 40, 2) := by decide +kernel
theorem dX5_wise_23 : decode cX5_wise 23 = .ok (.invokestatic 73, 3) := by decide +kernel
theorem dX5_wise_26 : decode cX5_wise 26 = .ok (.ifCond .eq 13, 3) := by decide +kernel
theorem dX5_wise_29 : decode cX5_wise 29 = .ok (.iload 4, 2) := by decide +kernel
theorem dX5_wise_31 : decode cX5_wise 31 = .ok (.iconst 0, 1) := by decide +kernel
theorem dX5_wise_32 : decode cX5_wise 32 = .ok (.iconst 1, 1) := by decide +kernel
theorem dX5_wise_33 : decode cX5_wise 33 = .ok (.invokestatic 73, 3) := by decide +kernel
theorem dX5_wise_36 : decode cX5_wise 36 = .ok (.ifCond .ne 6, 3) := by decide +kernel
theorem dX5_wise_39 : decode cX5_wise 39 = .ok (.bipush (-2), 2) := by decide +kernel
theorem dX5_wise_41 : decode cX5_wise 41 = .ok (.ireturn, 1) := by decide +kernel
theorem dX5_wise_42 : decode cX5_wise 42 = .ok (.aload_n 0, 1) := by decide +kernel
theorem dX5_wise_43 : decode cX5_wise 43 = .ok (.iload_n 1, 1) := by decide +kernel
theorem dX5_wise_44 : decode cX5_wise 44 = .ok (.iload_n 3, 1) := by decide +kernel
theorem dX5_wise_45 : decode cX5_wise 45 = .ok (.invokevirtual 193, 3) := by decide +kernel
theorem dX5_wise_48 : decode cX5_wise 48 = .ok (.aload_n 0, 1) := by decide +kernel
theorem dX5_wise_49 : decode cX5_wise 49 = .ok (.iload_n 1, 1) := by decide +kernel
theorem dX5_wise_50 : decode cX5_wise 50 = .ok (.iload_n 2, 1) := by decide +kernel
theorem dX5_wise_51 : decode cX5_wise 51 = .ok (.invokevirtual 196, 3) := by decide +kernel
theorem dX5_wise_54 : decode cX5_wise 54 = .ok (.istore 5, 2) := by decide +kernel
theorem dX5_wise_56 : decode cX5_wise 56 = .ok (.iload 4, 2) := by decide +kernel
theorem dX5_wise_58 : decode cX5_wise 58 = .ok (.ifCond .ne 6, 3) := by decide +kernel
theorem dX5_wise_61 : decode cX5_wise 61 = .ok (.iload 5, 2) := by decide +kernel
theorem dX5_wise_63 : decode cX5_wise 63 = .ok (.ireturn, 1) := by decide +kernel
theorem dX5_wise_64 : decode cX5_wise 64 = .ok (.iload 5, 2) := by decide +kernel
theorem dX5_wise_66 : decode cX5_wise 66 = .ok (.iconst (-1), 1) := by decide +kernel
theorem dX5_wise_67 : decode cX5_wise 67 = .ok (.if_icmp .ne 8, 3) := by decide +kernel
theorem dX5_wise_70 : decode cX5_wise 70 = .ok (.ldc 110, 2) := by decide +kernel
theorem dX5_wise_72 : decode cX5_wise 72 = .ok (.goto 9, 3) := by decide +kernel
theorem dX5_wise_75 : decode cX5_wise 75 = .ok (.aload_n 0, 1) := by decide +kernel
theorem dX5_wise_76 : decode cX5_wise 76 = .ok (.iload 5, 2) := by decide +kernel
theorem dX5_wise_78 : decode cX5_wise 78 = .ok (.invokevirtual 199, 3) := by decide +kernel
theorem dX5_wise_81 : decode cX5_wise 81 = .ok (.ireturn, 1) := by decide +kernel
theorem dX5_change_0 : decode cX5_change 0 = .ok (.iload_n 1, 1) := by decide +kernel
theorem dX5_change_1 : decode cX5_change 1 = .ok (.iload_n 2, 1) := by decide +kernel
theorem dX5_change_2 : decode cX5_change 2 = .ok (.invokestatic 154, 3) := by decide +kernel
theorem dX5_change_5 : decode cX5_change 5 = .ok (.ifCond .eq 12, 3) := by decide +kernel
theorem dX5_change_8 : decode cX5_change 8 = .ok (.iload_n 3, 1) := by decide +kernel
theorem dX5_change_9 : decode cX5_change 9 = .ok (.iconst 0, 1) := by decide +kernel
theorem dX5_change_10 : decode cX5_change 10 = .ok (.iconst 1, 1) := by decide +kernel
theorem dX5_change_11 : decode cX5_change 11 = .ok (.invokestatic 73, 3) := by decide +kernel
theorem dX5_change_14 : decode cX5_change 14 = .ok (.ifCond .ne 6, 3) := by decide +kernel
theorem dX5_change_17 : decode cX5_change 17 = .ok (.ldc 110, 2) := by decide +kernel
theorem dX5_change_19 : decode cX5_change 19 = .ok (.ireturn, 1) := by decide +kernel
theorem dX5_change_20 : decode cX5_change 20 = .ok (.aload_n 0, 1) := by decide +kernel
theorem dX5_change_21 : decode cX5_change 21 = .ok (.iload_n 1, 1) := by decide +kernel
theorem dX5_change_22 : decode cX5_change 22 = .ok (.iload_n 2, 1) := by decide +kernel
theorem dX5_change_23 : decode cX5_change 23 = .ok (.invokevirtual 202, 3) := by decide +kernel
theorem dX5_change_26 : decode cX5_change 26 = .ok (.istore 4, 2) := by decide +kernel
theorem dX5_change_28 : decode cX5_change 28 = .ok (.iload_n 3, 1) := by decide +kernel
theorem dX5_change_29 : decode cX5_change 29 = .ok (.ifCond .ne 6, 3) := by decide +kernel
theorem dX5_change_32 : decode cX5_change 32 = .ok (.iload 4, 2) := by decide +kernel
theorem dX5_change_34 : decode cX5_change 34 = .ok (.ireturn, 1) := by decide +kernel
theorem dX5_change_35 : decode cX5_change 35 = .ok (.aload_n 0, 1) := by decide +kernel
theorem dX5_change_36 : decode cX5_change 36 = .ok (.iload_n 1, 1) := by decide +kernel
theorem dX5_change_37 : decode cX5_change 37 = .ok (.bipush 10, 2) := by decide +kernel
theorem dX5_change_39 : decode cX5_change 39 = .ok (.invokevirtual 169, 3) := by decide +kernel
theorem dX5_change_42 : decode cX5_change 42 = .ok (.aload_n 0, 1) := by decide +kernel
theorem dX5_change_43 : decode cX5_change 43 = .ok (.iload_n 2, 1) := by decide +kernel
theorem dX5_change_44 : decode cX5_change 44 = .ok (.bipush 10, 2) := by decide +kernel
theorem dX5_change_46 : decode cX5_change 46 = .ok (.invokevirtual 169, 3) := by decide +kernel
theorem dX5_change_49 : decode cX5_change 49 = .ok (.iadd, 1) := by decide +kernel
theorem dX5_change_50 : decode cX5_change 50 = .ok (.istore 5, 2) := by decide +kernel
theorem dX5_change_52 : decode cX5_change 52 = .ok (.iload 4, 2) := by decide +kernel
theorem dX5_change_54 : decode cX5_change 54 = .ok (.iconst (-1), 1) := by decide +kernel
theorem dX5_change_55 : decode cX5_change 55 = .ok (.if_icmp .ne 6, 3) := by decide +kernel
theorem dX5_change_58 : decode cX5_change 58 = .ok (.iload 5, 2) := by decide +kernel
theorem dX5_change_60 : decode cX5_change 60 = .ok (.ireturn, 1) := by decide +kernel
theorem dX5_change_61 : decode cX5_change 61 = .ok (.iload 5, 2) := by decide +kernel
theorem dX5_change_63 : decode cX5_change 63 = .ok (.aload_n 0, 1) := by decide +kernel
theorem dX5_change_64 : decode cX5_change 64 = .ok (.iload 4, 2) := by decide +kernel
theorem dX5_change_66 : decode cX5_change 66 = .ok (.bipush 10, 2) := by decide +kernel
theorem dX5_change_68 : decode cX5_change 68 = .ok (.idiv, 1) := by decide +kernel
theorem dX5_change_69 : decode cX5_change 69 = .ok (.iload_n 2, 1) := by decide +kernel
theorem dX5_change_70 : decode cX5_change 70 = .ok (.invokevirtual 205, 3) := by decide +kernel
theorem dX5_change_73 : decode cX5_change 73 = .ok (.iadd, 1) := by decide +kernel
theorem dX5_change_74 : decode cX5_change 74 = .ok (.aload_n 0, 1) := by decide +kernel
theorem dX5_change_75 : decode cX5_change 75 = .ok (.iload 4, 2) := by decide +kernel
theorem dX5_change_77 : decode cX5_change 77 = .ok (.bipush 10, 2) := by decide +kernel
theorem dX5_change_79 : decode cX5_change 79 = .ok (.irem, 1) := by decide +kernel
theorem dX5_change_80 : decode cX5_change 80 = .ok (.iload_n 1, 1) := by decide +kernel
theorem dX5_change_81 : decode cX5_change 81 = .ok (.invokevirtual 205, 3) := by decide +kernel
theorem dX5_change_84 : decode cX5_change 84 = .ok (.iadd, 1) := by decide +kernel
theorem dX5_change_85 : decode cX5_change 85 = .ok (.ireturn, 1) := by decide +kernel
theorem dX5_tells_0 : decode cX5_tells 0 = .ok (.iload_n 1, 1) := by decide +kernel
theorem dX5_tells_1 : decode cX5_tells 1 = .ok (.invokestatic 208, 3) := by decide +kernel
theorem dX5_tells_4 : decode cX5_tells 4 = .ok (.ifCond .eq 21, 3) := by decide +kernel
theorem dX5_tells_7 : decode cX5_tells 7 = .ok (.aload_n 0, 1) := by decide +kernel
theorem dX5_tells_8 : decode cX5_tells 8 = .ok (.iload_n 2, 1) := by decide +kernel
theorem dX5_tells_9 : decode cX5_tells 9 = .ok (.invokevirtual 87, 3) := by decide +kernel
theorem dX5_tells_12 : decode cX5_tells 12 = .ok (.ifCond .eq 13, 3) := by decide +kernel
theorem dX5_tells_15 : decode cX5_tells 15 = .ok (.iload_n 3, 1) := by decide +kernel
theorem dX5_tells_16 : decode cX5_tells 16 = .ok (.iconst 0, 1) := by decide +kernel
theorem dX5_tells_17 : decode cX5_tells 17 = .ok (.bipush 9, 2) := by decide +kernel
theorem dX5_tells_19 : decode cX5_tells 19 = .ok (.invokestatic 73, 3) := by decide +kernel
theorem dX5_tells_22 : decode cX5_tells 22 = .ok (.ifCond .ne 6, 3) := by decide +kernel
theorem dX5_tells_25 : decode cX5_tells 25 = .ok (.bipush (-2), 2) := by decide +kernel
theorem dX5_tells_27 : decode cX5_tells 27 = .ok (.ireturn, 1) := by decide +kernel
theorem dX5_tells_28 : decode cX5_tells 28 = .ok (.aload_n 0, 1) := by decide +kernel
theorem dX5_tells_29 : decode cX5_tells 29 = .ok (.getfield 30, 3) := by decide +kernel
theorem dX5_tells_32 : decode cX5_tells 32 = .ok (.iload_n 1, 1) := by decide +kernel
theorem dX5_tells_33 : decode cX5_tells 33 = .ok (.aaload, 1) := by decide +kernel
theorem dX5_tells_34 : decode cX5_tells 34 = .ok (.astore 4, 2) := by decide +kernel
theorem dX5_tells_36 : decode cX5_tells 36 = .ok (.aload 4, 2) := by decide +kernel
theorem dX5_tells_38 : decode cX5_tells 38 = .ok (.invokevirtual 211, 3) := by decide +kernel
theorem dX5_tells_41 : decode cX5_tells 41 = .ok (.ifCond .eq 6, 3) := by decide +kernel
theorem dX5_tells_44 : decode cX5_tells 44 = .ok (.bipush (-11), 2) := by decide +kernel
theorem dX5_tells_46 : decode cX5_tells 46 = .ok (.ireturn, 1) := by decide +kernel
theorem dX5_tells_47 : decode cX5_tells 47 = .ok (.aload_n 0, 1) := by decide +kernel
theorem dX5_tells_48 : decode cX5_tells 48 = .ok (.getfield 11, 3) := by decide +kernel
theorem dX5_tells_51 : decode cX5_tells 51 = .ok (.iload_n 2, 1) := by decide +kernel
theorem dX5_tells_52 : decode cX5_tells 52 = .ok (.aaload, 1) := by decide +kernel
theorem dX5_tells_53 : decode cX5_tells 53 = .ok (.astore 5, 2) := by decide +kernel
theorem dX5_tells_55 : decode cX5_tells 55 = .ok (.iload_n 3, 1) := by decide +kernel
theorem dX5_tells_56 : decode cX5_tells 56 = .ok (.tableswitch 159 0 8 #[52, 65, 76, 86, 96, 108, 120, 135, 150], 52) := by decide +kernel
theorem dX5_tells_108 : decode cX5_tells 108 = .ok (.aload_n 0, 1) := by decide +kernel
theorem dX5_tells_109 : decode cX5_tells 109 = .ok (.aload 4, 2) := by decide +kernel
theorem dX5_tells_111 : decode cX5_tells 111 = .ok (.aload_n 0, 1) := by decide +kernel
theorem dX5_tells_112 : decode cX5_tells 112 = .ok (.invokevirtual 111, 3) := by decide +kernel
theorem dX5_tells_115 : decode cX5_tells 115 = .ok (.aload 5, 2) := by decide +kernel
theorem dX5_tells_117 : decode cX5_tells 117 = .ok (.invokevirtual 215, 3) := by decide +kernel
theorem dX5_tells_120 : decode cX5_tells 120 = .ok (.ireturn, 1) := by decide +kernel
theorem dX5_tells_121 : decode cX5_tells 121 = .ok (.aload_n 0, 1) := by decide +kernel
theorem dX5_tells_122 : decode cX5_tells 122 = .ok (.aload 4, 2) := by decide +kernel
theorem dX5_tells_124 : decode cX5_tells 124 = .ok (.aload 5, 2) := by decide +kernel
theorem dX5_tells_126 : decode cX5_tells 126 = .ok (.bipush 6, 2) := by decide +kernel
theorem dX5_tells_128 : decode cX5_tells 128 = .ok (.invokevirtual 219, 3) := by decide +kernel
theorem dX5_tells_131 : decode cX5_tells 131 = .ok (.ireturn, 1) := by decide +kernel
theorem dX5_tells_132 : decode cX5_tells 132 = .ok (.aload_n 0, 1) := by decide +kernel
theorem dX5_tells_133 : decode cX5_tells 133 = .ok (.aload 4, 2) := by decide +kernel
theorem dX5_tells_135 : decode cX5_tells 135 = .ok (.aload 5, 2) := by decide +kernel
theorem dX5_tells_137 : decode cX5_tells 137 = .ok (.iconst 1, 1) := by decide +kernel
theorem dX5_tells_138 : decode cX5_tells 138 = .ok (.invokevirtual 219, 3) := by decide +kernel
theorem dX5_tells_141 : decode cX5_tells 141 = .ok (.ireturn, 1) := by decide +kernel
theorem dX5_tells_142 : decode cX5_tells 142 = .ok (.aload_n 0, 1) := by decide +kernel
theorem dX5_tells_143 : decode cX5_tells 143 = .ok (.aload 4, 2) := by decide +kernel
theorem dX5_tells_145 : decode cX5_tells 145 = .ok (.aload 5, 2) := by decide +kernel
theorem dX5_tells_147 : decode cX5_tells 147 = .ok (.iconst 3, 1) := by decide +kernel
theorem dX5_tells_148 : decode cX5_tells 148 = .ok (.invokevirtual 219, 3) := by decide +kernel
theorem dX5_tells_151 : decode cX5_tells 151 = .ok (.ireturn, 1) := by decide +kernel
theorem dX5_tells_152 : decode cX5_tells 152 = .ok (.aload_n 0, 1) := by decide +kernel
theorem dX5_tells_153 : decode cX5_tells 153 = .ok (.aload 4, 2) := by decide +kernel
theorem dX5_tells_155 : decode cX5_tells 155 = .ok (.aload 5, 2) := by decide +kernel
theorem dX5_tells_157 : decode cX5_tells 157 = .ok (.iconst 4, 1) := by decide +kernel
theorem dX5_tells_158 : decode cX5_tells 158 = .ok (.bipush 99, 2) := by decide +kernel
theorem dX5_tells_160 : decode cX5_tells 160 = .ok (.invokevirtual 223, 3) := by decide +kernel
theorem dX5_tells_163 : decode cX5_tells 163 = .ok (.ireturn, 1) := by decide +kernel
theorem dX5_tells_164 : decode cX5_tells 164 = .ok (.aload_n 0, 1) := by decide +kernel
theorem dX5_tells_165 : decode cX5_tells 165 = .ok (.aload 4, 2) := by decide +kernel
theorem dX5_tells_167 : decode cX5_tells 167 = .ok (.aload 5, 2) := by decide +kernel
theorem dX5_tells_169 : decode cX5_tells 169 = .ok (.iconst 4, 1) := by decide +kernel
theorem dX5_tells_170 : decode cX5_tells 170 = .ok (.bipush 99, 2) := by decide +kernel
theorem dX5_tells_172 : decode cX5_tells 172 = .ok (.invokevirtual 227, 3) := by decide +kernel
theorem dX5_tells_175 : decode cX5_tells 175 = .ok (.ireturn, 1) := by decide +kernel
theorem dX5_tells_176 : decode cX5_tells 176 = .ok (.aload_n 0, 1) := by decide +kernel
theorem dX5_tells_177 : decode cX5_tells 177 = .ok (.aload 4, 2) := by decide +kernel
theorem dX5_tells_179 : decode cX5_tells 179 = .ok (.aload 5, 2) := by decide +kernel
theorem dX5_tells_181 : decode cX5_tells 181 = .ok (.iconst 2, 1) := by decide +kernel
theorem dX5_tells_182 : decode cX5_tells 182 = .ok (.getstatic 80, 3) := by decide +kernel
theorem dX5_tells_185 : decode cX5_tells 185 = .ok (.iconst 2, 1) := by decide +kernel
theorem dX5_tells_186 : decode cX5_tells 186 = .ok (.iaload, 1) := by decide +kernel
theorem dX5_tells_187 : decode cX5_tells 187 = .ok (.invokevirtual 223, 3) := by decide +kernel
theorem dX5_tells_190 : decode cX5_tells 190 = .ok (.ireturn, 1) := by decide +kernel
theorem dX5_tells_191 : decode cX5_tells 191 = .ok (.aload_n 0, 1) := by decide +kernel
theorem dX5_tells_192 : decode cX5_tells 192 = .ok (.aload 4, 2) := by decide +kernel
theorem dX5_tells_194 : decode cX5_tells 194 = .ok (.aload 5, 2) := by decide +kernel
theorem dX5_tells_196 : decode cX5_tells 196 = .ok (.iconst 2, 1) := by decide +kernel
theorem dX5_tells_197 : decode cX5_tells 197 = .ok (.getstatic 80, 3) := by decide +kernel
theorem dX5_tells_200 : decode cX5_tells 200 = .ok (.iconst 2, 1) := by decide +kernel
theorem dX5_tells_201 : decode cX5_tells 201 = .ok (.iaload, 1) := by decide +kernel
theorem dX5_tells_202 : decode cX5_tells 202 = .ok (.invokevirtual 227, 3) := by decide +kernel
theorem dX5_tells_205 : decode cX5_tells 205 = .ok (.ireturn, 1) := by decide +kernel
theorem dX5_tells_206 : decode cX5_tells 206 = .ok (.aload_n 0, 1) := by decide +kernel
theorem dX5_tells_207 : decode cX5_tells 207 = .ok (.aload 4, 2) := by decide +kernel
theorem dX5_tells_209 : decode cX5_tells 209 = .ok (.aload 5, 2) := by decide +kernel
theorem dX5_tells_211 : decode cX5_tells 211 = .ok (.invokevirtual 230, 3) := by decide +kernel
theorem dX5_tells_214 : decode cX5_tells 214 = .ok (.ireturn, 1) := by decide +kernel
theorem dX5_tells_215 : decode cX5_tells 215 = .ok (.aload_n 0, 1) := by decide +kernel
theorem dX5_tells_216 : decode cX5_tells 216 = .ok (.aload 4, 2) := by decide +kernel
theorem dX5_tells_218 : decode cX5_tells 218 = .ok (.invokevirtual 234, 3) := by decide +kernel
theorem dX5_tells_221 : decode cX5_tells 221 = .ok (.ireturn, 1) := by decide +kernel
theorem dX5_film_0 : decode cX5_film 0 = .ok (.iload_n 1, 1) := by decide +kernel
theorem dX5_film_1 : decode cX5_film 1 = .ok (.invokestatic 208, 3) := by decide +kernel
theorem dX5_film_4 : decode cX5_film 4 = .ok (.ifCond .eq 21, 3) := by decide +kernel
theorem dX5_film_7 : decode cX5_film 7 = .ok (.aload_n 0, 1) := by decide +kernel
theorem dX5_film_8 : decode cX5_film 8 = .ok (.iload_n 2, 1) := by decide +kernel
theorem dX5_film_9 : decode cX5_film 9 = .ok (.invokevirtual 87, 3) := by decide +kernel
theorem dX5_film_12 : decode cX5_film 12 = .ok (.ifCond .eq 13, 3) := by decide +kernel
theorem dX5_film_15 : decode cX5_film 15 = .ok (.iload_n 3, 1) := by decide +kernel
theorem dX5_film_16 : decode cX5_film 16 = .ok (.iconst 0, 1) := by decide +kernel
theorem dX5_film_17 : decode cX5_film 17 = .ok (.bipush 40, 2) := by decide +kernel
theorem dX5_film_19 : decode cX5_film 19 = .ok (.invokestatic 73, 3) := by decide +kernel
theorem dX5_film_22 : decode cX5_film 22 = .ok (.ifCond .ne 6, 3) := by decide +kernel
theorem dX5_film_25 : decode cX5_film 25 = .ok (.bipush (-2), 2) := by decide +kernel
theorem dX5_film_27 : decode cX5_film 27 = .ok (.ireturn, 1) := by decide +kernel
theorem dX5_film_28 : decode cX5_film 28 = .ok (.aload_n 0, 1) := by decide +kernel
theorem dX5_film_29 : decode cX5_film 29 = .ok (.getfield 30, 3) := by decide +kernel
theorem dX5_film_32 : decode cX5_film 32 = .ok (.iload_n 1, 1) := by decide +kernel
theorem dX5_film_33 : decode cX5_film 33 = .ok (.aaload, 1) := by decide +kernel
theorem dX5_film_34 : decode cX5_film 34 = .ok (.iconst 2, 1) := by decide +kernel
theorem dX5_film_35 : decode cX5_film 35 = .ok (.iload_n 3, 1) := by decide +kernel
theorem dX5_film_36 : decode cX5_film 36 = .ok (.invokevirtual 238, 3) := by decide +kernel
theorem dX5_film_39 : decode cX5_film 39 = .ok (.iconst 0, 1) := by decide +kernel
theorem dX5_film_40 : decode cX5_film 40 = .ok (.istore 4, 2) := by decide +kernel
theorem dX5_film_42 : decode cX5_film 42 = .ok (.iload 4, 2) := by decide +kernel
theorem dX5_film_44 : decode cX5_film 44 = .ok (.iload_n 3, 1) := by decide +kernel
theorem dX5_film_45 : decode cX5_film 45 = .ok (.if_icmp .ge 32, 3) := by decide +kernel
theorem dX5_film_48 : decode cX5_film 48 = .ok (.aload_n 0, 1) := by decide +kernel
theorem dX5_film_49 : decode cX5_film 49 = .ok (.getfield 30, 3) := by decide +kernel
theorem dX5_film_52 : decode cX5_film 52 = .ok (.iload_n 1, 1) := by decide +kernel
theorem dX5_film_53 : decode cX5_film 53 = .ok (.aaload, 1) := by decide +kernel
theorem dX5_film_54 : decode cX5_film 54 = .ok (.iload 4, 2) := by decide +kernel
theorem dX5_film_56 : decode cX5_film 56 = .ok (.aload_n 0, 1) := by decide +kernel
theorem dX5_film_57 : decode cX5_film 57 = .ok (.aload_n 0, 1) := by decide +kernel
theorem dX5_film_58 : decode cX5_film 58 = .ok (.getfield 11, 3) := by decide +kernel
theorem dX5_film_61 : decode cX5_film 61 = .ok (.iload_n 2, 1) := by decide +kernel
theorem dX5_film_62 : decode cX5_film 62 = .ok (.aaload, 1) := by decide +kernel
theorem dX5_film_63 : decode cX5_film 63 = .ok (.iload 4, 2) := by decide +kernel
theorem dX5_film_65 : decode cX5_film 65 = .ok (.invokevirtual 132, 3) := by decide +kernel
theorem dX5_film_68 : decode cX5_film 68 = .ok (.invokevirtual 241, 3) := by decide +kernel
theorem dX5_film_71 : decode cX5_film 71 = .ok (.iinc 4 1, 3) := by decide +kernel
theorem dX5_film_74 : decode cX5_film 74 = .ok (.goto (-32), 3) := by decide +kernel
theorem dX5_film_77 : decode cX5_film 77 = .ok (.iload_n 3, 1) := by decide +kernel
theorem dX5_film_78 : decode cX5_film 78 = .ok (.ireturn, 1) := by decide +kernel
theorem dX5_drawn_0 : decode cX5_drawn 0 = .ok (.iconst 5, 1) := by decide +kernel
theorem dX5_drawn_1 : decode cX5_drawn 1 = .ok (.iload_n 2, 1) := by decide +kernel
theorem dX5_drawn_2 : decode cX5_drawn 2 = .ok (.invokestatic 99, 3) := by decide +kernel
theorem dX5_drawn_5 : decode cX5_drawn 5 = .ok (.ifCond .ne 6, 3) := by decide +kernel
theorem dX5_drawn_8 : decode cX5_drawn 8 = .ok (.ldc 110, 2) := by decide +kernel
theorem dX5_drawn_10 : decode cX5_drawn 10 = .ok (.ireturn, 1) := by decide +kernel
theorem dX5_drawn_11 : decode cX5_drawn 11 = .ok (.iconst 0, 1) := by decide +kernel
theorem dX5_drawn_12 : decode cX5_drawn 12 = .ok (.istore_n 3, 1) := by decide +kernel
theorem dX5_drawn_13 : decode cX5_drawn 13 = .ok (.iload_n 1, 1) := by decide +kernel
theorem dX5_drawn_14 : decode cX5_drawn 14 = .ok (.istore 4, 2) := by decide +kernel
theorem dX5_drawn_16 : decode cX5_drawn 16 = .ok (.iconst 0, 1) := by decide +kernel
theorem dX5_drawn_17 : decode cX5_drawn 17 = .ok (.istore 5, 2) := by decide +kernel
theorem dX5_drawn_19 : decode cX5_drawn 19 = .ok (.iload 5, 2) := by decide +kernel
theorem dX5_drawn_21 : decode cX5_drawn 21 = .ok (.aload_n 0, 1) := by decide +kernel
theorem dX5_drawn_22 : decode cX5_drawn 22 = .ok (.getfield 103, 3) := by decide +kernel
theorem dX5_drawn_25 : decode cX5_drawn 25 = .ok (.if_icmp .ge 56, 3) := by decide +kernel
theorem dX5_drawn_28 : decode cX5_drawn 28 = .ok (.iload 4, 2) := by decide +kernel
theorem dX5_drawn_30 : decode cX5_drawn 30 = .ok (.invokestatic 244, 3) := by decide +kernel
theorem dX5_drawn_33 : decode cX5_drawn 33 = .ok (.istore 4, 2) := by decide +kernel
theorem dX5_drawn_35 : decode cX5_drawn 35 = .ok (.aload_n 0, 1) := by decide +kernel
theorem dX5_drawn_36 : decode cX5_drawn 36 = .ok (.getfield 11, 3) := by decide +kernel
theorem dX5_drawn_39 : decode cX5_drawn 39 = .ok (.iload 5, 2) := by decide +kernel
theorem dX5_drawn_41 : decode cX5_drawn 41 = .ok (.aaload, 1) := by decide +kernel
theorem dX5_drawn_42 : decode cX5_drawn 42 = .ok (.getfield 148, 3) := by decide +kernel
theorem dX5_drawn_45 : decode cX5_drawn 45 = .ok (.iload_n 2, 1) := by decide +kernel
theorem dX5_drawn_46 : decode cX5_drawn 46 = .ok (.if_icmp .ne 29, 3) := by decide +kernel
theorem dX5_drawn_49 : decode cX5_drawn 49 = .ok (.iload_n 3, 1) := by decide +kernel
theorem dX5_drawn_50 : decode cX5_drawn 50 = .ok (.aload_n 0, 1) := by decide +kernel
theorem dX5_drawn_51 : decode cX5_drawn 51 = .ok (.invokevirtual 111, 3) := by decide +kernel
theorem dX5_drawn_54 : decode cX5_drawn 54 = .ok (.aload_n 0, 1) := by decide +kernel
theorem dX5_drawn_55 : decode cX5_drawn 55 = .ok (.getfield 11, 3) := by decide +kernel
theorem dX5_drawn_58 : decode cX5_drawn 58 = .ok (.iload 5, 2) := by decide +kernel
theorem dX5_drawn_60 : decode cX5_drawn 60 = .ok (.aaload, 1) := by decide +kernel
theorem dX5_drawn_61 : decode cX5_drawn 61 = .ok (.iload 4, 2) := by decide +kernel
theorem dX5_drawn_63 : decode cX5_drawn 63 = .ok (.invokestatic 247, 3) := by decide +kernel
theorem dX5_drawn_66 : decode cX5_drawn 66 = .ok (.aload_n 0, 1) := by decide +kernel
theorem dX5_drawn_67 : decode cX5_drawn 67 = .ok (.getfield 83, 3) := by decide +kernel
theorem dX5_drawn_70 : decode cX5_drawn 70 = .ok (.invokevirtual 250, 3) := by decide +kernel
theorem dX5_drawn_73 : decode cX5_drawn 73 = .ok (.iadd, 1) := by decide +kernel
theorem dX5_drawn_74 : decode cX5_drawn 74 = .ok (.istore_n 3, 1) := by decide +kernel
theorem dX5_drawn_75 : decode cX5_drawn 75 = .ok (.iinc 5 1, 3) := by decide +kernel
theorem dX5_drawn_78 : decode cX5_drawn 78 = .ok (.goto (-59), 3) := by decide +kernel
theorem dX5_drawn_81 : decode cX5_drawn 81 = .ok (.iload_n 3, 1) := by decide +kernel
theorem dX5_drawn_82 : decode cX5_drawn 82 = .ok (.ireturn, 1) := by decide +kernel
theorem dX5_chance_0 : decode cX5_chance 0 = .ok (.iload_n 2, 1) := by decide +kernel
theorem dX5_chance_1 : decode cX5_chance 1 = .ok (.iconst 1, 1) := by decide +kernel
theorem dX5_chance_2 : decode cX5_chance 2 = .ok (.bipush 20, 2) := by decide +kernel
theorem dX5_chance_4 : decode cX5_chance 4 = .ok (.invokestatic 73, 3) := by decide +kernel
theorem dX5_chance_7 : decode cX5_chance 7 = .ok (.ifCond .eq 32, 3) := by decide +kernel
theorem dX5_chance_10 : decode cX5_chance 10 = .ok (.iconst 5, 1) := by decide +kernel
theorem dX5_chance_11 : decode cX5_chance 11 = .ok (.iload_n 3, 1) := by decide +kernel
theorem dX5_chance_12 : decode cX5_chance 12 = .ok (.invokestatic 99, 3) := by decide +kernel
theorem dX5_chance_15 : decode cX5_chance 15 = .ok (.ifCond .eq 24, 3) := by decide +kernel
theorem dX5_chance_18 : decode cX5_chance 18 = .ok (.iload 4, 2) := by decide +kernel
theorem dX5_chance_20 : decode cX5_chance 20 = .ok (.iconst 0, 1) := by decide +kernel
theorem dX5_chance_21 : decode cX5_chance 21 = .ok (.bipush 8, 2) := by decide +kernel
theorem dX5_chance_23 : decode cX5_chance 23 = .ok (.invokestatic 73, 3) := by decide +kernel
theorem dX5_chance_26 : decode cX5_chance 26 = .ok (.ifCond .eq 13, 3) := by decide +kernel
theorem dX5_chance_29 : decode cX5_chance 29 = .ok (.iload 5, 2) := by decide +kernel
theorem dX5_chance_31 : decode cX5_chance 31 = .ok (.iconst 0, 1) := by decide +kernel
theorem dX5_chance_32 : decode cX5_chance 32 = .ok (.iconst 1, 1) := by decide +kernel
theorem dX5_chance_33 : decode cX5_chance 33 = .ok (.invokestatic 73, 3) := by decide +kernel
theorem dX5_chance_36 : decode cX5_chance 36 = .ok (.ifCond .ne 7, 3) := by decide +kernel
theorem dX5_chance_39 : decode cX5_chance 39 = .ok (.ldc2_w 253, 3) := by decide +kernel
theorem dX5_chance_42 : decode cX5_chance 42 = .ok (.lreturn, 1) := by decide +kernel
theorem dX5_chance_43 : decode cX5_chance 43 = .ok (.iconst 0, 1) := by decide +kernel
theorem dX5_chance_44 : decode cX5_chance 44 = .ok (.istore 6, 2) := by decide +kernel
theorem dX5_chance_46 : decode cX5_chance 46 = .ok (.iconst 0, 1) := by decide +kernel
theorem dX5_chance_47 : decode cX5_chance 47 = .ok (.istore 7, 2) := by decide +kernel
theorem dX5_chance_49 : decode cX5_chance 49 = .ok (.iload 7, 2) := by decide +kernel
theorem dX5_chance_51 : decode cX5_chance 51 = .ok (.iload_n 2, 1) := by decide +kernel
theorem dX5_chance_52 : decode cX5_chance 52 = .ok (.if_icmp .ge 26, 3) := by decide +kernel
theorem dX5_chance_55 : decode cX5_chance 55 = .ok (.aload_n 0, 1) := by decide +kernel
theorem dX5_chance_56 : decode cX5_chance 56 = .ok (.iload_n 1, 1) := by decide +kernel
theorem dX5_chance_57 : decode cX5_chance 57 = .ok (.iload 7, 2) := by decide +kernel
theorem dX5_chance_59 : decode cX5_chance 59 = .ok (.iadd, 1) := by decide +kernel
theorem dX5_chance_60 : decode cX5_chance 60 = .ok (.iload_n 3, 1) := by decide +kernel
theorem dX5_chance_61 : decode cX5_chance 61 = .ok (.invokevirtual 255, 3) := by decide +kernel
theorem dX5_chance_64 : decode cX5_chance 64 = .ok (.iload 4, 2) := by decide +kernel
theorem dX5_chance_66 : decode cX5_chance 66 = .ok (.if_icmp .lt 6, 3) := by decide +kernel
theorem dX5_chance_69 : decode cX5_chance 69 = .ok (.iinc 6 1, 3) := by decide +kernel
theorem dX5_chance_72 : decode cX5_chance 72 = .ok (.iinc 7 1, 3) := by decide +kernel
theorem dX5_chance_75 : decode cX5_chance 75 = .ok (.goto (-26), 3) := by decide +kernel
theorem dX5_chance_78 : decode cX5_chance 78 = .ok (.iload 6, 2) := by decide +kernel
theorem dX5_chance_80 : decode cX5_chance 80 = .ok (.iload_n 2, 1) := by decide +kernel
theorem dX5_chance_81 : decode cX5_chance 81 = .ok (.invokestatic 258, 3) := by decide +kernel
theorem dX5_chance_84 : decode cX5_chance 84 = .ok (.istore 7, 2) := by decide +kernel
theorem dX5_chance_86 : decode cX5_chance 86 = .ok (.iload 5, 2) := by decide +kernel
theorem dX5_chance_88 : decode cX5_chance 88 = .ok (.ifCond .ne 12, 3) := by decide +kernel
theorem dX5_chance_91 : decode cX5_chance 91 = .ok (.iload 6, 2) := by decide +kernel
theorem dX5_chance_93 : decode cX5_chance 93 = .ok (.iload 7, 2) := by decide +kernel
theorem dX5_chance_95 : decode cX5_chance 95 = .ok (.idiv, 1) := by decide +kernel
theorem dX5_chance_96 : decode cX5_chance 96 = .ok (.i2l, 1) := by decide +kernel
theorem dX5_chance_97 : decode cX5_chance 97 = .ok (.goto 8, 3) := by decide +kernel
theorem dX5_chance_100 : decode cX5_chance 100 = .ok (.iload_n 2, 1) := by decide +kernel
theorem dX5_chance_101 : decode cX5_chance 101 = .ok (.iload 7, 2) := by decide +kernel
theorem dX5_chance_103 : decode cX5_chance 103 = .ok (.idiv, 1) := by decide +kernel
theorem dX5_chance_104 : decode cX5_chance 104 = .ok (.i2l, 1) := by decide +kernel
theorem dX5_chance_105 : decode cX5_chance 105 = .ok (.lreturn, 1) := by decide +kernel
theorem dX5_image_0 : decode cX5_image 0 = .ok (.aload_n 0, 1) := by decide +kernel
theorem dX5_image_1 : decode cX5_image 1 = .ok (.getfield 37, 3) := by decide +kernel
theorem dX5_image_4 : decode cX5_image 4 = .ok (.iconst 1, 1) := by decide +kernel
theorem dX5_image_5 : decode cX5_image 5 = .ok (.putfield 261, 3) := by decide +kernel
theorem dX5_image_8 : decode cX5_image 8 = .ok (.aload_n 0, 1) := by decide +kernel
theorem dX5_image_9 : decode cX5_image 9 = .ok (.getfield 37, 3) := by decide +kernel
theorem dX5_image_12 : decode cX5_image 12 = .ok (.aload_n 0, 1) := by decide +kernel
theorem dX5_image_13 : decode cX5_image 13 = .ok (.getfield 83, 3) := by decide +kernel
theorem dX5_image_16 : decode cX5_image 16 = .ok (.putfield 265, 3) := by decide +kernel
theorem dX5_image_19 : decode cX5_image 19 = .ok (.aload_n 0, 1) := by decide +kernel
theorem dX5_image_20 : decode cX5_image 20 = .ok (.getfield 37, 3) := by decide +kernel
theorem dX5_image_23 : decode cX5_image 23 = .ok (.aload_n 0, 1) := by decide +kernel
theorem dX5_image_24 : decode cX5_image 24 = .ok (.getfield 142, 3) := by decide +kernel
theorem dX5_image_27 : decode cX5_image 27 = .ok (.putfield 268, 3) := by decide +kernel
theorem dX5_image_30 : decode cX5_image 30 = .ok (.aload_n 0, 1) := by decide +kernel
theorem dX5_image_31 : decode cX5_image 31 = .ok (.getfield 37, 3) := by decide +kernel
theorem dX5_image_34 : decode cX5_image 34 = .ok (.aload_n 0, 1) := by decide +kernel
theorem dX5_image_35 : decode cX5_image 35 = .ok (.getfield 103, 3) := by decide +kernel
theorem dX5_image_38 : decode cX5_image 38 = .ok (.putfield 269, 3) := by decide +kernel
theorem dX5_image_41 : decode cX5_image 41 = .ok (.iconst 0, 1) := by decide +kernel
theorem dX5_image_42 : decode cX5_image 42 = .ok (.istore_n 1, 1) := by decide +kernel
theorem dX5_image_43 : decode cX5_image 43 = .ok (.iload_n 1, 1) := by decide +kernel
theorem dX5_image_44 : decode cX5_image 44 = .ok (.aload_n 0, 1) := by decide +kernel
theorem dX5_image_45 : decode cX5_image 45 = .ok (.getfield 103, 3) := by decide +kernel
theorem dX5_image_48 : decode cX5_image 48 = .ok (.if_icmp .ge 27, 3) := by decide +kernel
theorem dX5_image_51 : decode cX5_image 51 = .ok (.aload_n 0, 1) := by decide +kernel
theorem dX5_image_52 : decode cX5_image 52 = .ok (.getfield 37, 3) := by decide +kernel
theorem dX5_image_55 : decode cX5_image 55 = .ok (.getfield 270, 3) := by decide +kernel
theorem dX5_image_58 : decode cX5_image 58 = .ok (.iload_n 1, 1) := by decide +kernel
theorem dX5_image_59 : decode cX5_image 59 = .ok (.aaload, 1) := by decide +kernel
theorem dX5_image_60 : decode cX5_image 60 = .ok (.aload_n 0, 1) := by decide +kernel
theorem dX5_image_61 : decode cX5_image 61 = .ok (.getfield 11, 3) := by decide +kernel
theorem dX5_image_64 : decode cX5_image 64 = .ok (.iload_n 1, 1) := by decide +kernel
theorem dX5_image_65 : decode cX5_image 65 = .ok (.aaload, 1) := by decide +kernel
theorem dX5_image_66 : decode cX5_image 66 = .ok (.invokevirtual 273, 3) := by decide +kernel
theorem dX5_image_69 : decode cX5_image 69 = .ok (.iinc 1 1, 3) := by decide +kernel
theorem dX5_image_72 : decode cX5_image 72 = .ok (.goto (-29), 3) := by decide +kernel
theorem dX5_image_75 : decode cX5_image 75 = .ok (.aload_n 0, 1) := by decide +kernel
theorem dX5_image_76 : decode cX5_image 76 = .ok (.getfield 103, 3) := by decide +kernel
theorem dX5_image_79 : decode cX5_image 79 = .ok (.ireturn, 1) := by decide +kernel
theorem dX5_back_0 : decode cX5_back 0 = .ok (.aload_n 0, 1) := by decide +kernel
theorem dX5_back_1 : decode cX5_back 1 = .ok (.getfield 37, 3) := by decide +kernel
theorem dX5_back_4 : decode cX5_back 4 = .ok (.getfield 261, 3) := by decide +kernel
theorem dX5_back_7 : decode cX5_back 7 = .ok (.ifCond .ne 6, 3) := by decide +kernel
theorem dX5_back_10 : decode cX5_back 10 = .ok (.bipush (-3), 2) := by decide +kernel
theorem dX5_back_12 : decode cX5_back 12 = .ok (.ireturn, 1) := by decide +kernel
theorem dX5_back_13 : decode cX5_back 13 = .ok (.aload_n 0, 1) := by decide +kernel
theorem dX5_back_14 : decode cX5_back 14 = .ok (.aload_n 0, 1) := by decide +kernel
theorem dX5_back_15 : decode cX5_back 15 = .ok (.getfield 37, 3) := by decide +kernel
theorem dX5_back_18 : decode cX5_back 18 = .ok (.getfield 265, 3) := by decide +kernel
theorem dX5_back_21 : decode cX5_back 21 = .ok (.putfield 83, 3) := by decide +kernel
theorem dX5_back_24 : decode cX5_back 24 = .ok (.aload_n 0, 1) := by decide +kernel
theorem dX5_back_25 : decode cX5_back 25 = .ok (.aload_n 0, 1) := by decide +kernel
theorem dX5_back_26 : decode cX5_back 26 = .ok (.getfield 37, 3) := by decide +kernel
theorem dX5_back_29 : decode cX5_back 29 = .ok (.getfield 268, 3) := by decide +kernel
theorem dX5_back_32 : decode cX5_back 32 = .ok (.putfield 142, 3) := by decide +kernel
theorem dX5_back_35 : decode cX5_back 35 = .ok (.aload_n 0, 1) := by decide +kernel
theorem dX5_back_36 : decode cX5_back 36 = .ok (.aload_n 0, 1) := by decide +kernel
theorem dX5_back_37 : decode cX5_back 37 = .ok (.getfield 37, 3) := by decide +kernel
theorem dX5_back_40 : decode cX5_back 40 = .ok (.getfield 269, 3) := by decide +kernel
theorem dX5_back_43 : decode cX5_back 43 = .ok (.putfield 103, 3) := by decide +kernel
theorem dX5_back_46 : decode cX5_back 46 = .ok (.iconst 0, 1) := by decide +kernel
theorem dX5_back_47 : decode cX5_back 47 = .ok (.istore_n 1, 1) := by decide +kernel
theorem dX5_back_48 : decode cX5_back 48 = .ok (.iload_n 1, 1) := by decide +kernel
theorem dX5_back_49 : decode cX5_back 49 = .ok (.aload_n 0, 1) := by decide +kernel
theorem dX5_back_50 : decode cX5_back 50 = .ok (.getfield 103, 3) := by decide +kernel
theorem dX5_back_53 : decode cX5_back 53 = .ok (.if_icmp .ge 27, 3) := by decide +kernel
theorem dX5_back_56 : decode cX5_back 56 = .ok (.aload_n 0, 1) := by decide +kernel
theorem dX5_back_57 : decode cX5_back 57 = .ok (.getfield 11, 3) := by decide +kernel
theorem dX5_back_60 : decode cX5_back 60 = .ok (.iload_n 1, 1) := by decide +kernel
theorem dX5_back_61 : decode cX5_back 61 = .ok (.aaload, 1) := by decide +kernel
theorem dX5_back_62 : decode cX5_back 62 = .ok (.aload_n 0, 1) := by decide +kernel
theorem dX5_back_63 : decode cX5_back 63 = .ok (.getfield 37, 3) := by decide +kernel
theorem dX5_back_66 : decode cX5_back 66 = .ok (.getfield 270, 3) := by decide +kernel
theorem dX5_back_69 : decode cX5_back 69 = .ok (.iload_n 1, 1) := by decide +kernel
theorem dX5_back_70 : decode cX5_back 70 = .ok (.aaload, 1) := by decide +kernel
theorem dX5_back_71 : decode cX5_back 71 = .ok (.invokevirtual 273, 3) := by decide +kernel
theorem dX5_back_74 : decode cX5_back 74 = .ok (.iinc 1 1, 3) := by decide +kernel
theorem dX5_back_77 : decode cX5_back 77 = .ok (.goto (-29), 3) := by decide +kernel
theorem dX5_back_80 : decode cX5_back 80 = .ok (.aload_n 0, 1) := by decide +kernel
theorem dX5_back_81 : decode cX5_back 81 = .ok (.getfield 103, 3) := by decide +kernel
theorem dX5_back_84 : decode cX5_back 84 = .ok (.ireturn, 1) := by decide +kernel
theorem dX5_count_0 : decode cX5_count 0 = .ok (.iload_n 1, 1) := by decide +kernel
theorem dX5_count_1 : decode cX5_count 1 = .ok (.tableswitch 72 0 5 #[39, 44, 49, 54, 59, 67], 39) := by decide +kernel
theorem dX5_count_40 : decode cX5_count 40 = .ok (.aload_n 0, 1) := by decide +kernel
theorem dX5_count_41 : decode cX5_count 41 = .ok (.getfield 103, 3) := by decide +kernel
theorem dX5_count_44 : decode cX5_count 44 = .ok (.ireturn, 1) := by decide +kernel
theorem dX5_count_45 : decode cX5_count 45 = .ok (.aload_n 0, 1) := by decide +kernel
theorem dX5_count_46 : decode cX5_count 46 = .ok (.invokevirtual 276, 3) := by decide +kernel
theorem dX5_count_49 : decode cX5_count 49 = .ok (.ireturn, 1) := by decide +kernel
theorem dX5_count_50 : decode cX5_count 50 = .ok (.aload_n 0, 1) := by decide +kernel
theorem dX5_count_51 : decode cX5_count 51 = .ok (.getfield 83, 3) := by decide +kernel
theorem dX5_count_54 : decode cX5_count 54 = .ok (.ireturn, 1) := by decide +kernel
theorem dX5_count_55 : decode cX5_count 55 = .ok (.aload_n 0, 1) := by decide +kernel
theorem dX5_count_56 : decode cX5_count 56 = .ok (.getfield 139, 3) := by decide +kernel
theorem dX5_count_59 : decode cX5_count 59 = .ok (.ireturn, 1) := by decide +kernel
theorem dX5_count_60 : decode cX5_count 60 = .ok (.aload_n 0, 1) := by decide +kernel
theorem dX5_count_61 : decode cX5_count 61 = .ok (.getfield 18, 3) := by decide +kernel
theorem dX5_count_64 : decode cX5_count 64 = .ok (.getfield 136, 3) := by decide +kernel
theorem dX5_count_67 : decode cX5_count 67 = .ok (.ireturn, 1) := by decide +kernel
theorem dX5_count_68 : decode cX5_count 68 = .ok (.aload_n 0, 1) := by decide +kernel
theorem dX5_count_69 : decode cX5_count 69 = .ok (.getfield 142, 3) := by decide +kernel
theorem dX5_count_72 : decode cX5_count 72 = .ok (.ireturn, 1) := by decide +kernel
theorem dX5_count_73 : decode cX5_count 73 = .ok (.bipush (-2), 2) := by decide +kernel
theorem dX5_count_75 : decode cX5_count 75 = .ok (.ireturn, 1) := by decide +kernel
theorem dX5_sheet_0 : decode cX5_sheet 0 = .ok (.iload_n 1, 1) := by decide +kernel
theorem dX5_sheet_1 : decode cX5_sheet 1 = .ok (.invokestatic 208, 3) := by decide +kernel
theorem dX5_sheet_4 : decode cX5_sheet 4 = .ok (.ifCond .eq 12, 3) := by decide +kernel
theorem dX5_sheet_7 : decode cX5_sheet 7 = .ok (.iload_n 2, 1) := by decide +kernel
theorem dX5_sheet_8 : decode cX5_sheet 8 = .ok (.iconst (-1), 1) := by decide +kernel
theorem dX5_sheet_9 : decode cX5_sheet 9 = .ok (.iconst 2, 1) := by decide +kernel
theorem dX5_sheet_10 : decode cX5_sheet 10 = .ok (.invokestatic 73, 3) := by decide +kernel
theorem dX5_sheet_13 : decode cX5_sheet 13 = .ok (.ifCond .ne 6, 3) := by decide +kernel
theorem dX5_sheet_16 : decode cX5_sheet 16 = .ok (.bipush (-2), 2) := by decide +kernel
theorem dX5_sheet_18 : decode cX5_sheet 18 = .ok (.ireturn, 1) := by decide +kernel
theorem dX5_sheet_19 : decode cX5_sheet 19 = .ok (.iload_n 2, 1) := by decide +kernel
theorem dX5_sheet_20 : decode cX5_sheet 20 = .ok (.iconst (-1), 1) := by decide +kernel
theorem dX5_sheet_21 : decode cX5_sheet 21 = .ok (.if_icmp .ne 16, 3) := by decide +kernel
theorem dX5_sheet_24 : decode cX5_sheet 24 = .ok (.aload_n 0, 1) := by decide +kernel
theorem dX5_sheet_25 : decode cX5_sheet 25 = .ok (.getfield 30, 3) := by decide +kernel
theorem dX5_sheet_28 : decode cX5_sheet 28 = .ok (.iload_n 1, 1) := by decide +kernel
theorem dX5_sheet_29 : decode cX5_sheet 29 = .ok (.aaload, 1) := by decide +kernel
theorem dX5_sheet_30 : decode cX5_sheet 30 = .ok (.iconst (-1), 1) := by decide +kernel
theorem dX5_sheet_31 : decode cX5_sheet 31 = .ok (.iconst 0, 1) := by decide +kernel
theorem dX5_sheet_32 : decode cX5_sheet 32 = .ok (.invokevirtual 238, 3) := by decide +kernel
theorem dX5_sheet_35 : decode cX5_sheet 35 = .ok (.iconst 1, 1) := by decide +kernel
theorem dX5_sheet_36 : decode cX5_sheet 36 = .ok (.ireturn, 1) := by decide +kernel
theorem dX5_sheet_37 : decode cX5_sheet 37 = .ok (.iload_n 3, 1) := by decide +kernel
theorem dX5_sheet_38 : decode cX5_sheet 38 = .ok (.bipush 40, 2) := by decide +kernel
theorem dX5_sheet_40 : decode cX5_sheet 40 = .ok (.if_icmp .le 6, 3) := by decide +kernel
theorem dX5_sheet_43 : decode cX5_sheet 43 = .ok (.bipush (-2), 2) := by decide +kernel
theorem dX5_sheet_45 : decode cX5_sheet 45 = .ok (.ireturn, 1) := by decide +kernel
theorem dX5_sheet_46 : decode cX5_sheet 46 = .ok (.iload_n 3, 1) := by decide +kernel
theorem dX5_sheet_47 : decode cX5_sheet 47 = .ok (.ifCond .ge 6, 3) := by decide +kernel
theorem dX5_sheet_50 : decode cX5_sheet 50 = .ok (.bipush (-14), 2) := by decide +kernel
theorem dX5_sheet_52 : decode cX5_sheet 52 = .ok (.ireturn, 1) := by decide +kernel
theorem dX5_sheet_53 : decode cX5_sheet 53 = .ok (.aload_n 0, 1) := by decide +kernel
theorem dX5_sheet_54 : decode cX5_sheet 54 = .ok (.getfield 30, 3) := by decide +kernel
theorem dX5_sheet_57 : decode cX5_sheet 57 = .ok (.iload_n 1, 1) := by decide +kernel
theorem dX5_sheet_58 : decode cX5_sheet 58 = .ok (.aaload, 1) := by decide +kernel
theorem dX5_sheet_59 : decode cX5_sheet 59 = .ok (.iload_n 2, 1) := by decide +kernel
theorem dX5_sheet_60 : decode cX5_sheet 60 = .ok (.iload_n 3, 1) := by decide +kernel
theorem dX5_sheet_61 : decode cX5_sheet 61 = .ok (.invokevirtual 238, 3) := by decide +kernel
theorem dX5_sheet_64 : decode cX5_sheet 64 = .ok (.iconst 1, 1) := by decide +kernel
theorem dX5_sheet_65 : decode cX5_sheet 65 = .ok (.ireturn, 1) := by decide +kernel
theorem dX5_cell_0 : decode cX5_cell 0 = .ok (.iload_n 1, 1) := by decide +kernel
theorem dX5_cell_1 : decode cX5_cell 1 = .ok (.invokestatic 208, 3) := by decide +kernel
theorem dX5_cell_4 : decode cX5_cell 4 = .ok (.ifCond .ne 6, 3) := by decide +kernel
theorem dX5_cell_7 : decode cX5_cell 7 = .ok (.bipush (-2), 2) := by decide +kernel
theorem dX5_cell_9 : decode cX5_cell 9 = .ok (.ireturn, 1) := by decide +kernel
theorem dX5_cell_10 : decode cX5_cell 10 = .ok (.aload_n 0, 1) := by decide +kernel
theorem dX5_cell_11 : decode cX5_cell 11 = .ok (.getfield 30, 3) := by decide +kernel
theorem dX5_cell_14 : decode cX5_cell 14 = .ok (.iload_n 1, 1) := by decide +kernel
theorem dX5_cell_15 : decode cX5_cell 15 = .ok (.aaload, 1) := by decide +kernel
theorem dX5_cell_16 : decode cX5_cell 16 = .ok (.astore 4, 2) := by decide +kernel
theorem dX5_cell_18 : decode cX5_cell 18 = .ok (.aload 4, 2) := by decide +kernel
theorem dX5_cell_20 : decode cX5_cell 20 = .ok (.invokevirtual 211, 3) := by decide +kernel
theorem dX5_cell_23 : decode cX5_cell 23 = .ok (.ifCond .eq 6, 3) := by decide +kernel
theorem dX5_cell_26 : decode cX5_cell 26 = .ok (.bipush (-11), 2) := by decide +kernel
theorem dX5_cell_28 : decode cX5_cell 28 = .ok (.ireturn, 1) := by decide +kernel
theorem dX5_cell_29 : decode cX5_cell 29 = .ok (.iload_n 2, 1) := by decide +kernel
theorem dX5_cell_30 : decode cX5_cell 30 = .ok (.iconst 0, 1) := by decide +kernel
theorem dX5_cell_31 : decode cX5_cell 31 = .ok (.aload 4, 2) := by decide +kernel
theorem dX5_cell_33 : decode cX5_cell 33 = .ok (.getfield 279, 3) := by decide +kernel
theorem dX5_cell_36 : decode cX5_cell 36 = .ok (.iconst 1, 1) := by decide +kernel
theorem dX5_cell_37 : decode cX5_cell 37 = .ok (.isub, 1) := by decide +kernel
theorem dX5_cell_38 : decode cX5_cell 38 = .ok (.invokestatic 73, 3) := by decide +kernel
theorem dX5_cell_41 : decode cX5_cell 41 = .ok (.ifCond .ne 6, 3) := by decide +kernel
theorem dX5_cell_44 : decode cX5_cell 44 = .ok (.bipush (-12), 2) := by decide +kernel
theorem dX5_cell_46 : decode cX5_cell 46 = .ok (.ireturn, 1) := by decide +kernel
theorem dX5_cell_47 : decode cX5_cell 47 = .ok (.aload 4, 2) := by decide +kernel
theorem dX5_cell_49 : decode cX5_cell 49 = .ok (.iload_n 2, 1) := by decide +kernel
theorem dX5_cell_50 : decode cX5_cell 50 = .ok (.iload_n 3, 1) := by decide +kernel
theorem dX5_cell_51 : decode cX5_cell 51 = .ok (.invokevirtual 241, 3) := by decide +kernel
theorem dX5_cell_54 : decode cX5_cell 54 = .ok (.iconst 1, 1) := by decide +kernel
theorem dX5_cell_55 : decode cX5_cell 55 = .ok (.ireturn, 1) := by decide +kernel
theorem dX5_copy_0 : decode cX5_copy 0 = .ok (.iload_n 1, 1) := by decide +kernel
theorem dX5_copy_1 : decode cX5_copy 1 = .ok (.invokestatic 208, 3) := by decide +kernel
theorem dX5_copy_4 : decode cX5_copy 4 = .ok (.ifCond .eq 10, 3) := by decide +kernel
theorem dX5_copy_7 : decode cX5_copy 7 = .ok (.iload_n 3, 1) := by decide +kernel
theorem dX5_copy_8 : decode cX5_copy 8 = .ok (.invokestatic 208, 3) := by decide +kernel
theorem dX5_copy_11 : decode cX5_copy 11 = .ok (.ifCond .ne 6, 3) := by decide +kernel
theorem dX5_copy_14 : decode cX5_copy 14 = .ok (.bipush (-2), 2) := by decide +kernel
theorem dX5_copy_16 : decode cX5_copy 16 = .ok (.ireturn, 1) := by decide +kernel
theorem dX5_copy_17 : decode cX5_copy 17 = .ok (.aload_n 0, 1) := by decide +kernel
theorem dX5_copy_18 : decode cX5_copy 18 = .ok (.getfield 30, 3) := by decide +kernel
theorem dX5_copy_21 : decode cX5_copy 21 = .ok (.iload_n 1, 1) := by decide +kernel
theorem dX5_copy_22 : decode cX5_copy 22 = .ok (.aaload, 1) := by decide +kernel
theorem dX5_copy_23 : decode cX5_copy 23 = .ok (.astore 6, 2) := by decide +kernel
theorem dX5_copy_25 : decode cX5_copy 25 = .ok (.aload_n 0, 1) := by decide +kernel
theorem dX5_copy_26 : decode cX5_copy 26 = .ok (.getfield 30, 3) := by decide +kernel
theorem dX5_copy_29 : decode cX5_copy 29 = .ok (.iload_n 3, 1) := by decide +kernel
theorem dX5_copy_30 : decode cX5_copy 30 = .ok (.aaload, 1) := by decide +kernel
theorem dX5_copy_31 : decode cX5_copy 31 = .ok (.astore 7, 2) := by decide +kernel
theorem dX5_copy_33 : decode cX5_copy 33 = .ok (.aload 6, 2) := by decide +kernel
theorem dX5_copy_35 : decode cX5_copy 35 = .ok (.invokevirtual 211, 3) := by decide +kernel
theorem dX5_copy_38 : decode cX5_copy 38 = .ok (.ifCond .ne 11, 3) := by decide +kernel
theorem dX5_copy_41 : decode cX5_copy 41 = .ok (.aload 7, 2) := by decide +kernel
theorem dX5_copy_43 : decode cX5_copy 43 = .ok (.invokevirtual 211, 3) := by decide +kernel
theorem dX5_copy_46 : decode cX5_copy 46 = .ok (.ifCond .eq 6, 3) := by decide +kernel
theorem dX5_copy_49 : decode cX5_copy 49 = .ok (.bipush (-11), 2) := by decide +kernel
theorem dX5_copy_51 : decode cX5_copy 51 = .ok (.ireturn, 1) := by decide +kernel
theorem dX5_copy_52 : decode cX5_copy 52 = .ok (.aload 6, 2) := by decide +kernel
theorem dX5_copy_54 : decode cX5_copy 54 = .ok (.getfield 280, 3) := by decide +kernel
theorem dX5_copy_57 : decode cX5_copy 57 = .ok (.aload 7, 2) := by decide +kernel
theorem dX5_copy_59 : decode cX5_copy 59 = .ok (.getfield 280, 3) := by decide +kernel
theorem dX5_copy_62 : decode cX5_copy 62 = .ok (.if_icmp .eq 6, 3) := by decide +kernel
theorem dX5_copy_65 : decode cX5_copy 65 = .ok (.bipush (-13), 2) := by decide +kernel
theorem dX5_copy_67 : decode cX5_copy 67 = .ok (.ireturn, 1) := by decide +kernel
theorem dX5_copy_68 : decode cX5_copy 68 = .ok (.aload 6, 2) := by decide +kernel
theorem dX5_copy_70 : decode cX5_copy 70 = .ok (.iload_n 2, 1) := by decide +kernel
theorem dX5_copy_71 : decode cX5_copy 71 = .ok (.iload 5, 2) := by decide +kernel
theorem dX5_copy_73 : decode cX5_copy 73 = .ok (.invokevirtual 283, 3) := by decide +kernel
theorem dX5_copy_76 : decode cX5_copy 76 = .ok (.ifCond .eq 15, 3) := by decide +kernel
theorem dX5_copy_79 : decode cX5_copy 79 = .ok (.aload 7, 2) := by decide +kernel
theorem dX5_copy_81 : decode cX5_copy 81 = .ok (.iload 4, 2) := by decide +kernel
theorem dX5_copy_83 : decode cX5_copy 83 = .ok (.iload 5, 2) := by decide +kernel
theorem dX5_copy_85 : decode cX5_copy 85 = .ok (.invokevirtual 283, 3) := by decide +kernel
theorem dX5_copy_88 : decode cX5_copy 88 = .ok (.ifCond .ne 6, 3) := by decide +kernel
theorem dX5_copy_91 : decode cX5_copy 91 = .ok (.bipush (-12), 2) := by decide +kernel
theorem dX5_copy_93 : decode cX5_copy 93 = .ok (.ireturn, 1) := by decide +kernel
theorem dX5_copy_94 : decode cX5_copy 94 = .ok (.aload 6, 2) := by decide +kernel
theorem dX5_copy_96 : decode cX5_copy 96 = .ok (.getfield 286, 3) := by decide +kernel
theorem dX5_copy_99 : decode cX5_copy 99 = .ok (.iload_n 2, 1) := by decide +kernel
theorem dX5_copy_100 : decode cX5_copy 100 = .ok (.aload 7, 2) := by decide +kernel
theorem dX5_copy_102 : decode cX5_copy 102 = .ok (.getfield 286, 3) := by decide +kernel
theorem dX5_copy_105 : decode cX5_copy 105 = .ok (.iload 4, 2) := by decide +kernel
theorem dX5_copy_107 : decode cX5_copy 107 = .ok (.iload 5, 2) := by decide +kernel
theorem dX5_copy_109 : decode cX5_copy 109 = .ok (.invokestatic 289, 3) := by decide +kernel
theorem dX5_copy_112 : decode cX5_copy 112 = .ok (.iload 5, 2) := by decide +kernel
theorem dX5_copy_114 : decode cX5_copy 114 = .ok (.ireturn, 1) := by decide +kernel
theorem dX5_coins_0 : decode cX5_coins 0 = .ok (.iload_n 1, 1) := by decide +kernel
theorem dX5_coins_1 : decode cX5_coins 1 = .ok (.invokestatic 208, 3) := by decide +kernel
theorem dX5_coins_4 : decode cX5_coins 4 = .ok (.ifCond .eq 23, 3) := by decide +kernel
theorem dX5_coins_7 : decode cX5_coins 7 = .ok (.iload_n 2, 1) := by decide +kernel
theorem dX5_coins_8 : decode cX5_coins 8 = .ok (.iconst 0, 1) := by decide +kernel
theorem dX5_coins_9 : decode cX5_coins 9 = .ok (.iconst 2, 1) := by decide +kernel
theorem dX5_coins_10 : decode cX5_coins 10 = .ok (.invokestatic 73, 3) := by decide +kernel
theorem dX5_coins_13 : decode cX5_coins 13 = .ok (.ifCond .eq 14, 3) := by decide +kernel
theorem dX5_coins_16 : decode cX5_coins 16 = .ok (.iload 4, 2) := by decide +kernel
theorem dX5_coins_18 : decode cX5_coins 18 = .ok (.iconst 0, 1) := by decide +kernel
theorem dX5_coins_19 : decode cX5_coins 19 = .ok (.bipush 8, 2) := by decide +kernel
theorem dX5_coins_21 : decode cX5_coins 21 = .ok (.invokestatic 73, 3) := by decide +kernel
theorem dX5_coins_24 : decode cX5_coins 24 = .ok (.ifCond .ne 6, 3) := by decide +kernel
theorem dX5_coins_27 : decode cX5_coins 27 = .ok (.bipush (-2), 2) := by decide +kernel
theorem dX5_coins_29 : decode cX5_coins 29 = .ok (.ireturn, 1) := by decide +kernel
theorem dX5_coins_30 : decode cX5_coins 30 = .ok (.aload_n 0, 1) := by decide +kernel
theorem dX5_coins_31 : decode cX5_coins 31 = .ok (.getfield 30, 3) := by decide +kernel
theorem dX5_coins_34 : decode cX5_coins 34 = .ok (.iload_n 1, 1) := by decide +kernel
theorem dX5_coins_35 : decode cX5_coins 35 = .ok (.aaload, 1) := by decide +kernel
theorem dX5_coins_36 : decode cX5_coins 36 = .ok (.astore 5, 2) := by decide +kernel
theorem dX5_coins_38 : decode cX5_coins 38 = .ok (.aload 5, 2) := by decide +kernel
theorem dX5_coins_40 : decode cX5_coins 40 = .ok (.invokevirtual 211, 3) := by decide +kernel
theorem dX5_coins_43 : decode cX5_coins 43 = .ok (.ifCond .ne 15, 3) := by decide +kernel
theorem dX5_coins_46 : decode cX5_coins 46 = .ok (.aload 5, 2) := by decide +kernel
theorem dX5_coins_48 : decode cX5_coins 48 = .ok (.getfield 280, 3) := by decide +kernel
theorem dX5_coins_51 : decode cX5_coins 51 = .ok (.iload_n 2, 1) := by decide +kernel
theorem dX5_coins_52 : decode cX5_coins 52 = .ok (.if_icmp .eq 6, 3) := by decide +kernel
theorem dX5_coins_55 : decode cX5_coins 55 = .ok (.bipush (-13), 2) := by decide +kernel
theorem dX5_coins_57 : decode cX5_coins 57 = .ok (.ireturn, 1) := by decide +kernel
theorem dX5_coins_58 : decode cX5_coins 58 = .ok (.aload 5, 2) := by decide +kernel
theorem dX5_coins_60 : decode cX5_coins 60 = .ok (.invokevirtual 211, 3) := by decide +kernel
theorem dX5_coins_63 : decode cX5_coins 63 = .ok (.ifCond .eq 6, 3) := by decide +kernel
theorem dX5_coins_66 : decode cX5_coins 66 = .ok (.bipush (-11), 2) := by decide +kernel
theorem dX5_coins_68 : decode cX5_coins 68 = .ok (.ireturn, 1) := by decide +kernel
theorem dX5_coins_69 : decode cX5_coins 69 = .ok (.iconst 0, 1) := by decide +kernel
theorem dX5_coins_70 : decode cX5_coins 70 = .ok (.istore 6, 2) := by decide +kernel
theorem dX5_coins_72 : decode cX5_coins 72 = .ok (.iload_n 3, 1) := by decide +kernel
theorem dX5_coins_73 : decode cX5_coins 73 = .ok (.istore 7, 2) := by decide +kernel
theorem dX5_coins_75 : decode cX5_coins 75 = .ok (.iconst 0, 1) := by decide +kernel
theorem dX5_coins_76 : decode cX5_coins 76 = .ok (.istore 8, 2) := by decide +kernel
theorem dX5_coins_78 : decode cX5_coins 78 = .ok (.iload 8, 2) := by decide +kernel
theorem dX5_coins_80 : decode cX5_coins 80 = .ok (.iload 4, 2) := by decide +kernel
theorem dX5_coins_82 : decode cX5_coins 82 = .ok (.if_icmp .ge 64, 3) := by decide +kernel
theorem dX5_coins_85 : decode cX5_coins 85 = .ok (.aload 5, 2) := by decide +kernel
theorem dX5_coins_87 : decode cX5_coins 87 = .ok (.iload 7, 2) := by decide +kernel
theorem dX5_coins_89 : decode cX5_coins 89 = .ok (.iconst 3, 1) := by decide +kernel
theorem dX5_coins_90 : decode cX5_coins 90 = .ok (.invokevirtual 283, 3) := by decide +kernel
theorem dX5_coins_93 : decode cX5_coins 93 = .ok (.ifCond .ne 6, 3) := by decide +kernel
theorem dX5_coins_96 : decode cX5_coins 96 = .ok (.bipush (-12), 2) := by decide +kernel
theorem dX5_coins_98 : decode cX5_coins 98 = .ok (.ireturn, 1) := by decide +kernel
theorem dX5_coins_99 : decode cX5_coins 99 = .ok (.aload_n 0, 1) := by decide +kernel
theorem dX5_coins_100 : decode cX5_coins 100 = .ok (.aload 5, 2) := by decide +kernel
theorem dX5_coins_102 : decode cX5_coins 102 = .ok (.getfield 286, 3) := by decide +kernel
theorem dX5_coins_105 : decode cX5_coins 105 = .ok (.iload 7, 2) := by decide +kernel
theorem dX5_coins_107 : decode cX5_coins 107 = .ok (.iaload, 1) := by decide +kernel
theorem dX5_coins_108 : decode cX5_coins 108 = .ok (.aload 5, 2) := by decide +kernel
theorem dX5_coins_110 : decode cX5_coins 110 = .ok (.getfield 286, 3) := by decide +kernel
theorem dX5_coins_113 : decode cX5_coins 113 = .ok (.iload 7, 2) := by decide +kernel
theorem dX5_coins_115 : decode cX5_coins 115 = .ok (.iconst 1, 1) := by decide +kernel
theorem dX5_coins_116 : decode cX5_coins 116 = .ok (.iadd, 1) := by decide +kernel
theorem dX5_coins_117 : decode cX5_coins 117 = .ok (.iaload, 1) := by decide +kernel
theorem dX5_coins_118 : decode cX5_coins 118 = .ok (.aload 5, 2) := by decide +kernel
theorem dX5_coins_120 : decode cX5_coins 120 = .ok (.getfield 286, 3) := by decide +kernel
theorem dX5_coins_123 : decode cX5_coins 123 = .ok (.iload 7, 2) := by decide +kernel
theorem dX5_coins_125 : decode cX5_coins 125 = .ok (.iconst 2, 1) := by decide +kernel
theorem dX5_coins_126 : decode cX5_coins 126 = .ok (.iadd, 1) := by decide +kernel
theorem dX5_coins_127 : decode cX5_coins 127 = .ok (.iaload, 1) := by decide +kernel
theorem dX5_coins_128 : decode cX5_coins 128 = .ok (.invokevirtual 295, 3) := by decide +kernel
theorem dX5_coins_131 : decode cX5_coins 131 = .ok (.ifCond .lt 6, 3) := by decide +kernel
theorem dX5_coins_134 : decode cX5_coins 134 = .ok (.iinc 6 1, 3) := by decide +kernel
theorem dX5_coins_137 : decode cX5_coins 137 = .ok (.iinc 7 3, 3) := by decide +kernel
theorem dX5_coins_140 : decode cX5_coins 140 = .ok (.iinc 8 1, 3) := by decide +kernel
theorem dX5_coins_143 : decode cX5_coins 143 = .ok (.goto (-65), 3) := by decide +kernel
theorem dX5_coins_146 : decode cX5_coins 146 = .ok (.iload 6, 2) := by decide +kernel
theorem dX5_coins_148 : decode cX5_coins 148 = .ok (.ireturn, 1) := by decide +kernel
theorem dX5_taken_0 : decode cX5_taken 0 = .ok (.bipush 6, 2) := by decide +kernel
theorem dX5_taken_2 : decode cX5_taken 2 = .ok (.iload_n 2, 1) := by decide +kernel
theorem dX5_taken_3 : decode cX5_taken 3 = .ok (.invokestatic 99, 3) := by decide +kernel
theorem dX5_taken_6 : decode cX5_taken 6 = .ok (.ifCond .ne 6, 3) := by decide +kernel
theorem dX5_taken_9 : decode cX5_taken 9 = .ok (.bipush (-2), 2) := by decide +kernel
theorem dX5_taken_11 : decode cX5_taken 11 = .ok (.ireturn, 1) := by decide +kernel
theorem dX5_taken_12 : decode cX5_taken 12 = .ok (.aload_n 0, 1) := by decide +kernel
theorem dX5_taken_13 : decode cX5_taken 13 = .ok (.iload_n 1, 1) := by decide +kernel
theorem dX5_taken_14 : decode cX5_taken 14 = .ok (.invokevirtual 87, 3) := by decide +kernel
theorem dX5_taken_17 : decode cX5_taken 17 = .ok (.ifCond .ne 6, 3) := by decide +kernel
theorem dX5_taken_20 : decode cX5_taken 20 = .ok (.bipush (-11), 2) := by decide +kernel
theorem dX5_taken_22 : decode cX5_taken 22 = .ok (.ireturn, 1) := by decide +kernel
theorem dX5_taken_23 : decode cX5_taken 23 = .ok (.aload_n 0, 1) := by decide +kernel
theorem dX5_taken_24 : decode cX5_taken 24 = .ok (.getfield 11, 3) := by decide +kernel
theorem dX5_taken_27 : decode cX5_taken 27 = .ok (.iload_n 1, 1) := by decide +kernel
theorem dX5_taken_28 : decode cX5_taken 28 = .ok (.aaload, 1) := by decide +kernel
theorem dX5_taken_29 : decode cX5_taken 29 = .ok (.getfield 299, 3) := by decide +kernel
theorem dX5_taken_32 : decode cX5_taken 32 = .ok (.iload_n 2, 1) := by decide +kernel
theorem dX5_taken_33 : decode cX5_taken 33 = .ok (.invokestatic 302, 3) := by decide +kernel
theorem dX5_taken_36 : decode cX5_taken 36 = .ok (.ifCond .eq 15, 3) := by decide +kernel
theorem dX5_taken_39 : decode cX5_taken 39 = .ok (.aload_n 0, 1) := by decide +kernel
theorem dX5_taken_40 : decode cX5_taken 40 = .ok (.getfield 11, 3) := by decide +kernel
theorem dX5_taken_43 : decode cX5_taken 43 = .ok (.iload_n 1, 1) := by decide +kernel
theorem dX5_taken_44 : decode cX5_taken 44 = .ok (.aaload, 1) := by decide +kernel
theorem dX5_taken_45 : decode cX5_taken 45 = .ok (.getfield 305, 3) := by decide +kernel
theorem dX5_taken_48 : decode cX5_taken 48 = .ok (.goto 5, 3) := by decide +kernel
theorem dX5_taken_51 : decode cX5_taken 51 = .ok (.bipush (-13), 2) := by decide +kernel
theorem dX5_taken_53 : decode cX5_taken 53 = .ok (.ireturn, 1) := by decide +kernel
theorem dX5_isBetween_0 : decode cX5_isBetween 0 = .ok (.iload_n 0, 1) := by decide +kernel
theorem dX5_isBetween_1 : decode cX5_isBetween 1 = .ok (.iload_n 1, 1) := by decide +kernel
theorem dX5_isBetween_2 : decode cX5_isBetween 2 = .ok (.if_icmp .lt 12, 3) := by decide +kernel
theorem dX5_isBetween_5 : decode cX5_isBetween 5 = .ok (.iload_n 0, 1) := by decide +kernel
theorem dX5_isBetween_6 : decode cX5_isBetween 6 = .ok (.iload_n 2, 1) := by decide +kernel
theorem dX5_isBetween_7 : decode cX5_isBetween 7 = .ok (.if_icmp .gt 7, 3) := by decide +kernel
theorem dX5_isBetween_10 : decode cX5_isBetween 10 = .ok (.iconst 1, 1) := by decide +kernel
theorem dX5_isBetween_11 : decode cX5_isBetween 11 = .ok (.goto 4, 3) := by decide +kernel
theorem dX5_isBetween_14 : decode cX5_isBetween 14 = .ok (.iconst 0, 1) := by decide +kernel
theorem dX5_isBetween_15 : decode cX5_isBetween 15 = .ok (.ireturn, 1) := by decide +kernel
theorem dX5_isOf_0 : decode cX5_isOf 0 = .ok (.iload_n 1, 1) := by decide +kernel
theorem dX5_isOf_1 : decode cX5_isOf 1 = .ok (.getstatic 77, 3) := by decide +kernel
theorem dX5_isOf_4 : decode cX5_isOf 4 = .ok (.iload_n 0, 1) := by decide +kernel
theorem dX5_isOf_5 : decode cX5_isOf 5 = .ok (.iaload, 1) := by decide +kernel
theorem dX5_isOf_6 : decode cX5_isOf 6 = .ok (.if_icmp .lt 16, 3) := by decide +kernel
theorem dX5_isOf_9 : decode cX5_isOf 9 = .ok (.iload_n 1, 1) := by decide +kernel
theorem dX5_isOf_10 : decode cX5_isOf 10 = .ok (.getstatic 80, 3) := by decide +kernel
theorem dX5_isOf_13 : decode cX5_isOf 13 = .ok (.iload_n 0, 1) := by decide +kernel
theorem dX5_isOf_14 : decode cX5_isOf 14 = .ok (.iaload, 1) := by decide +kernel
theorem dX5_isOf_15 : decode cX5_isOf 15 = .ok (.if_icmp .gt 7, 3) := by decide +kernel
theorem dX5_isOf_18 : decode cX5_isOf 18 = .ok (.iconst 1, 1) := by decide +kernel
theorem dX5_isOf_19 : decode cX5_isOf 19 = .ok (.goto 4, 3) := by decide +kernel
theorem dX5_isOf_22 : decode cX5_isOf 22 = .ok (.iconst 0, 1) := by decide +kernel
theorem dX5_isOf_23 : decode cX5_isOf 23 = .ok (.ireturn, 1) := by decide +kernel
theorem dX5_isCoin_0 : decode cX5_isCoin 0 = .ok (.iload_n 1, 1) := by decide +kernel
theorem dX5_isCoin_1 : decode cX5_isCoin 1 = .ok (.ifCond .lt 15, 3) := by decide +kernel
theorem dX5_isCoin_4 : decode cX5_isCoin 4 = .ok (.iload_n 1, 1) := by decide +kernel
theorem dX5_isCoin_5 : decode cX5_isCoin 5 = .ok (.aload_n 0, 1) := by decide +kernel
theorem dX5_isCoin_6 : decode cX5_isCoin 6 = .ok (.getfield 103, 3) := by decide +kernel
theorem dX5_isCoin_9 : decode cX5_isCoin 9 = .ok (.if_icmp .ge 7, 3) := by decide +kernel
theorem dX5_isCoin_12 : decode cX5_isCoin 12 = .ok (.iconst 1, 1) := by decide +kernel
theorem dX5_isCoin_13 : decode cX5_isCoin 13 = .ok (.goto 4, 3) := by decide +kernel
theorem dX5_isCoin_16 : decode cX5_isCoin 16 = .ok (.iconst 0, 1) := by decide +kernel
theorem dX5_isCoin_17 : decode cX5_isCoin 17 = .ok (.ireturn, 1) := by decide +kernel
theorem dX5_isSheet_0 : decode cX5_isSheet 0 = .ok (.iload_n 0, 1) := by decide +kernel
theorem dX5_isSheet_1 : decode cX5_isSheet 1 = .ok (.ifCond .lt 12, 3) := by decide +kernel
theorem dX5_isSheet_4 : decode cX5_isSheet 4 = .ok (.iload_n 0, 1) := by decide +kernel
theorem dX5_isSheet_5 : decode cX5_isSheet 5 = .ok (.iconst 4, 1) := by decide +kernel
theorem dX5_isSheet_6 : decode cX5_isSheet 6 = .ok (.if_icmp .ge 7, 3) := by decide +kernel
theorem dX5_isSheet_9 : decode cX5_isSheet 9 = .ok (.iconst 1, 1) := by decide +kernel
theorem dX5_isSheet_10 : decode cX5_isSheet 10 = .ok (.goto 4, 3) := by decide +kernel
theorem dX5_isSheet_13 : decode cX5_isSheet 13 = .ok (.iconst 0, 1) := by decide +kernel
theorem dX5_isSheet_14 : decode cX5_isSheet 14 = .ok (.ireturn, 1) := by decide +kernel
theorem dX5_areTwoOwners_0 : decode cX5_areTwoOwners 0 = .ok (.iconst 5, 1) := by decide +kernel
theorem dX5_areTwoOwners_1 : decode cX5_areTwoOwners 1 = .ok (.iload_n 0, 1) := by decide +kernel
theorem dX5_areTwoOwners_2 : decode cX5_areTwoOwners 2 = .ok (.invokestatic 99, 3) := by decide +kernel
theorem dX5_areTwoOwners_5 : decode cX5_areTwoOwners 5 = .ok (.ifCond .eq 20, 3) := by decide +kernel
theorem dX5_areTwoOwners_8 : decode cX5_areTwoOwners 8 = .ok (.iconst 5, 1) := by decide +kernel
theorem dX5_areTwoOwners_9 : decode cX5_areTwoOwners 9 = .ok (.iload_n 1, 1) := by decide +kernel
theorem dX5_areTwoOwners_10 : decode cX5_areTwoOwners 10 = .ok (.invokestatic 99, 3) := by decide +kernel
theorem dX5_areTwoOwners_13 : decode cX5_areTwoOwners 13 = .ok (.ifCond .eq 12, 3) := by decide +kernel
theorem dX5_areTwoOwners_16 : decode cX5_areTwoOwners 16 = .ok (.iload_n 0, 1) := by decide +kernel
theorem dX5_areTwoOwners_17 : decode cX5_areTwoOwners 17 = .ok (.iload_n 1, 1) := by decide +kernel
theorem dX5_areTwoOwners_18 : decode cX5_areTwoOwners 18 = .ok (.if_icmp .eq 7, 3) := by decide +kernel
theorem dX5_areTwoOwners_21 : decode cX5_areTwoOwners 21 = .ok (.iconst 1, 1) := by decide +kernel
theorem dX5_areTwoOwners_22 : decode cX5_areTwoOwners 22 = .ok (.goto 4, 3) := by decide +kernel
theorem dX5_areTwoOwners_25 : decode cX5_areTwoOwners 25 = .ok (.iconst 0, 1) := by decide +kernel
theorem dX5_areTwoOwners_26 : decode cX5_areTwoOwners 26 = .ok (.ireturn, 1) := by decide +kernel
theorem dX5_holds_0 : decode cX5_holds 0 = .ok (.iload_n 0, 1) := by decide +kernel
theorem dX5_holds_1 : decode cX5_holds 1 = .ok (.iload_n 1, 1) := by decide +kernel
theorem dX5_holds_2 : decode cX5_holds 2 = .ok (.ishr, 1) := by decide +kernel
theorem dX5_holds_3 : decode cX5_holds 3 = .ok (.iconst 1, 1) := by decide +kernel
theorem dX5_holds_4 : decode cX5_holds 4 = .ok (.iand, 1) := by decide +kernel
theorem dX5_holds_5 : decode cX5_holds 5 = .ok (.iconst 1, 1) := by decide +kernel
theorem dX5_holds_6 : decode cX5_holds 6 = .ok (.if_icmp .ne 7, 3) := by decide +kernel
theorem dX5_holds_9 : decode cX5_holds 9 = .ok (.iconst 1, 1) := by decide +kernel
theorem dX5_holds_10 : decode cX5_holds 10 = .ok (.goto 4, 3) := by decide +kernel
theorem dX5_holds_13 : decode cX5_holds 13 = .ok (.iconst 0, 1) := by decide +kernel
theorem dX5_holds_14 : decode cX5_holds 14 = .ok (.ireturn, 1) := by decide +kernel
theorem dX5_isUnder_0 : decode cX5_isUnder 0 = .ok (.iload_n 0, 1) := by decide +kernel
theorem dX5_isUnder_1 : decode cX5_isUnder 1 = .ok (.istore_n 2, 1) := by decide +kernel
theorem dX5_isUnder_2 : decode cX5_isUnder 2 = .ok (.iconst 0, 1) := by decide +kernel
theorem dX5_isUnder_3 : decode cX5_isUnder 3 = .ok (.istore_n 3, 1) := by decide +kernel
theorem dX5_isUnder_4 : decode cX5_isUnder 4 = .ok (.iload_n 3, 1) := by decide +kernel
theorem dX5_isUnder_5 : decode cX5_isUnder 5 = .ok (.getstatic 308, 3) := by decide +kernel
theorem dX5_isUnder_8 : decode cX5_isUnder 8 = .ok (.arraylength, 1) := by decide +kernel
theorem dX5_isUnder_9 : decode cX5_isUnder 9 = .ok (.if_icmp .ge 27, 3) := by decide +kernel
theorem dX5_isUnder_12 : decode cX5_isUnder 12 = .ok (.iload_n 2, 1) := by decide +kernel
theorem dX5_isUnder_13 : decode cX5_isUnder 13 = .ok (.iconst (-1), 1) := by decide +kernel
theorem dX5_isUnder_14 : decode cX5_isUnder 14 = .ok (.if_icmp .eq 22, 3) := by decide +kernel
theorem dX5_isUnder_17 : decode cX5_isUnder 17 = .ok (.iload_n 2, 1) := by decide +kernel
theorem dX5_isUnder_18 : decode cX5_isUnder 18 = .ok (.iload_n 1, 1) := by decide +kernel
theorem dX5_isUnder_19 : decode cX5_isUnder 19 = .ok (.if_icmp .ne 5, 3) := by decide +kernel
theorem dX5_isUnder_22 : decode cX5_isUnder 22 = .ok (.iconst 1, 1) := by decide +kernel
theorem dX5_isUnder_23 : decode cX5_isUnder 23 = .ok (.ireturn, 1) := by decide +kernel
theorem dX5_isUnder_24 : decode cX5_isUnder 24 = .ok (.getstatic 308, 3) := by decide +kernel
theorem dX5_isUnder_27 : decode cX5_isUnder 27 = .ok (.iload_n 2, 1) := by decide +kernel
theorem dX5_isUnder_28 : decode cX5_isUnder 28 = .ok (.iaload, 1) := by decide +kernel
theorem dX5_isUnder_29 : decode cX5_isUnder 29 = .ok (.istore_n 2, 1) := by decide +kernel
theorem dX5_isUnder_30 : decode cX5_isUnder 30 = .ok (.iinc 3 1, 3) := by decide +kernel
theorem dX5_isUnder_33 : decode cX5_isUnder 33 = .ok (.goto (-29), 3) := by decide +kernel
theorem dX5_isUnder_36 : decode cX5_isUnder 36 = .ok (.iconst 0, 1) := by decide +kernel
theorem dX5_isUnder_37 : decode cX5_isUnder 37 = .ok (.ireturn, 1) := by decide +kernel
theorem dX5_theRule_0 : decode cX5_theRule 0 = .ok (.aload_n 0, 1) := by decide +kernel
theorem dX5_theRule_1 : decode cX5_theRule 1 = .ok (.getfield 24, 3) := by decide +kernel
theorem dX5_theRule_4 : decode cX5_theRule 4 = .ok (.aload_n 0, 1) := by decide +kernel
theorem dX5_theRule_5 : decode cX5_theRule 5 = .ok (.getfield 142, 3) := by decide +kernel
theorem dX5_theRule_8 : decode cX5_theRule 8 = .ok (.aaload, 1) := by decide +kernel
theorem dX5_theRule_9 : decode cX5_theRule 9 = .ok (.areturn, 1) := by decide +kernel
theorem dX5_keepText_0 : decode cX5_keepText 0 = .ok (.aload_n 0, 1) := by decide +kernel
theorem dX5_keepText_1 : decode cX5_keepText 1 = .ok (.getfield 139, 3) := by decide +kernel
theorem dX5_keepText_4 : decode cX5_keepText 4 = .ok (.aload_n 0, 1) := by decide +kernel
theorem dX5_keepText_5 : decode cX5_keepText 5 = .ok (.getfield 24, 3) := by decide +kernel
theorem dX5_keepText_8 : decode cX5_keepText 8 = .ok (.arraylength, 1) := by decide +kernel
theorem dX5_keepText_9 : decode cX5_keepText 9 = .ok (.if_icmp .ge 29, 3) := by decide +kernel
theorem dX5_keepText_12 : decode cX5_keepText 12 = .ok (.aload_n 0, 1) := by decide +kernel
theorem dX5_keepText_13 : decode cX5_keepText 13 = .ok (.getfield 24, 3) := by decide +kernel
theorem dX5_keepText_16 : decode cX5_keepText 16 = .ok (.aload_n 0, 1) := by decide +kernel
theorem dX5_keepText_17 : decode cX5_keepText 17 = .ok (.getfield 139, 3) := by decide +kernel
theorem dX5_keepText_20 : decode cX5_keepText 20 = .ok (.aload_n 0, 1) := by decide +kernel
theorem dX5_keepText_21 : decode cX5_keepText 21 = .ok (.getfield 18, 3) := by decide +kernel
theorem dX5_keepText_24 : decode cX5_keepText 24 = .ok (.invokevirtual 311, 3) := by decide +kernel
theorem dX5_keepText_27 : decode cX5_keepText 27 = .ok (.aastore, 1) := by decide +kernel
theorem dX5_keepText_28 : decode cX5_keepText 28 = .ok (.aload_n 0, 1) := by decide +kernel
theorem dX5_keepText_29 : decode cX5_keepText 29 = .ok (.dup, 1) := by decide +kernel
theorem dX5_keepText_30 : decode cX5_keepText 30 = .ok (.getfield 139, 3) := by decide +kernel
theorem dX5_keepText_33 : decode cX5_keepText 33 = .ok (.iconst 1, 1) := by decide +kernel
theorem dX5_keepText_34 : decode cX5_keepText 34 = .ok (.iadd, 1) := by decide +kernel
theorem dX5_keepText_35 : decode cX5_keepText 35 = .ok (.putfield 139, 3) := by decide +kernel
theorem dX5_keepText_38 : decode cX5_keepText 38 = .ok (.aload_n 0, 1) := by decide +kernel
theorem dX5_keepText_39 : decode cX5_keepText 39 = .ok (.getfield 18, 3) := by decide +kernel
theorem dX5_keepText_42 : decode cX5_keepText 42 = .ok (.iconst 0, 1) := by decide +kernel
theorem dX5_keepText_43 : decode cX5_keepText 43 = .ok (.putfield 136, 3) := by decide +kernel
theorem dX5_keepText_46 : decode cX5_keepText 46 = .ok (.return_, 1) := by decide +kernel
theorem dX5_isWholeBehind_0 : decode cX5_isWholeBehind 0 = .ok (.aload_n 1, 1) := by decide +kernel
theorem dX5_isWholeBehind_1 : decode cX5_isWholeBehind 1 = .ok (.iload_n 2, 1) := by decide +kernel
theorem dX5_isWholeBehind_2 : decode cX5_isWholeBehind 2 = .ok (.invokevirtual 145, 3) := by decide +kernel
theorem dX5_isWholeBehind_5 : decode cX5_isWholeBehind 5 = .ok (.istore_n 3, 1) := by decide +kernel
theorem dX5_isWholeBehind_6 : decode cX5_isWholeBehind 6 = .ok (.iload_n 3, 1) := by decide +kernel
theorem dX5_isWholeBehind_7 : decode cX5_isWholeBehind 7 = .ok (.aload_n 0, 1) := by decide +kernel
theorem dX5_isWholeBehind_8 : decode cX5_isWholeBehind 8 = .ok (.invokevirtual 111, 3) := by decide +kernel
theorem dX5_isWholeBehind_11 : decode cX5_isWholeBehind 11 = .ok (.aload_n 1, 1) := by decide +kernel
theorem dX5_isWholeBehind_12 : decode cX5_isWholeBehind 12 = .ok (.iload_n 3, 1) := by decide +kernel
theorem dX5_isWholeBehind_13 : decode cX5_isWholeBehind 13 = .ok (.aload_n 0, 1) := by decide +kernel
theorem dX5_isWholeBehind_14 : decode cX5_isWholeBehind 14 = .ok (.getfield 83, 3) := by decide +kernel
theorem dX5_isWholeBehind_17 : decode cX5_isWholeBehind 17 = .ok (.iload_n 2, 1) := by decide +kernel
theorem dX5_isWholeBehind_18 : decode cX5_isWholeBehind 18 = .ok (.iadd, 1) := by decide +kernel
theorem dX5_isWholeBehind_19 : decode cX5_isWholeBehind 19 = .ok (.invokevirtual 118, 3) := by decide +kernel
theorem dX5_isWholeBehind_22 : decode cX5_isWholeBehind 22 = .ok (.if_icmp .ge 7, 3) := by decide +kernel
theorem dX5_isWholeBehind_25 : decode cX5_isWholeBehind 25 = .ok (.iconst 1, 1) := by decide +kernel
theorem dX5_isWholeBehind_26 : decode cX5_isWholeBehind 26 = .ok (.goto 4, 3) := by decide +kernel
theorem dX5_isWholeBehind_29 : decode cX5_isWholeBehind 29 = .ok (.iconst 0, 1) := by decide +kernel
theorem dX5_isWholeBehind_30 : decode cX5_isWholeBehind 30 = .ok (.ireturn, 1) := by decide +kernel
theorem dX5_worthBehind_0 : decode cX5_worthBehind 0 = .ok (.aload_n 0, 1) := by decide +kernel
theorem dX5_worthBehind_1 : decode cX5_worthBehind 1 = .ok (.invokevirtual 111, 3) := by decide +kernel
theorem dX5_worthBehind_4 : decode cX5_worthBehind 4 = .ok (.aload_n 1, 1) := by decide +kernel
theorem dX5_worthBehind_5 : decode cX5_worthBehind 5 = .ok (.aload_n 1, 1) := by decide +kernel
theorem dX5_worthBehind_6 : decode cX5_worthBehind 6 = .ok (.iload_n 2, 1) := by decide +kernel
theorem dX5_worthBehind_7 : decode cX5_worthBehind 7 = .ok (.invokevirtual 145, 3) := by decide +kernel
theorem dX5_worthBehind_10 : decode cX5_worthBehind 10 = .ok (.aload_n 0, 1) := by decide +kernel
theorem dX5_worthBehind_11 : decode cX5_worthBehind 11 = .ok (.getfield 83, 3) := by decide +kernel
theorem dX5_worthBehind_14 : decode cX5_worthBehind 14 = .ok (.iload_n 2, 1) := by decide +kernel
theorem dX5_worthBehind_15 : decode cX5_worthBehind 15 = .ok (.iadd, 1) := by decide +kernel
theorem dX5_worthBehind_16 : decode cX5_worthBehind 16 = .ok (.invokevirtual 250, 3) := by decide +kernel
theorem dX5_worthBehind_19 : decode cX5_worthBehind 19 = .ok (.ireturn, 1) := by decide +kernel
theorem dX5_wholeCount_0 : decode cX5_wholeCount 0 = .ok (.iconst 0, 1) := by decide +kernel
theorem dX5_wholeCount_1 : decode cX5_wholeCount 1 = .ok (.istore_n 1, 1) := by decide +kernel
theorem dX5_wholeCount_2 : decode cX5_wholeCount 2 = .ok (.iconst 0, 1) := by decide +kernel
theorem dX5_wholeCount_3 : decode cX5_wholeCount 3 = .ok (.istore_n 2, 1) := by decide +kernel
theorem dX5_wholeCount_4 : decode cX5_wholeCount 4 = .ok (.iload_n 2, 1) := by decide +kernel
theorem dX5_wholeCount_5 : decode cX5_wholeCount 5 = .ok (.aload_n 0, 1) := by decide +kernel
theorem dX5_wholeCount_6 : decode cX5_wholeCount 6 = .ok (.getfield 103, 3) := by decide +kernel
theorem dX5_wholeCount_9 : decode cX5_wholeCount 9 = .ok (.if_icmp .ge 26, 3) := by decide +kernel
theorem dX5_wholeCount_12 : decode cX5_wholeCount 12 = .ok (.aload_n 0, 1) := by decide +kernel
theorem dX5_wholeCount_13 : decode cX5_wholeCount 13 = .ok (.aload_n 0, 1) := by decide +kernel
theorem dX5_wholeCount_14 : decode cX5_wholeCount 14 = .ok (.getfield 11, 3) := by decide +kernel
theorem dX5_wholeCount_17 : decode cX5_wholeCount 17 = .ok (.iload_n 2, 1) := by decide +kernel
theorem dX5_wholeCount_18 : decode cX5_wholeCount 18 = .ok (.aaload, 1) := by decide +kernel
theorem dX5_wholeCount_19 : decode cX5_wholeCount 19 = .ok (.iconst 0, 1) := by decide +kernel
theorem dX5_wholeCount_20 : decode cX5_wholeCount 20 = .ok (.invokevirtual 128, 3) := by decide +kernel
theorem dX5_wholeCount_23 : decode cX5_wholeCount 23 = .ok (.ifCond .eq 6, 3) := by decide +kernel
theorem dX5_wholeCount_26 : decode cX5_wholeCount 26 = .ok (.iinc 1 1, 3) := by decide +kernel
theorem dX5_wholeCount_29 : decode cX5_wholeCount 29 = .ok (.iinc 2 1, 3) := by decide +kernel
theorem dX5_wholeCount_32 : decode cX5_wholeCount 32 = .ok (.goto (-28), 3) := by decide +kernel
theorem dX5_wholeCount_35 : decode cX5_wholeCount 35 = .ok (.iload_n 1, 1) := by decide +kernel
theorem dX5_wholeCount_36 : decode cX5_wholeCount 36 = .ok (.ireturn, 1) := by decide +kernel
theorem dX5_coinsOf_0 : decode cX5_coinsOf 0 = .ok (.iconst 0, 1) := by decide +kernel
theorem dX5_coinsOf_1 : decode cX5_coinsOf 1 = .ok (.istore_n 2, 1) := by decide +kernel
theorem dX5_coinsOf_2 : decode cX5_coinsOf 2 = .ok (.iconst 0, 1) := by decide +kernel
theorem dX5_coinsOf_3 : decode cX5_coinsOf 3 = .ok (.istore_n 3, 1) := by decide +kernel
theorem dX5_coinsOf_4 : decode cX5_coinsOf 4 = .ok (.iload_n 3, 1) := by decide +kernel
theorem dX5_coinsOf_5 : decode cX5_coinsOf 5 = .ok (.aload_n 0, 1) := by decide +kernel
theorem dX5_coinsOf_6 : decode cX5_coinsOf 6 = .ok (.getfield 103, 3) := by decide +kernel
theorem dX5_coinsOf_9 : decode cX5_coinsOf 9 = .ok (.if_icmp .ge 28, 3) := by decide +kernel
theorem dX5_coinsOf_12 : decode cX5_coinsOf 12 = .ok (.aload_n 0, 1) := by decide +kernel
theorem dX5_coinsOf_13 : decode cX5_coinsOf 13 = .ok (.getfield 11, 3) := by decide +kernel
theorem dX5_coinsOf_16 : decode cX5_coinsOf 16 = .ok (.iload_n 3, 1) := by decide +kernel
theorem dX5_coinsOf_17 : decode cX5_coinsOf 17 = .ok (.aaload, 1) := by decide +kernel
theorem dX5_coinsOf_18 : decode cX5_coinsOf 18 = .ok (.getfield 148, 3) := by decide +kernel
theorem dX5_coinsOf_21 : decode cX5_coinsOf 21 = .ok (.iload_n 1, 1) := by decide +kernel
theorem dX5_coinsOf_22 : decode cX5_coinsOf 22 = .ok (.if_icmp .ne 9, 3) := by decide +kernel
theorem dX5_coinsOf_25 : decode cX5_coinsOf 25 = .ok (.iload_n 2, 1) := by decide +kernel
theorem dX5_coinsOf_26 : decode cX5_coinsOf 26 = .ok (.iconst 1, 1) := by decide +kernel
theorem dX5_coinsOf_27 : decode cX5_coinsOf 27 = .ok (.iload_n 3, 1) := by decide +kernel
theorem dX5_coinsOf_28 : decode cX5_coinsOf 28 = .ok (.ishl, 1) := by decide +kernel
theorem dX5_coinsOf_29 : decode cX5_coinsOf 29 = .ok (.ior, 1) := by decide +kernel
theorem dX5_coinsOf_30 : decode cX5_coinsOf 30 = .ok (.istore_n 2, 1) := by decide +kernel
theorem dX5_coinsOf_31 : decode cX5_coinsOf 31 = .ok (.iinc 3 1, 3) := by decide +kernel
theorem dX5_coinsOf_34 : decode cX5_coinsOf 34 = .ok (.goto (-30), 3) := by decide +kernel
theorem dX5_coinsOf_37 : decode cX5_coinsOf 37 = .ok (.iload_n 2, 1) := by decide +kernel
theorem dX5_coinsOf_38 : decode cX5_coinsOf 38 = .ok (.ireturn, 1) := by decide +kernel
theorem dX5_purseBehind_0 : decode cX5_purseBehind 0 = .ok (.iconst 0, 1) := by decide +kernel
theorem dX5_purseBehind_1 : decode cX5_purseBehind 1 = .ok (.istore_n 3, 1) := by decide +kernel
theorem dX5_purseBehind_2 : decode cX5_purseBehind 2 = .ok (.iconst 0, 1) := by decide +kernel
theorem dX5_purseBehind_3 : decode cX5_purseBehind 3 = .ok (.istore 4, 2) := by decide +kernel
theorem dX5_purseBehind_5 : decode cX5_purseBehind 5 = .ok (.iload 4, 2) := by decide +kernel
theorem dX5_purseBehind_7 : decode cX5_purseBehind 7 = .ok (.aload_n 0, 1) := by decide +kernel
theorem dX5_purseBehind_8 : decode cX5_purseBehind 8 = .ok (.getfield 103, 3) := by decide +kernel
theorem dX5_purseBehind_11 : decode cX5_purseBehind 11 = .ok (.if_icmp .ge 45, 3) := by decide +kernel
theorem dX5_purseBehind_14 : decode cX5_purseBehind 14 = .ok (.aload_n 0, 1) := by decide +kernel
theorem dX5_purseBehind_15 : decode cX5_purseBehind 15 = .ok (.getfield 11, 3) := by decide +kernel
theorem dX5_purseBehind_18 : decode cX5_purseBehind 18 = .ok (.iload 4, 2) := by decide +kernel
theorem dX5_purseBehind_20 : decode cX5_purseBehind 20 = .ok (.aaload, 1) := by decide +kernel
theorem dX5_purseBehind_21 : decode cX5_purseBehind 21 = .ok (.getfield 148, 3) := by decide +kernel
theorem dX5_purseBehind_24 : decode cX5_purseBehind 24 = .ok (.iload_n 1, 1) := by decide +kernel
theorem dX5_purseBehind_25 : decode cX5_purseBehind 25 = .ok (.if_icmp .ne 25, 3) := by decide +kernel
theorem dX5_purseBehind_28 : decode cX5_purseBehind 28 = .ok (.aload_n 0, 1) := by decide +kernel
theorem dX5_purseBehind_29 : decode cX5_purseBehind 29 = .ok (.aload_n 0, 1) := by decide +kernel
theorem dX5_purseBehind_30 : decode cX5_purseBehind 30 = .ok (.getfield 11, 3) := by decide +kernel
theorem dX5_purseBehind_33 : decode cX5_purseBehind 33 = .ok (.iload 4, 2) := by decide +kernel
theorem dX5_purseBehind_35 : decode cX5_purseBehind 35 = .ok (.aaload, 1) := by decide +kernel
theorem dX5_purseBehind_36 : decode cX5_purseBehind 36 = .ok (.iload_n 2, 1) := by decide +kernel
theorem dX5_purseBehind_37 : decode cX5_purseBehind 37 = .ok (.invokevirtual 128, 3) := by decide +kernel
theorem dX5_purseBehind_40 : decode cX5_purseBehind 40 = .ok (.ifCond .eq 10, 3) := by decide +kernel
theorem dX5_purseBehind_43 : decode cX5_purseBehind 43 = .ok (.iload_n 3, 1) := by decide +kernel
theorem dX5_purseBehind_44 : decode cX5_purseBehind 44 = .ok (.iconst 1, 1) := by decide +kernel
theorem dX5_purseBehind_45 : decode cX5_purseBehind 45 = .ok (.iload 4, 2) := by decide +kernel
theorem dX5_purseBehind_47 : decode cX5_purseBehind 47 = .ok (.ishl, 1) := by decide +kernel
theorem dX5_purseBehind_48 : decode cX5_purseBehind 48 = .ok (.ior, 1) := by decide +kernel
theorem dX5_purseBehind_49 : decode cX5_purseBehind 49 = .ok (.istore_n 3, 1) := by decide +kernel
theorem dX5_purseBehind_50 : decode cX5_purseBehind 50 = .ok (.iinc 4 1, 3) := by decide +kernel
theorem dX5_purseBehind_53 : decode cX5_purseBehind 53 = .ok (.goto (-48), 3) := by decide +kernel
theorem dX5_purseBehind_56 : decode cX5_purseBehind 56 = .ok (.iload_n 3, 1) := by decide +kernel
theorem dX5_purseBehind_57 : decode cX5_purseBehind 57 = .ok (.ireturn, 1) := by decide +kernel
theorem dX5_richBehind_0 : decode cX5_richBehind 0 = .ok (.iconst 0, 1) := by decide +kernel
theorem dX5_richBehind_1 : decode cX5_richBehind 1 = .ok (.istore_n 3, 1) := by decide +kernel
theorem dX5_richBehind_2 : decode cX5_richBehind 2 = .ok (.iconst 0, 1) := by decide +kernel
theorem dX5_richBehind_3 : decode cX5_richBehind 3 = .ok (.istore 4, 2) := by decide +kernel
theorem dX5_richBehind_5 : decode cX5_richBehind 5 = .ok (.iload 4, 2) := by decide +kernel
theorem dX5_richBehind_7 : decode cX5_richBehind 7 = .ok (.aload_n 0, 1) := by decide +kernel
theorem dX5_richBehind_8 : decode cX5_richBehind 8 = .ok (.getfield 103, 3) := by decide +kernel
theorem dX5_richBehind_11 : decode cX5_richBehind 11 = .ok (.if_icmp .ge 38, 3) := by decide +kernel
theorem dX5_richBehind_14 : decode cX5_richBehind 14 = .ok (.aload_n 0, 1) := by decide +kernel
theorem dX5_richBehind_15 : decode cX5_richBehind 15 = .ok (.getfield 11, 3) := by decide +kernel
theorem dX5_richBehind_18 : decode cX5_richBehind 18 = .ok (.iload 4, 2) := by decide +kernel
theorem dX5_richBehind_20 : decode cX5_richBehind 20 = .ok (.aaload, 1) := by decide +kernel
theorem dX5_richBehind_21 : decode cX5_richBehind 21 = .ok (.getfield 148, 3) := by decide +kernel
theorem dX5_richBehind_24 : decode cX5_richBehind 24 = .ok (.iload_n 1, 1) := by decide +kernel
theorem dX5_richBehind_25 : decode cX5_richBehind 25 = .ok (.if_icmp .ne 18, 3) := by decide +kernel
theorem dX5_richBehind_28 : decode cX5_richBehind 28 = .ok (.iload_n 3, 1) := by decide +kernel
theorem dX5_richBehind_29 : decode cX5_richBehind 29 = .ok (.aload_n 0, 1) := by decide +kernel
theorem dX5_richBehind_30 : decode cX5_richBehind 30 = .ok (.aload_n 0, 1) := by decide +kernel
theorem dX5_richBehind_31 : decode cX5_richBehind 31 = .ok (.getfield 11, 3) := by decide +kernel
theorem dX5_richBehind_34 : decode cX5_richBehind 34 = .ok (.iload 4, 2) := by decide +kernel
theorem dX5_richBehind_36 : decode cX5_richBehind 36 = .ok (.aaload, 1) := by decide +kernel
theorem dX5_richBehind_37 : decode cX5_richBehind 37 = .ok (.iload_n 2, 1) := by decide +kernel
theorem dX5_richBehind_38 : decode cX5_richBehind 38 = .ok (.invokevirtual 132, 3) := by decide +kernel
theorem dX5_richBehind_41 : decode cX5_richBehind 41 = .ok (.iadd, 1) := by decide +kernel
theorem dX5_richBehind_42 : decode cX5_richBehind 42 = .ok (.istore_n 3, 1) := by decide +kernel
theorem dX5_richBehind_43 : decode cX5_richBehind 43 = .ok (.iinc 4 1, 3) := by decide +kernel
theorem dX5_richBehind_46 : decode cX5_richBehind 46 = .ok (.goto (-41), 3) := by decide +kernel
theorem dX5_richBehind_49 : decode cX5_richBehind 49 = .ok (.iload_n 3, 1) := by decide +kernel
theorem dX5_richBehind_50 : decode cX5_richBehind 50 = .ok (.ireturn, 1) := by decide +kernel
theorem dX5_valuesOf_0 : decode cX5_valuesOf 0 = .ok (.iconst 0, 1) := by decide +kernel
theorem dX5_valuesOf_1 : decode cX5_valuesOf 1 = .ok (.istore_n 2, 1) := by decide +kernel
theorem dX5_valuesOf_2 : decode cX5_valuesOf 2 = .ok (.iconst 0, 1) := by decide +kernel
theorem dX5_valuesOf_3 : decode cX5_valuesOf 3 = .ok (.istore_n 3, 1) := by decide +kernel
theorem dX5_valuesOf_4 : decode cX5_valuesOf 4 = .ok (.iload_n 3, 1) := by decide +kernel
theorem dX5_valuesOf_5 : decode cX5_valuesOf 5 = .ok (.aload_n 0, 1) := by decide +kernel
theorem dX5_valuesOf_6 : decode cX5_valuesOf 6 = .ok (.getfield 103, 3) := by decide +kernel
theorem dX5_valuesOf_9 : decode cX5_valuesOf 9 = .ok (.if_icmp .ge 29, 3) := by decide +kernel
theorem dX5_valuesOf_12 : decode cX5_valuesOf 12 = .ok (.iload_n 1, 1) := by decide +kernel
theorem dX5_valuesOf_13 : decode cX5_valuesOf 13 = .ok (.iload_n 3, 1) := by decide +kernel
theorem dX5_valuesOf_14 : decode cX5_valuesOf 14 = .ok (.invokestatic 161, 3) := by decide +kernel
theorem dX5_valuesOf_17 : decode cX5_valuesOf 17 = .ok (.ifCond .eq 15, 3) := by decide +kernel
theorem dX5_valuesOf_20 : decode cX5_valuesOf 20 = .ok (.iload_n 2, 1) := by decide +kernel
theorem dX5_valuesOf_21 : decode cX5_valuesOf 21 = .ok (.aload_n 0, 1) := by decide +kernel
theorem dX5_valuesOf_22 : decode cX5_valuesOf 22 = .ok (.getfield 11, 3) := by decide +kernel
theorem dX5_valuesOf_25 : decode cX5_valuesOf 25 = .ok (.iload_n 3, 1) := by decide +kernel
theorem dX5_valuesOf_26 : decode cX5_valuesOf 26 = .ok (.aaload, 1) := by decide +kernel
theorem dX5_valuesOf_27 : decode cX5_valuesOf 27 = .ok (.getfield 314, 3) := by decide +kernel
theorem dX5_valuesOf_30 : decode cX5_valuesOf 30 = .ok (.iadd, 1) := by decide +kernel
theorem dX5_valuesOf_31 : decode cX5_valuesOf 31 = .ok (.istore_n 2, 1) := by decide +kernel
theorem dX5_valuesOf_32 : decode cX5_valuesOf 32 = .ok (.iinc 3 1, 3) := by decide +kernel
theorem dX5_valuesOf_35 : decode cX5_valuesOf 35 = .ok (.goto (-31), 3) := by decide +kernel
theorem dX5_valuesOf_38 : decode cX5_valuesOf 38 = .ok (.iload_n 2, 1) := by decide +kernel
theorem dX5_valuesOf_39 : decode cX5_valuesOf 39 = .ok (.ireturn, 1) := by decide +kernel
theorem dX5_toSpend_0 : decode cX5_toSpend 0 = .ok (.aload_n 0, 1) := by decide +kernel
theorem dX5_toSpend_1 : decode cX5_toSpend 1 = .ok (.iload_n 1, 1) := by decide +kernel
theorem dX5_toSpend_2 : decode cX5_toSpend 2 = .ok (.iconst 0, 1) := by decide +kernel
theorem dX5_toSpend_3 : decode cX5_toSpend 3 = .ok (.invokevirtual 172, 3) := by decide +kernel
theorem dX5_toSpend_6 : decode cX5_toSpend 6 = .ok (.istore_n 2, 1) := by decide +kernel
theorem dX5_toSpend_7 : decode cX5_toSpend 7 = .ok (.iconst (-1), 1) := by decide +kernel
theorem dX5_toSpend_8 : decode cX5_toSpend 8 = .ok (.istore_n 3, 1) := by decide +kernel
theorem dX5_toSpend_9 : decode cX5_toSpend 9 = .ok (.iconst 0, 1) := by decide +kernel
theorem dX5_toSpend_10 : decode cX5_toSpend 10 = .ok (.istore 4, 2) := by decide +kernel
theorem dX5_toSpend_12 : decode cX5_toSpend 12 = .ok (.iconst 0, 1) := by decide +kernel
theorem dX5_toSpend_13 : decode cX5_toSpend 13 = .ok (.istore 5, 2) := by decide +kernel
theorem dX5_toSpend_15 : decode cX5_toSpend 15 = .ok (.iload 5, 2) := by decide +kernel
theorem dX5_toSpend_17 : decode cX5_toSpend 17 = .ok (.aload_n 0, 1) := by decide +kernel
theorem dX5_toSpend_18 : decode cX5_toSpend 18 = .ok (.getfield 103, 3) := by decide +kernel
theorem dX5_toSpend_21 : decode cX5_toSpend 21 = .ok (.if_icmp .ge 78, 3) := by decide +kernel
theorem dX5_toSpend_24 : decode cX5_toSpend 24 = .ok (.iload_n 2, 1) := by decide +kernel
theorem dX5_toSpend_25 : decode cX5_toSpend 25 = .ok (.iload 5, 2) := by decide +kernel
theorem dX5_toSpend_27 : decode cX5_toSpend 27 = .ok (.invokestatic 161, 3) := by decide +kernel
theorem dX5_toSpend_30 : decode cX5_toSpend 30 = .ok (.ifCond .eq 63, 3) := by decide +kernel
theorem dX5_toSpend_33 : decode cX5_toSpend 33 = .ok (.aload_n 0, 1) := by decide +kernel
theorem dX5_toSpend_34 : decode cX5_toSpend 34 = .ok (.invokevirtual 111, 3) := by decide +kernel
theorem dX5_toSpend_37 : decode cX5_toSpend 37 = .ok (.aload_n 0, 1) := by decide +kernel
theorem dX5_toSpend_38 : decode cX5_toSpend 38 = .ok (.getfield 11, 3) := by decide +kernel
theorem dX5_toSpend_41 : decode cX5_toSpend 41 = .ok (.iload 5, 2) := by decide +kernel
theorem dX5_toSpend_43 : decode cX5_toSpend 43 = .ok (.aaload, 1) := by decide +kernel
theorem dX5_toSpend_44 : decode cX5_toSpend 44 = .ok (.aload_n 0, 1) := by decide +kernel
theorem dX5_toSpend_45 : decode cX5_toSpend 45 = .ok (.getfield 11, 3) := by decide +kernel
theorem dX5_toSpend_48 : decode cX5_toSpend 48 = .ok (.iload 5, 2) := by decide +kernel
theorem dX5_toSpend_50 : decode cX5_toSpend 50 = .ok (.aaload, 1) := by decide +kernel
theorem dX5_toSpend_51 : decode cX5_toSpend 51 = .ok (.getfield 115, 3) := by decide +kernel
theorem dX5_toSpend_54 : decode cX5_toSpend 54 = .ok (.aload_n 0, 1) := by decide +kernel
theorem dX5_toSpend_55 : decode cX5_toSpend 55 = .ok (.getfield 83, 3) := by decide +kernel
theorem dX5_toSpend_58 : decode cX5_toSpend 58 = .ok (.invokevirtual 118, 3) := by decide +kernel
theorem dX5_toSpend_61 : decode cX5_toSpend 61 = .ok (.aload_n 0, 1) := by decide +kernel
theorem dX5_toSpend_62 : decode cX5_toSpend 62 = .ok (.getfield 11, 3) := by decide +kernel
theorem dX5_toSpend_65 : decode cX5_toSpend 65 = .ok (.iload 5, 2) := by decide +kernel
theorem dX5_toSpend_67 : decode cX5_toSpend 67 = .ok (.aaload, 1) := by decide +kernel
theorem dX5_toSpend_68 : decode cX5_toSpend 68 = .ok (.getfield 115, 3) := by decide +kernel
theorem dX5_toSpend_71 : decode cX5_toSpend 71 = .ok (.isub, 1) := by decide +kernel
theorem dX5_toSpend_72 : decode cX5_toSpend 72 = .ok (.istore 6, 2) := by decide +kernel
theorem dX5_toSpend_74 : decode cX5_toSpend 74 = .ok (.iload_n 3, 1) := by decide +kernel
theorem dX5_toSpend_75 : decode cX5_toSpend 75 = .ok (.iconst (-1), 1) := by decide +kernel
theorem dX5_toSpend_76 : decode cX5_toSpend 76 = .ok (.if_icmp .eq 10, 3) := by decide +kernel
theorem dX5_toSpend_79 : decode cX5_toSpend 79 = .ok (.iload 6, 2) := by decide +kernel
theorem dX5_toSpend_81 : decode cX5_toSpend 81 = .ok (.iload 4, 2) := by decide +kernel
theorem dX5_toSpend_83 : decode cX5_toSpend 83 = .ok (.if_icmp .ge 10, 3) := by decide +kernel
theorem dX5_toSpend_86 : decode cX5_toSpend 86 = .ok (.iload 5, 2) := by decide +kernel
theorem dX5_toSpend_88 : decode cX5_toSpend 88 = .ok (.istore_n 3, 1) := by decide +kernel
theorem dX5_toSpend_89 : decode cX5_toSpend 89 = .ok (.iload 6, 2) := by decide +kernel
theorem dX5_toSpend_91 : decode cX5_toSpend 91 = .ok (.istore 4, 2) := by decide +kernel
theorem dX5_toSpend_93 : decode cX5_toSpend 93 = .ok (.iinc 5 1, 3) := by decide +kernel
theorem dX5_toSpend_96 : decode cX5_toSpend 96 = .ok (.goto (-81), 3) := by decide +kernel
theorem dX5_toSpend_99 : decode cX5_toSpend 99 = .ok (.iload_n 3, 1) := by decide +kernel
theorem dX5_toSpend_100 : decode cX5_toSpend 100 = .ok (.ireturn, 1) := by decide +kernel
theorem dX5_goneBehind_0 : decode cX5_goneBehind 0 = .ok (.iconst 0, 1) := by decide +kernel
theorem dX5_goneBehind_1 : decode cX5_goneBehind 1 = .ok (.istore_n 2, 1) := by decide +kernel
theorem dX5_goneBehind_2 : decode cX5_goneBehind 2 = .ok (.iload_n 2, 1) := by decide +kernel
theorem dX5_goneBehind_3 : decode cX5_goneBehind 3 = .ok (.bipush 40, 2) := by decide +kernel
theorem dX5_goneBehind_5 : decode cX5_goneBehind 5 = .ok (.if_icmp .gt 20, 3) := by decide +kernel
theorem dX5_goneBehind_8 : decode cX5_goneBehind 8 = .ok (.aload_n 0, 1) := by decide +kernel
theorem dX5_goneBehind_9 : decode cX5_goneBehind 9 = .ok (.iload_n 1, 1) := by decide +kernel
theorem dX5_goneBehind_10 : decode cX5_goneBehind 10 = .ok (.iload_n 2, 1) := by decide +kernel
theorem dX5_goneBehind_11 : decode cX5_goneBehind 11 = .ok (.invokevirtual 172, 3) := by decide +kernel
theorem dX5_goneBehind_14 : decode cX5_goneBehind 14 = .ok (.ifCond .ne 5, 3) := by decide +kernel
theorem dX5_goneBehind_17 : decode cX5_goneBehind 17 = .ok (.iload_n 2, 1) := by decide +kernel
theorem dX5_goneBehind_18 : decode cX5_goneBehind 18 = .ok (.ireturn, 1) := by decide +kernel
theorem dX5_goneBehind_19 : decode cX5_goneBehind 19 = .ok (.iinc 2 1, 3) := by decide +kernel
theorem dX5_goneBehind_22 : decode cX5_goneBehind 22 = .ok (.goto (-20), 3) := by decide +kernel
theorem dX5_goneBehind_25 : decode cX5_goneBehind 25 = .ok (.iconst (-1), 1) := by decide +kernel
theorem dX5_goneBehind_26 : decode cX5_goneBehind 26 = .ok (.ireturn, 1) := by decide +kernel
theorem dX5_taxOf_0 : decode cX5_taxOf 0 = .ok (.aload_n 0, 1) := by decide +kernel
theorem dX5_taxOf_1 : decode cX5_taxOf 1 = .ok (.iload_n 1, 1) := by decide +kernel
theorem dX5_taxOf_2 : decode cX5_taxOf 2 = .ok (.iconst 0, 1) := by decide +kernel
theorem dX5_taxOf_3 : decode cX5_taxOf 3 = .ok (.invokevirtual 193, 3) := by decide +kernel
theorem dX5_taxOf_6 : decode cX5_taxOf 6 = .ok (.aload_n 0, 1) := by decide +kernel
theorem dX5_taxOf_7 : decode cX5_taxOf 7 = .ok (.iload_n 1, 1) := by decide +kernel
theorem dX5_taxOf_8 : decode cX5_taxOf 8 = .ok (.invokevirtual 178, 3) := by decide +kernel
theorem dX5_taxOf_11 : decode cX5_taxOf 11 = .ok (.istore_n 2, 1) := by decide +kernel
theorem dX5_taxOf_12 : decode cX5_taxOf 12 = .ok (.iload_n 2, 1) := by decide +kernel
theorem dX5_taxOf_13 : decode cX5_taxOf 13 = .ok (.invokestatic 164, 3) := by decide +kernel
theorem dX5_taxOf_16 : decode cX5_taxOf 16 = .ok (.iconst 2, 1) := by decide +kernel
theorem dX5_taxOf_17 : decode cX5_taxOf 17 = .ok (.idiv, 1) := by decide +kernel
theorem dX5_taxOf_18 : decode cX5_taxOf 18 = .ok (.istore_n 3, 1) := by decide +kernel
theorem dX5_taxOf_19 : decode cX5_taxOf 19 = .ok (.iconst 0, 1) := by decide +kernel
theorem dX5_taxOf_20 : decode cX5_taxOf 20 = .ok (.istore 4, 2) := by decide +kernel
theorem dX5_taxOf_22 : decode cX5_taxOf 22 = .ok (.iconst 0, 1) := by decide +kernel
theorem dX5_taxOf_23 : decode cX5_taxOf 23 = .ok (.istore 5, 2) := by decide +kernel
theorem dX5_taxOf_25 : decode cX5_taxOf 25 = .ok (.iload 5, 2) := by decide +kernel
theorem dX5_taxOf_27 : decode cX5_taxOf 27 = .ok (.iload_n 3, 1) := by decide +kernel
theorem dX5_taxOf_28 : decode cX5_taxOf 28 = .ok (.if_icmp .ge 43, 3) := by decide +kernel
theorem dX5_taxOf_31 : decode cX5_taxOf 31 = .ok (.aload_n 0, 1) := by decide +kernel
theorem dX5_taxOf_32 : decode cX5_taxOf 32 = .ok (.iload_n 2, 1) := by decide +kernel
theorem dX5_taxOf_33 : decode cX5_taxOf 33 = .ok (.invokevirtual 317, 3) := by decide +kernel
theorem dX5_taxOf_36 : decode cX5_taxOf 36 = .ok (.istore 6, 2) := by decide +kernel
theorem dX5_taxOf_38 : decode cX5_taxOf 38 = .ok (.iload 6, 2) := by decide +kernel
theorem dX5_taxOf_40 : decode cX5_taxOf 40 = .ok (.iconst (-1), 1) := by decide +kernel
theorem dX5_taxOf_41 : decode cX5_taxOf 41 = .ok (.if_icmp .eq 24, 3) := by decide +kernel
theorem dX5_taxOf_44 : decode cX5_taxOf 44 = .ok (.iload 4, 2) := by decide +kernel
theorem dX5_taxOf_46 : decode cX5_taxOf 46 = .ok (.aload_n 0, 1) := by decide +kernel
theorem dX5_taxOf_47 : decode cX5_taxOf 47 = .ok (.getfield 46, 3) := by decide +kernel
theorem dX5_taxOf_50 : decode cX5_taxOf 50 = .ok (.iload 6, 2) := by decide +kernel
theorem dX5_taxOf_52 : decode cX5_taxOf 52 = .ok (.iaload, 1) := by decide +kernel
theorem dX5_taxOf_53 : decode cX5_taxOf 53 = .ok (.iadd, 1) := by decide +kernel
theorem dX5_taxOf_54 : decode cX5_taxOf 54 = .ok (.istore 4, 2) := by decide +kernel
theorem dX5_taxOf_56 : decode cX5_taxOf 56 = .ok (.iload_n 2, 1) := by decide +kernel
theorem dX5_taxOf_57 : decode cX5_taxOf 57 = .ok (.iconst 1, 1) := by decide +kernel
theorem dX5_taxOf_58 : decode cX5_taxOf 58 = .ok (.iload 6, 2) := by decide +kernel
theorem dX5_taxOf_60 : decode cX5_taxOf 60 = .ok (.ishl, 1) := by decide +kernel
theorem dX5_taxOf_61 : decode cX5_taxOf 61 = .ok (.iconst (-1), 1) := by decide +kernel
theorem dX5_taxOf_62 : decode cX5_taxOf 62 = .ok (.ixor, 1) := by decide +kernel
theorem dX5_taxOf_63 : decode cX5_taxOf 63 = .ok (.iand, 1) := by decide +kernel
theorem dX5_taxOf_64 : decode cX5_taxOf 64 = .ok (.istore_n 2, 1) := by decide +kernel
theorem dX5_taxOf_65 : decode cX5_taxOf 65 = .ok (.iinc 5 1, 3) := by decide +kernel
theorem dX5_taxOf_68 : decode cX5_taxOf 68 = .ok (.goto (-43), 3) := by decide +kernel
theorem dX5_taxOf_71 : decode cX5_taxOf 71 = .ok (.iload 4, 2) := by decide +kernel
theorem dX5_taxOf_73 : decode cX5_taxOf 73 = .ok (.ireturn, 1) := by decide +kernel
theorem dX5_mostWorth_0 : decode cX5_mostWorth 0 = .ok (.iconst (-1), 1) := by decide +kernel
theorem dX5_mostWorth_1 : decode cX5_mostWorth 1 = .ok (.istore_n 2, 1) := by decide +kernel
theorem dX5_mostWorth_2 : decode cX5_mostWorth 2 = .ok (.iconst 0, 1) := by decide +kernel
theorem dX5_mostWorth_3 : decode cX5_mostWorth 3 = .ok (.istore_n 3, 1) := by decide +kernel
theorem dX5_mostWorth_4 : decode cX5_mostWorth 4 = .ok (.iload_n 3, 1) := by decide +kernel
theorem dX5_mostWorth_5 : decode cX5_mostWorth 5 = .ok (.aload_n 0, 1) := by decide +kernel
theorem dX5_mostWorth_6 : decode cX5_mostWorth 6 = .ok (.getfield 103, 3) := by decide +kernel
theorem dX5_mostWorth_9 : decode cX5_mostWorth 9 = .ok (.if_icmp .ge 39, 3) := by decide +kernel
theorem dX5_mostWorth_12 : decode cX5_mostWorth 12 = .ok (.iload_n 1, 1) := by decide +kernel
theorem dX5_mostWorth_13 : decode cX5_mostWorth 13 = .ok (.iload_n 3, 1) := by decide +kernel
theorem dX5_mostWorth_14 : decode cX5_mostWorth 14 = .ok (.invokestatic 161, 3) := by decide +kernel
theorem dX5_mostWorth_17 : decode cX5_mostWorth 17 = .ok (.ifCond .eq 25, 3) := by decide +kernel
theorem dX5_mostWorth_20 : decode cX5_mostWorth 20 = .ok (.iload_n 2, 1) := by decide +kernel
theorem dX5_mostWorth_21 : decode cX5_mostWorth 21 = .ok (.iconst (-1), 1) := by decide +kernel
theorem dX5_mostWorth_22 : decode cX5_mostWorth 22 = .ok (.if_icmp .eq 18, 3) := by decide +kernel
theorem dX5_mostWorth_25 : decode cX5_mostWorth 25 = .ok (.aload_n 0, 1) := by decide +kernel
theorem dX5_mostWorth_26 : decode cX5_mostWorth 26 = .ok (.getfield 46, 3) := by decide +kernel
theorem dX5_mostWorth_29 : decode cX5_mostWorth 29 = .ok (.iload_n 3, 1) := by decide +kernel
theorem dX5_mostWorth_30 : decode cX5_mostWorth 30 = .ok (.iaload, 1) := by decide +kernel
theorem dX5_mostWorth_31 : decode cX5_mostWorth 31 = .ok (.aload_n 0, 1) := by decide +kernel
theorem dX5_mostWorth_32 : decode cX5_mostWorth 32 = .ok (.getfield 46, 3) := by decide +kernel
theorem dX5_mostWorth_35 : decode cX5_mostWorth 35 = .ok (.iload_n 2, 1) := by decide +kernel
theorem dX5_mostWorth_36 : decode cX5_mostWorth 36 = .ok (.iaload, 1) := by decide +kernel
theorem dX5_mostWorth_37 : decode cX5_mostWorth 37 = .ok (.if_icmp .le 5, 3) := by decide +kernel
theorem dX5_mostWorth_40 : decode cX5_mostWorth 40 = .ok (.iload_n 3, 1) := by decide +kernel
theorem dX5_mostWorth_41 : decode cX5_mostWorth 41 = .ok (.istore_n 2, 1) := by decide +kernel
theorem dX5_mostWorth_42 : decode cX5_mostWorth 42 = .ok (.iinc 3 1, 3) := by decide +kernel
theorem dX5_mostWorth_45 : decode cX5_mostWorth 45 = .ok (.goto (-41), 3) := by decide +kernel
theorem dX5_mostWorth_48 : decode cX5_mostWorth 48 = .ok (.iload_n 2, 1) := by decide +kernel
theorem dX5_mostWorth_49 : decode cX5_mostWorth 49 = .ok (.ireturn, 1) := by decide +kernel
theorem dX5_layWorths_0 : decode cX5_layWorths 0 = .ok (.iconst 0, 1) := by decide +kernel
theorem dX5_layWorths_1 : decode cX5_layWorths 1 = .ok (.istore_n 3, 1) := by decide +kernel
theorem dX5_layWorths_2 : decode cX5_layWorths 2 = .ok (.iload_n 3, 1) := by decide +kernel
theorem dX5_layWorths_3 : decode cX5_layWorths 3 = .ok (.aload_n 0, 1) := by decide +kernel
theorem dX5_layWorths_4 : decode cX5_layWorths 4 = .ok (.getfield 103, 3) := by decide +kernel
theorem dX5_layWorths_7 : decode cX5_layWorths 7 = .ok (.if_icmp .ge 43, 3) := by decide +kernel
theorem dX5_layWorths_10 : decode cX5_layWorths 10 = .ok (.aload_n 0, 1) := by decide +kernel
theorem dX5_layWorths_11 : decode cX5_layWorths 11 = .ok (.getfield 46, 3) := by decide +kernel
theorem dX5_layWorths_14 : decode cX5_layWorths 14 = .ok (.iload_n 3, 1) := by decide +kernel
theorem dX5_layWorths_15 : decode cX5_layWorths 15 = .ok (.aload_n 0, 1) := by decide +kernel
theorem dX5_layWorths_16 : decode cX5_layWorths 16 = .ok (.getfield 11, 3) := by decide +kernel
theorem dX5_layWorths_19 : decode cX5_layWorths 19 = .ok (.iload_n 3, 1) := by decide +kernel
theorem dX5_layWorths_20 : decode cX5_layWorths 20 = .ok (.aaload, 1) := by decide +kernel
theorem dX5_layWorths_21 : decode cX5_layWorths 21 = .ok (.getfield 148, 3) := by decide +kernel
theorem dX5_layWorths_24 : decode cX5_layWorths 24 = .ok (.iload_n 1, 1) := by decide +kernel
theorem dX5_layWorths_25 : decode cX5_layWorths 25 = .ok (.if_icmp .ne 17, 3) := by decide +kernel
theorem dX5_layWorths_28 : decode cX5_layWorths 28 = .ok (.aload_n 0, 1) := by decide +kernel
theorem dX5_layWorths_29 : decode cX5_layWorths 29 = .ok (.aload_n 0, 1) := by decide +kernel
theorem dX5_layWorths_30 : decode cX5_layWorths 30 = .ok (.getfield 11, 3) := by decide +kernel
theorem dX5_layWorths_33 : decode cX5_layWorths 33 = .ok (.iload_n 3, 1) := by decide +kernel
theorem dX5_layWorths_34 : decode cX5_layWorths 34 = .ok (.aaload, 1) := by decide +kernel
theorem dX5_layWorths_35 : decode cX5_layWorths 35 = .ok (.iload_n 2, 1) := by decide +kernel
theorem dX5_layWorths_36 : decode cX5_layWorths 36 = .ok (.invokevirtual 132, 3) := by decide +kernel
theorem dX5_layWorths_39 : decode cX5_layWorths 39 = .ok (.goto 4, 3) := by decide +kernel
theorem dX5_layWorths_42 : decode cX5_layWorths 42 = .ok (.iconst 0, 1) := by decide +kernel
theorem dX5_layWorths_43 : decode cX5_layWorths 43 = .ok (.iastore, 1) := by decide +kernel
theorem dX5_layWorths_44 : decode cX5_layWorths 44 = .ok (.iinc 3 1, 3) := by decide +kernel
theorem dX5_layWorths_47 : decode cX5_layWorths 47 = .ok (.goto (-45), 3) := by decide +kernel
theorem dX5_layWorths_50 : decode cX5_layWorths 50 = .ok (.return_, 1) := by decide +kernel
theorem dX5_worthsWithout_0 : decode cX5_worthsWithout 0 = .ok (.iconst 0, 1) := by decide +kernel
theorem dX5_worthsWithout_1 : decode cX5_worthsWithout 1 = .ok (.istore_n 2, 1) := by decide +kernel
theorem dX5_worthsWithout_2 : decode cX5_worthsWithout 2 = .ok (.iconst 0, 1) := by decide +kernel
theorem dX5_worthsWithout_3 : decode cX5_worthsWithout 3 = .ok (.istore_n 3, 1) := by decide +kernel
theorem dX5_worthsWithout_4 : decode cX5_worthsWithout 4 = .ok (.iload_n 3, 1) := by decide +kernel
theorem dX5_worthsWithout_5 : decode cX5_worthsWithout 5 = .ok (.aload_n 0, 1) := by decide +kernel
theorem dX5_worthsWithout_6 : decode cX5_worthsWithout 6 = .ok (.getfield 103, 3) := by decide +kernel
theorem dX5_worthsWithout_9 : decode cX5_worthsWithout 9 = .ok (.if_icmp .ge 26, 3) := by decide +kernel
theorem dX5_worthsWithout_12 : decode cX5_worthsWithout 12 = .ok (.iload_n 1, 1) := by decide +kernel
theorem dX5_worthsWithout_13 : decode cX5_worthsWithout 13 = .ok (.iload_n 3, 1) := by decide +kernel
theorem dX5_worthsWithout_14 : decode cX5_worthsWithout 14 = .ok (.invokestatic 161, 3) := by decide +kernel
theorem dX5_worthsWithout_17 : decode cX5_worthsWithout 17 = .ok (.ifCond .ne 12, 3) := by decide +kernel
theorem dX5_worthsWithout_20 : decode cX5_worthsWithout 20 = .ok (.iload_n 2, 1) := by decide +kernel
theorem dX5_worthsWithout_21 : decode cX5_worthsWithout 21 = .ok (.aload_n 0, 1) := by decide +kernel
theorem dX5_worthsWithout_22 : decode cX5_worthsWithout 22 = .ok (.getfield 46, 3) := by decide +kernel
theorem dX5_worthsWithout_25 : decode cX5_worthsWithout 25 = .ok (.iload_n 3, 1) := by decide +kernel
theorem dX5_worthsWithout_26 : decode cX5_worthsWithout 26 = .ok (.iaload, 1) := by decide +kernel
theorem dX5_worthsWithout_27 : decode cX5_worthsWithout 27 = .ok (.iadd, 1) := by decide +kernel
theorem dX5_worthsWithout_28 : decode cX5_worthsWithout 28 = .ok (.istore_n 2, 1) := by decide +kernel
theorem dX5_worthsWithout_29 : decode cX5_worthsWithout 29 = .ok (.iinc 3 1, 3) := by decide +kernel
theorem dX5_worthsWithout_32 : decode cX5_worthsWithout 32 = .ok (.goto (-28), 3) := by decide +kernel
theorem dX5_worthsWithout_35 : decode cX5_worthsWithout 35 = .ok (.iload_n 2, 1) := by decide +kernel
theorem dX5_worthsWithout_36 : decode cX5_worthsWithout 36 = .ok (.ireturn, 1) := by decide +kernel
theorem dX5_exactSet_0 : decode cX5_exactSet 0 = .ok (.aload_n 0, 1) := by decide +kernel
theorem dX5_exactSet_1 : decode cX5_exactSet 1 = .ok (.iload_n 1, 1) := by decide +kernel
theorem dX5_exactSet_2 : decode cX5_exactSet 2 = .ok (.iconst 0, 1) := by decide +kernel
theorem dX5_exactSet_3 : decode cX5_exactSet 3 = .ok (.invokevirtual 172, 3) := by decide +kernel
theorem dX5_exactSet_6 : decode cX5_exactSet 6 = .ok (.istore_n 3, 1) := by decide +kernel
theorem dX5_exactSet_7 : decode cX5_exactSet 7 = .ok (.iconst (-1), 1) := by decide +kernel
theorem dX5_exactSet_8 : decode cX5_exactSet 8 = .ok (.istore 4, 2) := by decide +kernel
theorem dX5_exactSet_10 : decode cX5_exactSet 10 = .ok (.iconst 0, 1) := by decide +kernel
theorem dX5_exactSet_11 : decode cX5_exactSet 11 = .ok (.istore 5, 2) := by decide +kernel
theorem dX5_exactSet_13 : decode cX5_exactSet 13 = .ok (.iload 5, 2) := by decide +kernel
theorem dX5_exactSet_15 : decode cX5_exactSet 15 = .ok (.sipush 256, 3) := by decide +kernel
theorem dX5_exactSet_18 : decode cX5_exactSet 18 = .ok (.if_icmp .ge 51, 3) := by decide +kernel
theorem dX5_exactSet_21 : decode cX5_exactSet 21 = .ok (.iload 5, 2) := by decide +kernel
theorem dX5_exactSet_23 : decode cX5_exactSet 23 = .ok (.iload_n 3, 1) := by decide +kernel
theorem dX5_exactSet_24 : decode cX5_exactSet 24 = .ok (.iconst (-1), 1) := by decide +kernel
theorem dX5_exactSet_25 : decode cX5_exactSet 25 = .ok (.ixor, 1) := by decide +kernel
theorem dX5_exactSet_26 : decode cX5_exactSet 26 = .ok (.iand, 1) := by decide +kernel
theorem dX5_exactSet_27 : decode cX5_exactSet 27 = .ok (.ifCond .ne 36, 3) := by decide +kernel
theorem dX5_exactSet_30 : decode cX5_exactSet 30 = .ok (.aload_n 0, 1) := by decide +kernel
theorem dX5_exactSet_31 : decode cX5_exactSet 31 = .ok (.iload 5, 2) := by decide +kernel
theorem dX5_exactSet_33 : decode cX5_exactSet 33 = .ok (.invokevirtual 175, 3) := by decide +kernel
theorem dX5_exactSet_36 : decode cX5_exactSet 36 = .ok (.iload_n 2, 1) := by decide +kernel
theorem dX5_exactSet_37 : decode cX5_exactSet 37 = .ok (.if_icmp .ne 26, 3) := by decide +kernel
theorem dX5_exactSet_40 : decode cX5_exactSet 40 = .ok (.iload 4, 2) := by decide +kernel
theorem dX5_exactSet_42 : decode cX5_exactSet 42 = .ok (.iconst (-1), 1) := by decide +kernel
theorem dX5_exactSet_43 : decode cX5_exactSet 43 = .ok (.if_icmp .eq 16, 3) := by decide +kernel
theorem dX5_exactSet_46 : decode cX5_exactSet 46 = .ok (.iload 5, 2) := by decide +kernel
theorem dX5_exactSet_48 : decode cX5_exactSet 48 = .ok (.invokestatic 164, 3) := by decide +kernel
theorem dX5_exactSet_51 : decode cX5_exactSet 51 = .ok (.iload 4, 2) := by decide +kernel
theorem dX5_exactSet_53 : decode cX5_exactSet 53 = .ok (.invokestatic 164, 3) := by decide +kernel
theorem dX5_exactSet_56 : decode cX5_exactSet 56 = .ok (.if_icmp .ge 7, 3) := by decide +kernel
theorem dX5_exactSet_59 : decode cX5_exactSet 59 = .ok (.iload 5, 2) := by decide +kernel
theorem dX5_exactSet_61 : decode cX5_exactSet 61 = .ok (.istore 4, 2) := by decide +kernel
theorem dX5_exactSet_63 : decode cX5_exactSet 63 = .ok (.iinc 5 1, 3) := by decide +kernel
theorem dX5_exactSet_66 : decode cX5_exactSet 66 = .ok (.goto (-53), 3) := by decide +kernel
theorem dX5_exactSet_69 : decode cX5_exactSet 69 = .ok (.iload 4, 2) := by decide +kernel
theorem dX5_exactSet_71 : decode cX5_exactSet 71 = .ok (.ireturn, 1) := by decide +kernel
theorem dX5_overSet_0 : decode cX5_overSet 0 = .ok (.aload_n 0, 1) := by decide +kernel
theorem dX5_overSet_1 : decode cX5_overSet 1 = .ok (.iload_n 1, 1) := by decide +kernel
theorem dX5_overSet_2 : decode cX5_overSet 2 = .ok (.iconst 0, 1) := by decide +kernel
theorem dX5_overSet_3 : decode cX5_overSet 3 = .ok (.invokevirtual 172, 3) := by decide +kernel
theorem dX5_overSet_6 : decode cX5_overSet 6 = .ok (.istore_n 3, 1) := by decide +kernel
theorem dX5_overSet_7 : decode cX5_overSet 7 = .ok (.iconst (-1), 1) := by decide +kernel
theorem dX5_overSet_8 : decode cX5_overSet 8 = .ok (.istore 4, 2) := by decide +kernel
theorem dX5_overSet_10 : decode cX5_overSet 10 = .ok (.iconst 0, 1) := by decide +kernel
theorem dX5_overSet_11 : decode cX5_overSet 11 = .ok (.istore 5, 2) := by decide +kernel
theorem dX5_overSet_13 : decode cX5_overSet 13 = .ok (.iconst 0, 1) := by decide +kernel
theorem dX5_overSet_14 : decode cX5_overSet 14 = .ok (.istore 6, 2) := by decide +kernel
theorem dX5_overSet_16 : decode cX5_overSet 16 = .ok (.iload 6, 2) := by decide +kernel
theorem dX5_overSet_18 : decode cX5_overSet 18 = .ok (.sipush 256, 3) := by decide +kernel
theorem dX5_overSet_21 : decode cX5_overSet 21 = .ok (.if_icmp .ge 85, 3) := by decide +kernel
theorem dX5_overSet_24 : decode cX5_overSet 24 = .ok (.iload 6, 2) := by decide +kernel
theorem dX5_overSet_26 : decode cX5_overSet 26 = .ok (.iload_n 3, 1) := by decide +kernel
theorem dX5_overSet_27 : decode cX5_overSet 27 = .ok (.iconst (-1), 1) := by decide +kernel
theorem dX5_overSet_28 : decode cX5_overSet 28 = .ok (.ixor, 1) := by decide +kernel
theorem dX5_overSet_29 : decode cX5_overSet 29 = .ok (.iand, 1) := by decide +kernel
theorem dX5_overSet_30 : decode cX5_overSet 30 = .ok (.ifCond .ne 70, 3) := by decide +kernel
theorem dX5_overSet_33 : decode cX5_overSet 33 = .ok (.aload_n 0, 1) := by decide +kernel
theorem dX5_overSet_34 : decode cX5_overSet 34 = .ok (.iload 6, 2) := by decide +kernel
theorem dX5_overSet_36 : decode cX5_overSet 36 = .ok (.invokevirtual 175, 3) := by decide +kernel
theorem dX5_overSet_39 : decode cX5_overSet 39 = .ok (.istore 7, 2) := by decide +kernel
theorem dX5_overSet_41 : decode cX5_overSet 41 = .ok (.iload 4, 2) := by decide +kernel
theorem dX5_overSet_43 : decode cX5_overSet 43 = .ok (.iconst (-1), 1) := by decide +kernel
theorem dX5_overSet_44 : decode cX5_overSet 44 = .ok (.if_icmp .eq 30, 3) := by decide +kernel
theorem dX5_overSet_47 : decode cX5_overSet 47 = .ok (.iload 7, 2) := by decide +kernel
theorem dX5_overSet_49 : decode cX5_overSet 49 = .ok (.iload 5, 2) := by decide +kernel
theorem dX5_overSet_51 : decode cX5_overSet 51 = .ok (.if_icmp .lt 23, 3) := by decide +kernel
theorem dX5_overSet_54 : decode cX5_overSet 54 = .ok (.iload 7, 2) := by decide +kernel
theorem dX5_overSet_56 : decode cX5_overSet 56 = .ok (.iload 5, 2) := by decide +kernel
theorem dX5_overSet_58 : decode cX5_overSet 58 = .ok (.if_icmp .ne 20, 3) := by decide +kernel
theorem dX5_overSet_61 : decode cX5_overSet 61 = .ok (.iload 6, 2) := by decide +kernel
theorem dX5_overSet_63 : decode cX5_overSet 63 = .ok (.invokestatic 164, 3) := by decide +kernel
theorem dX5_overSet_66 : decode cX5_overSet 66 = .ok (.iload 4, 2) := by decide +kernel
theorem dX5_overSet_68 : decode cX5_overSet 68 = .ok (.invokestatic 164, 3) := by decide +kernel
theorem dX5_overSet_71 : decode cX5_overSet 71 = .ok (.if_icmp .ge 7, 3) := by decide +kernel
theorem dX5_overSet_74 : decode cX5_overSet 74 = .ok (.iconst 1, 1) := by decide +kernel
theorem dX5_overSet_75 : decode cX5_overSet 75 = .ok (.goto 4, 3) := by decide +kernel
theorem dX5_overSet_78 : decode cX5_overSet 78 = .ok (.iconst 0, 1) := by decide +kernel
theorem dX5_overSet_79 : decode cX5_overSet 79 = .ok (.istore 8, 2) := by decide +kernel
theorem dX5_overSet_81 : decode cX5_overSet 81 = .ok (.iload 7, 2) := by decide +kernel
theorem dX5_overSet_83 : decode cX5_overSet 83 = .ok (.iload_n 2, 1) := by decide +kernel
theorem dX5_overSet_84 : decode cX5_overSet 84 = .ok (.if_icmp .lt 16, 3) := by decide +kernel
theorem dX5_overSet_87 : decode cX5_overSet 87 = .ok (.iload 8, 2) := by decide +kernel
theorem dX5_overSet_89 : decode cX5_overSet 89 = .ok (.ifCond .eq 11, 3) := by decide +kernel
theorem dX5_overSet_92 : decode cX5_overSet 92 = .ok (.iload 6, 2) := by decide +kernel
theorem dX5_overSet_94 : decode cX5_overSet 94 = .ok (.istore 4, 2) := by decide +kernel
theorem dX5_overSet_96 : decode cX5_overSet 96 = .ok (.iload 7, 2) := by decide +kernel
theorem dX5_overSet_98 : decode cX5_overSet 98 = .ok (.istore 5, 2) := by decide +kernel
theorem dX5_overSet_100 : decode cX5_overSet 100 = .ok (.iinc 6 1, 3) := by decide +kernel
theorem dX5_overSet_103 : decode cX5_overSet 103 = .ok (.goto (-87), 3) := by decide +kernel
theorem dX5_overSet_106 : decode cX5_overSet 106 = .ok (.iload 4, 2) := by decide +kernel
theorem dX5_overSet_108 : decode cX5_overSet 108 = .ok (.ireturn, 1) := by decide +kernel
theorem dX5_wiseSet_0 : decode cX5_wiseSet 0 = .ok (.aload_n 0, 1) := by decide +kernel
theorem dX5_wiseSet_1 : decode cX5_wiseSet 1 = .ok (.iload_n 1, 1) := by decide +kernel
theorem dX5_wiseSet_2 : decode cX5_wiseSet 2 = .ok (.iconst 0, 1) := by decide +kernel
theorem dX5_wiseSet_3 : decode cX5_wiseSet 3 = .ok (.invokevirtual 172, 3) := by decide +kernel
theorem dX5_wiseSet_6 : decode cX5_wiseSet 6 = .ok (.istore_n 3, 1) := by decide +kernel
theorem dX5_wiseSet_7 : decode cX5_wiseSet 7 = .ok (.iconst (-1), 1) := by decide +kernel
theorem dX5_wiseSet_8 : decode cX5_wiseSet 8 = .ok (.istore 4, 2) := by decide +kernel
theorem dX5_wiseSet_10 : decode cX5_wiseSet 10 = .ok (.iconst 0, 1) := by decide +kernel
theorem dX5_wiseSet_11 : decode cX5_wiseSet 11 = .ok (.istore 5, 2) := by decide +kernel
theorem dX5_wiseSet_13 : decode cX5_wiseSet 13 = .ok (.iconst 0, 1) := by decide +kernel
theorem dX5_wiseSet_14 : decode cX5_wiseSet 14 = .ok (.istore 6, 2) := by decide +kernel
theorem dX5_wiseSet_16 : decode cX5_wiseSet 16 = .ok (.iload 6, 2) := by decide +kernel
theorem dX5_wiseSet_18 : decode cX5_wiseSet 18 = .ok (.sipush 256, 3) := by decide +kernel
theorem dX5_wiseSet_21 : decode cX5_wiseSet 21 = .ok (.if_icmp .ge 57, 3) := by decide +kernel
theorem dX5_wiseSet_24 : decode cX5_wiseSet 24 = .ok (.iload 6, 2) := by decide +kernel
theorem dX5_wiseSet_26 : decode cX5_wiseSet 26 = .ok (.iload_n 3, 1) := by decide +kernel
theorem dX5_wiseSet_27 : decode cX5_wiseSet 27 = .ok (.iconst (-1), 1) := by decide +kernel
theorem dX5_wiseSet_28 : decode cX5_wiseSet 28 = .ok (.ixor, 1) := by decide +kernel
theorem dX5_wiseSet_29 : decode cX5_wiseSet 29 = .ok (.iand, 1) := by decide +kernel
theorem dX5_wiseSet_30 : decode cX5_wiseSet 30 = .ok (.ifCond .ne 42, 3) := by decide +kernel
theorem dX5_wiseSet_33 : decode cX5_wiseSet 33 = .ok (.aload_n 0, 1) := by decide +kernel
theorem dX5_wiseSet_34 : decode cX5_wiseSet 34 = .ok (.iload 6, 2) := by decide +kernel
theorem dX5_wiseSet_36 : decode cX5_wiseSet 36 = .ok (.invokevirtual 175, 3) := by decide +kernel
theorem dX5_wiseSet_39 : decode cX5_wiseSet 39 = .ok (.iload_n 2, 1) := by decide +kernel
theorem dX5_wiseSet_40 : decode cX5_wiseSet 40 = .ok (.if_icmp .lt 32, 3) := by decide +kernel
theorem dX5_wiseSet_43 : decode cX5_wiseSet 43 = .ok (.aload_n 0, 1) := by decide +kernel
theorem dX5_wiseSet_44 : decode cX5_wiseSet 44 = .ok (.iload 6, 2) := by decide +kernel
theorem dX5_wiseSet_46 : decode cX5_wiseSet 46 = .ok (.invokevirtual 199, 3) := by decide +kernel
theorem dX5_wiseSet_49 : decode cX5_wiseSet 49 = .ok (.istore 7, 2) := by decide +kernel
theorem dX5_wiseSet_51 : decode cX5_wiseSet 51 = .ok (.iload 4, 2) := by decide +kernel
theorem dX5_wiseSet_53 : decode cX5_wiseSet 53 = .ok (.iconst (-1), 1) := by decide +kernel
theorem dX5_wiseSet_54 : decode cX5_wiseSet 54 = .ok (.if_icmp .eq 10, 3) := by decide +kernel
theorem dX5_wiseSet_57 : decode cX5_wiseSet 57 = .ok (.iload 7, 2) := by decide +kernel
theorem dX5_wiseSet_59 : decode cX5_wiseSet 59 = .ok (.iload 5, 2) := by decide +kernel
theorem dX5_wiseSet_61 : decode cX5_wiseSet 61 = .ok (.if_icmp .le 11, 3) := by decide +kernel
theorem dX5_wiseSet_64 : decode cX5_wiseSet 64 = .ok (.iload 6, 2) := by decide +kernel
theorem dX5_wiseSet_66 : decode cX5_wiseSet 66 = .ok (.istore 4, 2) := by decide +kernel
theorem dX5_wiseSet_68 : decode cX5_wiseSet 68 = .ok (.iload 7, 2) := by decide +kernel
theorem dX5_wiseSet_70 : decode cX5_wiseSet 70 = .ok (.istore 5, 2) := by decide +kernel
theorem dX5_wiseSet_72 : decode cX5_wiseSet 72 = .ok (.iinc 6 1, 3) := by decide +kernel
theorem dX5_wiseSet_75 : decode cX5_wiseSet 75 = .ok (.goto (-59), 3) := by decide +kernel
theorem dX5_wiseSet_78 : decode cX5_wiseSet 78 = .ok (.iload 4, 2) := by decide +kernel
theorem dX5_wiseSet_80 : decode cX5_wiseSet 80 = .ok (.ireturn, 1) := by decide +kernel
theorem dX5_bestPair_0 : decode cX5_bestPair 0 = .ok (.aload_n 0, 1) := by decide +kernel
theorem dX5_bestPair_1 : decode cX5_bestPair 1 = .ok (.iload_n 1, 1) := by decide +kernel
theorem dX5_bestPair_2 : decode cX5_bestPair 2 = .ok (.iconst 0, 1) := by decide +kernel
theorem dX5_bestPair_3 : decode cX5_bestPair 3 = .ok (.invokevirtual 172, 3) := by decide +kernel
theorem dX5_bestPair_6 : decode cX5_bestPair 6 = .ok (.istore_n 3, 1) := by decide +kernel
theorem dX5_bestPair_7 : decode cX5_bestPair 7 = .ok (.aload_n 0, 1) := by decide +kernel
theorem dX5_bestPair_8 : decode cX5_bestPair 8 = .ok (.iload_n 2, 1) := by decide +kernel
theorem dX5_bestPair_9 : decode cX5_bestPair 9 = .ok (.iconst 0, 1) := by decide +kernel
theorem dX5_bestPair_10 : decode cX5_bestPair 10 = .ok (.invokevirtual 172, 3) := by decide +kernel
theorem dX5_bestPair_13 : decode cX5_bestPair 13 = .ok (.istore 4, 2) := by decide +kernel
theorem dX5_bestPair_15 : decode cX5_bestPair 15 = .ok (.iconst (-1), 1) := by decide +kernel
theorem dX5_bestPair_16 : decode cX5_bestPair 16 = .ok (.istore 5, 2) := by decide +kernel
theorem dX5_bestPair_18 : decode cX5_bestPair 18 = .ok (.iconst 0, 1) := by decide +kernel
theorem dX5_bestPair_19 : decode cX5_bestPair 19 = .ok (.istore 6, 2) := by decide +kernel
theorem dX5_bestPair_21 : decode cX5_bestPair 21 = .ok (.iconst 0, 1) := by decide +kernel
theorem dX5_bestPair_22 : decode cX5_bestPair 22 = .ok (.istore 7, 2) := by decide +kernel
theorem dX5_bestPair_24 : decode cX5_bestPair 24 = .ok (.iload 7, 2) := by decide +kernel
theorem dX5_bestPair_26 : decode cX5_bestPair 26 = .ok (.aload_n 0, 1) := by decide +kernel
theorem dX5_bestPair_27 : decode cX5_bestPair 27 = .ok (.getfield 103, 3) := by decide +kernel
theorem dX5_bestPair_30 : decode cX5_bestPair 30 = .ok (.if_icmp .ge 84, 3) := by decide +kernel
theorem dX5_bestPair_33 : decode cX5_bestPair 33 = .ok (.iconst 0, 1) := by decide +kernel
theorem dX5_bestPair_34 : decode cX5_bestPair 34 = .ok (.istore 8, 2) := by decide +kernel
theorem dX5_bestPair_36 : decode cX5_bestPair 36 = .ok (.iload 8, 2) := by decide +kernel
theorem dX5_bestPair_38 : decode cX5_bestPair 38 = .ok (.aload_n 0, 1) := by decide +kernel
theorem dX5_bestPair_39 : decode cX5_bestPair 39 = .ok (.getfield 103, 3) := by decide +kernel
theorem dX5_bestPair_42 : decode cX5_bestPair 42 = .ok (.if_icmp .ge 66, 3) := by decide +kernel
theorem dX5_bestPair_45 : decode cX5_bestPair 45 = .ok (.iload_n 3, 1) := by decide +kernel
theorem dX5_bestPair_46 : decode cX5_bestPair 46 = .ok (.iload 7, 2) := by decide +kernel
theorem dX5_bestPair_48 : decode cX5_bestPair 48 = .ok (.invokestatic 161, 3) := by decide +kernel
theorem dX5_bestPair_51 : decode cX5_bestPair 51 = .ok (.ifCond .eq 51, 3) := by decide +kernel
theorem dX5_bestPair_54 : decode cX5_bestPair 54 = .ok (.iload 4, 2) := by decide +kernel
theorem dX5_bestPair_56 : decode cX5_bestPair 56 = .ok (.iload 8, 2) := by decide +kernel
theorem dX5_bestPair_58 : decode cX5_bestPair 58 = .ok (.invokestatic 161, 3) := by decide +kernel
theorem dX5_bestPair_61 : decode cX5_bestPair 61 = .ok (.ifCond .eq 41, 3) := by decide +kernel
theorem dX5_bestPair_64 : decode cX5_bestPair 64 = .ok (.aload_n 0, 1) := by decide +kernel
theorem dX5_bestPair_65 : decode cX5_bestPair 65 = .ok (.iload 7, 2) := by decide +kernel
theorem dX5_bestPair_67 : decode cX5_bestPair 67 = .ok (.iload_n 2, 1) := by decide +kernel
theorem dX5_bestPair_68 : decode cX5_bestPair 68 = .ok (.invokevirtual 205, 3) := by decide +kernel
theorem dX5_bestPair_71 : decode cX5_bestPair 71 = .ok (.aload_n 0, 1) := by decide +kernel
theorem dX5_bestPair_72 : decode cX5_bestPair 72 = .ok (.iload 8, 2) := by decide +kernel
theorem dX5_bestPair_74 : decode cX5_bestPair 74 = .ok (.iload_n 1, 1) := by decide +kernel
theorem dX5_bestPair_75 : decode cX5_bestPair 75 = .ok (.invokevirtual 205, 3) := by decide +kernel
theorem dX5_bestPair_78 : decode cX5_bestPair 78 = .ok (.iadd, 1) := by decide +kernel
theorem dX5_bestPair_79 : decode cX5_bestPair 79 = .ok (.istore 9, 2) := by decide +kernel
theorem dX5_bestPair_81 : decode cX5_bestPair 81 = .ok (.iload 9, 2) := by decide +kernel
theorem dX5_bestPair_83 : decode cX5_bestPair 83 = .ok (.iload 6, 2) := by decide +kernel
theorem dX5_bestPair_85 : decode cX5_bestPair 85 = .ok (.if_icmp .le 17, 3) := by decide +kernel
theorem dX5_bestPair_88 : decode cX5_bestPair 88 = .ok (.bipush 10, 2) := by decide +kernel
theorem dX5_bestPair_90 : decode cX5_bestPair 90 = .ok (.iload 7, 2) := by decide +kernel
theorem dX5_bestPair_92 : decode cX5_bestPair 92 = .ok (.imul, 1) := by decide +kernel
theorem dX5_bestPair_93 : decode cX5_bestPair 93 = .ok (.iload 8, 2) := by decide +kernel
theorem dX5_bestPair_95 : decode cX5_bestPair 95 = .ok (.iadd, 1) := by decide +kernel
theorem dX5_bestPair_96 : decode cX5_bestPair 96 = .ok (.istore 5, 2) := by decide +kernel
theorem dX5_bestPair_98 : decode cX5_bestPair 98 = .ok (.iload 9, 2) := by decide +kernel
theorem dX5_bestPair_100 : decode cX5_bestPair 100 = .ok (.istore 6, 2) := by decide +kernel
theorem dX5_bestPair_102 : decode cX5_bestPair 102 = .ok (.iinc 8 1, 3) := by decide +kernel
theorem dX5_bestPair_105 : decode cX5_bestPair 105 = .ok (.goto (-69), 3) := by decide +kernel
theorem dX5_bestPair_108 : decode cX5_bestPair 108 = .ok (.iinc 7 1, 3) := by decide +kernel
theorem dX5_bestPair_111 : decode cX5_bestPair 111 = .ok (.goto (-87), 3) := by decide +kernel
theorem dX5_bestPair_114 : decode cX5_bestPair 114 = .ok (.iload 5, 2) := by decide +kernel
theorem dX5_bestPair_116 : decode cX5_bestPair 116 = .ok (.ireturn, 1) := by decide +kernel
theorem dX5_gainIfPaid_0 : decode cX5_gainIfPaid 0 = .ok (.aload_n 0, 1) := by decide +kernel
theorem dX5_gainIfPaid_1 : decode cX5_gainIfPaid 1 = .ok (.iload_n 1, 1) := by decide +kernel
theorem dX5_gainIfPaid_2 : decode cX5_gainIfPaid 2 = .ok (.invokevirtual 87, 3) := by decide +kernel
theorem dX5_gainIfPaid_5 : decode cX5_gainIfPaid 5 = .ok (.ifCond .ne 5, 3) := by decide +kernel
theorem dX5_gainIfPaid_8 : decode cX5_gainIfPaid 8 = .ok (.iconst 0, 1) := by decide +kernel
theorem dX5_gainIfPaid_9 : decode cX5_gainIfPaid 9 = .ok (.ireturn, 1) := by decide +kernel
theorem dX5_gainIfPaid_10 : decode cX5_gainIfPaid 10 = .ok (.aload_n 0, 1) := by decide +kernel
theorem dX5_gainIfPaid_11 : decode cX5_gainIfPaid 11 = .ok (.getfield 11, 3) := by decide +kernel
theorem dX5_gainIfPaid_14 : decode cX5_gainIfPaid 14 = .ok (.iload_n 1, 1) := by decide +kernel
theorem dX5_gainIfPaid_15 : decode cX5_gainIfPaid 15 = .ok (.aaload, 1) := by decide +kernel
theorem dX5_gainIfPaid_16 : decode cX5_gainIfPaid 16 = .ok (.astore_n 3, 1) := by decide +kernel
theorem dX5_gainIfPaid_17 : decode cX5_gainIfPaid 17 = .ok (.aload_n 0, 1) := by decide +kernel
theorem dX5_gainIfPaid_18 : decode cX5_gainIfPaid 18 = .ok (.getfield 42, 3) := by decide +kernel
theorem dX5_gainIfPaid_21 : decode cX5_gainIfPaid 21 = .ok (.aload_n 3, 1) := by decide +kernel
theorem dX5_gainIfPaid_22 : decode cX5_gainIfPaid 22 = .ok (.invokevirtual 273, 3) := by decide +kernel
theorem dX5_gainIfPaid_25 : decode cX5_gainIfPaid 25 = .ok (.aload_n 0, 1) := by decide +kernel
theorem dX5_gainIfPaid_26 : decode cX5_gainIfPaid 26 = .ok (.getfield 42, 3) := by decide +kernel
theorem dX5_gainIfPaid_29 : decode cX5_gainIfPaid 29 = .ok (.iload_n 2, 1) := by decide +kernel
theorem dX5_gainIfPaid_30 : decode cX5_gainIfPaid 30 = .ok (.invokevirtual 151, 3) := by decide +kernel
theorem dX5_gainIfPaid_33 : decode cX5_gainIfPaid 33 = .ok (.aload_n 0, 1) := by decide +kernel
theorem dX5_gainIfPaid_34 : decode cX5_gainIfPaid 34 = .ok (.getfield 83, 3) := by decide +kernel
theorem dX5_gainIfPaid_37 : decode cX5_gainIfPaid 37 = .ok (.bipush 10, 2) := by decide +kernel
theorem dX5_gainIfPaid_39 : decode cX5_gainIfPaid 39 = .ok (.iadd, 1) := by decide +kernel
theorem dX5_gainIfPaid_40 : decode cX5_gainIfPaid 40 = .ok (.istore 4, 2) := by decide +kernel
theorem dX5_gainIfPaid_42 : decode cX5_gainIfPaid 42 = .ok (.aload_n 0, 1) := by decide +kernel
theorem dX5_gainIfPaid_43 : decode cX5_gainIfPaid 43 = .ok (.invokevirtual 111, 3) := by decide +kernel
theorem dX5_gainIfPaid_46 : decode cX5_gainIfPaid 46 = .ok (.aload_n 0, 1) := by decide +kernel
theorem dX5_gainIfPaid_47 : decode cX5_gainIfPaid 47 = .ok (.getfield 42, 3) := by decide +kernel
theorem dX5_gainIfPaid_50 : decode cX5_gainIfPaid 50 = .ok (.aload_n 0, 1) := by decide +kernel
theorem dX5_gainIfPaid_51 : decode cX5_gainIfPaid 51 = .ok (.getfield 42, 3) := by decide +kernel
theorem dX5_gainIfPaid_54 : decode cX5_gainIfPaid 54 = .ok (.bipush 10, 2) := by decide +kernel
theorem dX5_gainIfPaid_56 : decode cX5_gainIfPaid 56 = .ok (.invokevirtual 145, 3) := by decide +kernel
theorem dX5_gainIfPaid_59 : decode cX5_gainIfPaid 59 = .ok (.iload 4, 2) := by decide +kernel
theorem dX5_gainIfPaid_61 : decode cX5_gainIfPaid 61 = .ok (.invokevirtual 250, 3) := by decide +kernel
theorem dX5_gainIfPaid_64 : decode cX5_gainIfPaid 64 = .ok (.aload_n 0, 1) := by decide +kernel
theorem dX5_gainIfPaid_65 : decode cX5_gainIfPaid 65 = .ok (.invokevirtual 111, 3) := by decide +kernel
theorem dX5_gainIfPaid_68 : decode cX5_gainIfPaid 68 = .ok (.aload_n 3, 1) := by decide +kernel
theorem dX5_gainIfPaid_69 : decode cX5_gainIfPaid 69 = .ok (.aload_n 3, 1) := by decide +kernel
theorem dX5_gainIfPaid_70 : decode cX5_gainIfPaid 70 = .ok (.bipush 10, 2) := by decide +kernel
theorem dX5_gainIfPaid_72 : decode cX5_gainIfPaid 72 = .ok (.invokevirtual 145, 3) := by decide +kernel
theorem dX5_gainIfPaid_75 : decode cX5_gainIfPaid 75 = .ok (.iload 4, 2) := by decide +kernel
theorem dX5_gainIfPaid_77 : decode cX5_gainIfPaid 77 = .ok (.invokevirtual 250, 3) := by decide +kernel
theorem dX5_gainIfPaid_80 : decode cX5_gainIfPaid 80 = .ok (.isub, 1) := by decide +kernel
theorem dX5_gainIfPaid_81 : decode cX5_gainIfPaid 81 = .ok (.ireturn, 1) := by decide +kernel
theorem dX5_firstOtherwise_0 : decode cX5_firstOtherwise 0 = .ok (.iconst 0, 1) := by decide +kernel
theorem dX5_firstOtherwise_1 : decode cX5_firstOtherwise 1 = .ok (.istore 4, 2) := by decide +kernel
theorem dX5_firstOtherwise_3 : decode cX5_firstOtherwise 3 = .ok (.iload 4, 2) := by decide +kernel
theorem dX5_firstOtherwise_5 : decode cX5_firstOtherwise 5 = .ok (.aload_n 1, 1) := by decide +kernel
theorem dX5_firstOtherwise_6 : decode cX5_firstOtherwise 6 = .ok (.getfield 279, 3) := by decide +kernel
theorem dX5_firstOtherwise_9 : decode cX5_firstOtherwise 9 = .ok (.if_icmp .ge 40, 3) := by decide +kernel
theorem dX5_firstOtherwise_12 : decode cX5_firstOtherwise 12 = .ok (.aload_n 2, 1) := by decide +kernel
theorem dX5_firstOtherwise_13 : decode cX5_firstOtherwise 13 = .ok (.aload_n 3, 1) := by decide +kernel
theorem dX5_firstOtherwise_14 : decode cX5_firstOtherwise 14 = .ok (.aload_n 3, 1) := by decide +kernel
theorem dX5_firstOtherwise_15 : decode cX5_firstOtherwise 15 = .ok (.iload 4, 2) := by decide +kernel
theorem dX5_firstOtherwise_17 : decode cX5_firstOtherwise 17 = .ok (.invokevirtual 145, 3) := by decide +kernel
theorem dX5_firstOtherwise_20 : decode cX5_firstOtherwise 20 = .ok (.aload_n 0, 1) := by decide +kernel
theorem dX5_firstOtherwise_21 : decode cX5_firstOtherwise 21 = .ok (.getfield 83, 3) := by decide +kernel
theorem dX5_firstOtherwise_24 : decode cX5_firstOtherwise 24 = .ok (.iload 4, 2) := by decide +kernel
theorem dX5_firstOtherwise_26 : decode cX5_firstOtherwise 26 = .ok (.iadd, 1) := by decide +kernel
theorem dX5_firstOtherwise_27 : decode cX5_firstOtherwise 27 = .ok (.invokevirtual 250, 3) := by decide +kernel
theorem dX5_firstOtherwise_30 : decode cX5_firstOtherwise 30 = .ok (.aload_n 1, 1) := by decide +kernel
theorem dX5_firstOtherwise_31 : decode cX5_firstOtherwise 31 = .ok (.getfield 286, 3) := by decide +kernel
theorem dX5_firstOtherwise_34 : decode cX5_firstOtherwise 34 = .ok (.iload 4, 2) := by decide +kernel
theorem dX5_firstOtherwise_36 : decode cX5_firstOtherwise 36 = .ok (.iaload, 1) := by decide +kernel
theorem dX5_firstOtherwise_37 : decode cX5_firstOtherwise 37 = .ok (.if_icmp .eq 6, 3) := by decide +kernel
theorem dX5_firstOtherwise_40 : decode cX5_firstOtherwise 40 = .ok (.iload 4, 2) := by decide +kernel
theorem dX5_firstOtherwise_42 : decode cX5_firstOtherwise 42 = .ok (.ireturn, 1) := by decide +kernel
theorem dX5_firstOtherwise_43 : decode cX5_firstOtherwise 43 = .ok (.iinc 4 1, 3) := by decide +kernel
theorem dX5_firstOtherwise_46 : decode cX5_firstOtherwise 46 = .ok (.goto (-43), 3) := by decide +kernel
theorem dX5_firstOtherwise_49 : decode cX5_firstOtherwise 49 = .ok (.iconst (-1), 1) := by decide +kernel
theorem dX5_firstOtherwise_50 : decode cX5_firstOtherwise 50 = .ok (.ireturn, 1) := by decide +kernel
theorem dX5_wouldBeSo_0 : decode cX5_wouldBeSo 0 = .ok (.aload_n 0, 1) := by decide +kernel
theorem dX5_wouldBeSo_1 : decode cX5_wouldBeSo 1 = .ok (.getfield 42, 3) := by decide +kernel
theorem dX5_wouldBeSo_4 : decode cX5_wouldBeSo 4 = .ok (.aload_n 2, 1) := by decide +kernel
theorem dX5_wouldBeSo_5 : decode cX5_wouldBeSo 5 = .ok (.invokevirtual 273, 3) := by decide +kernel
theorem dX5_wouldBeSo_8 : decode cX5_wouldBeSo 8 = .ok (.aload_n 0, 1) := by decide +kernel
theorem dX5_wouldBeSo_9 : decode cX5_wouldBeSo 9 = .ok (.getfield 42, 3) := by decide +kernel
theorem dX5_wouldBeSo_12 : decode cX5_wouldBeSo 12 = .ok (.iload_n 3, 1) := by decide +kernel
theorem dX5_wouldBeSo_13 : decode cX5_wouldBeSo 13 = .ok (.iload 4, 2) := by decide +kernel
theorem dX5_wouldBeSo_15 : decode cX5_wouldBeSo 15 = .ok (.invokevirtual 95, 3) := by decide +kernel
theorem dX5_wouldBeSo_18 : decode cX5_wouldBeSo 18 = .ok (.aload_n 0, 1) := by decide +kernel
theorem dX5_wouldBeSo_19 : decode cX5_wouldBeSo 19 = .ok (.aload_n 1, 1) := by decide +kernel
theorem dX5_wouldBeSo_20 : decode cX5_wouldBeSo 20 = .ok (.aload_n 0, 1) := by decide +kernel
theorem dX5_wouldBeSo_21 : decode cX5_wouldBeSo 21 = .ok (.invokevirtual 111, 3) := by decide +kernel
theorem dX5_wouldBeSo_24 : decode cX5_wouldBeSo 24 = .ok (.aload_n 0, 1) := by decide +kernel
theorem dX5_wouldBeSo_25 : decode cX5_wouldBeSo 25 = .ok (.getfield 42, 3) := by decide +kernel
theorem dX5_wouldBeSo_28 : decode cX5_wouldBeSo 28 = .ok (.invokevirtual 215, 3) := by decide +kernel
theorem dX5_wouldBeSo_31 : decode cX5_wouldBeSo 31 = .ok (.iconst (-1), 1) := by decide +kernel
theorem dX5_wouldBeSo_32 : decode cX5_wouldBeSo 32 = .ok (.if_icmp .ne 7, 3) := by decide +kernel
theorem dX5_wouldBeSo_35 : decode cX5_wouldBeSo 35 = .ok (.iconst 1, 1) := by decide +kernel
theorem dX5_wouldBeSo_36 : decode cX5_wouldBeSo 36 = .ok (.goto 4, 3) := by decide +kernel
theorem dX5_wouldBeSo_39 : decode cX5_wouldBeSo 39 = .ok (.iconst 0, 1) := by decide +kernel
theorem dX5_wouldBeSo_40 : decode cX5_wouldBeSo 40 = .ok (.ireturn, 1) := by decide +kernel
theorem dX5_soBits_0 : decode cX5_soBits 0 = .ok (.iconst 0, 1) := by decide +kernel
theorem dX5_soBits_1 : decode cX5_soBits 1 = .ok (.istore 4, 2) := by decide +kernel
theorem dX5_soBits_3 : decode cX5_soBits 3 = .ok (.getstatic 77, 3) := by decide +kernel
theorem dX5_soBits_6 : decode cX5_soBits 6 = .ok (.iload_n 3, 1) := by decide +kernel
theorem dX5_soBits_7 : decode cX5_soBits 7 = .ok (.iaload, 1) := by decide +kernel
theorem dX5_soBits_8 : decode cX5_soBits 8 = .ok (.istore 5, 2) := by decide +kernel
theorem dX5_soBits_10 : decode cX5_soBits 10 = .ok (.iload 5, 2) := by decide +kernel
theorem dX5_soBits_12 : decode cX5_soBits 12 = .ok (.getstatic 80, 3) := by decide +kernel
theorem dX5_soBits_15 : decode cX5_soBits 15 = .ok (.iload_n 3, 1) := by decide +kernel
theorem dX5_soBits_16 : decode cX5_soBits 16 = .ok (.iaload, 1) := by decide +kernel
theorem dX5_soBits_17 : decode cX5_soBits 17 = .ok (.if_icmp .gt 30, 3) := by decide +kernel
theorem dX5_soBits_20 : decode cX5_soBits 20 = .ok (.aload_n 0, 1) := by decide +kernel
theorem dX5_soBits_21 : decode cX5_soBits 21 = .ok (.aload_n 1, 1) := by decide +kernel
theorem dX5_soBits_22 : decode cX5_soBits 22 = .ok (.aload_n 2, 1) := by decide +kernel
theorem dX5_soBits_23 : decode cX5_soBits 23 = .ok (.iload_n 3, 1) := by decide +kernel
theorem dX5_soBits_24 : decode cX5_soBits 24 = .ok (.iload 5, 2) := by decide +kernel
theorem dX5_soBits_26 : decode cX5_soBits 26 = .ok (.invokevirtual 320, 3) := by decide +kernel
theorem dX5_soBits_29 : decode cX5_soBits 29 = .ok (.ifCond .eq 12, 3) := by decide +kernel
theorem dX5_soBits_32 : decode cX5_soBits 32 = .ok (.iload 4, 2) := by decide +kernel
theorem dX5_soBits_34 : decode cX5_soBits 34 = .ok (.iconst 1, 1) := by decide +kernel
theorem dX5_soBits_35 : decode cX5_soBits 35 = .ok (.iload 5, 2) := by decide +kernel
theorem dX5_soBits_37 : decode cX5_soBits 37 = .ok (.ishl, 1) := by decide +kernel
theorem dX5_soBits_38 : decode cX5_soBits 38 = .ok (.ior, 1) := by decide +kernel
theorem dX5_soBits_39 : decode cX5_soBits 39 = .ok (.istore 4, 2) := by decide +kernel
theorem dX5_soBits_41 : decode cX5_soBits 41 = .ok (.iinc 5 1, 3) := by decide +kernel
theorem dX5_soBits_44 : decode cX5_soBits 44 = .ok (.goto (-34), 3) := by decide +kernel
theorem dX5_soBits_47 : decode cX5_soBits 47 = .ok (.iload 4, 2) := by decide +kernel
theorem dX5_soBits_49 : decode cX5_soBits 49 = .ok (.ireturn, 1) := by decide +kernel
theorem dX5_soCount_0 : decode cX5_soCount 0 = .ok (.iconst 0, 1) := by decide +kernel
theorem dX5_soCount_1 : decode cX5_soCount 1 = .ok (.istore 5, 2) := by decide +kernel
theorem dX5_soCount_3 : decode cX5_soCount 3 = .ok (.getstatic 77, 3) := by decide +kernel
theorem dX5_soCount_6 : decode cX5_soCount 6 = .ok (.iload_n 3, 1) := by decide +kernel
theorem dX5_soCount_7 : decode cX5_soCount 7 = .ok (.iaload, 1) := by decide +kernel
theorem dX5_soCount_8 : decode cX5_soCount 8 = .ok (.istore 6, 2) := by decide +kernel
theorem dX5_soCount_10 : decode cX5_soCount 10 = .ok (.iload 6, 2) := by decide +kernel
theorem dX5_soCount_12 : decode cX5_soCount 12 = .ok (.iload 4, 2) := by decide +kernel
theorem dX5_soCount_14 : decode cX5_soCount 14 = .ok (.if_icmp .gt 24, 3) := by decide +kernel
