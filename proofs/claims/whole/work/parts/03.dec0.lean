theorem dX0_init_0 : decode cX0_init 0 = .ok (.aload_n 0, 1) := by decide +kernel
theorem dX0_init_1 : decode cX0_init 1 = .ok (.invokespecial 3, 3) := by decide +kernel
theorem dX0_init_4 : decode cX0_init 4 = .ok (.return_, 1) := by decide +kernel
theorem dX0_come_0 : decode cX0_come 0 = .ok (.aload_n 0, 1) := by decide +kernel
theorem dX0_come_1 : decode cX0_come 1 = .ok (.iload_n 1, 1) := by decide +kernel
theorem dX0_come_2 : decode cX0_come 2 = .ok (.putfield 9, 3) := by decide +kernel
theorem dX0_come_5 : decode cX0_come 5 = .ok (.aload_n 0, 1) := by decide +kernel
theorem dX0_come_6 : decode cX0_come 6 = .ok (.iload_n 2, 1) := by decide +kernel
theorem dX0_come_7 : decode cX0_come 7 = .ok (.putfield 15, 3) := by decide +kernel
theorem dX0_come_10 : decode cX0_come 10 = .ok (.aload_n 0, 1) := by decide +kernel
theorem dX0_come_11 : decode cX0_come 11 = .ok (.iload_n 3, 1) := by decide +kernel
theorem dX0_come_12 : decode cX0_come 12 = .ok (.putfield 18, 3) := by decide +kernel
theorem dX0_come_15 : decode cX0_come 15 = .ok (.aload_n 0, 1) := by decide +kernel
theorem dX0_come_16 : decode cX0_come 16 = .ok (.iconst 0, 1) := by decide +kernel
theorem dX0_come_17 : decode cX0_come 17 = .ok (.putfield 21, 3) := by decide +kernel
theorem dX0_come_20 : decode cX0_come 20 = .ok (.aload_n 0, 1) := by decide +kernel
theorem dX0_come_21 : decode cX0_come 21 = .ok (.iconst 0, 1) := by decide +kernel
theorem dX0_come_22 : decode cX0_come 22 = .ok (.putfield 24, 3) := by decide +kernel
theorem dX0_come_25 : decode cX0_come 25 = .ok (.aload_n 0, 1) := by decide +kernel
theorem dX0_come_26 : decode cX0_come 26 = .ok (.iconst 0, 1) := by decide +kernel
theorem dX0_come_27 : decode cX0_come 27 = .ok (.putfield 27, 3) := by decide +kernel
theorem dX0_come_30 : decode cX0_come 30 = .ok (.return_, 1) := by decide +kernel
theorem dX0_become_0 : decode cX0_become 0 = .ok (.aload_n 0, 1) := by decide +kernel
theorem dX0_become_1 : decode cX0_become 1 = .ok (.aload_n 1, 1) := by decide +kernel
theorem dX0_become_2 : decode cX0_become 2 = .ok (.getfield 9, 3) := by decide +kernel
theorem dX0_become_5 : decode cX0_become 5 = .ok (.putfield 9, 3) := by decide +kernel
theorem dX0_become_8 : decode cX0_become 8 = .ok (.aload_n 0, 1) := by decide +kernel
theorem dX0_become_9 : decode cX0_become 9 = .ok (.aload_n 1, 1) := by decide +kernel
theorem dX0_become_10 : decode cX0_become 10 = .ok (.getfield 15, 3) := by decide +kernel
theorem dX0_become_13 : decode cX0_become 13 = .ok (.putfield 15, 3) := by decide +kernel
theorem dX0_become_16 : decode cX0_become 16 = .ok (.aload_n 0, 1) := by decide +kernel
theorem dX0_become_17 : decode cX0_become 17 = .ok (.aload_n 1, 1) := by decide +kernel
theorem dX0_become_18 : decode cX0_become 18 = .ok (.getfield 18, 3) := by decide +kernel
theorem dX0_become_21 : decode cX0_become 21 = .ok (.putfield 18, 3) := by decide +kernel
theorem dX0_become_24 : decode cX0_become 24 = .ok (.aload_n 0, 1) := by decide +kernel
theorem dX0_become_25 : decode cX0_become 25 = .ok (.aload_n 1, 1) := by decide +kernel
theorem dX0_become_26 : decode cX0_become 26 = .ok (.getfield 21, 3) := by decide +kernel
theorem dX0_become_29 : decode cX0_become 29 = .ok (.putfield 21, 3) := by decide +kernel
theorem dX0_become_32 : decode cX0_become 32 = .ok (.aload_n 0, 1) := by decide +kernel
theorem dX0_become_33 : decode cX0_become 33 = .ok (.aload_n 1, 1) := by decide +kernel
theorem dX0_become_34 : decode cX0_become 34 = .ok (.getfield 24, 3) := by decide +kernel
theorem dX0_become_37 : decode cX0_become 37 = .ok (.putfield 24, 3) := by decide +kernel
theorem dX0_become_40 : decode cX0_become 40 = .ok (.aload_n 0, 1) := by decide +kernel
theorem dX0_become_41 : decode cX0_become 41 = .ok (.aload_n 1, 1) := by decide +kernel
theorem dX0_become_42 : decode cX0_become 42 = .ok (.getfield 27, 3) := by decide +kernel
theorem dX0_become_45 : decode cX0_become 45 = .ok (.putfield 27, 3) := by decide +kernel
theorem dX0_become_48 : decode cX0_become 48 = .ok (.return_, 1) := by decide +kernel
theorem dX0_goTo_0 : decode cX0_goTo 0 = .ok (.aload_n 0, 1) := by decide +kernel
theorem dX0_goTo_1 : decode cX0_goTo 1 = .ok (.iload_n 1, 1) := by decide +kernel
theorem dX0_goTo_2 : decode cX0_goTo 2 = .ok (.putfield 27, 3) := by decide +kernel
theorem dX0_goTo_5 : decode cX0_goTo 5 = .ok (.aload_n 0, 1) := by decide +kernel
theorem dX0_goTo_6 : decode cX0_goTo 6 = .ok (.iconst 0, 1) := by decide +kernel
theorem dX0_goTo_7 : decode cX0_goTo 7 = .ok (.putfield 24, 3) := by decide +kernel
theorem dX0_goTo_10 : decode cX0_goTo 10 = .ok (.return_, 1) := by decide +kernel
theorem dX0_ageBehind_0 : decode cX0_ageBehind 0 = .ok (.sipush 999, 3) := by decide +kernel
theorem dX0_ageBehind_3 : decode cX0_ageBehind 3 = .ok (.aload_n 0, 1) := by decide +kernel
theorem dX0_ageBehind_4 : decode cX0_ageBehind 4 = .ok (.getfield 24, 3) := by decide +kernel
theorem dX0_ageBehind_7 : decode cX0_ageBehind 7 = .ok (.iload_n 1, 1) := by decide +kernel
theorem dX0_ageBehind_8 : decode cX0_ageBehind 8 = .ok (.iadd, 1) := by decide +kernel
theorem dX0_ageBehind_9 : decode cX0_ageBehind 9 = .ok (.invokestatic 30, 3) := by decide +kernel
theorem dX0_ageBehind_12 : decode cX0_ageBehind 12 = .ok (.ireturn, 1) := by decide +kernel
theorem dX0_part_0 : decode cX0_part 0 = .ok (.iload_n 1, 1) := by decide +kernel
theorem dX0_part_1 : decode cX0_part 1 = .ok (.tableswitch 60 1 5 #[35, 40, 45, 50, 55], 35) := by decide +kernel
theorem dX0_part_36 : decode cX0_part 36 = .ok (.aload_n 0, 1) := by decide +kernel
theorem dX0_part_37 : decode cX0_part 37 = .ok (.getfield 15, 3) := by decide +kernel
theorem dX0_part_40 : decode cX0_part 40 = .ok (.ireturn, 1) := by decide +kernel
theorem dX0_part_41 : decode cX0_part 41 = .ok (.aload_n 0, 1) := by decide +kernel
theorem dX0_part_42 : decode cX0_part 42 = .ok (.getfield 18, 3) := by decide +kernel
theorem dX0_part_45 : decode cX0_part 45 = .ok (.ireturn, 1) := by decide +kernel
theorem dX0_part_46 : decode cX0_part 46 = .ok (.aload_n 0, 1) := by decide +kernel
theorem dX0_part_47 : decode cX0_part 47 = .ok (.getfield 21, 3) := by decide +kernel
theorem dX0_part_50 : decode cX0_part 50 = .ok (.ireturn, 1) := by decide +kernel
theorem dX0_part_51 : decode cX0_part 51 = .ok (.aload_n 0, 1) := by decide +kernel
theorem dX0_part_52 : decode cX0_part 52 = .ok (.getfield 24, 3) := by decide +kernel
theorem dX0_part_55 : decode cX0_part 55 = .ok (.ireturn, 1) := by decide +kernel
theorem dX0_part_56 : decode cX0_part 56 = .ok (.aload_n 0, 1) := by decide +kernel
theorem dX0_part_57 : decode cX0_part 57 = .ok (.getfield 27, 3) := by decide +kernel
theorem dX0_part_60 : decode cX0_part 60 = .ok (.ireturn, 1) := by decide +kernel
theorem dX0_part_61 : decode cX0_part 61 = .ok (.aload_n 0, 1) := by decide +kernel
theorem dX0_part_62 : decode cX0_part 62 = .ok (.getfield 9, 3) := by decide +kernel
theorem dX0_part_65 : decode cX0_part 65 = .ok (.ireturn, 1) := by decide +kernel
theorem dX0_lay_0 : decode cX0_lay 0 = .ok (.iload_n 1, 1) := by decide +kernel
theorem dX0_lay_1 : decode cX0_lay 1 = .ok (.tableswitch 75 1 5 #[35, 43, 51, 59, 67], 35) := by decide +kernel
theorem dX0_lay_36 : decode cX0_lay 36 = .ok (.aload_n 0, 1) := by decide +kernel
theorem dX0_lay_37 : decode cX0_lay 37 = .ok (.iload_n 2, 1) := by decide +kernel
theorem dX0_lay_38 : decode cX0_lay 38 = .ok (.putfield 15, 3) := by decide +kernel
theorem dX0_lay_41 : decode cX0_lay 41 = .ok (.goto 40, 3) := by decide +kernel
theorem dX0_lay_44 : decode cX0_lay 44 = .ok (.aload_n 0, 1) := by decide +kernel
theorem dX0_lay_45 : decode cX0_lay 45 = .ok (.iload_n 2, 1) := by decide +kernel
theorem dX0_lay_46 : decode cX0_lay 46 = .ok (.putfield 18, 3) := by decide +kernel
theorem dX0_lay_49 : decode cX0_lay 49 = .ok (.goto 32, 3) := by decide +kernel
theorem dX0_lay_52 : decode cX0_lay 52 = .ok (.aload_n 0, 1) := by decide +kernel
theorem dX0_lay_53 : decode cX0_lay 53 = .ok (.iload_n 2, 1) := by decide +kernel
theorem dX0_lay_54 : decode cX0_lay 54 = .ok (.putfield 21, 3) := by decide +kernel
theorem dX0_lay_57 : decode cX0_lay 57 = .ok (.goto 24, 3) := by decide +kernel
theorem dX0_lay_60 : decode cX0_lay 60 = .ok (.aload_n 0, 1) := by decide +kernel
theorem dX0_lay_61 : decode cX0_lay 61 = .ok (.iload_n 2, 1) := by decide +kernel
theorem dX0_lay_62 : decode cX0_lay 62 = .ok (.putfield 24, 3) := by decide +kernel
theorem dX0_lay_65 : decode cX0_lay 65 = .ok (.goto 16, 3) := by decide +kernel
theorem dX0_lay_68 : decode cX0_lay 68 = .ok (.aload_n 0, 1) := by decide +kernel
theorem dX0_lay_69 : decode cX0_lay 69 = .ok (.iload_n 2, 1) := by decide +kernel
theorem dX0_lay_70 : decode cX0_lay 70 = .ok (.putfield 27, 3) := by decide +kernel
theorem dX0_lay_73 : decode cX0_lay 73 = .ok (.goto 8, 3) := by decide +kernel
theorem dX0_lay_76 : decode cX0_lay 76 = .ok (.aload_n 0, 1) := by decide +kernel
theorem dX0_lay_77 : decode cX0_lay 77 = .ok (.iload_n 2, 1) := by decide +kernel
theorem dX0_lay_78 : decode cX0_lay 78 = .ok (.putfield 9, 3) := by decide +kernel
theorem dX0_lay_81 : decode cX0_lay 81 = .ok (.return_, 1) := by decide +kernel
theorem dX1_init_0 : decode cX1_init 0 = .ok (.aload_n 0, 1) := by decide +kernel
theorem dX1_init_1 : decode cX1_init 1 = .ok (.invokespecial 3, 3) := by decide +kernel
theorem dX1_init_4 : decode cX1_init 4 = .ok (.aload_n 0, 1) := by decide +kernel
theorem dX1_init_5 : decode cX1_init 5 = .ok (.bipush 8, 2) := by decide +kernel
theorem dX1_init_7 : decode cX1_init 7 = .ok (.anewarray 9, 3) := by decide +kernel
theorem dX1_init_10 : decode cX1_init 10 = .ok (.putfield 11, 3) := by decide +kernel
theorem dX1_init_13 : decode cX1_init 13 = .ok (.iconst 0, 1) := by decide +kernel
theorem dX1_init_14 : decode cX1_init 14 = .ok (.istore_n 1, 1) := by decide +kernel
theorem dX1_init_15 : decode cX1_init 15 = .ok (.iload_n 1, 1) := by decide +kernel
theorem dX1_init_16 : decode cX1_init 16 = .ok (.aload_n 0, 1) := by decide +kernel
theorem dX1_init_17 : decode cX1_init 17 = .ok (.getfield 11, 3) := by decide +kernel
theorem dX1_init_20 : decode cX1_init 20 = .ok (.arraylength, 1) := by decide +kernel
theorem dX1_init_21 : decode cX1_init 21 = .ok (.if_icmp .ge 22, 3) := by decide +kernel
theorem dX1_init_24 : decode cX1_init 24 = .ok (.aload_n 0, 1) := by decide +kernel
theorem dX1_init_25 : decode cX1_init 25 = .ok (.getfield 11, 3) := by decide +kernel
theorem dX1_init_28 : decode cX1_init 28 = .ok (.iload_n 1, 1) := by decide +kernel
theorem dX1_init_29 : decode cX1_init 29 = .ok (.new 9, 3) := by decide +kernel
theorem dX1_init_32 : decode cX1_init 32 = .ok (.dup, 1) := by decide +kernel
theorem dX1_init_33 : decode cX1_init 33 = .ok (.invokespecial 17, 3) := by decide +kernel
theorem dX1_init_36 : decode cX1_init 36 = .ok (.aastore, 1) := by decide +kernel
theorem dX1_init_37 : decode cX1_init 37 = .ok (.iinc 1 1, 3) := by decide +kernel
theorem dX1_init_40 : decode cX1_init 40 = .ok (.goto (-25), 3) := by decide +kernel
theorem dX1_init_43 : decode cX1_init 43 = .ok (.return_, 1) := by decide +kernel
theorem dX2_init_0 : decode cX2_init 0 = .ok (.aload_n 0, 1) := by decide +kernel
theorem dX2_init_1 : decode cX2_init 1 = .ok (.invokespecial 3, 3) := by decide +kernel
theorem dX2_init_4 : decode cX2_init 4 = .ok (.aload_n 0, 1) := by decide +kernel
theorem dX2_init_5 : decode cX2_init 5 = .ok (.iconst (-1), 1) := by decide +kernel
theorem dX2_init_6 : decode cX2_init 6 = .ok (.putfield 9, 3) := by decide +kernel
theorem dX2_init_9 : decode cX2_init 9 = .ok (.aload_n 0, 1) := by decide +kernel
theorem dX2_init_10 : decode cX2_init 10 = .ok (.bipush 40, 2) := by decide +kernel
theorem dX2_init_12 : decode cX2_init 12 = .ok (.newarray .int, 2) := by decide +kernel
theorem dX2_init_14 : decode cX2_init 14 = .ok (.putfield 15, 3) := by decide +kernel
theorem dX2_init_17 : decode cX2_init 17 = .ok (.return_, 1) := by decide +kernel
theorem dX2_isMissing_0 : decode cX2_isMissing 0 = .ok (.aload_n 0, 1) := by decide +kernel
theorem dX2_isMissing_1 : decode cX2_isMissing 1 = .ok (.getfield 9, 3) := by decide +kernel
theorem dX2_isMissing_4 : decode cX2_isMissing 4 = .ok (.iconst (-1), 1) := by decide +kernel
theorem dX2_isMissing_5 : decode cX2_isMissing 5 = .ok (.if_icmp .ne 7, 3) := by decide +kernel
theorem dX2_isMissing_8 : decode cX2_isMissing 8 = .ok (.iconst 1, 1) := by decide +kernel
theorem dX2_isMissing_9 : decode cX2_isMissing 9 = .ok (.goto 4, 3) := by decide +kernel
theorem dX2_isMissing_12 : decode cX2_isMissing 12 = .ok (.iconst 0, 1) := by decide +kernel
theorem dX2_isMissing_13 : decode cX2_isMissing 13 = .ok (.ireturn, 1) := by decide +kernel
theorem dX2_become_0 : decode cX2_become 0 = .ok (.aload_n 0, 1) := by decide +kernel
theorem dX2_become_1 : decode cX2_become 1 = .ok (.iload_n 1, 1) := by decide +kernel
theorem dX2_become_2 : decode cX2_become 2 = .ok (.putfield 9, 3) := by decide +kernel
theorem dX2_become_5 : decode cX2_become 5 = .ok (.aload_n 0, 1) := by decide +kernel
theorem dX2_become_6 : decode cX2_become 6 = .ok (.iload_n 2, 1) := by decide +kernel
theorem dX2_become_7 : decode cX2_become 7 = .ok (.putfield 19, 3) := by decide +kernel
theorem dX2_become_10 : decode cX2_become 10 = .ok (.aload_n 0, 1) := by decide +kernel
theorem dX2_become_11 : decode cX2_become 11 = .ok (.getfield 15, 3) := by decide +kernel
theorem dX2_become_14 : decode cX2_become 14 = .ok (.iconst 0, 1) := by decide +kernel
theorem dX2_become_15 : decode cX2_become 15 = .ok (.invokestatic 22, 3) := by decide +kernel
theorem dX2_become_18 : decode cX2_become 18 = .ok (.return_, 1) := by decide +kernel
theorem dX2_hasRoom_0 : decode cX2_hasRoom 0 = .ok (.iload_n 1, 1) := by decide +kernel
theorem dX2_hasRoom_1 : decode cX2_hasRoom 1 = .ok (.ifCond .lt 29, 3) := by decide +kernel
theorem dX2_hasRoom_4 : decode cX2_hasRoom 4 = .ok (.iload_n 2, 1) := by decide +kernel
theorem dX2_hasRoom_5 : decode cX2_hasRoom 5 = .ok (.ifCond .lt 25, 3) := by decide +kernel
theorem dX2_hasRoom_8 : decode cX2_hasRoom 8 = .ok (.iload_n 1, 1) := by decide +kernel
theorem dX2_hasRoom_9 : decode cX2_hasRoom 9 = .ok (.aload_n 0, 1) := by decide +kernel
theorem dX2_hasRoom_10 : decode cX2_hasRoom 10 = .ok (.getfield 19, 3) := by decide +kernel
theorem dX2_hasRoom_13 : decode cX2_hasRoom 13 = .ok (.if_icmp .gt 17, 3) := by decide +kernel
theorem dX2_hasRoom_16 : decode cX2_hasRoom 16 = .ok (.iload_n 2, 1) := by decide +kernel
theorem dX2_hasRoom_17 : decode cX2_hasRoom 17 = .ok (.aload_n 0, 1) := by decide +kernel
theorem dX2_hasRoom_18 : decode cX2_hasRoom 18 = .ok (.getfield 19, 3) := by decide +kernel
theorem dX2_hasRoom_21 : decode cX2_hasRoom 21 = .ok (.iload_n 1, 1) := by decide +kernel
theorem dX2_hasRoom_22 : decode cX2_hasRoom 22 = .ok (.isub, 1) := by decide +kernel
theorem dX2_hasRoom_23 : decode cX2_hasRoom 23 = .ok (.if_icmp .gt 7, 3) := by decide +kernel
theorem dX2_hasRoom_26 : decode cX2_hasRoom 26 = .ok (.iconst 1, 1) := by decide +kernel
theorem dX2_hasRoom_27 : decode cX2_hasRoom 27 = .ok (.goto 4, 3) := by decide +kernel
theorem dX2_hasRoom_30 : decode cX2_hasRoom 30 = .ok (.iconst 0, 1) := by decide +kernel
theorem dX2_hasRoom_31 : decode cX2_hasRoom 31 = .ok (.ireturn, 1) := by decide +kernel
theorem dX2_put_0 : decode cX2_put 0 = .ok (.iload_n 1, 1) := by decide +kernel
theorem dX2_put_1 : decode cX2_put 1 = .ok (.ifCond .lt 11, 3) := by decide +kernel
theorem dX2_put_4 : decode cX2_put 4 = .ok (.iload_n 1, 1) := by decide +kernel
theorem dX2_put_5 : decode cX2_put 5 = .ok (.aload_n 0, 1) := by decide +kernel
theorem dX2_put_6 : decode cX2_put 6 = .ok (.getfield 19, 3) := by decide +kernel
theorem dX2_put_9 : decode cX2_put 9 = .ok (.if_icmp .lt 4, 3) := by decide +kernel
theorem dX2_put_12 : decode cX2_put 12 = .ok (.return_, 1) := by decide +kernel
theorem dX2_put_13 : decode cX2_put 13 = .ok (.aload_n 0, 1) := by decide +kernel
theorem dX2_put_14 : decode cX2_put 14 = .ok (.getfield 9, 3) := by decide +kernel
theorem dX2_put_17 : decode cX2_put 17 = .ok (.ifCond .ne 14, 3) := by decide +kernel
theorem dX2_put_20 : decode cX2_put 20 = .ok (.aload_n 0, 1) := by decide +kernel
theorem dX2_put_21 : decode cX2_put 21 = .ok (.getfield 15, 3) := by decide +kernel
theorem dX2_put_24 : decode cX2_put 24 = .ok (.iload_n 1, 1) := by decide +kernel
theorem dX2_put_25 : decode cX2_put 25 = .ok (.iload_n 2, 1) := by decide +kernel
theorem dX2_put_26 : decode cX2_put 26 = .ok (.i2b, 1) := by decide +kernel
theorem dX2_put_27 : decode cX2_put 27 = .ok (.iastore, 1) := by decide +kernel
theorem dX2_put_28 : decode cX2_put 28 = .ok (.goto 29, 3) := by decide +kernel
theorem dX2_put_31 : decode cX2_put 31 = .ok (.aload_n 0, 1) := by decide +kernel
theorem dX2_put_32 : decode cX2_put 32 = .ok (.getfield 9, 3) := by decide +kernel
theorem dX2_put_35 : decode cX2_put 35 = .ok (.iconst 1, 1) := by decide +kernel
theorem dX2_put_36 : decode cX2_put 36 = .ok (.if_icmp .ne 14, 3) := by decide +kernel
theorem dX2_put_39 : decode cX2_put 39 = .ok (.aload_n 0, 1) := by decide +kernel
theorem dX2_put_40 : decode cX2_put 40 = .ok (.getfield 15, 3) := by decide +kernel
theorem dX2_put_43 : decode cX2_put 43 = .ok (.iload_n 1, 1) := by decide +kernel
theorem dX2_put_44 : decode cX2_put 44 = .ok (.iload_n 2, 1) := by decide +kernel
theorem dX2_put_45 : decode cX2_put 45 = .ok (.i2s, 1) := by decide +kernel
theorem dX2_put_46 : decode cX2_put 46 = .ok (.iastore, 1) := by decide +kernel
theorem dX2_put_47 : decode cX2_put 47 = .ok (.goto 10, 3) := by decide +kernel
theorem dX2_put_50 : decode cX2_put 50 = .ok (.aload_n 0, 1) := by decide +kernel
theorem dX2_put_51 : decode cX2_put 51 = .ok (.getfield 15, 3) := by decide +kernel
theorem dX2_put_54 : decode cX2_put 54 = .ok (.iload_n 1, 1) := by decide +kernel
theorem dX2_put_55 : decode cX2_put 55 = .ok (.iload_n 2, 1) := by decide +kernel
theorem dX2_put_56 : decode cX2_put 56 = .ok (.iastore, 1) := by decide +kernel
theorem dX2_put_57 : decode cX2_put 57 = .ok (.return_, 1) := by decide +kernel
theorem dX3_init_0 : decode cX3_init 0 = .ok (.aload_n 0, 1) := by decide +kernel
theorem dX3_init_1 : decode cX3_init 1 = .ok (.invokespecial 3, 3) := by decide +kernel
theorem dX3_init_4 : decode cX3_init 4 = .ok (.aload_n 0, 1) := by decide +kernel
theorem dX3_init_5 : decode cX3_init 5 = .ok (.sipush 160, 3) := by decide +kernel
theorem dX3_init_8 : decode cX3_init 8 = .ok (.newarray .int, 2) := by decide +kernel
theorem dX3_init_10 : decode cX3_init 10 = .ok (.putfield 9, 3) := by decide +kernel
theorem dX3_init_13 : decode cX3_init 13 = .ok (.aload_n 0, 1) := by decide +kernel
theorem dX3_init_14 : decode cX3_init 14 = .ok (.sipush 160, 3) := by decide +kernel
theorem dX3_init_17 : decode cX3_init 17 = .ok (.newarray .int, 2) := by decide +kernel
theorem dX3_init_19 : decode cX3_init 19 = .ok (.putfield 15, 3) := by decide +kernel
theorem dX3_init_22 : decode cX3_init 22 = .ok (.aload_n 0, 1) := by decide +kernel
theorem dX3_init_23 : decode cX3_init 23 = .ok (.iconst 3, 1) := by decide +kernel
theorem dX3_init_24 : decode cX3_init 24 = .ok (.newarray .int, 2) := by decide +kernel
theorem dX3_init_26 : decode cX3_init 26 = .ok (.putfield 18, 3) := by decide +kernel
theorem dX3_init_29 : decode cX3_init 29 = .ok (.return_, 1) := by decide +kernel
theorem dX3_add_0 : decode cX3_add 0 = .ok (.aload_n 0, 1) := by decide +kernel
theorem dX3_add_1 : decode cX3_add 1 = .ok (.getfield 21, 3) := by decide +kernel
theorem dX3_add_4 : decode cX3_add 4 = .ok (.aload_n 0, 1) := by decide +kernel
theorem dX3_add_5 : decode cX3_add 5 = .ok (.getfield 9, 3) := by decide +kernel
theorem dX3_add_8 : decode cX3_add 8 = .ok (.arraylength, 1) := by decide +kernel
theorem dX3_add_9 : decode cX3_add 9 = .ok (.if_icmp .ge 23, 3) := by decide +kernel
theorem dX3_add_12 : decode cX3_add 12 = .ok (.aload_n 0, 1) := by decide +kernel
theorem dX3_add_13 : decode cX3_add 13 = .ok (.getfield 9, 3) := by decide +kernel
theorem dX3_add_16 : decode cX3_add 16 = .ok (.aload_n 0, 1) := by decide +kernel
theorem dX3_add_17 : decode cX3_add 17 = .ok (.getfield 21, 3) := by decide +kernel
theorem dX3_add_20 : decode cX3_add 20 = .ok (.iload_n 1, 1) := by decide +kernel
theorem dX3_add_21 : decode cX3_add 21 = .ok (.iastore, 1) := by decide +kernel
theorem dX3_add_22 : decode cX3_add 22 = .ok (.aload_n 0, 1) := by decide +kernel
theorem dX3_add_23 : decode cX3_add 23 = .ok (.dup, 1) := by decide +kernel
theorem dX3_add_24 : decode cX3_add 24 = .ok (.getfield 21, 3) := by decide +kernel
theorem dX3_add_27 : decode cX3_add 27 = .ok (.iconst 1, 1) := by decide +kernel
theorem dX3_add_28 : decode cX3_add 28 = .ok (.iadd, 1) := by decide +kernel
theorem dX3_add_29 : decode cX3_add 29 = .ok (.putfield 21, 3) := by decide +kernel
theorem dX3_add_32 : decode cX3_add 32 = .ok (.return_, 1) := by decide +kernel
theorem dX3_newText_0 : decode cX3_newText 0 = .ok (.new 25, 3) := by decide +kernel
theorem dX3_newText_3 : decode cX3_newText 3 = .ok (.dup, 1) := by decide +kernel
theorem dX3_newText_4 : decode cX3_newText 4 = .ok (.aload_n 0, 1) := by decide +kernel
theorem dX3_newText_5 : decode cX3_newText 5 = .ok (.getfield 15, 3) := by decide +kernel
theorem dX3_newText_8 : decode cX3_newText 8 = .ok (.aload_n 0, 1) := by decide +kernel
theorem dX3_newText_9 : decode cX3_newText 9 = .ok (.getfield 27, 3) := by decide +kernel
theorem dX3_newText_12 : decode cX3_newText 12 = .ok (.invokestatic 30, 3) := by decide +kernel
theorem dX3_newText_15 : decode cX3_newText 15 = .ok (.aload_n 0, 1) := by decide +kernel
theorem dX3_newText_16 : decode cX3_newText 16 = .ok (.getfield 18, 3) := by decide +kernel
theorem dX3_newText_19 : decode cX3_newText 19 = .ok (.aload_n 0, 1) := by decide +kernel
theorem dX3_newText_20 : decode cX3_newText 20 = .ok (.getfield 18, 3) := by decide +kernel
theorem dX3_newText_23 : decode cX3_newText 23 = .ok (.arraylength, 1) := by decide +kernel
theorem dX3_newText_24 : decode cX3_newText 24 = .ok (.invokestatic 30, 3) := by decide +kernel
theorem dX3_newText_27 : decode cX3_newText 27 = .ok (.invokespecial 36, 3) := by decide +kernel
theorem dX3_newText_30 : decode cX3_newText 30 = .ok (.areturn, 1) := by decide +kernel
theorem dX3_read_0 : decode cX3_read 0 = .ok (.aload_n 0, 1) := by decide +kernel
theorem dX3_read_1 : decode cX3_read 1 = .ok (.iconst 0, 1) := by decide +kernel
theorem dX3_read_2 : decode cX3_read 2 = .ok (.putfield 27, 3) := by decide +kernel
theorem dX3_read_5 : decode cX3_read 5 = .ok (.aload_n 0, 1) := by decide +kernel
theorem dX3_read_6 : decode cX3_read 6 = .ok (.iconst 0, 1) := by decide +kernel
theorem dX3_read_7 : decode cX3_read 7 = .ok (.putfield 39, 3) := by decide +kernel
theorem dX3_read_10 : decode cX3_read 10 = .ok (.aload_n 0, 1) := by decide +kernel
theorem dX3_read_11 : decode cX3_read 11 = .ok (.invokevirtual 42, 3) := by decide +kernel
theorem dX3_read_14 : decode cX3_read 14 = .ok (.pop, 1) := by decide +kernel
theorem dX3_read_15 : decode cX3_read 15 = .ok (.aload_n 0, 1) := by decide +kernel
theorem dX3_read_16 : decode cX3_read 16 = .ok (.iconst 0, 1) := by decide +kernel
theorem dX3_read_17 : decode cX3_read 17 = .ok (.bipush (-7), 2) := by decide +kernel
theorem dX3_read_19 : decode cX3_read 19 = .ok (.invokevirtual 46, 3) := by decide +kernel
theorem dX3_read_22 : decode cX3_read 22 = .ok (.ifCond .eq 36, 3) := by decide +kernel
theorem dX3_read_25 : decode cX3_read 25 = .ok (.aload_n 0, 1) := by decide +kernel
theorem dX3_read_26 : decode cX3_read 26 = .ok (.iconst 1, 1) := by decide +kernel
theorem dX3_read_27 : decode cX3_read 27 = .ok (.bipush (-8), 2) := by decide +kernel
theorem dX3_read_29 : decode cX3_read 29 = .ok (.invokevirtual 46, 3) := by decide +kernel
theorem dX3_read_32 : decode cX3_read 32 = .ok (.ifCond .eq 26, 3) := by decide +kernel
theorem dX3_read_35 : decode cX3_read 35 = .ok (.aload_n 0, 1) := by decide +kernel
theorem dX3_read_36 : decode cX3_read 36 = .ok (.iconst 2, 1) := by decide +kernel
theorem dX3_read_37 : decode cX3_read 37 = .ok (.bipush (-9), 2) := by decide +kernel
theorem dX3_read_39 : decode cX3_read 39 = .ok (.invokevirtual 46, 3) := by decide +kernel
theorem dX3_read_42 : decode cX3_read 42 = .ok (.ifCond .eq 16, 3) := by decide +kernel
theorem dX3_read_45 : decode cX3_read 45 = .ok (.aload_n 0, 1) := by decide +kernel
theorem dX3_read_46 : decode cX3_read 46 = .ok (.getfield 50, 3) := by decide +kernel
theorem dX3_read_49 : decode cX3_read 49 = .ok (.bipush (-22), 2) := by decide +kernel
theorem dX3_read_51 : decode cX3_read 51 = .ok (.if_icmp .ne 7, 3) := by decide +kernel
theorem dX3_read_54 : decode cX3_read 54 = .ok (.iconst 1, 1) := by decide +kernel
theorem dX3_read_55 : decode cX3_read 55 = .ok (.goto 4, 3) := by decide +kernel
theorem dX3_read_58 : decode cX3_read 58 = .ok (.iconst 0, 1) := by decide +kernel
theorem dX3_read_59 : decode cX3_read 59 = .ok (.istore_n 1, 1) := by decide +kernel
theorem dX3_read_60 : decode cX3_read 60 = .ok (.iload_n 1, 1) := by decide +kernel
theorem dX3_read_61 : decode cX3_read 61 = .ok (.ifCond .eq 7, 3) := by decide +kernel
theorem dX3_read_64 : decode cX3_read 64 = .ok (.iconst (-1), 1) := by decide +kernel
theorem dX3_read_65 : decode cX3_read 65 = .ok (.goto 7, 3) := by decide +kernel
theorem dX3_read_68 : decode cX3_read 68 = .ok (.aload_n 0, 1) := by decide +kernel
theorem dX3_read_69 : decode cX3_read 69 = .ok (.getfield 53, 3) := by decide +kernel
theorem dX3_read_72 : decode cX3_read 72 = .ok (.ireturn, 1) := by decide +kernel
theorem dX3_readPart_0 : decode cX3_readPart 0 = .ok (.aload_n 0, 1) := by decide +kernel
theorem dX3_readPart_1 : decode cX3_readPart 1 = .ok (.getfield 50, 3) := by decide +kernel
theorem dX3_readPart_4 : decode cX3_readPart 4 = .ok (.iload_n 2, 1) := by decide +kernel
theorem dX3_readPart_5 : decode cX3_readPart 5 = .ok (.if_icmp .eq 5, 3) := by decide +kernel
theorem dX3_readPart_8 : decode cX3_readPart 8 = .ok (.iconst 0, 1) := by decide +kernel
theorem dX3_readPart_9 : decode cX3_readPart 9 = .ok (.ireturn, 1) := by decide +kernel
theorem dX3_readPart_10 : decode cX3_readPart 10 = .ok (.aload_n 0, 1) := by decide +kernel
theorem dX3_readPart_11 : decode cX3_readPart 11 = .ok (.invokevirtual 42, 3) := by decide +kernel
theorem dX3_readPart_14 : decode cX3_readPart 14 = .ok (.pop, 1) := by decide +kernel
theorem dX3_readPart_15 : decode cX3_readPart 15 = .ok (.aload_n 0, 1) := by decide +kernel
theorem dX3_readPart_16 : decode cX3_readPart 16 = .ok (.iconst 0, 1) := by decide +kernel
theorem dX3_readPart_17 : decode cX3_readPart 17 = .ok (.iconst 0, 1) := by decide +kernel
theorem dX3_readPart_18 : decode cX3_readPart 18 = .ok (.invokevirtual 56, 3) := by decide +kernel
theorem dX3_readPart_21 : decode cX3_readPart 21 = .ok (.ifCond .eq 12, 3) := by decide +kernel
theorem dX3_readPart_24 : decode cX3_readPart 24 = .ok (.aload_n 0, 1) := by decide +kernel
theorem dX3_readPart_25 : decode cX3_readPart 25 = .ok (.getfield 50, 3) := by decide +kernel
theorem dX3_readPart_28 : decode cX3_readPart 28 = .ok (.bipush (-21), 2) := by decide +kernel
theorem dX3_readPart_30 : decode cX3_readPart 30 = .ok (.if_icmp .eq 5, 3) := by decide +kernel
theorem dX3_readPart_33 : decode cX3_readPart 33 = .ok (.iconst 0, 1) := by decide +kernel
theorem dX3_readPart_34 : decode cX3_readPart 34 = .ok (.ireturn, 1) := by decide +kernel
theorem dX3_readPart_35 : decode cX3_readPart 35 = .ok (.aload_n 0, 1) := by decide +kernel
theorem dX3_readPart_36 : decode cX3_readPart 36 = .ok (.invokevirtual 42, 3) := by decide +kernel
theorem dX3_readPart_39 : decode cX3_readPart 39 = .ok (.pop, 1) := by decide +kernel
theorem dX3_readPart_40 : decode cX3_readPart 40 = .ok (.aload_n 0, 1) := by decide +kernel
theorem dX3_readPart_41 : decode cX3_readPart 41 = .ok (.getfield 18, 3) := by decide +kernel
theorem dX3_readPart_44 : decode cX3_readPart 44 = .ok (.iload_n 1, 1) := by decide +kernel
theorem dX3_readPart_45 : decode cX3_readPart 45 = .ok (.aload_n 0, 1) := by decide +kernel
theorem dX3_readPart_46 : decode cX3_readPart 46 = .ok (.getfield 27, 3) := by decide +kernel
theorem dX3_readPart_49 : decode cX3_readPart 49 = .ok (.iastore, 1) := by decide +kernel
theorem dX3_readPart_50 : decode cX3_readPart 50 = .ok (.iconst 1, 1) := by decide +kernel
theorem dX3_readPart_51 : decode cX3_readPart 51 = .ok (.ireturn, 1) := by decide +kernel
theorem dX3_readLevel_0 : decode cX3_readLevel 0 = .ok (.iload_n 1, 1) := by decide +kernel
theorem dX3_readLevel_1 : decode cX3_readLevel 1 = .ok (.iconst 4, 1) := by decide +kernel
theorem dX3_readLevel_2 : decode cX3_readLevel 2 = .ok (.if_icmp .le 9, 3) := by decide +kernel
theorem dX3_readLevel_5 : decode cX3_readLevel 5 = .ok (.aload_n 0, 1) := by decide +kernel
theorem dX3_readLevel_6 : decode cX3_readLevel 6 = .ok (.iload_n 2, 1) := by decide +kernel
theorem dX3_readLevel_7 : decode cX3_readLevel 7 = .ok (.invokevirtual 59, 3) := by decide +kernel
theorem dX3_readLevel_10 : decode cX3_readLevel 10 = .ok (.ireturn, 1) := by decide +kernel
theorem dX3_readLevel_11 : decode cX3_readLevel 11 = .ok (.iload_n 1, 1) := by decide +kernel
theorem dX3_readLevel_12 : decode cX3_readLevel 12 = .ok (.iconst 2, 1) := by decide +kernel
theorem dX3_readLevel_13 : decode cX3_readLevel 13 = .ok (.if_icmp .ne 50, 3) := by decide +kernel
theorem dX3_readLevel_16 : decode cX3_readLevel 16 = .ok (.aload_n 0, 1) := by decide +kernel
theorem dX3_readLevel_17 : decode cX3_readLevel 17 = .ok (.getfield 50, 3) := by decide +kernel
theorem dX3_readLevel_20 : decode cX3_readLevel 20 = .ok (.bipush (-12), 2) := by decide +kernel
theorem dX3_readLevel_22 : decode cX3_readLevel 22 = .ok (.if_icmp .ne 41, 3) := by decide +kernel
theorem dX3_readLevel_25 : decode cX3_readLevel 25 = .ok (.iload_n 2, 1) := by decide +kernel
theorem dX3_readLevel_26 : decode cX3_readLevel 26 = .ok (.iconst 5, 1) := by decide +kernel
theorem dX3_readLevel_27 : decode cX3_readLevel 27 = .ok (.if_icmp .ge 34, 3) := by decide +kernel
theorem dX3_readLevel_30 : decode cX3_readLevel 30 = .ok (.aload_n 0, 1) := by decide +kernel
theorem dX3_readLevel_31 : decode cX3_readLevel 31 = .ok (.invokevirtual 42, 3) := by decide +kernel
theorem dX3_readLevel_34 : decode cX3_readLevel 34 = .ok (.ifCond .eq 27, 3) := by decide +kernel
theorem dX3_readLevel_37 : decode cX3_readLevel 37 = .ok (.aload_n 0, 1) := by decide +kernel
theorem dX3_readLevel_38 : decode cX3_readLevel 38 = .ok (.iconst 2, 1) := by decide +kernel
theorem dX3_readLevel_39 : decode cX3_readLevel 39 = .ok (.iload_n 2, 1) := by decide +kernel
theorem dX3_readLevel_40 : decode cX3_readLevel 40 = .ok (.iconst 1, 1) := by decide +kernel
theorem dX3_readLevel_41 : decode cX3_readLevel 41 = .ok (.iadd, 1) := by decide +kernel
theorem dX3_readLevel_42 : decode cX3_readLevel 42 = .ok (.invokevirtual 56, 3) := by decide +kernel
theorem dX3_readLevel_45 : decode cX3_readLevel 45 = .ok (.ifCond .eq 16, 3) := by decide +kernel
theorem dX3_readLevel_48 : decode cX3_readLevel 48 = .ok (.aload_n 0, 1) := by decide +kernel
theorem dX3_readLevel_49 : decode cX3_readLevel 49 = .ok (.bipush (-12), 2) := by decide +kernel
theorem dX3_readLevel_51 : decode cX3_readLevel 51 = .ok (.invokevirtual 63, 3) := by decide +kernel
theorem dX3_readLevel_54 : decode cX3_readLevel 54 = .ok (.ifCond .eq 7, 3) := by decide +kernel
theorem dX3_readLevel_57 : decode cX3_readLevel 57 = .ok (.iconst 1, 1) := by decide +kernel
theorem dX3_readLevel_58 : decode cX3_readLevel 58 = .ok (.goto 4, 3) := by decide +kernel
theorem dX3_readLevel_61 : decode cX3_readLevel 61 = .ok (.iconst 0, 1) := by decide +kernel
theorem dX3_readLevel_62 : decode cX3_readLevel 62 = .ok (.ireturn, 1) := by decide +kernel
theorem dX3_readLevel_63 : decode cX3_readLevel 63 = .ok (.aload_n 0, 1) := by decide +kernel
theorem dX3_readLevel_64 : decode cX3_readLevel 64 = .ok (.iload_n 1, 1) := by decide +kernel
theorem dX3_readLevel_65 : decode cX3_readLevel 65 = .ok (.iconst 1, 1) := by decide +kernel
theorem dX3_readLevel_66 : decode cX3_readLevel 66 = .ok (.iadd, 1) := by decide +kernel
theorem dX3_readLevel_67 : decode cX3_readLevel 67 = .ok (.iload_n 2, 1) := by decide +kernel
theorem dX3_readLevel_68 : decode cX3_readLevel 68 = .ok (.invokevirtual 56, 3) := by decide +kernel
theorem dX3_readLevel_71 : decode cX3_readLevel 71 = .ok (.ifCond .ne 5, 3) := by decide +kernel
theorem dX3_readLevel_74 : decode cX3_readLevel 74 = .ok (.iconst 0, 1) := by decide +kernel
theorem dX3_readLevel_75 : decode cX3_readLevel 75 = .ok (.ireturn, 1) := by decide +kernel
theorem dX3_readLevel_76 : decode cX3_readLevel 76 = .ok (.iload_n 1, 1) := by decide +kernel
theorem dX3_readLevel_77 : decode cX3_readLevel 77 = .ok (.iconst 2, 1) := by decide +kernel
theorem dX3_readLevel_78 : decode cX3_readLevel 78 = .ok (.if_icmp .ne 7, 3) := by decide +kernel
theorem dX3_readLevel_81 : decode cX3_readLevel 81 = .ok (.iconst 1, 1) := by decide +kernel
theorem dX3_readLevel_82 : decode cX3_readLevel 82 = .ok (.goto 6, 3) := by decide +kernel
theorem dX3_readLevel_85 : decode cX3_readLevel 85 = .ok (.sipush 160, 3) := by decide +kernel
theorem dX3_readLevel_88 : decode cX3_readLevel 88 = .ok (.istore_n 3, 1) := by decide +kernel
theorem dX3_readLevel_89 : decode cX3_readLevel 89 = .ok (.iconst 0, 1) := by decide +kernel
theorem dX3_readLevel_90 : decode cX3_readLevel 90 = .ok (.istore 4, 2) := by decide +kernel
theorem dX3_readLevel_92 : decode cX3_readLevel 92 = .ok (.iload 4, 2) := by decide +kernel
theorem dX3_readLevel_94 : decode cX3_readLevel 94 = .ok (.iload_n 3, 1) := by decide +kernel
theorem dX3_readLevel_95 : decode cX3_readLevel 95 = .ok (.if_icmp .ge 51, 3) := by decide +kernel
theorem dX3_readLevel_98 : decode cX3_readLevel 98 = .ok (.aload_n 0, 1) := by decide +kernel
theorem dX3_readLevel_99 : decode cX3_readLevel 99 = .ok (.getfield 50, 3) := by decide +kernel
theorem dX3_readLevel_102 : decode cX3_readLevel 102 = .ok (.invokestatic 66, 3) := by decide +kernel
theorem dX3_readLevel_105 : decode cX3_readLevel 105 = .ok (.iload_n 1, 1) := by decide +kernel
theorem dX3_readLevel_106 : decode cX3_readLevel 106 = .ok (.if_icmp .ne 40, 3) := by decide +kernel
theorem dX3_readLevel_109 : decode cX3_readLevel 109 = .ok (.aload_n 0, 1) := by decide +kernel
theorem dX3_readLevel_110 : decode cX3_readLevel 110 = .ok (.getfield 50, 3) := by decide +kernel
theorem dX3_readLevel_113 : decode cX3_readLevel 113 = .ok (.istore 5, 2) := by decide +kernel
theorem dX3_readLevel_115 : decode cX3_readLevel 115 = .ok (.aload_n 0, 1) := by decide +kernel
theorem dX3_readLevel_116 : decode cX3_readLevel 116 = .ok (.invokevirtual 42, 3) := by decide +kernel
theorem dX3_readLevel_119 : decode cX3_readLevel 119 = .ok (.pop, 1) := by decide +kernel
theorem dX3_readLevel_120 : decode cX3_readLevel 120 = .ok (.aload_n 0, 1) := by decide +kernel
theorem dX3_readLevel_121 : decode cX3_readLevel 121 = .ok (.iload_n 1, 1) := by decide +kernel
theorem dX3_readLevel_122 : decode cX3_readLevel 122 = .ok (.iconst 1, 1) := by decide +kernel
theorem dX3_readLevel_123 : decode cX3_readLevel 123 = .ok (.iadd, 1) := by decide +kernel
theorem dX3_readLevel_124 : decode cX3_readLevel 124 = .ok (.iload_n 2, 1) := by decide +kernel
theorem dX3_readLevel_125 : decode cX3_readLevel 125 = .ok (.invokevirtual 56, 3) := by decide +kernel
theorem dX3_readLevel_128 : decode cX3_readLevel 128 = .ok (.ifCond .ne 5, 3) := by decide +kernel
theorem dX3_readLevel_131 : decode cX3_readLevel 131 = .ok (.iconst 0, 1) := by decide +kernel
theorem dX3_readLevel_132 : decode cX3_readLevel 132 = .ok (.ireturn, 1) := by decide +kernel
theorem dX3_readLevel_133 : decode cX3_readLevel 133 = .ok (.aload_n 0, 1) := by decide +kernel
theorem dX3_readLevel_134 : decode cX3_readLevel 134 = .ok (.iload 5, 2) := by decide +kernel
theorem dX3_readLevel_136 : decode cX3_readLevel 136 = .ok (.invokevirtual 63, 3) := by decide +kernel
theorem dX3_readLevel_139 : decode cX3_readLevel 139 = .ok (.pop, 1) := by decide +kernel
theorem dX3_readLevel_140 : decode cX3_readLevel 140 = .ok (.iinc 4 1, 3) := by decide +kernel
theorem dX3_readLevel_143 : decode cX3_readLevel 143 = .ok (.goto (-51), 3) := by decide +kernel
theorem dX3_readLevel_146 : decode cX3_readLevel 146 = .ok (.iconst 1, 1) := by decide +kernel
theorem dX3_readLevel_147 : decode cX3_readLevel 147 = .ok (.ireturn, 1) := by decide +kernel
theorem dX3_readOne_0 : decode cX3_readOne 0 = .ok (.aload_n 0, 1) := by decide +kernel
theorem dX3_readOne_1 : decode cX3_readOne 1 = .ok (.getfield 50, 3) := by decide +kernel
theorem dX3_readOne_4 : decode cX3_readOne 4 = .ok (.bipush (-6), 2) := by decide +kernel
theorem dX3_readOne_6 : decode cX3_readOne 6 = .ok (.if_icmp .lt 27, 3) := by decide +kernel
theorem dX3_readOne_9 : decode cX3_readOne 9 = .ok (.aload_n 0, 1) := by decide +kernel
theorem dX3_readOne_10 : decode cX3_readOne 10 = .ok (.aload_n 0, 1) := by decide +kernel
theorem dX3_readOne_11 : decode cX3_readOne 11 = .ok (.getfield 50, 3) := by decide +kernel
theorem dX3_readOne_14 : decode cX3_readOne 14 = .ok (.invokevirtual 63, 3) := by decide +kernel
theorem dX3_readOne_17 : decode cX3_readOne 17 = .ok (.ifCond .eq 14, 3) := by decide +kernel
theorem dX3_readOne_20 : decode cX3_readOne 20 = .ok (.aload_n 0, 1) := by decide +kernel
theorem dX3_readOne_21 : decode cX3_readOne 21 = .ok (.invokevirtual 42, 3) := by decide +kernel
theorem dX3_readOne_24 : decode cX3_readOne 24 = .ok (.ifCond .eq 7, 3) := by decide +kernel
theorem dX3_readOne_27 : decode cX3_readOne 27 = .ok (.iconst 1, 1) := by decide +kernel
theorem dX3_readOne_28 : decode cX3_readOne 28 = .ok (.goto 4, 3) := by decide +kernel
theorem dX3_readOne_31 : decode cX3_readOne 31 = .ok (.iconst 0, 1) := by decide +kernel
theorem dX3_readOne_32 : decode cX3_readOne 32 = .ok (.ireturn, 1) := by decide +kernel
theorem dX3_readOne_33 : decode cX3_readOne 33 = .ok (.aload_n 0, 1) := by decide +kernel
theorem dX3_readOne_34 : decode cX3_readOne 34 = .ok (.getfield 50, 3) := by decide +kernel
theorem dX3_readOne_37 : decode cX3_readOne 37 = .ok (.bipush (-16), 2) := by decide +kernel
theorem dX3_readOne_39 : decode cX3_readOne 39 = .ok (.if_icmp .ne 40, 3) := by decide +kernel
theorem dX3_readOne_42 : decode cX3_readOne 42 = .ok (.iload_n 1, 1) := by decide +kernel
theorem dX3_readOne_43 : decode cX3_readOne 43 = .ok (.iconst 5, 1) := by decide +kernel
theorem dX3_readOne_44 : decode cX3_readOne 44 = .ok (.if_icmp .ge 33, 3) := by decide +kernel
theorem dX3_readOne_47 : decode cX3_readOne 47 = .ok (.aload_n 0, 1) := by decide +kernel
theorem dX3_readOne_48 : decode cX3_readOne 48 = .ok (.invokevirtual 42, 3) := by decide +kernel
theorem dX3_readOne_51 : decode cX3_readOne 51 = .ok (.ifCond .eq 26, 3) := by decide +kernel
theorem dX3_readOne_54 : decode cX3_readOne 54 = .ok (.aload_n 0, 1) := by decide +kernel
theorem dX3_readOne_55 : decode cX3_readOne 55 = .ok (.iload_n 1, 1) := by decide +kernel
theorem dX3_readOne_56 : decode cX3_readOne 56 = .ok (.iconst 1, 1) := by decide +kernel
theorem dX3_readOne_57 : decode cX3_readOne 57 = .ok (.iadd, 1) := by decide +kernel
theorem dX3_readOne_58 : decode cX3_readOne 58 = .ok (.invokevirtual 59, 3) := by decide +kernel
theorem dX3_readOne_61 : decode cX3_readOne 61 = .ok (.ifCond .eq 16, 3) := by decide +kernel
theorem dX3_readOne_64 : decode cX3_readOne 64 = .ok (.aload_n 0, 1) := by decide +kernel
theorem dX3_readOne_65 : decode cX3_readOne 65 = .ok (.bipush (-18), 2) := by decide +kernel
theorem dX3_readOne_67 : decode cX3_readOne 67 = .ok (.invokevirtual 63, 3) := by decide +kernel
theorem dX3_readOne_70 : decode cX3_readOne 70 = .ok (.ifCond .eq 7, 3) := by decide +kernel
theorem dX3_readOne_73 : decode cX3_readOne 73 = .ok (.iconst 1, 1) := by decide +kernel
theorem dX3_readOne_74 : decode cX3_readOne 74 = .ok (.goto 4, 3) := by decide +kernel
theorem dX3_readOne_77 : decode cX3_readOne 77 = .ok (.iconst 0, 1) := by decide +kernel
theorem dX3_readOne_78 : decode cX3_readOne 78 = .ok (.ireturn, 1) := by decide +kernel
theorem dX3_readOne_79 : decode cX3_readOne 79 = .ok (.aload_n 0, 1) := by decide +kernel
theorem dX3_readOne_80 : decode cX3_readOne 80 = .ok (.getfield 50, 3) := by decide +kernel
theorem dX3_readOne_83 : decode cX3_readOne 83 = .ok (.bipush (-19), 2) := by decide +kernel
theorem dX3_readOne_85 : decode cX3_readOne 85 = .ok (.if_icmp .ne 46, 3) := by decide +kernel
theorem dX3_readOne_88 : decode cX3_readOne 88 = .ok (.iload_n 1, 1) := by decide +kernel
theorem dX3_readOne_89 : decode cX3_readOne 89 = .ok (.iconst 5, 1) := by decide +kernel
theorem dX3_readOne_90 : decode cX3_readOne 90 = .ok (.if_icmp .ge 41, 3) := by decide +kernel
theorem dX3_readOne_93 : decode cX3_readOne 93 = .ok (.aload_n 0, 1) := by decide +kernel
theorem dX3_readOne_94 : decode cX3_readOne 94 = .ok (.invokevirtual 42, 3) := by decide +kernel
theorem dX3_readOne_97 : decode cX3_readOne 97 = .ok (.ifCond .eq 34, 3) := by decide +kernel
theorem dX3_readOne_100 : decode cX3_readOne 100 = .ok (.aload_n 0, 1) := by decide +kernel
theorem dX3_readOne_101 : decode cX3_readOne 101 = .ok (.iconst 0, 1) := by decide +kernel
theorem dX3_readOne_102 : decode cX3_readOne 102 = .ok (.iload_n 1, 1) := by decide +kernel
theorem dX3_readOne_103 : decode cX3_readOne 103 = .ok (.iconst 1, 1) := by decide +kernel
theorem dX3_readOne_104 : decode cX3_readOne 104 = .ok (.iadd, 1) := by decide +kernel
theorem dX3_readOne_105 : decode cX3_readOne 105 = .ok (.invokevirtual 56, 3) := by decide +kernel
theorem dX3_readOne_108 : decode cX3_readOne 108 = .ok (.ifCond .eq 23, 3) := by decide +kernel
theorem dX3_readOne_111 : decode cX3_readOne 111 = .ok (.aload_n 0, 1) := by decide +kernel
theorem dX3_readOne_112 : decode cX3_readOne 112 = .ok (.getfield 50, 3) := by decide +kernel
theorem dX3_readOne_115 : decode cX3_readOne 115 = .ok (.bipush (-20), 2) := by decide +kernel
theorem dX3_readOne_117 : decode cX3_readOne 117 = .ok (.if_icmp .ne 14, 3) := by decide +kernel
theorem dX3_readOne_120 : decode cX3_readOne 120 = .ok (.aload_n 0, 1) := by decide +kernel
theorem dX3_readOne_121 : decode cX3_readOne 121 = .ok (.invokevirtual 42, 3) := by decide +kernel
theorem dX3_readOne_124 : decode cX3_readOne 124 = .ok (.ifCond .eq 7, 3) := by decide +kernel
theorem dX3_readOne_127 : decode cX3_readOne 127 = .ok (.iconst 1, 1) := by decide +kernel
theorem dX3_readOne_128 : decode cX3_readOne 128 = .ok (.goto 4, 3) := by decide +kernel
theorem dX3_readOne_131 : decode cX3_readOne 131 = .ok (.iconst 0, 1) := by decide +kernel
theorem dX3_readOne_132 : decode cX3_readOne 132 = .ok (.ireturn, 1) := by decide +kernel
theorem dX3_levelOf_0 : decode cX3_levelOf 0 = .ok (.iload_n 0, 1) := by decide +kernel
theorem dX3_levelOf_1 : decode cX3_levelOf 1 = .ok (.tableswitch 57 (-17) (-10) #[55, 53, 53, 51, 51, 57, 49, 47], 47) := by decide +kernel
theorem dX3_levelOf_48 : decode cX3_levelOf 48 = .ok (.iconst 0, 1) := by decide +kernel
theorem dX3_levelOf_49 : decode cX3_levelOf 49 = .ok (.ireturn, 1) := by decide +kernel
theorem dX3_levelOf_50 : decode cX3_levelOf 50 = .ok (.iconst 1, 1) := by decide +kernel
theorem dX3_levelOf_51 : decode cX3_levelOf 51 = .ok (.ireturn, 1) := by decide +kernel
theorem dX3_levelOf_52 : decode cX3_levelOf 52 = .ok (.iconst 2, 1) := by decide +kernel
theorem dX3_levelOf_53 : decode cX3_levelOf 53 = .ok (.ireturn, 1) := by decide +kernel
theorem dX3_levelOf_54 : decode cX3_levelOf 54 = .ok (.iconst 3, 1) := by decide +kernel
theorem dX3_levelOf_55 : decode cX3_levelOf 55 = .ok (.ireturn, 1) := by decide +kernel
theorem dX3_levelOf_56 : decode cX3_levelOf 56 = .ok (.iconst 4, 1) := by decide +kernel
theorem dX3_levelOf_57 : decode cX3_levelOf 57 = .ok (.ireturn, 1) := by decide +kernel
theorem dX3_levelOf_58 : decode cX3_levelOf 58 = .ok (.iconst (-1), 1) := by decide +kernel
theorem dX3_levelOf_59 : decode cX3_levelOf 59 = .ok (.ireturn, 1) := by decide +kernel
theorem dX3_put_0 : decode cX3_put 0 = .ok (.aload_n 0, 1) := by decide +kernel
theorem dX3_put_1 : decode cX3_put 1 = .ok (.getfield 27, 3) := by decide +kernel
theorem dX3_put_4 : decode cX3_put 4 = .ok (.aload_n 0, 1) := by decide +kernel
theorem dX3_put_5 : decode cX3_put 5 = .ok (.getfield 15, 3) := by decide +kernel
theorem dX3_put_8 : decode cX3_put 8 = .ok (.arraylength, 1) := by decide +kernel
theorem dX3_put_9 : decode cX3_put 9 = .ok (.if_icmp .ge 23, 3) := by decide +kernel
theorem dX3_put_12 : decode cX3_put 12 = .ok (.aload_n 0, 1) := by decide +kernel
theorem dX3_put_13 : decode cX3_put 13 = .ok (.getfield 15, 3) := by decide +kernel
theorem dX3_put_16 : decode cX3_put 16 = .ok (.aload_n 0, 1) := by decide +kernel
theorem dX3_put_17 : decode cX3_put 17 = .ok (.getfield 27, 3) := by decide +kernel
theorem dX3_put_20 : decode cX3_put 20 = .ok (.iload_n 1, 1) := by decide +kernel
theorem dX3_put_21 : decode cX3_put 21 = .ok (.iastore, 1) := by decide +kernel
theorem dX3_put_22 : decode cX3_put 22 = .ok (.aload_n 0, 1) := by decide +kernel
theorem dX3_put_23 : decode cX3_put 23 = .ok (.dup, 1) := by decide +kernel
theorem dX3_put_24 : decode cX3_put 24 = .ok (.getfield 27, 3) := by decide +kernel
theorem dX3_put_27 : decode cX3_put 27 = .ok (.iconst 1, 1) := by decide +kernel
theorem dX3_put_28 : decode cX3_put 28 = .ok (.iadd, 1) := by decide +kernel
theorem dX3_put_29 : decode cX3_put 29 = .ok (.putfield 27, 3) := by decide +kernel
theorem dX3_put_32 : decode cX3_put 32 = .ok (.iconst 1, 1) := by decide +kernel
theorem dX3_put_33 : decode cX3_put 33 = .ok (.ireturn, 1) := by decide +kernel
theorem dX3_advance_0 : decode cX3_advance 0 = .ok (.aload_n 0, 1) := by decide +kernel
theorem dX3_advance_1 : decode cX3_advance 1 = .ok (.getfield 39, 3) := by decide +kernel
theorem dX3_advance_4 : decode cX3_advance 4 = .ok (.istore_n 1, 1) := by decide +kernel
theorem dX3_advance_5 : decode cX3_advance 5 = .ok (.iload_n 1, 1) := by decide +kernel
theorem dX3_advance_6 : decode cX3_advance 6 = .ok (.istore_n 2, 1) := by decide +kernel
theorem dX3_advance_7 : decode cX3_advance 7 = .ok (.iload_n 2, 1) := by decide +kernel
theorem dX3_advance_8 : decode cX3_advance 8 = .ok (.aload_n 0, 1) := by decide +kernel
theorem dX3_advance_9 : decode cX3_advance 9 = .ok (.getfield 21, 3) := by decide +kernel
theorem dX3_advance_12 : decode cX3_advance 12 = .ok (.if_icmp .ge 35, 3) := by decide +kernel
theorem dX3_advance_15 : decode cX3_advance 15 = .ok (.aload_n 0, 1) := by decide +kernel
theorem dX3_advance_16 : decode cX3_advance 16 = .ok (.getfield 9, 3) := by decide +kernel
theorem dX3_advance_19 : decode cX3_advance 19 = .ok (.iload_n 2, 1) := by decide +kernel
theorem dX3_advance_20 : decode cX3_advance 20 = .ok (.iaload, 1) := by decide +kernel
theorem dX3_advance_21 : decode cX3_advance 21 = .ok (.bipush 32, 2) := by decide +kernel
theorem dX3_advance_23 : decode cX3_advance 23 = .ok (.if_icmp .eq 14, 3) := by decide +kernel
theorem dX3_advance_26 : decode cX3_advance 26 = .ok (.aload_n 0, 1) := by decide +kernel
theorem dX3_advance_27 : decode cX3_advance 27 = .ok (.getfield 9, 3) := by decide +kernel
theorem dX3_advance_30 : decode cX3_advance 30 = .ok (.iload_n 2, 1) := by decide +kernel
theorem dX3_advance_31 : decode cX3_advance 31 = .ok (.iaload, 1) := by decide +kernel
theorem dX3_advance_32 : decode cX3_advance 32 = .ok (.bipush 10, 2) := by decide +kernel
theorem dX3_advance_34 : decode cX3_advance 34 = .ok (.if_icmp .ne 13, 3) := by decide +kernel
theorem dX3_advance_37 : decode cX3_advance 37 = .ok (.iload_n 2, 1) := by decide +kernel
theorem dX3_advance_38 : decode cX3_advance 38 = .ok (.iconst 1, 1) := by decide +kernel
theorem dX3_advance_39 : decode cX3_advance 39 = .ok (.iadd, 1) := by decide +kernel
theorem dX3_advance_40 : decode cX3_advance 40 = .ok (.istore_n 1, 1) := by decide +kernel
theorem dX3_advance_41 : decode cX3_advance 41 = .ok (.iinc 2 1, 3) := by decide +kernel
theorem dX3_advance_44 : decode cX3_advance 44 = .ok (.goto (-37), 3) := by decide +kernel
theorem dX3_advance_47 : decode cX3_advance 47 = .ok (.aload_n 0, 1) := by decide +kernel
theorem dX3_advance_48 : decode cX3_advance 48 = .ok (.iload_n 1, 1) := by decide +kernel
theorem dX3_advance_49 : decode cX3_advance 49 = .ok (.putfield 53, 3) := by decide +kernel
theorem dX3_advance_52 : decode cX3_advance 52 = .ok (.iload_n 1, 1) := by decide +kernel
theorem dX3_advance_53 : decode cX3_advance 53 = .ok (.aload_n 0, 1) := by decide +kernel
theorem dX3_advance_54 : decode cX3_advance 54 = .ok (.getfield 21, 3) := by decide +kernel
theorem dX3_advance_57 : decode cX3_advance 57 = .ok (.if_icmp .lt 12, 3) := by decide +kernel
theorem dX3_advance_60 : decode cX3_advance 60 = .ok (.aload_n 0, 1) := by decide +kernel
theorem dX3_advance_61 : decode cX3_advance 61 = .ok (.bipush (-22), 2) := by decide +kernel
theorem dX3_advance_63 : decode cX3_advance 63 = .ok (.putfield 50, 3) := by decide +kernel
theorem dX3_advance_66 : decode cX3_advance 66 = .ok (.goto 93, 3) := by decide +kernel
theorem dX3_advance_69 : decode cX3_advance 69 = .ok (.aload_n 0, 1) := by decide +kernel
theorem dX3_advance_70 : decode cX3_advance 70 = .ok (.getfield 9, 3) := by decide +kernel
theorem dX3_advance_73 : decode cX3_advance 73 = .ok (.iload_n 1, 1) := by decide +kernel
theorem dX3_advance_74 : decode cX3_advance 74 = .ok (.iaload, 1) := by decide +kernel
theorem dX3_advance_75 : decode cX3_advance 75 = .ok (.bipush 97, 2) := by decide +kernel
theorem dX3_advance_77 : decode cX3_advance 77 = .ok (.bipush 122, 2) := by decide +kernel
theorem dX3_advance_79 : decode cX3_advance 79 = .ok (.invokestatic 70, 3) := by decide +kernel
theorem dX3_advance_82 : decode cX3_advance 82 = .ok (.ifCond .eq 22, 3) := by decide +kernel
theorem dX3_advance_85 : decode cX3_advance 85 = .ok (.aload_n 0, 1) := by decide +kernel
theorem dX3_advance_86 : decode cX3_advance 86 = .ok (.bipush 97, 2) := by decide +kernel
theorem dX3_advance_88 : decode cX3_advance 88 = .ok (.bipush 122, 2) := by decide +kernel
theorem dX3_advance_90 : decode cX3_advance 90 = .ok (.invokevirtual 74, 3) := by decide +kernel
theorem dX3_advance_93 : decode cX3_advance 93 = .ok (.aload_n 0, 1) := by decide +kernel
theorem dX3_advance_94 : decode cX3_advance 94 = .ok (.aload_n 0, 1) := by decide +kernel
theorem dX3_advance_95 : decode cX3_advance 95 = .ok (.invokevirtual 78, 3) := by decide +kernel
theorem dX3_advance_98 : decode cX3_advance 98 = .ok (.putfield 50, 3) := by decide +kernel
theorem dX3_advance_101 : decode cX3_advance 101 = .ok (.goto 58, 3) := by decide +kernel
theorem dX3_advance_104 : decode cX3_advance 104 = .ok (.aload_n 0, 1) := by decide +kernel
theorem dX3_advance_105 : decode cX3_advance 105 = .ok (.getfield 9, 3) := by decide +kernel
theorem dX3_advance_108 : decode cX3_advance 108 = .ok (.iload_n 1, 1) := by decide +kernel
theorem dX3_advance_109 : decode cX3_advance 109 = .ok (.iaload, 1) := by decide +kernel
theorem dX3_advance_110 : decode cX3_advance 110 = .ok (.bipush 48, 2) := by decide +kernel
theorem dX3_advance_112 : decode cX3_advance 112 = .ok (.bipush 57, 2) := by decide +kernel
theorem dX3_advance_114 : decode cX3_advance 114 = .ok (.invokestatic 70, 3) := by decide +kernel
theorem dX3_advance_117 : decode cX3_advance 117 = .ok (.ifCond .eq 22, 3) := by decide +kernel
theorem dX3_advance_120 : decode cX3_advance 120 = .ok (.aload_n 0, 1) := by decide +kernel
theorem dX3_advance_121 : decode cX3_advance 121 = .ok (.bipush 48, 2) := by decide +kernel
theorem dX3_advance_123 : decode cX3_advance 123 = .ok (.bipush 57, 2) := by decide +kernel
theorem dX3_advance_125 : decode cX3_advance 125 = .ok (.invokevirtual 74, 3) := by decide +kernel
theorem dX3_advance_128 : decode cX3_advance 128 = .ok (.aload_n 0, 1) := by decide +kernel
theorem dX3_advance_129 : decode cX3_advance 129 = .ok (.aload_n 0, 1) := by decide +kernel
theorem dX3_advance_130 : decode cX3_advance 130 = .ok (.invokevirtual 82, 3) := by decide +kernel
theorem dX3_advance_133 : decode cX3_advance 133 = .ok (.putfield 50, 3) := by decide +kernel
theorem dX3_advance_136 : decode cX3_advance 136 = .ok (.goto 23, 3) := by decide +kernel
theorem dX3_advance_139 : decode cX3_advance 139 = .ok (.aload_n 0, 1) := by decide +kernel
theorem dX3_advance_140 : decode cX3_advance 140 = .ok (.aload_n 0, 1) := by decide +kernel
theorem dX3_advance_141 : decode cX3_advance 141 = .ok (.getfield 9, 3) := by decide +kernel
theorem dX3_advance_144 : decode cX3_advance 144 = .ok (.iload_n 1, 1) := by decide +kernel
theorem dX3_advance_145 : decode cX3_advance 145 = .ok (.iaload, 1) := by decide +kernel
theorem dX3_advance_146 : decode cX3_advance 146 = .ok (.invokestatic 85, 3) := by decide +kernel
theorem dX3_advance_149 : decode cX3_advance 149 = .ok (.putfield 50, 3) := by decide +kernel
theorem dX3_advance_152 : decode cX3_advance 152 = .ok (.aload_n 0, 1) := by decide +kernel
theorem dX3_advance_153 : decode cX3_advance 153 = .ok (.iload_n 1, 1) := by decide +kernel
theorem dX3_advance_154 : decode cX3_advance 154 = .ok (.iconst 1, 1) := by decide +kernel
theorem dX3_advance_155 : decode cX3_advance 155 = .ok (.iadd, 1) := by decide +kernel
theorem dX3_advance_156 : decode cX3_advance 156 = .ok (.putfield 39, 3) := by decide +kernel
theorem dX3_advance_159 : decode cX3_advance 159 = .ok (.iconst 1, 1) := by decide +kernel
theorem dX3_advance_160 : decode cX3_advance 160 = .ok (.ireturn, 1) := by decide +kernel
theorem dX3_goBehindAll_0 : decode cX3_goBehindAll 0 = .ok (.aload_n 0, 1) := by decide +kernel
theorem dX3_goBehindAll_1 : decode cX3_goBehindAll 1 = .ok (.getfield 53, 3) := by decide +kernel
theorem dX3_goBehindAll_4 : decode cX3_goBehindAll 4 = .ok (.istore_n 3, 1) := by decide +kernel
theorem dX3_goBehindAll_5 : decode cX3_goBehindAll 5 = .ok (.iload_n 3, 1) := by decide +kernel
theorem dX3_goBehindAll_6 : decode cX3_goBehindAll 6 = .ok (.aload_n 0, 1) := by decide +kernel
theorem dX3_goBehindAll_7 : decode cX3_goBehindAll 7 = .ok (.getfield 21, 3) := by decide +kernel
theorem dX3_goBehindAll_10 : decode cX3_goBehindAll 10 = .ok (.if_icmp .ge 36, 3) := by decide +kernel
theorem dX3_goBehindAll_13 : decode cX3_goBehindAll 13 = .ok (.aload_n 0, 1) := by decide +kernel
theorem dX3_goBehindAll_14 : decode cX3_goBehindAll 14 = .ok (.getfield 9, 3) := by decide +kernel
theorem dX3_goBehindAll_17 : decode cX3_goBehindAll 17 = .ok (.iload_n 3, 1) := by decide +kernel
theorem dX3_goBehindAll_18 : decode cX3_goBehindAll 18 = .ok (.iaload, 1) := by decide +kernel
theorem dX3_goBehindAll_19 : decode cX3_goBehindAll 19 = .ok (.iload_n 1, 1) := by decide +kernel
theorem dX3_goBehindAll_20 : decode cX3_goBehindAll 20 = .ok (.if_icmp .lt 26, 3) := by decide +kernel
theorem dX3_goBehindAll_23 : decode cX3_goBehindAll 23 = .ok (.aload_n 0, 1) := by decide +kernel
theorem dX3_goBehindAll_24 : decode cX3_goBehindAll 24 = .ok (.getfield 9, 3) := by decide +kernel
theorem dX3_goBehindAll_27 : decode cX3_goBehindAll 27 = .ok (.iload_n 3, 1) := by decide +kernel
theorem dX3_goBehindAll_28 : decode cX3_goBehindAll 28 = .ok (.iaload, 1) := by decide +kernel
theorem dX3_goBehindAll_29 : decode cX3_goBehindAll 29 = .ok (.iload_n 2, 1) := by decide +kernel
theorem dX3_goBehindAll_30 : decode cX3_goBehindAll 30 = .ok (.if_icmp .gt 16, 3) := by decide +kernel
theorem dX3_goBehindAll_33 : decode cX3_goBehindAll 33 = .ok (.aload_n 0, 1) := by decide +kernel
theorem dX3_goBehindAll_34 : decode cX3_goBehindAll 34 = .ok (.iload_n 3, 1) := by decide +kernel
theorem dX3_goBehindAll_35 : decode cX3_goBehindAll 35 = .ok (.iconst 1, 1) := by decide +kernel
theorem dX3_goBehindAll_36 : decode cX3_goBehindAll 36 = .ok (.iadd, 1) := by decide +kernel
theorem dX3_goBehindAll_37 : decode cX3_goBehindAll 37 = .ok (.putfield 39, 3) := by decide +kernel
theorem dX3_goBehindAll_40 : decode cX3_goBehindAll 40 = .ok (.iinc 3 1, 3) := by decide +kernel
theorem dX3_goBehindAll_43 : decode cX3_goBehindAll 43 = .ok (.goto (-38), 3) := by decide +kernel
theorem dX3_goBehindAll_46 : decode cX3_goBehindAll 46 = .ok (.return_, 1) := by decide +kernel
theorem dX3_number_0 : decode cX3_number 0 = .ok (.aload_n 0, 1) := by decide +kernel
theorem dX3_number_1 : decode cX3_number 1 = .ok (.getfield 39, 3) := by decide +kernel
theorem dX3_number_4 : decode cX3_number 4 = .ok (.aload_n 0, 1) := by decide +kernel
theorem dX3_number_5 : decode cX3_number 5 = .ok (.getfield 53, 3) := by decide +kernel
theorem dX3_number_8 : decode cX3_number 8 = .ok (.isub, 1) := by decide +kernel
theorem dX3_number_9 : decode cX3_number 9 = .ok (.iconst 4, 1) := by decide +kernel
theorem dX3_number_10 : decode cX3_number 10 = .ok (.if_icmp .le 6, 3) := by decide +kernel
theorem dX3_number_13 : decode cX3_number 13 = .ok (.bipush (-23), 2) := by decide +kernel
theorem dX3_number_15 : decode cX3_number 15 = .ok (.ireturn, 1) := by decide +kernel
theorem dX3_number_16 : decode cX3_number 16 = .ok (.iconst 0, 1) := by decide +kernel
theorem dX3_number_17 : decode cX3_number 17 = .ok (.istore_n 1, 1) := by decide +kernel
theorem dX3_number_18 : decode cX3_number 18 = .ok (.aload_n 0, 1) := by decide +kernel
theorem dX3_number_19 : decode cX3_number 19 = .ok (.getfield 53, 3) := by decide +kernel
theorem dX3_number_22 : decode cX3_number 22 = .ok (.istore_n 2, 1) := by decide +kernel
theorem dX3_number_23 : decode cX3_number 23 = .ok (.iload_n 2, 1) := by decide +kernel
theorem dX3_number_24 : decode cX3_number 24 = .ok (.aload_n 0, 1) := by decide +kernel
theorem dX3_number_25 : decode cX3_number 25 = .ok (.getfield 39, 3) := by decide +kernel
theorem dX3_number_28 : decode cX3_number 28 = .ok (.if_icmp .ge 24, 3) := by decide +kernel
theorem dX3_number_31 : decode cX3_number 31 = .ok (.iload_n 1, 1) := by decide +kernel
theorem dX3_number_32 : decode cX3_number 32 = .ok (.bipush 10, 2) := by decide +kernel
theorem dX3_number_34 : decode cX3_number 34 = .ok (.imul, 1) := by decide +kernel
theorem dX3_number_35 : decode cX3_number 35 = .ok (.aload_n 0, 1) := by decide +kernel
theorem dX3_number_36 : decode cX3_number 36 = .ok (.getfield 9, 3) := by decide +kernel
theorem dX3_number_39 : decode cX3_number 39 = .ok (.iload_n 2, 1) := by decide +kernel
theorem dX3_number_40 : decode cX3_number 40 = .ok (.iaload, 1) := by decide +kernel
theorem dX3_number_41 : decode cX3_number 41 = .ok (.iadd, 1) := by decide +kernel
theorem dX3_number_42 : decode cX3_number 42 = .ok (.bipush 48, 2) := by decide +kernel
theorem dX3_number_44 : decode cX3_number 44 = .ok (.isub, 1) := by decide +kernel
theorem dX3_number_45 : decode cX3_number 45 = .ok (.istore_n 1, 1) := by decide +kernel
theorem dX3_number_46 : decode cX3_number 46 = .ok (.iinc 2 1, 3) := by decide +kernel
theorem dX3_number_49 : decode cX3_number 49 = .ok (.goto (-26), 3) := by decide +kernel
theorem dX3_number_52 : decode cX3_number 52 = .ok (.iload_n 1, 1) := by decide +kernel
theorem dX3_number_53 : decode cX3_number 53 = .ok (.ireturn, 1) := by decide +kernel
theorem dX3_word_0 : decode cX3_word 0 = .ok (.iconst (-1), 1) := by decide +kernel
theorem dX3_word_1 : decode cX3_word 1 = .ok (.istore_n 1, 1) := by decide +kernel
theorem dX3_word_2 : decode cX3_word 2 = .ok (.aload_n 0, 1) := by decide +kernel
theorem dX3_word_3 : decode cX3_word 3 = .ok (.getfield 53, 3) := by decide +kernel
theorem dX3_word_6 : decode cX3_word 6 = .ok (.istore_n 2, 1) := by decide +kernel
theorem dX3_word_7 : decode cX3_word 7 = .ok (.iconst 1, 1) := by decide +kernel
theorem dX3_word_8 : decode cX3_word 8 = .ok (.istore_n 3, 1) := by decide +kernel
theorem dX3_word_9 : decode cX3_word 9 = .ok (.iconst 0, 1) := by decide +kernel
theorem dX3_word_10 : decode cX3_word 10 = .ok (.istore 4, 2) := by decide +kernel
theorem dX3_word_12 : decode cX3_word 12 = .ok (.iload 4, 2) := by decide +kernel
theorem dX3_word_14 : decode cX3_word 14 = .ok (.ldc 88, 2) := by decide +kernel
theorem dX3_word_16 : decode cX3_word 16 = .ok (.invokevirtual 90, 3) := by decide +kernel
theorem dX3_word_19 : decode cX3_word 19 = .ok (.if_icmp .ge 84, 3) := by decide +kernel
theorem dX3_word_22 : decode cX3_word 22 = .ok (.ldc 88, 2) := by decide +kernel
theorem dX3_word_24 : decode cX3_word 24 = .ok (.iload 4, 2) := by decide +kernel
theorem dX3_word_26 : decode cX3_word 26 = .ok (.invokevirtual 95, 3) := by decide +kernel
theorem dX3_word_29 : decode cX3_word 29 = .ok (.istore 5, 2) := by decide +kernel
theorem dX3_word_31 : decode cX3_word 31 = .ok (.iload 5, 2) := by decide +kernel
theorem dX3_word_33 : decode cX3_word 33 = .ok (.bipush 32, 2) := by decide +kernel
theorem dX3_word_35 : decode cX3_word 35 = .ok (.if_icmp .eq 38, 3) := by decide +kernel
theorem dX3_word_38 : decode cX3_word 38 = .ok (.iload_n 3, 1) := by decide +kernel
theorem dX3_word_39 : decode cX3_word 39 = .ok (.ifCond .eq 26, 3) := by decide +kernel
theorem dX3_word_42 : decode cX3_word 42 = .ok (.iload_n 2, 1) := by decide +kernel
theorem dX3_word_43 : decode cX3_word 43 = .ok (.aload_n 0, 1) := by decide +kernel
theorem dX3_word_44 : decode cX3_word 44 = .ok (.getfield 39, 3) := by decide +kernel
theorem dX3_word_47 : decode cX3_word 47 = .ok (.if_icmp .ge 18, 3) := by decide +kernel
theorem dX3_word_50 : decode cX3_word 50 = .ok (.aload_n 0, 1) := by decide +kernel
theorem dX3_word_51 : decode cX3_word 51 = .ok (.getfield 9, 3) := by decide +kernel
theorem dX3_word_54 : decode cX3_word 54 = .ok (.iload_n 2, 1) := by decide +kernel
theorem dX3_word_55 : decode cX3_word 55 = .ok (.iaload, 1) := by decide +kernel
theorem dX3_word_56 : decode cX3_word 56 = .ok (.iload 5, 2) := by decide +kernel
theorem dX3_word_58 : decode cX3_word 58 = .ok (.if_icmp .ne 7, 3) := by decide +kernel
theorem dX3_word_61 : decode cX3_word 61 = .ok (.iconst 1, 1) := by decide +kernel
theorem dX3_word_62 : decode cX3_word 62 = .ok (.goto 4, 3) := by decide +kernel
theorem dX3_word_65 : decode cX3_word 65 = .ok (.iconst 0, 1) := by decide +kernel
theorem dX3_word_66 : decode cX3_word 66 = .ok (.istore_n 3, 1) := by decide +kernel
theorem dX3_word_67 : decode cX3_word 67 = .ok (.iinc 2 1, 3) := by decide +kernel
theorem dX3_word_70 : decode cX3_word 70 = .ok (.goto 27, 3) := by decide +kernel
theorem dX3_word_73 : decode cX3_word 73 = .ok (.iload_n 3, 1) := by decide +kernel
theorem dX3_word_74 : decode cX3_word 74 = .ok (.ifCond .eq 13, 3) := by decide +kernel
theorem dX3_word_77 : decode cX3_word 77 = .ok (.iload_n 2, 1) := by decide +kernel
theorem dX3_word_78 : decode cX3_word 78 = .ok (.aload_n 0, 1) := by decide +kernel
theorem dX3_word_79 : decode cX3_word 79 = .ok (.getfield 39, 3) := by decide +kernel
theorem dX3_word_82 : decode cX3_word 82 = .ok (.if_icmp .ne 5, 3) := by decide +kernel
theorem dX3_word_85 : decode cX3_word 85 = .ok (.iload_n 1, 1) := by decide +kernel
theorem dX3_word_86 : decode cX3_word 86 = .ok (.ireturn, 1) := by decide +kernel
theorem dX3_word_87 : decode cX3_word 87 = .ok (.iinc 1 (-1), 3) := by decide +kernel
theorem dX3_word_90 : decode cX3_word 90 = .ok (.aload_n 0, 1) := by decide +kernel
theorem dX3_word_91 : decode cX3_word 91 = .ok (.getfield 53, 3) := by decide +kernel
theorem dX3_word_94 : decode cX3_word 94 = .ok (.istore_n 2, 1) := by decide +kernel
theorem dX3_word_95 : decode cX3_word 95 = .ok (.iconst 1, 1) := by decide +kernel
theorem dX3_word_96 : decode cX3_word 96 = .ok (.istore_n 3, 1) := by decide +kernel
theorem dX3_word_97 : decode cX3_word 97 = .ok (.iinc 4 1, 3) := by decide +kernel
theorem dX3_word_100 : decode cX3_word 100 = .ok (.goto (-88), 3) := by decide +kernel
theorem dX3_word_103 : decode cX3_word 103 = .ok (.bipush (-23), 2) := by decide +kernel
theorem dX3_word_105 : decode cX3_word 105 = .ok (.ireturn, 1) := by decide +kernel
theorem dX3_sign_0 : decode cX3_sign 0 = .ok (.iload_n 0, 1) := by decide +kernel
theorem dX3_sign_1 : decode cX3_sign 1 = .ok (.tableswitch 127 40 61 #[103, 106, 118, 112, 127, 115, 127, 127, 127, 127, 127, 127, 127, 127, 127, 127, 127, 127, 127, 109, 121, 124], 103) := by decide +kernel
theorem dX3_sign_104 : decode cX3_sign 104 = .ok (.bipush (-19), 2) := by decide +kernel
theorem dX3_sign_106 : decode cX3_sign 106 = .ok (.ireturn, 1) := by decide +kernel
theorem dX3_sign_107 : decode cX3_sign 107 = .ok (.bipush (-20), 2) := by decide +kernel
theorem dX3_sign_109 : decode cX3_sign 109 = .ok (.ireturn, 1) := by decide +kernel
theorem dX3_sign_110 : decode cX3_sign 110 = .ok (.bipush (-21), 2) := by decide +kernel
theorem dX3_sign_112 : decode cX3_sign 112 = .ok (.ireturn, 1) := by decide +kernel
theorem dX3_sign_113 : decode cX3_sign 113 = .ok (.bipush (-15), 2) := by decide +kernel
theorem dX3_sign_115 : decode cX3_sign 115 = .ok (.ireturn, 1) := by decide +kernel
theorem dX3_sign_116 : decode cX3_sign 116 = .ok (.bipush (-16), 2) := by decide +kernel
theorem dX3_sign_118 : decode cX3_sign 118 = .ok (.ireturn, 1) := by decide +kernel
theorem dX3_sign_119 : decode cX3_sign 119 = .ok (.bipush (-17), 2) := by decide +kernel
theorem dX3_sign_121 : decode cX3_sign 121 = .ok (.ireturn, 1) := by decide +kernel
theorem dX3_sign_122 : decode cX3_sign 122 = .ok (.bipush (-13), 2) := by decide +kernel
theorem dX3_sign_124 : decode cX3_sign 124 = .ok (.ireturn, 1) := by decide +kernel
theorem dX3_sign_125 : decode cX3_sign 125 = .ok (.bipush (-14), 2) := by decide +kernel
theorem dX3_sign_127 : decode cX3_sign 127 = .ok (.ireturn, 1) := by decide +kernel
theorem dX3_sign_128 : decode cX3_sign 128 = .ok (.bipush (-23), 2) := by decide +kernel
theorem dX3_sign_130 : decode cX3_sign 130 = .ok (.ireturn, 1) := by decide +kernel
theorem dX4_init_0 : decode cX4_init 0 = .ok (.aload_n 0, 1) := by decide +kernel
theorem dX4_init_1 : decode cX4_init 1 = .ok (.invokespecial 3, 3) := by decide +kernel
theorem dX4_init_4 : decode cX4_init 4 = .ok (.aload_n 0, 1) := by decide +kernel
theorem dX4_init_5 : decode cX4_init 5 = .ok (.aload_n 1, 1) := by decide +kernel
theorem dX4_init_6 : decode cX4_init 6 = .ok (.putfield 9, 3) := by decide +kernel
theorem dX4_init_9 : decode cX4_init 9 = .ok (.aload_n 0, 1) := by decide +kernel
theorem dX4_init_10 : decode cX4_init 10 = .ok (.aload_n 2, 1) := by decide +kernel
theorem dX4_init_11 : decode cX4_init 11 = .ok (.putfield 15, 3) := by decide +kernel
theorem dX4_init_14 : decode cX4_init 14 = .ok (.aload_n 0, 1) := by decide +kernel
theorem dX4_init_15 : decode cX4_init 15 = .ok (.aload_n 1, 1) := by decide +kernel
theorem dX4_init_16 : decode cX4_init 16 = .ok (.arraylength, 1) := by decide +kernel
theorem dX4_init_17 : decode cX4_init 17 = .ok (.newarray .int, 2) := by decide +kernel
theorem dX4_init_19 : decode cX4_init 19 = .ok (.putfield 18, 3) := by decide +kernel
theorem dX4_init_22 : decode cX4_init 22 = .ok (.return_, 1) := by decide +kernel
theorem dX4_worthOf_0 : decode cX4_worthOf 0 = .ok (.aload_n 0, 1) := by decide +kernel
theorem dX4_worthOf_1 : decode cX4_worthOf 1 = .ok (.aload_n 1, 1) := by decide +kernel
theorem dX4_worthOf_2 : decode cX4_worthOf 2 = .ok (.iload_n 2, 1) := by decide +kernel
theorem dX4_worthOf_3 : decode cX4_worthOf 3 = .ok (.iload_n 3, 1) := by decide +kernel
theorem dX4_worthOf_4 : decode cX4_worthOf 4 = .ok (.invokevirtual 21, 3) := by decide +kernel
theorem dX4_worthOf_7 : decode cX4_worthOf 7 = .ok (.istore 4, 2) := by decide +kernel
theorem dX4_worthOf_9 : decode cX4_worthOf 9 = .ok (.iload_n 2, 1) := by decide +kernel
theorem dX4_worthOf_10 : decode cX4_worthOf 10 = .ok (.iload 4, 2) := by decide +kernel
theorem dX4_worthOf_12 : decode cX4_worthOf 12 = .ok (.if_icmp .ge 8, 3) := by decide +kernel
theorem dX4_worthOf_15 : decode cX4_worthOf 15 = .ok (.aload_n 1, 1) := by decide +kernel
theorem dX4_worthOf_16 : decode cX4_worthOf 16 = .ok (.getfield 25, 3) := by decide +kernel
theorem dX4_worthOf_19 : decode cX4_worthOf 19 = .ok (.ireturn, 1) := by decide +kernel
theorem dX4_worthOf_20 : decode cX4_worthOf 20 = .ok (.aload_n 0, 1) := by decide +kernel
theorem dX4_worthOf_21 : decode cX4_worthOf 21 = .ok (.aload_n 1, 1) := by decide +kernel
theorem dX4_worthOf_22 : decode cX4_worthOf 22 = .ok (.iload_n 2, 1) := by decide +kernel
theorem dX4_worthOf_23 : decode cX4_worthOf 23 = .ok (.iload_n 3, 1) := by decide +kernel
theorem dX4_worthOf_24 : decode cX4_worthOf 24 = .ok (.invokevirtual 31, 3) := by decide +kernel
theorem dX4_worthOf_27 : decode cX4_worthOf 27 = .ok (.istore 5, 2) := by decide +kernel
theorem dX4_worthOf_29 : decode cX4_worthOf 29 = .ok (.iload 5, 2) := by decide +kernel
theorem dX4_worthOf_31 : decode cX4_worthOf 31 = .ok (.ifCond .ge 6, 3) := by decide +kernel
theorem dX4_worthOf_34 : decode cX4_worthOf 34 = .ok (.iload 5, 2) := by decide +kernel
theorem dX4_worthOf_36 : decode cX4_worthOf 36 = .ok (.ireturn, 1) := by decide +kernel
theorem dX4_worthOf_37 : decode cX4_worthOf 37 = .ok (.iconst 0, 1) := by decide +kernel
theorem dX4_worthOf_38 : decode cX4_worthOf 38 = .ok (.iload 5, 2) := by decide +kernel
theorem dX4_worthOf_40 : decode cX4_worthOf 40 = .ok (.aload_n 0, 1) := by decide +kernel
theorem dX4_worthOf_41 : decode cX4_worthOf 41 = .ok (.aload_n 1, 1) := by decide +kernel
theorem dX4_worthOf_42 : decode cX4_worthOf 42 = .ok (.iload_n 2, 1) := by decide +kernel
theorem dX4_worthOf_43 : decode cX4_worthOf 43 = .ok (.iload_n 3, 1) := by decide +kernel
theorem dX4_worthOf_44 : decode cX4_worthOf 44 = .ok (.invokevirtual 34, 3) := by decide +kernel
theorem dX4_worthOf_47 : decode cX4_worthOf 47 = .ok (.iload_n 2, 1) := by decide +kernel
theorem dX4_worthOf_48 : decode cX4_worthOf 48 = .ok (.iload 4, 2) := by decide +kernel
theorem dX4_worthOf_50 : decode cX4_worthOf 50 = .ok (.isub, 1) := by decide +kernel
theorem dX4_worthOf_51 : decode cX4_worthOf 51 = .ok (.imul, 1) := by decide +kernel
theorem dX4_worthOf_52 : decode cX4_worthOf 52 = .ok (.isub, 1) := by decide +kernel
theorem dX4_worthOf_53 : decode cX4_worthOf 53 = .ok (.invokestatic 37, 3) := by decide +kernel
theorem dX4_worthOf_56 : decode cX4_worthOf 56 = .ok (.ireturn, 1) := by decide +kernel
theorem dX4_turnsOf_0 : decode cX4_turnsOf 0 = .ok (.aload_n 1, 1) := by decide +kernel
theorem dX4_turnsOf_1 : decode cX4_turnsOf 1 = .ok (.getfield 43, 3) := by decide +kernel
theorem dX4_turnsOf_4 : decode cX4_turnsOf 4 = .ok (.iconst 5, 1) := by decide +kernel
theorem dX4_turnsOf_5 : decode cX4_turnsOf 5 = .ok (.if_icmp .ne 7, 3) := by decide +kernel
theorem dX4_turnsOf_8 : decode cX4_turnsOf 8 = .ok (.sipush 1000, 3) := by decide +kernel
theorem dX4_turnsOf_11 : decode cX4_turnsOf 11 = .ok (.ireturn, 1) := by decide +kernel
theorem dX4_turnsOf_12 : decode cX4_turnsOf 12 = .ok (.aload_n 0, 1) := by decide +kernel
theorem dX4_turnsOf_13 : decode cX4_turnsOf 13 = .ok (.iconst 0, 1) := by decide +kernel
theorem dX4_turnsOf_14 : decode cX4_turnsOf 14 = .ok (.aload_n 1, 1) := by decide +kernel
theorem dX4_turnsOf_15 : decode cX4_turnsOf 15 = .ok (.iload_n 2, 1) := by decide +kernel
theorem dX4_turnsOf_16 : decode cX4_turnsOf 16 = .ok (.iload_n 3, 1) := by decide +kernel
theorem dX4_turnsOf_17 : decode cX4_turnsOf 17 = .ok (.invokevirtual 46, 3) := by decide +kernel
theorem dX4_turnsOf_20 : decode cX4_turnsOf 20 = .ok (.iconst 0, 1) := by decide +kernel
theorem dX4_turnsOf_21 : decode cX4_turnsOf 21 = .ok (.bipush 99, 2) := by decide +kernel
theorem dX4_turnsOf_23 : decode cX4_turnsOf 23 = .ok (.invokestatic 50, 3) := by decide +kernel
theorem dX4_turnsOf_26 : decode cX4_turnsOf 26 = .ok (.istore 4, 2) := by decide +kernel
theorem dX4_turnsOf_28 : decode cX4_turnsOf 28 = .ok (.aload_n 1, 1) := by decide +kernel
theorem dX4_turnsOf_29 : decode cX4_turnsOf 29 = .ok (.getfield 43, 3) := by decide +kernel
theorem dX4_turnsOf_32 : decode cX4_turnsOf 32 = .ok (.tableswitch 96 1 4 #[32, 49, 61, 80], 32) := by decide +kernel
theorem dX4_turnsOf_64 : decode cX4_turnsOf 64 = .ok (.iload 4, 2) := by decide +kernel
theorem dX4_turnsOf_66 : decode cX4_turnsOf 66 = .ok (.aload_n 1, 1) := by decide +kernel
theorem dX4_turnsOf_67 : decode cX4_turnsOf 67 = .ok (.getfield 54, 3) := by decide +kernel
theorem dX4_turnsOf_70 : decode cX4_turnsOf 70 = .ok (.iconst 2, 1) := by decide +kernel
theorem dX4_turnsOf_71 : decode cX4_turnsOf 71 = .ok (.idiv, 1) := by decide +kernel
theorem dX4_turnsOf_72 : decode cX4_turnsOf 72 = .ok (.iadd, 1) := by decide +kernel
theorem dX4_turnsOf_73 : decode cX4_turnsOf 73 = .ok (.iconst 1, 1) := by decide +kernel
theorem dX4_turnsOf_74 : decode cX4_turnsOf 74 = .ok (.sipush 1000, 3) := by decide +kernel
theorem dX4_turnsOf_77 : decode cX4_turnsOf 77 = .ok (.invokestatic 50, 3) := by decide +kernel
theorem dX4_turnsOf_80 : decode cX4_turnsOf 80 = .ok (.ireturn, 1) := by decide +kernel
theorem dX4_turnsOf_81 : decode cX4_turnsOf 81 = .ok (.iload 4, 2) := by decide +kernel
theorem dX4_turnsOf_83 : decode cX4_turnsOf 83 = .ok (.iconst 2, 1) := by decide +kernel
theorem dX4_turnsOf_84 : decode cX4_turnsOf 84 = .ok (.idiv, 1) := by decide +kernel
theorem dX4_turnsOf_85 : decode cX4_turnsOf 85 = .ok (.iconst 1, 1) := by decide +kernel
theorem dX4_turnsOf_86 : decode cX4_turnsOf 86 = .ok (.sipush 1000, 3) := by decide +kernel
theorem dX4_turnsOf_89 : decode cX4_turnsOf 89 = .ok (.invokestatic 50, 3) := by decide +kernel
theorem dX4_turnsOf_92 : decode cX4_turnsOf 92 = .ok (.ireturn, 1) := by decide +kernel
theorem dX4_turnsOf_93 : decode cX4_turnsOf 93 = .ok (.iconst 2, 1) := by decide +kernel
theorem dX4_turnsOf_94 : decode cX4_turnsOf 94 = .ok (.iload 4, 2) := by decide +kernel
theorem dX4_turnsOf_96 : decode cX4_turnsOf 96 = .ok (.aload_n 1, 1) := by decide +kernel
theorem dX4_turnsOf_97 : decode cX4_turnsOf 97 = .ok (.getfield 54, 3) := by decide +kernel
theorem dX4_turnsOf_100 : decode cX4_turnsOf 100 = .ok (.iconst 2, 1) := by decide +kernel
theorem dX4_turnsOf_101 : decode cX4_turnsOf 101 = .ok (.idiv, 1) := by decide +kernel
theorem dX4_turnsOf_102 : decode cX4_turnsOf 102 = .ok (.iadd, 1) := by decide +kernel
theorem dX4_turnsOf_103 : decode cX4_turnsOf 103 = .ok (.imul, 1) := by decide +kernel
theorem dX4_turnsOf_104 : decode cX4_turnsOf 104 = .ok (.iconst 1, 1) := by decide +kernel
theorem dX4_turnsOf_105 : decode cX4_turnsOf 105 = .ok (.sipush 1000, 3) := by decide +kernel
theorem dX4_turnsOf_108 : decode cX4_turnsOf 108 = .ok (.invokestatic 50, 3) := by decide +kernel
theorem dX4_turnsOf_111 : decode cX4_turnsOf 111 = .ok (.ireturn, 1) := by decide +kernel
theorem dX4_turnsOf_112 : decode cX4_turnsOf 112 = .ok (.iload 4, 2) := by decide +kernel
theorem dX4_turnsOf_114 : decode cX4_turnsOf 114 = .ok (.iconst 2, 1) := by decide +kernel
theorem dX4_turnsOf_115 : decode cX4_turnsOf 115 = .ok (.idiv, 1) := by decide +kernel
theorem dX4_turnsOf_116 : decode cX4_turnsOf 116 = .ok (.iconst 3, 1) := by decide +kernel
theorem dX4_turnsOf_117 : decode cX4_turnsOf 117 = .ok (.invokestatic 57, 3) := by decide +kernel
theorem dX4_turnsOf_120 : decode cX4_turnsOf 120 = .ok (.iconst 1, 1) := by decide +kernel
theorem dX4_turnsOf_121 : decode cX4_turnsOf 121 = .ok (.sipush 1000, 3) := by decide +kernel
theorem dX4_turnsOf_124 : decode cX4_turnsOf 124 = .ok (.invokestatic 50, 3) := by decide +kernel
theorem dX4_turnsOf_127 : decode cX4_turnsOf 127 = .ok (.ireturn, 1) := by decide +kernel
theorem dX4_turnsOf_128 : decode cX4_turnsOf 128 = .ok (.iload 4, 2) := by decide +kernel
theorem dX4_turnsOf_130 : decode cX4_turnsOf 130 = .ok (.iconst 1, 1) := by decide +kernel
theorem dX4_turnsOf_131 : decode cX4_turnsOf 131 = .ok (.sipush 1000, 3) := by decide +kernel
theorem dX4_turnsOf_134 : decode cX4_turnsOf 134 = .ok (.invokestatic 50, 3) := by decide +kernel
theorem dX4_turnsOf_137 : decode cX4_turnsOf 137 = .ok (.ireturn, 1) := by decide +kernel
theorem dX4_givesOf_0 : decode cX4_givesOf 0 = .ok (.aload_n 1, 1) := by decide +kernel
theorem dX4_givesOf_1 : decode cX4_givesOf 1 = .ok (.getfield 43, 3) := by decide +kernel
theorem dX4_givesOf_4 : decode cX4_givesOf 4 = .ok (.iconst 5, 1) := by decide +kernel
theorem dX4_givesOf_5 : decode cX4_givesOf 5 = .ok (.if_icmp .ne 5, 3) := by decide +kernel
theorem dX4_givesOf_8 : decode cX4_givesOf 8 = .ok (.iconst 0, 1) := by decide +kernel
theorem dX4_givesOf_9 : decode cX4_givesOf 9 = .ok (.ireturn, 1) := by decide +kernel
theorem dX4_givesOf_10 : decode cX4_givesOf 10 = .ok (.aload_n 0, 1) := by decide +kernel
theorem dX4_givesOf_11 : decode cX4_givesOf 11 = .ok (.iconst 1, 1) := by decide +kernel
theorem dX4_givesOf_12 : decode cX4_givesOf 12 = .ok (.aload_n 1, 1) := by decide +kernel
theorem dX4_givesOf_13 : decode cX4_givesOf 13 = .ok (.iload_n 2, 1) := by decide +kernel
theorem dX4_givesOf_14 : decode cX4_givesOf 14 = .ok (.iload_n 3, 1) := by decide +kernel
theorem dX4_givesOf_15 : decode cX4_givesOf 15 = .ok (.invokevirtual 46, 3) := by decide +kernel
theorem dX4_givesOf_18 : decode cX4_givesOf 18 = .ok (.bipush (-99), 2) := by decide +kernel
theorem dX4_givesOf_20 : decode cX4_givesOf 20 = .ok (.bipush 99, 2) := by decide +kernel
theorem dX4_givesOf_22 : decode cX4_givesOf 22 = .ok (.invokestatic 50, 3) := by decide +kernel
theorem dX4_givesOf_25 : decode cX4_givesOf 25 = .ok (.istore 4, 2) := by decide +kernel
theorem dX4_givesOf_27 : decode cX4_givesOf 27 = .ok (.aload_n 1, 1) := by decide +kernel
theorem dX4_givesOf_28 : decode cX4_givesOf 28 = .ok (.getfield 60, 3) := by decide +kernel
theorem dX4_givesOf_31 : decode cX4_givesOf 31 = .ok (.ifCond .ne 7, 3) := by decide +kernel
theorem dX4_givesOf_34 : decode cX4_givesOf 34 = .ok (.iconst 0, 1) := by decide +kernel
theorem dX4_givesOf_35 : decode cX4_givesOf 35 = .ok (.goto 5, 3) := by decide +kernel
theorem dX4_givesOf_38 : decode cX4_givesOf 38 = .ok (.iload 4, 2) := by decide +kernel
theorem dX4_givesOf_40 : decode cX4_givesOf 40 = .ok (.istore 5, 2) := by decide +kernel
theorem dX4_givesOf_42 : decode cX4_givesOf 42 = .ok (.aload_n 1, 1) := by decide +kernel
theorem dX4_givesOf_43 : decode cX4_givesOf 43 = .ok (.getfield 43, 3) := by decide +kernel
theorem dX4_givesOf_46 : decode cX4_givesOf 46 = .ok (.tableswitch 93 1 4 #[30, 42, 56, 78], 30) := by decide +kernel
theorem dX4_givesOf_76 : decode cX4_givesOf 76 = .ok (.iload 5, 2) := by decide +kernel
theorem dX4_givesOf_78 : decode cX4_givesOf 78 = .ok (.sipush (-999), 3) := by decide +kernel
theorem dX4_givesOf_81 : decode cX4_givesOf 81 = .ok (.sipush 999, 3) := by decide +kernel
theorem dX4_givesOf_84 : decode cX4_givesOf 84 = .ok (.invokestatic 50, 3) := by decide +kernel
theorem dX4_givesOf_87 : decode cX4_givesOf 87 = .ok (.ireturn, 1) := by decide +kernel
theorem dX4_givesOf_88 : decode cX4_givesOf 88 = .ok (.iload 4, 2) := by decide +kernel
theorem dX4_givesOf_90 : decode cX4_givesOf 90 = .ok (.iconst 3, 1) := by decide +kernel
theorem dX4_givesOf_91 : decode cX4_givesOf 91 = .ok (.iadd, 1) := by decide +kernel
theorem dX4_givesOf_92 : decode cX4_givesOf 92 = .ok (.sipush (-999), 3) := by decide +kernel
theorem dX4_givesOf_95 : decode cX4_givesOf 95 = .ok (.sipush 999, 3) := by decide +kernel
theorem dX4_givesOf_98 : decode cX4_givesOf 98 = .ok (.invokestatic 50, 3) := by decide +kernel
theorem dX4_givesOf_101 : decode cX4_givesOf 101 = .ok (.ireturn, 1) := by decide +kernel
theorem dX4_givesOf_102 : decode cX4_givesOf 102 = .ok (.iload 5, 2) := by decide +kernel
theorem dX4_givesOf_104 : decode cX4_givesOf 104 = .ok (.aload_n 1, 1) := by decide +kernel
theorem dX4_givesOf_105 : decode cX4_givesOf 105 = .ok (.getfield 54, 3) := by decide +kernel
theorem dX4_givesOf_108 : decode cX4_givesOf 108 = .ok (.aload_n 1, 1) := by decide +kernel
theorem dX4_givesOf_109 : decode cX4_givesOf 109 = .ok (.getfield 60, 3) := by decide +kernel
theorem dX4_givesOf_112 : decode cX4_givesOf 112 = .ok (.imul, 1) := by decide +kernel
theorem dX4_givesOf_113 : decode cX4_givesOf 113 = .ok (.iadd, 1) := by decide +kernel
theorem dX4_givesOf_114 : decode cX4_givesOf 114 = .ok (.sipush (-999), 3) := by decide +kernel
theorem dX4_givesOf_117 : decode cX4_givesOf 117 = .ok (.sipush 999, 3) := by decide +kernel
theorem dX4_givesOf_120 : decode cX4_givesOf 120 = .ok (.invokestatic 50, 3) := by decide +kernel
theorem dX4_givesOf_123 : decode cX4_givesOf 123 = .ok (.ireturn, 1) := by decide +kernel
theorem dX4_givesOf_124 : decode cX4_givesOf 124 = .ok (.iload 4, 2) := by decide +kernel
theorem dX4_givesOf_126 : decode cX4_givesOf 126 = .ok (.iconst 3, 1) := by decide +kernel
theorem dX4_givesOf_127 : decode cX4_givesOf 127 = .ok (.iadd, 1) := by decide +kernel
theorem dX4_givesOf_128 : decode cX4_givesOf 128 = .ok (.ineg, 1) := by decide +kernel
theorem dX4_givesOf_129 : decode cX4_givesOf 129 = .ok (.sipush (-999), 3) := by decide +kernel
theorem dX4_givesOf_132 : decode cX4_givesOf 132 = .ok (.sipush 999, 3) := by decide +kernel
theorem dX4_givesOf_135 : decode cX4_givesOf 135 = .ok (.invokestatic 50, 3) := by decide +kernel
theorem dX4_givesOf_138 : decode cX4_givesOf 138 = .ok (.ireturn, 1) := by decide +kernel
theorem dX4_givesOf_139 : decode cX4_givesOf 139 = .ok (.iload 4, 2) := by decide +kernel
theorem dX4_givesOf_141 : decode cX4_givesOf 141 = .ok (.sipush (-999), 3) := by decide +kernel
theorem dX4_givesOf_144 : decode cX4_givesOf 144 = .ok (.sipush 999, 3) := by decide +kernel
theorem dX4_givesOf_147 : decode cX4_givesOf 147 = .ok (.invokestatic 50, 3) := by decide +kernel
theorem dX4_givesOf_150 : decode cX4_givesOf 150 = .ok (.ireturn, 1) := by decide +kernel
theorem dX4_goesOffOf_0 : decode cX4_goesOffOf 0 = .ok (.aload_n 1, 1) := by decide +kernel
theorem dX4_goesOffOf_1 : decode cX4_goesOffOf 1 = .ok (.getfield 43, 3) := by decide +kernel
theorem dX4_goesOffOf_4 : decode cX4_goesOffOf 4 = .ok (.iconst 5, 1) := by decide +kernel
theorem dX4_goesOffOf_5 : decode cX4_goesOffOf 5 = .ok (.if_icmp .ne 5, 3) := by decide +kernel
theorem dX4_goesOffOf_8 : decode cX4_goesOffOf 8 = .ok (.iconst 0, 1) := by decide +kernel
theorem dX4_goesOffOf_9 : decode cX4_goesOffOf 9 = .ok (.ireturn, 1) := by decide +kernel
theorem dX4_goesOffOf_10 : decode cX4_goesOffOf 10 = .ok (.aload_n 0, 1) := by decide +kernel
theorem dX4_goesOffOf_11 : decode cX4_goesOffOf 11 = .ok (.iconst 2, 1) := by decide +kernel
theorem dX4_goesOffOf_12 : decode cX4_goesOffOf 12 = .ok (.aload_n 1, 1) := by decide +kernel
theorem dX4_goesOffOf_13 : decode cX4_goesOffOf 13 = .ok (.iload_n 2, 1) := by decide +kernel
theorem dX4_goesOffOf_14 : decode cX4_goesOffOf 14 = .ok (.iload_n 3, 1) := by decide +kernel
theorem dX4_goesOffOf_15 : decode cX4_goesOffOf 15 = .ok (.invokevirtual 46, 3) := by decide +kernel
theorem dX4_goesOffOf_18 : decode cX4_goesOffOf 18 = .ok (.iconst 0, 1) := by decide +kernel
theorem dX4_goesOffOf_19 : decode cX4_goesOffOf 19 = .ok (.bipush 99, 2) := by decide +kernel
theorem dX4_goesOffOf_21 : decode cX4_goesOffOf 21 = .ok (.invokestatic 50, 3) := by decide +kernel
theorem dX4_goesOffOf_24 : decode cX4_goesOffOf 24 = .ok (.istore 4, 2) := by decide +kernel
theorem dX4_goesOffOf_26 : decode cX4_goesOffOf 26 = .ok (.aload_n 1, 1) := by decide +kernel
theorem dX4_goesOffOf_27 : decode cX4_goesOffOf 27 = .ok (.getfield 43, 3) := by decide +kernel
theorem dX4_goesOffOf_30 : decode cX4_goesOffOf 30 = .ok (.tableswitch 57 1 4 #[30, 46, 30, 46], 30) := by decide +kernel
theorem dX4_goesOffOf_60 : decode cX4_goesOffOf 60 = .ok (.aload_n 1, 1) := by decide +kernel
theorem dX4_goesOffOf_61 : decode cX4_goesOffOf 61 = .ok (.getfield 60, 3) := by decide +kernel
theorem dX4_goesOffOf_64 : decode cX4_goesOffOf 64 = .ok (.bipush 6, 2) := by decide +kernel
theorem dX4_goesOffOf_66 : decode cX4_goesOffOf 66 = .ok (.if_icmp .le 7, 3) := by decide +kernel
theorem dX4_goesOffOf_69 : decode cX4_goesOffOf 69 = .ok (.iconst 0, 1) := by decide +kernel
theorem dX4_goesOffOf_70 : decode cX4_goesOffOf 70 = .ok (.goto 5, 3) := by decide +kernel
theorem dX4_goesOffOf_73 : decode cX4_goesOffOf 73 = .ok (.iload 4, 2) := by decide +kernel
theorem dX4_goesOffOf_75 : decode cX4_goesOffOf 75 = .ok (.ireturn, 1) := by decide +kernel
theorem dX4_goesOffOf_76 : decode cX4_goesOffOf 76 = .ok (.iconst 2, 1) := by decide +kernel
theorem dX4_goesOffOf_77 : decode cX4_goesOffOf 77 = .ok (.iload 4, 2) := by decide +kernel
theorem dX4_goesOffOf_79 : decode cX4_goesOffOf 79 = .ok (.imul, 1) := by decide +kernel
theorem dX4_goesOffOf_80 : decode cX4_goesOffOf 80 = .ok (.iconst 0, 1) := by decide +kernel
theorem dX4_goesOffOf_81 : decode cX4_goesOffOf 81 = .ok (.bipush 99, 2) := by decide +kernel
theorem dX4_goesOffOf_83 : decode cX4_goesOffOf 83 = .ok (.invokestatic 50, 3) := by decide +kernel
theorem dX4_goesOffOf_86 : decode cX4_goesOffOf 86 = .ok (.ireturn, 1) := by decide +kernel
theorem dX4_goesOffOf_87 : decode cX4_goesOffOf 87 = .ok (.iload 4, 2) := by decide +kernel
theorem dX4_goesOffOf_89 : decode cX4_goesOffOf 89 = .ok (.ireturn, 1) := by decide +kernel
theorem dX4_bounded_0 : decode cX4_bounded 0 = .ok (.iload_n 1, 1) := by decide +kernel
theorem dX4_bounded_1 : decode cX4_bounded 1 = .ok (.iload_n 2, 1) := by decide +kernel
theorem dX4_bounded_2 : decode cX4_bounded 2 = .ok (.iload_n 0, 1) := by decide +kernel
theorem dX4_bounded_3 : decode cX4_bounded 3 = .ok (.invokestatic 57, 3) := by decide +kernel
theorem dX4_bounded_6 : decode cX4_bounded 6 = .ok (.invokestatic 37, 3) := by decide +kernel
theorem dX4_bounded_9 : decode cX4_bounded 9 = .ok (.ireturn, 1) := by decide +kernel
theorem dX4_worked_0 : decode cX4_worked 0 = .ok (.iconst 0, 1) := by decide +kernel
theorem dX4_worked_1 : decode cX4_worked 1 = .ok (.istore 5, 2) := by decide +kernel
theorem dX4_worked_3 : decode cX4_worked 3 = .ok (.iload_n 1, 1) := by decide +kernel
theorem dX4_worked_4 : decode cX4_worked 4 = .ok (.ifCond .ne 7, 3) := by decide +kernel
theorem dX4_worked_7 : decode cX4_worked 7 = .ok (.iconst 0, 1) := by decide +kernel
theorem dX4_worked_8 : decode cX4_worked 8 = .ok (.goto 11, 3) := by decide +kernel
theorem dX4_worked_11 : decode cX4_worked 11 = .ok (.aload_n 0, 1) := by decide +kernel
theorem dX4_worked_12 : decode cX4_worked 12 = .ok (.getfield 15, 3) := by decide +kernel
theorem dX4_worked_15 : decode cX4_worked 15 = .ok (.iload_n 1, 1) := by decide +kernel
theorem dX4_worked_16 : decode cX4_worked 16 = .ok (.iconst 1, 1) := by decide +kernel
theorem dX4_worked_17 : decode cX4_worked 17 = .ok (.isub, 1) := by decide +kernel
theorem dX4_worked_18 : decode cX4_worked 18 = .ok (.iaload, 1) := by decide +kernel
theorem dX4_worked_19 : decode cX4_worked 19 = .ok (.istore 6, 2) := by decide +kernel
theorem dX4_worked_21 : decode cX4_worked 21 = .ok (.iload 6, 2) := by decide +kernel
theorem dX4_worked_23 : decode cX4_worked 23 = .ok (.aload_n 0, 1) := by decide +kernel
theorem dX4_worked_24 : decode cX4_worked 24 = .ok (.getfield 15, 3) := by decide +kernel
theorem dX4_worked_27 : decode cX4_worked 27 = .ok (.iload_n 1, 1) := by decide +kernel
theorem dX4_worked_28 : decode cX4_worked 28 = .ok (.iaload, 1) := by decide +kernel
theorem dX4_worked_29 : decode cX4_worked 29 = .ok (.if_icmp .ge 181, 3) := by decide +kernel
theorem dX4_worked_32 : decode cX4_worked 32 = .ok (.aload_n 0, 1) := by decide +kernel
theorem dX4_worked_33 : decode cX4_worked 33 = .ok (.getfield 9, 3) := by decide +kernel
theorem dX4_worked_36 : decode cX4_worked 36 = .ok (.iload 6, 2) := by decide +kernel
theorem dX4_worked_38 : decode cX4_worked 38 = .ok (.iaload, 1) := by decide +kernel
theorem dX4_worked_39 : decode cX4_worked 39 = .ok (.istore 7, 2) := by decide +kernel
theorem dX4_worked_41 : decode cX4_worked 41 = .ok (.iload 7, 2) := by decide +kernel
theorem dX4_worked_43 : decode cX4_worked 43 = .ok (.bipush (-6), 2) := by decide +kernel
theorem dX4_worked_45 : decode cX4_worked 45 = .ok (.if_icmp .lt 45, 3) := by decide +kernel
theorem dX4_worked_48 : decode cX4_worked 48 = .ok (.iload 5, 2) := by decide +kernel
theorem dX4_worked_50 : decode cX4_worked 50 = .ok (.aload_n 0, 1) := by decide +kernel
theorem dX4_worked_51 : decode cX4_worked 51 = .ok (.getfield 18, 3) := by decide +kernel
theorem dX4_worked_54 : decode cX4_worked 54 = .ok (.arraylength, 1) := by decide +kernel
theorem dX4_worked_55 : decode cX4_worked 55 = .ok (.if_icmp .ge 35, 3) := by decide +kernel
theorem dX4_worked_58 : decode cX4_worked 58 = .ok (.aload_n 0, 1) := by decide +kernel
theorem dX4_worked_59 : decode cX4_worked 59 = .ok (.getfield 18, 3) := by decide +kernel
theorem dX4_worked_62 : decode cX4_worked 62 = .ok (.iload 5, 2) := by decide +kernel
theorem dX4_worked_64 : decode cX4_worked 64 = .ok (.iload 7, 2) := by decide +kernel
theorem dX4_worked_66 : decode cX4_worked 66 = .ok (.ifCond .lt 8, 3) := by decide +kernel
theorem dX4_worked_69 : decode cX4_worked 69 = .ok (.iload 7, 2) := by decide +kernel
theorem dX4_worked_71 : decode cX4_worked 71 = .ok (.goto 12, 3) := by decide +kernel
theorem dX4_worked_74 : decode cX4_worked 74 = .ok (.iload 7, 2) := by decide +kernel
theorem dX4_worked_76 : decode cX4_worked 76 = .ok (.aload_n 2, 1) := by decide +kernel
theorem dX4_worked_77 : decode cX4_worked 77 = .ok (.iload_n 3, 1) := by decide +kernel
theorem dX4_worked_78 : decode cX4_worked 78 = .ok (.iload 4, 2) := by decide +kernel
theorem dX4_worked_80 : decode cX4_worked 80 = .ok (.invokestatic 65, 3) := by decide +kernel
theorem dX4_worked_83 : decode cX4_worked 83 = .ok (.iastore, 1) := by decide +kernel
theorem dX4_worked_84 : decode cX4_worked 84 = .ok (.iinc 5 1, 3) := by decide +kernel
theorem dX4_worked_87 : decode cX4_worked 87 = .ok (.goto 117, 3) := by decide +kernel
theorem dX4_worked_90 : decode cX4_worked 90 = .ok (.iload 7, 2) := by decide +kernel
theorem dX4_worked_92 : decode cX4_worked 92 = .ok (.bipush (-12), 2) := by decide +kernel
theorem dX4_worked_94 : decode cX4_worked 94 = .ok (.if_icmp .ne 37, 3) := by decide +kernel
theorem dX4_worked_97 : decode cX4_worked 97 = .ok (.iload 5, 2) := by decide +kernel
theorem dX4_worked_99 : decode cX4_worked 99 = .ok (.ifCond .le 32, 3) := by decide +kernel
theorem dX4_worked_102 : decode cX4_worked 102 = .ok (.aload_n 0, 1) := by decide +kernel
theorem dX4_worked_103 : decode cX4_worked 103 = .ok (.getfield 18, 3) := by decide +kernel
theorem dX4_worked_106 : decode cX4_worked 106 = .ok (.iload 5, 2) := by decide +kernel
theorem dX4_worked_108 : decode cX4_worked 108 = .ok (.iconst 1, 1) := by decide +kernel
theorem dX4_worked_109 : decode cX4_worked 109 = .ok (.isub, 1) := by decide +kernel
theorem dX4_worked_110 : decode cX4_worked 110 = .ok (.aload_n 0, 1) := by decide +kernel
theorem dX4_worked_111 : decode cX4_worked 111 = .ok (.getfield 18, 3) := by decide +kernel
theorem dX4_worked_114 : decode cX4_worked 114 = .ok (.iload 5, 2) := by decide +kernel
theorem dX4_worked_116 : decode cX4_worked 116 = .ok (.iconst 1, 1) := by decide +kernel
theorem dX4_worked_117 : decode cX4_worked 117 = .ok (.isub, 1) := by decide +kernel
theorem dX4_worked_118 : decode cX4_worked 118 = .ok (.iaload, 1) := by decide +kernel
theorem dX4_worked_119 : decode cX4_worked 119 = .ok (.ifCond .ne 7, 3) := by decide +kernel
theorem dX4_worked_122 : decode cX4_worked 122 = .ok (.iconst 1, 1) := by decide +kernel
theorem dX4_worked_123 : decode cX4_worked 123 = .ok (.goto 4, 3) := by decide +kernel
theorem dX4_worked_126 : decode cX4_worked 126 = .ok (.iconst 0, 1) := by decide +kernel
theorem dX4_worked_127 : decode cX4_worked 127 = .ok (.iastore, 1) := by decide +kernel
theorem dX4_worked_128 : decode cX4_worked 128 = .ok (.goto 76, 3) := by decide +kernel
theorem dX4_worked_131 : decode cX4_worked 131 = .ok (.iload 7, 2) := by decide +kernel
theorem dX4_worked_133 : decode cX4_worked 133 = .ok (.bipush (-18), 2) := by decide +kernel
theorem dX4_worked_135 : decode cX4_worked 135 = .ok (.if_icmp .ne 30, 3) := by decide +kernel
theorem dX4_worked_138 : decode cX4_worked 138 = .ok (.iload 5, 2) := by decide +kernel
theorem dX4_worked_140 : decode cX4_worked 140 = .ok (.ifCond .le 25, 3) := by decide +kernel
theorem dX4_worked_143 : decode cX4_worked 143 = .ok (.aload_n 0, 1) := by decide +kernel
theorem dX4_worked_144 : decode cX4_worked 144 = .ok (.getfield 18, 3) := by decide +kernel
theorem dX4_worked_147 : decode cX4_worked 147 = .ok (.iload 5, 2) := by decide +kernel
theorem dX4_worked_149 : decode cX4_worked 149 = .ok (.iconst 1, 1) := by decide +kernel
theorem dX4_worked_150 : decode cX4_worked 150 = .ok (.isub, 1) := by decide +kernel
theorem dX4_worked_151 : decode cX4_worked 151 = .ok (.aload_n 0, 1) := by decide +kernel
theorem dX4_worked_152 : decode cX4_worked 152 = .ok (.getfield 18, 3) := by decide +kernel
theorem dX4_worked_155 : decode cX4_worked 155 = .ok (.iload 5, 2) := by decide +kernel
theorem dX4_worked_157 : decode cX4_worked 157 = .ok (.iconst 1, 1) := by decide +kernel
theorem dX4_worked_158 : decode cX4_worked 158 = .ok (.isub, 1) := by decide +kernel
theorem dX4_worked_159 : decode cX4_worked 159 = .ok (.iaload, 1) := by decide +kernel
theorem dX4_worked_160 : decode cX4_worked 160 = .ok (.ineg, 1) := by decide +kernel
theorem dX4_worked_161 : decode cX4_worked 161 = .ok (.iastore, 1) := by decide +kernel
theorem dX4_worked_162 : decode cX4_worked 162 = .ok (.goto 42, 3) := by decide +kernel
theorem dX4_worked_165 : decode cX4_worked 165 = .ok (.iload 5, 2) := by decide +kernel
theorem dX4_worked_167 : decode cX4_worked 167 = .ok (.iconst 1, 1) := by decide +kernel
theorem dX4_worked_168 : decode cX4_worked 168 = .ok (.if_icmp .le 36, 3) := by decide +kernel
theorem dX4_worked_171 : decode cX4_worked 171 = .ok (.iinc 5 (-1), 3) := by decide +kernel
theorem dX4_worked_174 : decode cX4_worked 174 = .ok (.aload_n 0, 1) := by decide +kernel
theorem dX4_worked_175 : decode cX4_worked 175 = .ok (.getfield 18, 3) := by decide +kernel
theorem dX4_worked_178 : decode cX4_worked 178 = .ok (.iload 5, 2) := by decide +kernel
theorem dX4_worked_180 : decode cX4_worked 180 = .ok (.iconst 1, 1) := by decide +kernel
theorem dX4_worked_181 : decode cX4_worked 181 = .ok (.isub, 1) := by decide +kernel
theorem dX4_worked_182 : decode cX4_worked 182 = .ok (.iload 7, 2) := by decide +kernel
theorem dX4_worked_184 : decode cX4_worked 184 = .ok (.aload_n 0, 1) := by decide +kernel
theorem dX4_worked_185 : decode cX4_worked 185 = .ok (.getfield 18, 3) := by decide +kernel
theorem dX4_worked_188 : decode cX4_worked 188 = .ok (.iload 5, 2) := by decide +kernel
theorem dX4_worked_190 : decode cX4_worked 190 = .ok (.iconst 1, 1) := by decide +kernel
theorem dX4_worked_191 : decode cX4_worked 191 = .ok (.isub, 1) := by decide +kernel
theorem dX4_worked_192 : decode cX4_worked 192 = .ok (.iaload, 1) := by decide +kernel
theorem dX4_worked_193 : decode cX4_worked 193 = .ok (.aload_n 0, 1) := by decide +kernel
theorem dX4_worked_194 : decode cX4_worked 194 = .ok (.getfield 18, 3) := by decide +kernel
theorem dX4_worked_197 : decode cX4_worked 197 = .ok (.iload 5, 2) := by decide +kernel
theorem dX4_worked_199 : decode cX4_worked 199 = .ok (.iaload, 1) := by decide +kernel
theorem dX4_worked_200 : decode cX4_worked 200 = .ok (.invokestatic 68, 3) := by decide +kernel
theorem dX4_worked_203 : decode cX4_worked 203 = .ok (.iastore, 1) := by decide +kernel
theorem dX4_worked_204 : decode cX4_worked 204 = .ok (.iinc 6 1, 3) := by decide +kernel
theorem dX4_worked_207 : decode cX4_worked 207 = .ok (.goto (-186), 3) := by decide +kernel
theorem dX4_worked_210 : decode cX4_worked 210 = .ok (.iload 5, 2) := by decide +kernel
theorem dX4_worked_212 : decode cX4_worked 212 = .ok (.ifCond .le 15, 3) := by decide +kernel
theorem dX4_worked_215 : decode cX4_worked 215 = .ok (.aload_n 0, 1) := by decide +kernel
theorem dX4_worked_216 : decode cX4_worked 216 = .ok (.getfield 18, 3) := by decide +kernel
theorem dX4_worked_219 : decode cX4_worked 219 = .ok (.iload 5, 2) := by decide +kernel
theorem dX4_worked_221 : decode cX4_worked 221 = .ok (.iconst 1, 1) := by decide +kernel
theorem dX4_worked_222 : decode cX4_worked 222 = .ok (.isub, 1) := by decide +kernel
theorem dX4_worked_223 : decode cX4_worked 223 = .ok (.iaload, 1) := by decide +kernel
theorem dX4_worked_224 : decode cX4_worked 224 = .ok (.goto 4, 3) := by decide +kernel
theorem dX4_worked_227 : decode cX4_worked 227 = .ok (.iconst 0, 1) := by decide +kernel
theorem dX4_worked_228 : decode cX4_worked 228 = .ok (.ireturn, 1) := by decide +kernel
theorem dX4_named_0 : decode cX4_named 0 = .ok (.iload_n 0, 1) := by decide +kernel
theorem dX4_named_1 : decode cX4_named 1 = .ok (.tableswitch 57 (-5) (-1) #[52, 50, 45, 40, 35], 35) := by decide +kernel
theorem dX4_named_36 : decode cX4_named 36 = .ok (.aload_n 1, 1) := by decide +kernel
theorem dX4_named_37 : decode cX4_named 37 = .ok (.getfield 25, 3) := by decide +kernel
theorem dX4_named_40 : decode cX4_named 40 = .ok (.ireturn, 1) := by decide +kernel
theorem dX4_named_41 : decode cX4_named 41 = .ok (.aload_n 1, 1) := by decide +kernel
theorem dX4_named_42 : decode cX4_named 42 = .ok (.getfield 60, 3) := by decide +kernel
theorem dX4_named_45 : decode cX4_named 45 = .ok (.ireturn, 1) := by decide +kernel
theorem dX4_named_46 : decode cX4_named 46 = .ok (.aload_n 1, 1) := by decide +kernel
theorem dX4_named_47 : decode cX4_named 47 = .ok (.getfield 54, 3) := by decide +kernel
theorem dX4_named_50 : decode cX4_named 50 = .ok (.ireturn, 1) := by decide +kernel
theorem dX4_named_51 : decode cX4_named 51 = .ok (.iload_n 2, 1) := by decide +kernel
theorem dX4_named_52 : decode cX4_named 52 = .ok (.ireturn, 1) := by decide +kernel
theorem dX4_named_53 : decode cX4_named 53 = .ok (.aload_n 1, 1) := by decide +kernel
theorem dX4_named_54 : decode cX4_named 54 = .ok (.getfield 71, 3) := by decide +kernel
theorem dX4_named_57 : decode cX4_named 57 = .ok (.ireturn, 1) := by decide +kernel
theorem dX4_named_58 : decode cX4_named 58 = .ok (.iload_n 3, 1) := by decide +kernel
theorem dX4_named_59 : decode cX4_named 59 = .ok (.ireturn, 1) := by decide +kernel
theorem dX4_joined_0 : decode cX4_joined 0 = .ok (.iload_n 0, 1) := by decide +kernel
theorem dX4_joined_1 : decode cX4_joined 1 = .ok (.tableswitch 101 (-16) (-10) #[97, 93, 82, 71, 101, 57, 43], 43) := by decide +kernel
theorem dX4_joined_44 : decode cX4_joined 44 = .ok (.iload_n 1, 1) := by decide +kernel
theorem dX4_joined_45 : decode cX4_joined 45 = .ok (.ifCond .ne 7, 3) := by decide +kernel
theorem dX4_joined_48 : decode cX4_joined 48 = .ok (.iload_n 2, 1) := by decide +kernel
theorem dX4_joined_49 : decode cX4_joined 49 = .ok (.ifCond .eq 7, 3) := by decide +kernel
theorem dX4_joined_52 : decode cX4_joined 52 = .ok (.iconst 1, 1) := by decide +kernel
theorem dX4_joined_53 : decode cX4_joined 53 = .ok (.goto 4, 3) := by decide +kernel
theorem dX4_joined_56 : decode cX4_joined 56 = .ok (.iconst 0, 1) := by decide +kernel
theorem dX4_joined_57 : decode cX4_joined 57 = .ok (.ireturn, 1) := by decide +kernel
theorem dX4_joined_58 : decode cX4_joined 58 = .ok (.iload_n 1, 1) := by decide +kernel
theorem dX4_joined_59 : decode cX4_joined 59 = .ok (.ifCond .eq 11, 3) := by decide +kernel
theorem dX4_joined_62 : decode cX4_joined 62 = .ok (.iload_n 2, 1) := by decide +kernel
theorem dX4_joined_63 : decode cX4_joined 63 = .ok (.ifCond .eq 7, 3) := by decide +kernel
theorem dX4_joined_66 : decode cX4_joined 66 = .ok (.iconst 1, 1) := by decide +kernel
theorem dX4_joined_67 : decode cX4_joined 67 = .ok (.goto 4, 3) := by decide +kernel
theorem dX4_joined_70 : decode cX4_joined 70 = .ok (.iconst 0, 1) := by decide +kernel
theorem dX4_joined_71 : decode cX4_joined 71 = .ok (.ireturn, 1) := by decide +kernel
theorem dX4_joined_72 : decode cX4_joined 72 = .ok (.iload_n 1, 1) := by decide +kernel
theorem dX4_joined_73 : decode cX4_joined 73 = .ok (.iload_n 2, 1) := by decide +kernel
theorem dX4_joined_74 : decode cX4_joined 74 = .ok (.if_icmp .ge 7, 3) := by decide +kernel
theorem dX4_joined_77 : decode cX4_joined 77 = .ok (.iconst 1, 1) := by decide +kernel
theorem dX4_joined_78 : decode cX4_joined 78 = .ok (.goto 4, 3) := by decide +kernel
theorem dX4_joined_81 : decode cX4_joined 81 = .ok (.iconst 0, 1) := by decide +kernel
theorem dX4_joined_82 : decode cX4_joined 82 = .ok (.ireturn, 1) := by decide +kernel
theorem dX4_joined_83 : decode cX4_joined 83 = .ok (.iload_n 1, 1) := by decide +kernel
theorem dX4_joined_84 : decode cX4_joined 84 = .ok (.iload_n 2, 1) := by decide +kernel
theorem dX4_joined_85 : decode cX4_joined 85 = .ok (.if_icmp .ne 7, 3) := by decide +kernel
theorem dX4_joined_88 : decode cX4_joined 88 = .ok (.iconst 1, 1) := by decide +kernel
theorem dX4_joined_89 : decode cX4_joined 89 = .ok (.goto 4, 3) := by decide +kernel
theorem dX4_joined_92 : decode cX4_joined 92 = .ok (.iconst 0, 1) := by decide +kernel
theorem dX4_joined_93 : decode cX4_joined 93 = .ok (.ireturn, 1) := by decide +kernel
theorem dX4_joined_94 : decode cX4_joined 94 = .ok (.iload_n 1, 1) := by decide +kernel
theorem dX4_joined_95 : decode cX4_joined 95 = .ok (.iload_n 2, 1) := by decide +kernel
theorem dX4_joined_96 : decode cX4_joined 96 = .ok (.iadd, 1) := by decide +kernel
theorem dX4_joined_97 : decode cX4_joined 97 = .ok (.ireturn, 1) := by decide +kernel
theorem dX4_joined_98 : decode cX4_joined 98 = .ok (.iload_n 1, 1) := by decide +kernel
theorem dX4_joined_99 : decode cX4_joined 99 = .ok (.iload_n 2, 1) := by decide +kernel
theorem dX4_joined_100 : decode cX4_joined 100 = .ok (.isub, 1) := by decide +kernel
theorem dX4_joined_101 : decode cX4_joined 101 = .ok (.ireturn, 1) := by decide +kernel
theorem dX4_joined_102 : decode cX4_joined 102 = .ok (.iload_n 1, 1) := by decide +kernel
theorem dX4_joined_103 : decode cX4_joined 103 = .ok (.iload_n 2, 1) := by decide +kernel
theorem dX4_joined_104 : decode cX4_joined 104 = .ok (.imul, 1) := by decide +kernel
theorem dX4_joined_105 : decode cX4_joined 105 = .ok (.ireturn, 1) := by decide +kernel
theorem dX5_init_0 : decode cX5_init 0 = .ok (.aload_n 0, 1) := by decide +kernel
theorem dX5_init_1 : decode cX5_init 1 = .ok (.invokespecial 3, 3) := by decide +kernel
theorem dX5_init_4 : decode cX5_init 4 = .ok (.aload_n 0, 1) := by decide +kernel
theorem dX5_init_5 : decode cX5_init 5 = .ok (.bipush 8, 2) := by decide +kernel
theorem dX5_init_7 : decode cX5_init 7 = .ok (.anewarray 9, 3) := by decide +kernel
theorem dX5_init_10 : decode cX5_init 10 = .ok (.putfield 11, 3) := by decide +kernel
theorem dX5_init_13 : decode cX5_init 13 = .ok (.aload_n 0, 1) := by decide +kernel
theorem dX5_init_14 : decode cX5_init 14 = .ok (.new 15, 3) := by decide +kernel
theorem dX5_init_17 : decode cX5_init 17 = .ok (.dup, 1) := by decide +kernel
theorem dX5_init_18 : decode cX5_init 18 = .ok (.invokespecial 17, 3) := by decide +kernel
theorem dX5_init_21 : decode cX5_init 21 = .ok (.putfield 18, 3) := by decide +kernel
theorem dX5_init_24 : decode cX5_init 24 = .ok (.aload_n 0, 1) := by decide +kernel
theorem dX5_init_25 : decode cX5_init 25 = .ok (.bipush 6, 2) := by decide +kernel
theorem dX5_init_27 : decode cX5_init 27 = .ok (.anewarray 22, 3) := by decide +kernel
theorem dX5_init_30 : decode cX5_init 30 = .ok (.putfield 24, 3) := by decide +kernel
theorem dX5_init_33 : decode cX5_init 33 = .ok (.aload_n 0, 1) := by decide +kernel
theorem dX5_init_34 : decode cX5_init 34 = .ok (.iconst 4, 1) := by decide +kernel
theorem dX5_init_35 : decode cX5_init 35 = .ok (.anewarray 28, 3) := by decide +kernel
theorem dX5_init_38 : decode cX5_init 38 = .ok (.putfield 30, 3) := by decide +kernel
theorem dX5_init_41 : decode cX5_init 41 = .ok (.aload_n 0, 1) := by decide +kernel
theorem dX5_init_42 : decode cX5_init 42 = .ok (.new 34, 3) := by decide +kernel
theorem dX5_init_45 : decode cX5_init 45 = .ok (.dup, 1) := by decide +kernel
theorem dX5_init_46 : decode cX5_init 46 = .ok (.invokespecial 36, 3) := by decide +kernel
theorem dX5_init_49 : decode cX5_init 49 = .ok (.putfield 37, 3) := by decide +kernel
theorem dX5_init_52 : decode cX5_init 52 = .ok (.aload_n 0, 1) := by decide +kernel
theorem dX5_init_53 : decode cX5_init 53 = .ok (.new 9, 3) := by decide +kernel
theorem dX5_init_56 : decode cX5_init 56 = .ok (.dup, 1) := by decide +kernel
theorem dX5_init_57 : decode cX5_init 57 = .ok (.invokespecial 41, 3) := by decide +kernel
theorem dX5_init_60 : decode cX5_init 60 = .ok (.putfield 42, 3) := by decide +kernel
theorem dX5_init_63 : decode cX5_init 63 = .ok (.aload_n 0, 1) := by decide +kernel
theorem dX5_init_64 : decode cX5_init 64 = .ok (.bipush 8, 2) := by decide +kernel
theorem dX5_init_66 : decode cX5_init 66 = .ok (.newarray .int, 2) := by decide +kernel
theorem dX5_init_68 : decode cX5_init 68 = .ok (.putfield 46, 3) := by decide +kernel
theorem dX5_init_71 : decode cX5_init 71 = .ok (.iconst 0, 1) := by decide +kernel
theorem dX5_init_72 : decode cX5_init 72 = .ok (.istore_n 1, 1) := by decide +kernel
theorem dX5_init_73 : decode cX5_init 73 = .ok (.iload_n 1, 1) := by decide +kernel
theorem dX5_init_74 : decode cX5_init 74 = .ok (.aload_n 0, 1) := by decide +kernel
theorem dX5_init_75 : decode cX5_init 75 = .ok (.getfield 11, 3) := by decide +kernel
theorem dX5_init_78 : decode cX5_init 78 = .ok (.arraylength, 1) := by decide +kernel
theorem dX5_init_79 : decode cX5_init 79 = .ok (.if_icmp .ge 22, 3) := by decide +kernel
theorem dX5_init_82 : decode cX5_init 82 = .ok (.aload_n 0, 1) := by decide +kernel
theorem dX5_init_83 : decode cX5_init 83 = .ok (.getfield 11, 3) := by decide +kernel
theorem dX5_init_86 : decode cX5_init 86 = .ok (.iload_n 1, 1) := by decide +kernel
theorem dX5_init_87 : decode cX5_init 87 = .ok (.new 9, 3) := by decide +kernel
theorem dX5_init_90 : decode cX5_init 90 = .ok (.dup, 1) := by decide +kernel
theorem dX5_init_91 : decode cX5_init 91 = .ok (.invokespecial 41, 3) := by decide +kernel
theorem dX5_init_94 : decode cX5_init 94 = .ok (.aastore, 1) := by decide +kernel
theorem dX5_init_95 : decode cX5_init 95 = .ok (.iinc 1 1, 3) := by decide +kernel
theorem dX5_init_98 : decode cX5_init 98 = .ok (.goto (-25), 3) := by decide +kernel
theorem dX5_init_101 : decode cX5_init 101 = .ok (.iconst 0, 1) := by decide +kernel
theorem dX5_init_102 : decode cX5_init 102 = .ok (.istore_n 1, 1) := by decide +kernel
theorem dX5_init_103 : decode cX5_init 103 = .ok (.iload_n 1, 1) := by decide +kernel
theorem dX5_init_104 : decode cX5_init 104 = .ok (.aload_n 0, 1) := by decide +kernel
theorem dX5_init_105 : decode cX5_init 105 = .ok (.getfield 30, 3) := by decide +kernel
theorem dX5_init_108 : decode cX5_init 108 = .ok (.arraylength, 1) := by decide +kernel
theorem dX5_init_109 : decode cX5_init 109 = .ok (.if_icmp .ge 22, 3) := by decide +kernel
theorem dX5_init_112 : decode cX5_init 112 = .ok (.aload_n 0, 1) := by decide +kernel
theorem dX5_init_113 : decode cX5_init 113 = .ok (.getfield 30, 3) := by decide +kernel
theorem dX5_init_116 : decode cX5_init 116 = .ok (.iload_n 1, 1) := by decide +kernel
theorem dX5_init_117 : decode cX5_init 117 = .ok (.new 28, 3) := by decide +kernel
theorem dX5_init_120 : decode cX5_init 120 = .ok (.dup, 1) := by decide +kernel
theorem dX5_init_121 : decode cX5_init 121 = .ok (.invokespecial 50, 3) := by decide +kernel
theorem dX5_init_124 : decode cX5_init 124 = .ok (.aastore, 1) := by decide +kernel
theorem dX5_init_125 : decode cX5_init 125 = .ok (.iinc 1 1, 3) := by decide +kernel
theorem dX5_init_128 : decode cX5_init 128 = .ok (.goto (-25), 3) := by decide +kernel
theorem dX5_init_131 : decode cX5_init 131 = .ok (.iconst 0, 1) := by decide +kernel
theorem dX5_init_132 : decode cX5_init 132 = .ok (.istore_n 1, 1) := by decide +kernel
theorem dX5_init_133 : decode cX5_init 133 = .ok (.iload_n 1, 1) := by decide +kernel
theorem dX5_init_134 : decode cX5_init 134 = .ok (.ldc 51, 2) := by decide +kernel
theorem dX5_init_136 : decode cX5_init 136 = .ok (.invokevirtual 53, 3) := by decide +kernel
theorem dX5_init_139 : decode cX5_init 139 = .ok (.if_icmp .ge 22, 3) := by decide +kernel
theorem dX5_init_142 : decode cX5_init 142 = .ok (.aload_n 0, 1) := by decide +kernel
theorem dX5_init_143 : decode cX5_init 143 = .ok (.getfield 18, 3) := by decide +kernel
theorem dX5_init_146 : decode cX5_init 146 = .ok (.ldc 51, 2) := by decide +kernel
theorem dX5_init_148 : decode cX5_init 148 = .ok (.iload_n 1, 1) := by decide +kernel
theorem dX5_init_149 : decode cX5_init 149 = .ok (.invokevirtual 59, 3) := by decide +kernel
theorem dX5_init_152 : decode cX5_init 152 = .ok (.invokevirtual 63, 3) := by decide +kernel
theorem dX5_init_155 : decode cX5_init 155 = .ok (.iinc 1 1, 3) := by decide +kernel
theorem dX5_init_158 : decode cX5_init 158 = .ok (.goto (-25), 3) := by decide +kernel
theorem dX5_init_161 : decode cX5_init 161 = .ok (.aload_n 0, 1) := by decide +kernel
theorem dX5_init_162 : decode cX5_init 162 = .ok (.getfield 18, 3) := by decide +kernel
theorem dX5_init_165 : decode cX5_init 165 = .ok (.invokevirtual 67, 3) := by decide +kernel
theorem dX5_init_168 : decode cX5_init 168 = .ok (.pop, 1) := by decide +kernel
theorem dX5_init_169 : decode cX5_init 169 = .ok (.aload_n 0, 1) := by decide +kernel
theorem dX5_init_170 : decode cX5_init 170 = .ok (.invokevirtual 70, 3) := by decide +kernel
theorem dX5_init_173 : decode cX5_init 173 = .ok (.return_, 1) := by decide +kernel
theorem dX5_set_0 : decode cX5_set 0 = .ok (.iload_n 1, 1) := by decide +kernel
theorem dX5_set_1 : decode cX5_set 1 = .ok (.iconst 0, 1) := by decide +kernel
theorem dX5_set_2 : decode cX5_set 2 = .ok (.iconst 5, 1) := by decide +kernel
theorem dX5_set_3 : decode cX5_set 3 = .ok (.invokestatic 73, 3) := by decide +kernel
theorem dX5_set_6 : decode cX5_set 6 = .ok (.ifCond .eq 20, 3) := by decide +kernel
theorem dX5_set_9 : decode cX5_set 9 = .ok (.iload_n 3, 1) := by decide +kernel
theorem dX5_set_10 : decode cX5_set 10 = .ok (.getstatic 77, 3) := by decide +kernel
theorem dX5_set_13 : decode cX5_set 13 = .ok (.iload_n 1, 1) := by decide +kernel
theorem dX5_set_14 : decode cX5_set 14 = .ok (.iaload, 1) := by decide +kernel
theorem dX5_set_15 : decode cX5_set 15 = .ok (.getstatic 80, 3) := by decide +kernel
theorem dX5_set_18 : decode cX5_set 18 = .ok (.iload_n 1, 1) := by decide +kernel
theorem dX5_set_19 : decode cX5_set 19 = .ok (.iaload, 1) := by decide +kernel
theorem dX5_set_20 : decode cX5_set 20 = .ok (.invokestatic 73, 3) := by decide +kernel
theorem dX5_set_23 : decode cX5_set 23 = .ok (.ifCond .ne 6, 3) := by decide +kernel
theorem dX5_set_26 : decode cX5_set 26 = .ok (.bipush (-2), 2) := by decide +kernel
theorem dX5_set_28 : decode cX5_set 28 = .ok (.ireturn, 1) := by decide +kernel
theorem dX5_set_29 : decode cX5_set 29 = .ok (.iload_n 1, 1) := by decide +kernel
theorem dX5_set_30 : decode cX5_set 30 = .ok (.ifCond .ne 17, 3) := by decide +kernel
theorem dX5_set_33 : decode cX5_set 33 = .ok (.aload_n 0, 1) := by decide +kernel
theorem dX5_set_34 : decode cX5_set 34 = .ok (.getfield 83, 3) := by decide +kernel
theorem dX5_set_37 : decode cX5_set 37 = .ok (.istore 4, 2) := by decide +kernel
theorem dX5_set_39 : decode cX5_set 39 = .ok (.aload_n 0, 1) := by decide +kernel
theorem dX5_set_40 : decode cX5_set 40 = .ok (.iload_n 3, 1) := by decide +kernel
theorem dX5_set_41 : decode cX5_set 41 = .ok (.putfield 83, 3) := by decide +kernel
theorem dX5_set_44 : decode cX5_set 44 = .ok (.iload 4, 2) := by decide +kernel
theorem dX5_set_46 : decode cX5_set 46 = .ok (.ireturn, 1) := by decide +kernel
theorem dX5_set_47 : decode cX5_set 47 = .ok (.aload_n 0, 1) := by decide +kernel
theorem dX5_set_48 : decode cX5_set 48 = .ok (.iload_n 2, 1) := by decide +kernel
theorem dX5_set_49 : decode cX5_set 49 = .ok (.invokevirtual 87, 3) := by decide +kernel
theorem dX5_set_52 : decode cX5_set 52 = .ok (.ifCond .ne 6, 3) := by decide +kernel
theorem dX5_set_55 : decode cX5_set 55 = .ok (.bipush (-2), 2) := by decide +kernel
theorem dX5_set_57 : decode cX5_set 57 = .ok (.ireturn, 1) := by decide +kernel
theorem dX5_set_58 : decode cX5_set 58 = .ok (.aload_n 0, 1) := by decide +kernel
theorem dX5_set_59 : decode cX5_set 59 = .ok (.getfield 11, 3) := by decide +kernel
theorem dX5_set_62 : decode cX5_set 62 = .ok (.iload_n 2, 1) := by decide +kernel
theorem dX5_set_63 : decode cX5_set 63 = .ok (.aaload, 1) := by decide +kernel
theorem dX5_set_64 : decode cX5_set 64 = .ok (.iload_n 1, 1) := by decide +kernel
theorem dX5_set_65 : decode cX5_set 65 = .ok (.invokevirtual 91, 3) := by decide +kernel
theorem dX5_set_68 : decode cX5_set 68 = .ok (.istore 4, 2) := by decide +kernel
theorem dX5_set_70 : decode cX5_set 70 = .ok (.aload_n 0, 1) := by decide +kernel
theorem dX5_set_71 : decode cX5_set 71 = .ok (.getfield 11, 3) := by decide +kernel
theorem dX5_set_74 : decode cX5_set 74 = .ok (.iload_n 2, 1) := by decide +kernel
theorem dX5_set_75 : decode cX5_set 75 = .ok (.aaload, 1) := by decide +kernel
theorem dX5_set_76 : decode cX5_set 76 = .ok (.iload_n 1, 1) := by decide +kernel
theorem dX5_set_77 : decode cX5_set 77 = .ok (.iload_n 3, 1) := by decide +kernel
theorem dX5_set_78 : decode cX5_set 78 = .ok (.invokevirtual 95, 3) := by decide +kernel
theorem dX5_set_81 : decode cX5_set 81 = .ok (.iload 4, 2) := by decide +kernel
theorem dX5_set_83 : decode cX5_set 83 = .ok (.ireturn, 1) := by decide +kernel
theorem dX5_coin_0 : decode cX5_coin 0 = .ok (.bipush 6, 2) := by decide +kernel
theorem dX5_coin_2 : decode cX5_coin 2 = .ok (.iload_n 1, 1) := by decide +kernel
theorem dX5_coin_3 : decode cX5_coin 3 = .ok (.invokestatic 99, 3) := by decide +kernel
theorem dX5_coin_6 : decode cX5_coin 6 = .ok (.ifCond .eq 19, 3) := by decide +kernel
theorem dX5_coin_9 : decode cX5_coin 9 = .ok (.iconst 1, 1) := by decide +kernel
theorem dX5_coin_10 : decode cX5_coin 10 = .ok (.iload_n 2, 1) := by decide +kernel
theorem dX5_coin_11 : decode cX5_coin 11 = .ok (.invokestatic 99, 3) := by decide +kernel
theorem dX5_coin_14 : decode cX5_coin 14 = .ok (.ifCond .eq 11, 3) := by decide +kernel
theorem dX5_coin_17 : decode cX5_coin 17 = .ok (.iconst 2, 1) := by decide +kernel
theorem dX5_coin_18 : decode cX5_coin 18 = .ok (.iload_n 3, 1) := by decide +kernel
theorem dX5_coin_19 : decode cX5_coin 19 = .ok (.invokestatic 99, 3) := by decide +kernel
theorem dX5_coin_22 : decode cX5_coin 22 = .ok (.ifCond .ne 6, 3) := by decide +kernel
theorem dX5_coin_25 : decode cX5_coin 25 = .ok (.bipush (-2), 2) := by decide +kernel
theorem dX5_coin_27 : decode cX5_coin 27 = .ok (.ireturn, 1) := by decide +kernel
theorem dX5_coin_28 : decode cX5_coin 28 = .ok (.aload_n 0, 1) := by decide +kernel
theorem dX5_coin_29 : decode cX5_coin 29 = .ok (.getfield 103, 3) := by decide +kernel
theorem dX5_coin_32 : decode cX5_coin 32 = .ok (.aload_n 0, 1) := by decide +kernel
theorem dX5_coin_33 : decode cX5_coin 33 = .ok (.getfield 11, 3) := by decide +kernel
theorem dX5_coin_36 : decode cX5_coin 36 = .ok (.arraylength, 1) := by decide +kernel
theorem dX5_coin_37 : decode cX5_coin 37 = .ok (.if_icmp .lt 6, 3) := by decide +kernel
theorem dX5_coin_40 : decode cX5_coin 40 = .ok (.bipush (-4), 2) := by decide +kernel
theorem dX5_coin_42 : decode cX5_coin 42 = .ok (.ireturn, 1) := by decide +kernel
theorem dX5_coin_43 : decode cX5_coin 43 = .ok (.aload_n 0, 1) := by decide +kernel
theorem dX5_coin_44 : decode cX5_coin 44 = .ok (.getfield 11, 3) := by decide +kernel
theorem dX5_coin_47 : decode cX5_coin 47 = .ok (.aload_n 0, 1) := by decide +kernel
theorem dX5_coin_48 : decode cX5_coin 48 = .ok (.getfield 103, 3) := by decide +kernel
theorem dX5_coin_51 : decode cX5_coin 51 = .ok (.aaload, 1) := by decide +kernel
theorem dX5_coin_52 : decode cX5_coin 52 = .ok (.iload_n 1, 1) := by decide +kernel
theorem dX5_coin_53 : decode cX5_coin 53 = .ok (.iload_n 2, 1) := by decide +kernel
theorem dX5_coin_54 : decode cX5_coin 54 = .ok (.iload_n 3, 1) := by decide +kernel
theorem dX5_coin_55 : decode cX5_coin 55 = .ok (.invokevirtual 106, 3) := by decide +kernel
theorem dX5_coin_58 : decode cX5_coin 58 = .ok (.aload_n 0, 1) := by decide +kernel
theorem dX5_coin_59 : decode cX5_coin 59 = .ok (.dup, 1) := by decide +kernel
theorem dX5_coin_60 : decode cX5_coin 60 = .ok (.getfield 103, 3) := by decide +kernel
theorem dX5_coin_63 : decode cX5_coin 63 = .ok (.iconst 1, 1) := by decide +kernel
theorem dX5_coin_64 : decode cX5_coin 64 = .ok (.iadd, 1) := by decide +kernel
theorem dX5_coin_65 : decode cX5_coin 65 = .ok (.putfield 103, 3) := by decide +kernel
theorem dX5_coin_68 : decode cX5_coin 68 = .ok (.aload_n 0, 1) := by decide +kernel
theorem dX5_coin_69 : decode cX5_coin 69 = .ok (.getfield 103, 3) := by decide +kernel
theorem dX5_coin_72 : decode cX5_coin 72 = .ok (.iconst 1, 1) := by decide +kernel
theorem dX5_coin_73 : decode cX5_coin 73 = .ok (.isub, 1) := by decide +kernel
theorem dX5_coin_74 : decode cX5_coin 74 = .ok (.ireturn, 1) := by decide +kernel
theorem dX5_told_0 : decode cX5_told 0 = .ok (.iload_n 2, 1) := by decide +kernel
theorem dX5_told_1 : decode cX5_told 1 = .ok (.ifCond .ne 8, 3) := by decide +kernel
theorem dX5_told_4 : decode cX5_told 4 = .ok (.aload_n 0, 1) := by decide +kernel
theorem dX5_told_5 : decode cX5_told 5 = .ok (.getfield 83, 3) := by decide +kernel
theorem dX5_told_8 : decode cX5_told 8 = .ok (.ireturn, 1) := by decide +kernel
theorem dX5_told_9 : decode cX5_told 9 = .ok (.aload_n 0, 1) := by decide +kernel
theorem dX5_told_10 : decode cX5_told 10 = .ok (.iload_n 1, 1) := by decide +kernel
theorem dX5_told_11 : decode cX5_told 11 = .ok (.invokevirtual 87, 3) := by decide +kernel
theorem dX5_told_14 : decode cX5_told 14 = .ok (.ifCond .ne 6, 3) := by decide +kernel
theorem dX5_told_17 : decode cX5_told 17 = .ok (.ldc 110, 2) := by decide +kernel
theorem dX5_told_19 : decode cX5_told 19 = .ok (.ireturn, 1) := by decide +kernel
theorem dX5_told_20 : decode cX5_told 20 = .ok (.aload_n 0, 1) := by decide +kernel
theorem dX5_told_21 : decode cX5_told 21 = .ok (.getfield 11, 3) := by decide +kernel
theorem dX5_told_24 : decode cX5_told 24 = .ok (.iload_n 1, 1) := by decide +kernel
theorem dX5_told_25 : decode cX5_told 25 = .ok (.aaload, 1) := by decide +kernel
theorem dX5_told_26 : decode cX5_told 26 = .ok (.astore_n 3, 1) := by decide +kernel
theorem dX5_told_27 : decode cX5_told 27 = .ok (.iload_n 2, 1) := by decide +kernel
theorem dX5_told_28 : decode cX5_told 28 = .ok (.tableswitch 109 7 11 #[36, 53, 70, 87, 102], 36) := by decide +kernel
theorem dX5_told_64 : decode cX5_told 64 = .ok (.aload_n 0, 1) := by decide +kernel
theorem dX5_told_65 : decode cX5_told 65 = .ok (.invokevirtual 111, 3) := by decide +kernel
theorem dX5_told_68 : decode cX5_told 68 = .ok (.aload_n 3, 1) := by decide +kernel
theorem dX5_told_69 : decode cX5_told 69 = .ok (.aload_n 3, 1) := by decide +kernel
theorem dX5_told_70 : decode cX5_told 70 = .ok (.getfield 115, 3) := by decide +kernel
theorem dX5_told_73 : decode cX5_told 73 = .ok (.aload_n 0, 1) := by decide +kernel
theorem dX5_told_74 : decode cX5_told 74 = .ok (.getfield 83, 3) := by decide +kernel
theorem dX5_told_77 : decode cX5_told 77 = .ok (.invokevirtual 118, 3) := by decide +kernel
theorem dX5_told_80 : decode cX5_told 80 = .ok (.ireturn, 1) := by decide +kernel
theorem dX5_told_81 : decode cX5_told 81 = .ok (.aload_n 0, 1) := by decide +kernel
theorem dX5_told_82 : decode cX5_told 82 = .ok (.invokevirtual 111, 3) := by decide +kernel
theorem dX5_told_85 : decode cX5_told 85 = .ok (.aload_n 3, 1) := by decide +kernel
theorem dX5_told_86 : decode cX5_told 86 = .ok (.aload_n 3, 1) := by decide +kernel
theorem dX5_told_87 : decode cX5_told 87 = .ok (.getfield 115, 3) := by decide +kernel
theorem dX5_told_90 : decode cX5_told 90 = .ok (.aload_n 0, 1) := by decide +kernel
theorem dX5_told_91 : decode cX5_told 91 = .ok (.getfield 83, 3) := by decide +kernel
theorem dX5_told_94 : decode cX5_told 94 = .ok (.invokevirtual 122, 3) := by decide +kernel
theorem dX5_told_97 : decode cX5_told 97 = .ok (.ireturn, 1) := by decide +kernel
theorem dX5_told_98 : decode cX5_told 98 = .ok (.aload_n 0, 1) := by decide +kernel
theorem dX5_told_99 : decode cX5_told 99 = .ok (.invokevirtual 111, 3) := by decide +kernel
theorem dX5_told_102 : decode cX5_told 102 = .ok (.aload_n 3, 1) := by decide +kernel
theorem dX5_told_103 : decode cX5_told 103 = .ok (.aload_n 3, 1) := by decide +kernel
theorem dX5_told_104 : decode cX5_told 104 = .ok (.getfield 115, 3) := by decide +kernel
theorem dX5_told_107 : decode cX5_told 107 = .ok (.aload_n 0, 1) := by decide +kernel
theorem dX5_told_108 : decode cX5_told 108 = .ok (.getfield 83, 3) := by decide +kernel
theorem dX5_told_111 : decode cX5_told 111 = .ok (.invokevirtual 125, 3) := by decide +kernel
theorem dX5_told_114 : decode cX5_told 114 = .ok (.ireturn, 1) := by decide +kernel
theorem dX5_told_115 : decode cX5_told 115 = .ok (.aload_n 0, 1) := by decide +kernel
theorem dX5_told_116 : decode cX5_told 116 = .ok (.aload_n 3, 1) := by decide +kernel
theorem dX5_told_117 : decode cX5_told 117 = .ok (.iconst 0, 1) := by decide +kernel
theorem dX5_told_118 : decode cX5_told 118 = .ok (.invokevirtual 128, 3) := by decide +kernel
theorem dX5_told_121 : decode cX5_told 121 = .ok (.ifCond .eq 7, 3) := by decide +kernel
theorem dX5_told_124 : decode cX5_told 124 = .ok (.iconst 1, 1) := by decide +kernel
theorem dX5_told_125 : decode cX5_told 125 = .ok (.goto 4, 3) := by decide +kernel
theorem dX5_told_128 : decode cX5_told 128 = .ok (.iconst 0, 1) := by decide +kernel
theorem dX5_told_129 : decode cX5_told 129 = .ok (.ireturn, 1) := by decide +kernel
theorem dX5_told_130 : decode cX5_told 130 = .ok (.aload_n 0, 1) := by decide +kernel
theorem dX5_told_131 : decode cX5_told 131 = .ok (.aload_n 3, 1) := by decide +kernel
theorem dX5_told_132 : decode cX5_told 132 = .ok (.iconst 0, 1) := by decide +kernel
theorem dX5_told_133 : decode cX5_told 133 = .ok (.invokevirtual 132, 3) := by decide +kernel
theorem dX5_told_136 : decode cX5_told 136 = .ok (.ireturn, 1) := by decide +kernel
theorem dX5_told_137 : decode cX5_told 137 = .ok (.iload_n 2, 1) := by decide +kernel
theorem dX5_told_138 : decode cX5_told 138 = .ok (.iconst 1, 1) := by decide +kernel
theorem dX5_told_139 : decode cX5_told 139 = .ok (.bipush 6, 2) := by decide +kernel
theorem dX5_told_141 : decode cX5_told 141 = .ok (.invokestatic 73, 3) := by decide +kernel
theorem dX5_told_144 : decode cX5_told 144 = .ok (.ifCond .eq 11, 3) := by decide +kernel
theorem dX5_told_147 : decode cX5_told 147 = .ok (.aload_n 3, 1) := by decide +kernel
theorem dX5_told_148 : decode cX5_told 148 = .ok (.iload_n 2, 1) := by decide +kernel
theorem dX5_told_149 : decode cX5_told 149 = .ok (.invokevirtual 91, 3) := by decide +kernel
theorem dX5_told_152 : decode cX5_told 152 = .ok (.goto 5, 3) := by decide +kernel
theorem dX5_told_155 : decode cX5_told 155 = .ok (.ldc 110, 2) := by decide +kernel
theorem dX5_told_157 : decode cX5_told 157 = .ok (.ireturn, 1) := by decide +kernel
theorem dX5_feed_0 : decode cX5_feed 0 = .ok (.iload_n 1, 1) := by decide +kernel
theorem dX5_feed_1 : decode cX5_feed 1 = .ok (.iconst 0, 1) := by decide +kernel
theorem dX5_feed_2 : decode cX5_feed 2 = .ok (.sipush 255, 3) := by decide +kernel
theorem dX5_feed_5 : decode cX5_feed 5 = .ok (.invokestatic 73, 3) := by decide +kernel
theorem dX5_feed_8 : decode cX5_feed 8 = .ok (.ifCond .ne 6, 3) := by decide +kernel
theorem dX5_feed_11 : decode cX5_feed 11 = .ok (.bipush (-2), 2) := by decide +kernel
theorem dX5_feed_13 : decode cX5_feed 13 = .ok (.ireturn, 1) := by decide +kernel
theorem dX5_feed_14 : decode cX5_feed 14 = .ok (.aload_n 0, 1) := by decide +kernel
theorem dX5_feed_15 : decode cX5_feed 15 = .ok (.getfield 18, 3) := by decide +kernel
theorem dX5_feed_18 : decode cX5_feed 18 = .ok (.getfield 136, 3) := by decide +kernel
theorem dX5_feed_21 : decode cX5_feed 21 = .ok (.sipush 160, 3) := by decide +kernel
theorem dX5_feed_24 : decode cX5_feed 24 = .ok (.if_icmp .lt 6, 3) := by decide +kernel
theorem dX5_feed_27 : decode cX5_feed 27 = .ok (.bipush (-4), 2) := by decide +kernel
theorem dX5_feed_29 : decode cX5_feed 29 = .ok (.ireturn, 1) := by decide +kernel
theorem dX5_feed_30 : decode cX5_feed 30 = .ok (.aload_n 0, 1) := by decide +kernel
theorem dX5_feed_31 : decode cX5_feed 31 = .ok (.getfield 18, 3) := by decide +kernel
theorem dX5_feed_34 : decode cX5_feed 34 = .ok (.iload_n 1, 1) := by decide +kernel
theorem dX5_feed_35 : decode cX5_feed 35 = .ok (.invokevirtual 63, 3) := by decide +kernel
theorem dX5_feed_38 : decode cX5_feed 38 = .ok (.aload_n 0, 1) := by decide +kernel
theorem dX5_feed_39 : decode cX5_feed 39 = .ok (.getfield 18, 3) := by decide +kernel
theorem dX5_feed_42 : decode cX5_feed 42 = .ok (.getfield 136, 3) := by decide +kernel
theorem dX5_feed_45 : decode cX5_feed 45 = .ok (.ireturn, 1) := by decide +kernel
theorem dX5_text_0 : decode cX5_text 0 = .ok (.aload_n 0, 1) := by decide +kernel
theorem dX5_text_1 : decode cX5_text 1 = .ok (.getfield 139, 3) := by decide +kernel
theorem dX5_text_4 : decode cX5_text 4 = .ok (.aload_n 0, 1) := by decide +kernel
theorem dX5_text_5 : decode cX5_text 5 = .ok (.getfield 24, 3) := by decide +kernel
theorem dX5_text_8 : decode cX5_text 8 = .ok (.arraylength, 1) := by decide +kernel
theorem dX5_text_9 : decode cX5_text 9 = .ok (.if_icmp .lt 6, 3) := by decide +kernel
theorem dX5_text_12 : decode cX5_text 12 = .ok (.bipush (-4), 2) := by decide +kernel
theorem dX5_text_14 : decode cX5_text 14 = .ok (.ireturn, 1) := by decide +kernel
theorem dX5_text_15 : decode cX5_text 15 = .ok (.aload_n 0, 1) := by decide +kernel
theorem dX5_text_16 : decode cX5_text 16 = .ok (.getfield 18, 3) := by decide +kernel
theorem dX5_text_19 : decode cX5_text 19 = .ok (.invokevirtual 67, 3) := by decide +kernel
theorem dX5_text_22 : decode cX5_text 22 = .ok (.istore_n 1, 1) := by decide +kernel
theorem dX5_text_23 : decode cX5_text 23 = .ok (.iload_n 1, 1) := by decide +kernel
theorem dX5_text_24 : decode cX5_text 24 = .ok (.iconst (-1), 1) := by decide +kernel
theorem dX5_text_25 : decode cX5_text 25 = .ok (.if_icmp .eq 16, 3) := by decide +kernel
theorem dX5_text_28 : decode cX5_text 28 = .ok (.aload_n 0, 1) := by decide +kernel
theorem dX5_text_29 : decode cX5_text 29 = .ok (.getfield 18, 3) := by decide +kernel
theorem dX5_text_32 : decode cX5_text 32 = .ok (.iconst 0, 1) := by decide +kernel
theorem dX5_text_33 : decode cX5_text 33 = .ok (.putfield 136, 3) := by decide +kernel
theorem dX5_text_36 : decode cX5_text 36 = .ok (.bipush (-100), 2) := by decide +kernel
theorem dX5_text_38 : decode cX5_text 38 = .ok (.iload_n 1, 1) := by decide +kernel
theorem dX5_text_39 : decode cX5_text 39 = .ok (.isub, 1) := by decide +kernel
theorem dX5_text_40 : decode cX5_text 40 = .ok (.ireturn, 1) := by decide +kernel
theorem dX5_text_41 : decode cX5_text 41 = .ok (.aload_n 0, 1) := by decide +kernel
theorem dX5_text_42 : decode cX5_text 42 = .ok (.invokevirtual 70, 3) := by decide +kernel
theorem dX5_text_45 : decode cX5_text 45 = .ok (.aload_n 0, 1) := by decide +kernel
theorem dX5_text_46 : decode cX5_text 46 = .ok (.getfield 139, 3) := by decide +kernel
theorem dX5_text_49 : decode cX5_text 49 = .ok (.iconst 1, 1) := by decide +kernel
theorem dX5_text_50 : decode cX5_text 50 = .ok (.isub, 1) := by decide +kernel
theorem dX5_text_51 : decode cX5_text 51 = .ok (.ireturn, 1) := by decide +kernel
theorem dX5_force_0 : decode cX5_force 0 = .ok (.iload_n 1, 1) := by decide +kernel
theorem dX5_force_1 : decode cX5_force 1 = .ok (.iconst 0, 1) := by decide +kernel
theorem dX5_force_2 : decode cX5_force 2 = .ok (.aload_n 0, 1) := by decide +kernel
theorem dX5_force_3 : decode cX5_force 3 = .ok (.getfield 139, 3) := by decide +kernel
theorem dX5_force_6 : decode cX5_force 6 = .ok (.iconst 1, 1) := by decide +kernel
theorem dX5_force_7 : decode cX5_force 7 = .ok (.isub, 1) := by decide +kernel
theorem dX5_force_8 : decode cX5_force 8 = .ok (.invokestatic 73, 3) := by decide +kernel
theorem dX5_force_11 : decode cX5_force 11 = .ok (.ifCond .ne 6, 3) := by decide +kernel
theorem dX5_force_14 : decode cX5_force 14 = .ok (.bipush (-2), 2) := by decide +kernel
theorem dX5_force_16 : decode cX5_force 16 = .ok (.ireturn, 1) := by decide +kernel
theorem dX5_force_17 : decode cX5_force 17 = .ok (.aload_n 0, 1) := by decide +kernel
theorem dX5_force_18 : decode cX5_force 18 = .ok (.getfield 142, 3) := by decide +kernel
theorem dX5_force_21 : decode cX5_force 21 = .ok (.istore_n 2, 1) := by decide +kernel
theorem dX5_force_22 : decode cX5_force 22 = .ok (.aload_n 0, 1) := by decide +kernel
theorem dX5_force_23 : decode cX5_force 23 = .ok (.iload_n 1, 1) := by decide +kernel
theorem dX5_force_24 : decode cX5_force 24 = .ok (.putfield 142, 3) := by decide +kernel
theorem dX5_force_27 : decode cX5_force 27 = .ok (.iload_n 2, 1) := by decide +kernel
theorem dX5_force_28 : decode cX5_force 28 = .ok (.ireturn, 1) := by decide +kernel
theorem dX5_day_0 : decode cX5_day 0 = .ok (.aload_n 0, 1) := by decide +kernel
theorem dX5_day_1 : decode cX5_day 1 = .ok (.getfield 83, 3) := by decide +kernel
theorem dX5_day_4 : decode cX5_day 4 = .ok (.sipush 999, 3) := by decide +kernel
theorem dX5_day_7 : decode cX5_day 7 = .ok (.if_icmp .lt 6, 3) := by decide +kernel
theorem dX5_day_10 : decode cX5_day 10 = .ok (.bipush (-3), 2) := by decide +kernel
theorem dX5_day_12 : decode cX5_day 12 = .ok (.ireturn, 1) := by decide +kernel
theorem dX5_day_13 : decode cX5_day 13 = .ok (.iconst 0, 1) := by decide +kernel
theorem dX5_day_14 : decode cX5_day 14 = .ok (.istore_n 1, 1) := by decide +kernel
theorem dX5_day_15 : decode cX5_day 15 = .ok (.iconst 0, 1) := by decide +kernel
theorem dX5_day_16 : decode cX5_day 16 = .ok (.istore_n 2, 1) := by decide +kernel
theorem dX5_day_17 : decode cX5_day 17 = .ok (.iload_n 2, 1) := by decide +kernel
theorem dX5_day_18 : decode cX5_day 18 = .ok (.aload_n 0, 1) := by decide +kernel
theorem dX5_day_19 : decode cX5_day 19 = .ok (.getfield 103, 3) := by decide +kernel
theorem dX5_day_22 : decode cX5_day 22 = .ok (.if_icmp .ge 40, 3) := by decide +kernel
theorem dX5_day_25 : decode cX5_day 25 = .ok (.aload_n 0, 1) := by decide +kernel
theorem dX5_day_26 : decode cX5_day 26 = .ok (.aload_n 0, 1) := by decide +kernel
theorem dX5_day_27 : decode cX5_day 27 = .ok (.getfield 11, 3) := by decide +kernel
theorem dX5_day_30 : decode cX5_day 30 = .ok (.iload_n 2, 1) := by decide +kernel
theorem dX5_day_31 : decode cX5_day 31 = .ok (.aaload, 1) := by decide +kernel
theorem dX5_day_32 : decode cX5_day 32 = .ok (.iconst 0, 1) := by decide +kernel
theorem dX5_day_33 : decode cX5_day 33 = .ok (.invokevirtual 128, 3) := by decide +kernel
theorem dX5_day_36 : decode cX5_day 36 = .ok (.ifCond .eq 20, 3) := by decide +kernel
theorem dX5_day_39 : decode cX5_day 39 = .ok (.aload_n 0, 1) := by decide +kernel
theorem dX5_day_40 : decode cX5_day 40 = .ok (.aload_n 0, 1) := by decide +kernel
theorem dX5_day_41 : decode cX5_day 41 = .ok (.getfield 11, 3) := by decide +kernel
theorem dX5_day_44 : decode cX5_day 44 = .ok (.iload_n 2, 1) := by decide +kernel
theorem dX5_day_45 : decode cX5_day 45 = .ok (.aaload, 1) := by decide +kernel
theorem dX5_day_46 : decode cX5_day 46 = .ok (.iconst 1, 1) := by decide +kernel
theorem dX5_day_47 : decode cX5_day 47 = .ok (.invokevirtual 128, 3) := by decide +kernel
theorem dX5_day_50 : decode cX5_day 50 = .ok (.ifCond .ne 6, 3) := by decide +kernel
theorem dX5_day_53 : decode cX5_day 53 = .ok (.iinc 1 1, 3) := by decide +kernel
theorem dX5_day_56 : decode cX5_day 56 = .ok (.iinc 2 1, 3) := by decide +kernel
theorem dX5_day_59 : decode cX5_day 59 = .ok (.goto (-42), 3) := by decide +kernel
theorem dX5_day_62 : decode cX5_day 62 = .ok (.iconst 0, 1) := by decide +kernel
theorem dX5_day_63 : decode cX5_day 63 = .ok (.istore_n 2, 1) := by decide +kernel
theorem dX5_day_64 : decode cX5_day 64 = .ok (.iload_n 2, 1) := by decide +kernel
theorem dX5_day_65 : decode cX5_day 65 = .ok (.aload_n 0, 1) := by decide +kernel
theorem dX5_day_66 : decode cX5_day 66 = .ok (.getfield 103, 3) := by decide +kernel
theorem dX5_day_69 : decode cX5_day 69 = .ok (.if_icmp .ge 28, 3) := by decide +kernel
theorem dX5_day_72 : decode cX5_day 72 = .ok (.aload_n 0, 1) := by decide +kernel
theorem dX5_day_73 : decode cX5_day 73 = .ok (.getfield 11, 3) := by decide +kernel
theorem dX5_day_76 : decode cX5_day 76 = .ok (.iload_n 2, 1) := by decide +kernel
theorem dX5_day_77 : decode cX5_day 77 = .ok (.aaload, 1) := by decide +kernel
theorem dX5_day_78 : decode cX5_day 78 = .ok (.aload_n 0, 1) := by decide +kernel
theorem dX5_day_79 : decode cX5_day 79 = .ok (.getfield 11, 3) := by decide +kernel
theorem dX5_day_82 : decode cX5_day 82 = .ok (.iload_n 2, 1) := by decide +kernel
theorem dX5_day_83 : decode cX5_day 83 = .ok (.aaload, 1) := by decide +kernel
theorem dX5_day_84 : decode cX5_day 84 = .ok (.iconst 1, 1) := by decide +kernel
theorem dX5_day_85 : decode cX5_day 85 = .ok (.invokevirtual 145, 3) := by decide +kernel
theorem dX5_day_88 : decode cX5_day 88 = .ok (.putfield 115, 3) := by decide +kernel
theorem dX5_day_91 : decode cX5_day 91 = .ok (.iinc 2 1, 3) := by decide +kernel
theorem dX5_day_94 : decode cX5_day 94 = .ok (.goto (-30), 3) := by decide +kernel
theorem dX5_day_97 : decode cX5_day 97 = .ok (.aload_n 0, 1) := by decide +kernel
theorem dX5_day_98 : decode cX5_day 98 = .ok (.dup, 1) := by decide +kernel
theorem dX5_day_99 : decode cX5_day 99 = .ok (.getfield 83, 3) := by decide +kernel
theorem dX5_day_102 : decode cX5_day 102 = .ok (.iconst 1, 1) := by decide +kernel
theorem dX5_day_103 : decode cX5_day 103 = .ok (.iadd, 1) := by decide +kernel
theorem dX5_day_104 : decode cX5_day 104 = .ok (.putfield 83, 3) := by decide +kernel
theorem dX5_day_107 : decode cX5_day 107 = .ok (.iload_n 1, 1) := by decide +kernel
theorem dX5_day_108 : decode cX5_day 108 = .ok (.ireturn, 1) := by decide +kernel
theorem dX5_pay_0 : decode cX5_pay 0 = .ok (.aload_n 0, 1) := by decide +kernel
theorem dX5_pay_1 : decode cX5_pay 1 = .ok (.iload_n 1, 1) := by decide +kernel
theorem dX5_pay_2 : decode cX5_pay 2 = .ok (.invokevirtual 87, 3) := by decide +kernel
theorem dX5_pay_5 : decode cX5_pay 5 = .ok (.ifCond .eq 11, 3) := by decide +kernel
theorem dX5_pay_8 : decode cX5_pay 8 = .ok (.iconst 5, 1) := by decide +kernel
theorem dX5_pay_9 : decode cX5_pay 9 = .ok (.iload_n 2, 1) := by decide +kernel
theorem dX5_pay_10 : decode cX5_pay 10 = .ok (.invokestatic 99, 3) := by decide +kernel
theorem dX5_pay_13 : decode cX5_pay 13 = .ok (.ifCond .ne 6, 3) := by decide +kernel
theorem dX5_pay_16 : decode cX5_pay 16 = .ok (.bipush (-2), 2) := by decide +kernel
theorem dX5_pay_18 : decode cX5_pay 18 = .ok (.ireturn, 1) := by decide +kernel
theorem dX5_pay_19 : decode cX5_pay 19 = .ok (.aload_n 0, 1) := by decide +kernel
theorem dX5_pay_20 : decode cX5_pay 20 = .ok (.getfield 11, 3) := by decide +kernel
theorem dX5_pay_23 : decode cX5_pay 23 = .ok (.iload_n 1, 1) := by decide +kernel
theorem dX5_pay_24 : decode cX5_pay 24 = .ok (.aaload, 1) := by decide +kernel
theorem dX5_pay_25 : decode cX5_pay 25 = .ok (.getfield 148, 3) := by decide +kernel
theorem dX5_pay_28 : decode cX5_pay 28 = .ok (.istore_n 3, 1) := by decide +kernel
theorem dX5_pay_29 : decode cX5_pay 29 = .ok (.aload_n 0, 1) := by decide +kernel
theorem dX5_pay_30 : decode cX5_pay 30 = .ok (.aload_n 0, 1) := by decide +kernel
theorem dX5_pay_31 : decode cX5_pay 31 = .ok (.getfield 11, 3) := by decide +kernel
theorem dX5_pay_34 : decode cX5_pay 34 = .ok (.iload_n 1, 1) := by decide +kernel
theorem dX5_pay_35 : decode cX5_pay 35 = .ok (.aaload, 1) := by decide +kernel
theorem dX5_pay_36 : decode cX5_pay 36 = .ok (.iconst 0, 1) := by decide +kernel
theorem dX5_pay_37 : decode cX5_pay 37 = .ok (.invokevirtual 128, 3) := by decide +kernel
theorem dX5_pay_40 : decode cX5_pay 40 = .ok (.ifCond .eq 8, 3) := by decide +kernel
theorem dX5_pay_43 : decode cX5_pay 43 = .ok (.iload_n 3, 1) := by decide +kernel
theorem dX5_pay_44 : decode cX5_pay 44 = .ok (.iload_n 2, 1) := by decide +kernel
theorem dX5_pay_45 : decode cX5_pay 45 = .ok (.if_icmp .ne 6, 3) := by decide +kernel
theorem dX5_pay_48 : decode cX5_pay 48 = .ok (.bipush (-3), 2) := by decide +kernel
theorem dX5_pay_50 : decode cX5_pay 50 = .ok (.ireturn, 1) := by decide +kernel
theorem dX5_pay_51 : decode cX5_pay 51 = .ok (.aload_n 0, 1) := by decide +kernel
theorem dX5_pay_52 : decode cX5_pay 52 = .ok (.getfield 11, 3) := by decide +kernel
theorem dX5_pay_55 : decode cX5_pay 55 = .ok (.iload_n 1, 1) := by decide +kernel
theorem dX5_pay_56 : decode cX5_pay 56 = .ok (.aaload, 1) := by decide +kernel
theorem dX5_pay_57 : decode cX5_pay 57 = .ok (.iload_n 2, 1) := by decide +kernel
theorem dX5_pay_58 : decode cX5_pay 58 = .ok (.invokevirtual 151, 3) := by decide +kernel
theorem dX5_pay_61 : decode cX5_pay 61 = .ok (.iload_n 3, 1) := by decide +kernel
theorem dX5_pay_62 : decode cX5_pay 62 = .ok (.ireturn, 1) := by decide +kernel
theorem dX5_buy_0 : decode cX5_buy 0 = .ok (.iload_n 1, 1) := by decide +kernel
theorem dX5_buy_1 : decode cX5_buy 1 = .ok (.iload_n 2, 1) := by decide +kernel
theorem dX5_buy_2 : decode cX5_buy 2 = .ok (.invokestatic 154, 3) := by decide +kernel
theorem dX5_buy_5 : decode cX5_buy 5 = .ok (.ifCond .eq 14, 3) := by decide +kernel
theorem dX5_buy_8 : decode cX5_buy 8 = .ok (.iload_n 3, 1) := by decide +kernel
theorem dX5_buy_9 : decode cX5_buy 9 = .ok (.iconst 0, 1) := by decide +kernel
theorem dX5_buy_10 : decode cX5_buy 10 = .ok (.sipush 999, 3) := by decide +kernel
theorem dX5_buy_13 : decode cX5_buy 13 = .ok (.invokestatic 73, 3) := by decide +kernel
theorem dX5_buy_16 : decode cX5_buy 16 = .ok (.ifCond .ne 6, 3) := by decide +kernel
theorem dX5_buy_19 : decode cX5_buy 19 = .ok (.bipush (-2), 2) := by decide +kernel
theorem dX5_buy_21 : decode cX5_buy 21 = .ok (.ireturn, 1) := by decide +kernel
theorem dX5_buy_22 : decode cX5_buy 22 = .ok (.aload_n 0, 1) := by decide +kernel
theorem dX5_buy_23 : decode cX5_buy 23 = .ok (.iload_n 1, 1) := by decide +kernel
theorem dX5_buy_24 : decode cX5_buy 24 = .ok (.iload_n 3, 1) := by decide +kernel
theorem dX5_buy_25 : decode cX5_buy 25 = .ok (.invokevirtual 157, 3) := by decide +kernel
theorem dX5_buy_28 : decode cX5_buy 28 = .ok (.istore 4, 2) := by decide +kernel
theorem dX5_buy_30 : decode cX5_buy 30 = .ok (.iload 4, 2) := by decide +kernel
theorem dX5_buy_32 : decode cX5_buy 32 = .ok (.iconst (-1), 1) := by decide +kernel
theorem dX5_buy_33 : decode cX5_buy 33 = .ok (.if_icmp .ne 6, 3) := by decide +kernel
theorem dX5_buy_36 : decode cX5_buy 36 = .ok (.bipush (-3), 2) := by decide +kernel
theorem dX5_buy_38 : decode cX5_buy 38 = .ok (.ireturn, 1) := by decide +kernel
theorem dX5_buy_39 : decode cX5_buy 39 = .ok (.iconst 0, 1) := by decide +kernel
theorem dX5_buy_40 : decode cX5_buy 40 = .ok (.istore 5, 2) := by decide +kernel
theorem dX5_buy_42 : decode cX5_buy 42 = .ok (.iload 5, 2) := by decide +kernel
theorem dX5_buy_44 : decode cX5_buy 44 = .ok (.aload_n 0, 1) := by decide +kernel
theorem dX5_buy_45 : decode cX5_buy 45 = .ok (.getfield 103, 3) := by decide +kernel
theorem dX5_buy_48 : decode cX5_buy 48 = .ok (.if_icmp .ge 30, 3) := by decide +kernel
theorem dX5_buy_51 : decode cX5_buy 51 = .ok (.iload 4, 2) := by decide +kernel
theorem dX5_buy_53 : decode cX5_buy 53 = .ok (.iload 5, 2) := by decide +kernel
theorem dX5_buy_55 : decode cX5_buy 55 = .ok (.invokestatic 161, 3) := by decide +kernel
theorem dX5_buy_58 : decode cX5_buy 58 = .ok (.ifCond .eq 14, 3) := by decide +kernel
theorem dX5_buy_61 : decode cX5_buy 61 = .ok (.aload_n 0, 1) := by decide +kernel
theorem dX5_buy_62 : decode cX5_buy 62 = .ok (.getfield 11, 3) := by decide +kernel
theorem dX5_buy_65 : decode cX5_buy 65 = .ok (.iload 5, 2) := by decide +kernel
theorem dX5_buy_67 : decode cX5_buy 67 = .ok (.aaload, 1) := by decide +kernel
theorem dX5_buy_68 : decode cX5_buy 68 = .ok (.iload_n 2, 1) := by decide +kernel
theorem dX5_buy_69 : decode cX5_buy 69 = .ok (.invokevirtual 151, 3) := by decide +kernel
theorem dX5_buy_72 : decode cX5_buy 72 = .ok (.iinc 5 1, 3) := by decide +kernel
theorem dX5_buy_75 : decode cX5_buy 75 = .ok (.goto (-33), 3) := by decide +kernel
theorem dX5_buy_78 : decode cX5_buy 78 = .ok (.iload 4, 2) := by decide +kernel
theorem dX5_buy_80 : decode cX5_buy 80 = .ok (.invokestatic 164, 3) := by decide +kernel
theorem dX5_buy_83 : decode cX5_buy 83 = .ok (.ireturn, 1) := by decide +kernel
theorem dX5_has_0 : decode cX5_has 0 = .ok (.iconst 5, 1) := by decide +kernel
theorem dX5_has_1 : decode cX5_has 1 = .ok (.iload_n 1, 1) := by decide +kernel
theorem dX5_has_2 : decode cX5_has 2 = .ok (.invokestatic 99, 3) := by decide +kernel
theorem dX5_has_5 : decode cX5_has 5 = .ok (.ifCond .ne 6, 3) := by decide +kernel
theorem dX5_has_8 : decode cX5_has 8 = .ok (.ldc 110, 2) := by decide +kernel
theorem dX5_has_10 : decode cX5_has 10 = .ok (.ireturn, 1) := by decide +kernel
