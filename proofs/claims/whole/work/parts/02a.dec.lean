theorem dX0_init_0 : decode cX0_init 0 = .ok (.aload_n 0, 1) := by decide +kernel
theorem dX0_init_1 : decode cX0_init 1 = .ok (.invokespecial 3, 3) := by decide +kernel
theorem dX0_init_4 : decode cX0_init 4 = .ok (.aload_n 0, 1) := by decide +kernel
theorem dX0_init_5 : decode cX0_init 5 = .ok (.bipush 80, 2) := by decide +kernel
theorem dX0_init_7 : decode cX0_init 7 = .ok (.newarray .int, 2) := by decide +kernel
theorem dX0_init_9 : decode cX0_init 9 = .ok (.putfield 9, 3) := by decide +kernel
theorem dX0_init_12 : decode cX0_init 12 = .ok (.aload_n 0, 1) := by decide +kernel
theorem dX0_init_13 : decode cX0_init 13 = .ok (.iconst (-1), 1) := by decide +kernel
theorem dX0_init_14 : decode cX0_init 14 = .ok (.putfield 15, 3) := by decide +kernel
theorem dX0_init_17 : decode cX0_init 17 = .ok (.aload_n 0, 1) := by decide +kernel
theorem dX0_init_18 : decode cX0_init 18 = .ok (.aload_n 1, 1) := by decide +kernel
theorem dX0_init_19 : decode cX0_init 19 = .ok (.putfield 19, 3) := by decide +kernel
theorem dX0_init_22 : decode cX0_init 22 = .ok (.aload_n 0, 1) := by decide +kernel
theorem dX0_init_23 : decode cX0_init 23 = .ok (.aload_n 2, 1) := by decide +kernel
theorem dX0_init_24 : decode cX0_init 24 = .ok (.putfield 23, 3) := by decide +kernel
theorem dX0_init_27 : decode cX0_init 27 = .ok (.return_, 1) := by decide +kernel
theorem dX0_find_0 : decode cX0_find 0 = .ok (.aload_n 0, 1) := by decide +kernel
theorem dX0_find_1 : decode cX0_find 1 = .ok (.getfield 15, 3) := by decide +kernel
theorem dX0_find_4 : decode cX0_find 4 = .ok (.aload_n 0, 1) := by decide +kernel
theorem dX0_find_5 : decode cX0_find 5 = .ok (.getfield 19, 3) := by decide +kernel
theorem dX0_find_8 : decode cX0_find 8 = .ok (.getfield 27, 3) := by decide +kernel
theorem dX0_find_11 : decode cX0_find 11 = .ok (.if_icmp .ne 4, 3) := by decide +kernel
theorem dX0_find_14 : decode cX0_find 14 = .ok (.return_, 1) := by decide +kernel
theorem dX0_find_15 : decode cX0_find 15 = .ok (.aload_n 0, 1) := by decide +kernel
theorem dX0_find_16 : decode cX0_find 16 = .ok (.aload_n 0, 1) := by decide +kernel
theorem dX0_find_17 : decode cX0_find 17 = .ok (.getfield 19, 3) := by decide +kernel
theorem dX0_find_20 : decode cX0_find 20 = .ok (.getfield 27, 3) := by decide +kernel
theorem dX0_find_23 : decode cX0_find 23 = .ok (.putfield 15, 3) := by decide +kernel
theorem dX0_find_26 : decode cX0_find 26 = .ok (.aload_n 0, 1) := by decide +kernel
theorem dX0_find_27 : decode cX0_find 27 = .ok (.getfield 23, 3) := by decide +kernel
theorem dX0_find_30 : decode cX0_find 30 = .ok (.iconst 2, 1) := by decide +kernel
theorem dX0_find_31 : decode cX0_find 31 = .ok (.iconst 3, 1) := by decide +kernel
theorem dX0_find_32 : decode cX0_find 32 = .ok (.invokevirtual 32, 3) := by decide +kernel
theorem dX0_find_35 : decode cX0_find 35 = .ok (.iconst 0, 1) := by decide +kernel
theorem dX0_find_36 : decode cX0_find 36 = .ok (.istore_n 1, 1) := by decide +kernel
theorem dX0_find_37 : decode cX0_find 37 = .ok (.iload_n 1, 1) := by decide +kernel
theorem dX0_find_38 : decode cX0_find 38 = .ok (.bipush 80, 2) := by decide +kernel
theorem dX0_find_40 : decode cX0_find 40 = .ok (.if_icmp .ge 16, 3) := by decide +kernel
theorem dX0_find_43 : decode cX0_find 43 = .ok (.aload_n 0, 1) := by decide +kernel
theorem dX0_find_44 : decode cX0_find 44 = .ok (.getfield 9, 3) := by decide +kernel
theorem dX0_find_47 : decode cX0_find 47 = .ok (.iload_n 1, 1) := by decide +kernel
theorem dX0_find_48 : decode cX0_find 48 = .ok (.iload_n 1, 1) := by decide +kernel
theorem dX0_find_49 : decode cX0_find 49 = .ok (.iastore, 1) := by decide +kernel
theorem dX0_find_50 : decode cX0_find 50 = .ok (.iinc 1 1, 3) := by decide +kernel
theorem dX0_find_53 : decode cX0_find 53 = .ok (.goto (-16), 3) := by decide +kernel
theorem dX0_find_56 : decode cX0_find 56 = .ok (.iconst 0, 1) := by decide +kernel
theorem dX0_find_57 : decode cX0_find 57 = .ok (.istore_n 1, 1) := by decide +kernel
theorem dX0_find_58 : decode cX0_find 58 = .ok (.iload_n 1, 1) := by decide +kernel
theorem dX0_find_59 : decode cX0_find 59 = .ok (.aload_n 0, 1) := by decide +kernel
theorem dX0_find_60 : decode cX0_find 60 = .ok (.getfield 19, 3) := by decide +kernel
theorem dX0_find_63 : decode cX0_find 63 = .ok (.getfield 38, 3) := by decide +kernel
theorem dX0_find_66 : decode cX0_find 66 = .ok (.if_icmp .ge 25, 3) := by decide +kernel
theorem dX0_find_69 : decode cX0_find 69 = .ok (.aload_n 0, 1) := by decide +kernel
theorem dX0_find_70 : decode cX0_find 70 = .ok (.getfield 23, 3) := by decide +kernel
theorem dX0_find_73 : decode cX0_find 73 = .ok (.iload_n 1, 1) := by decide +kernel
theorem dX0_find_74 : decode cX0_find 74 = .ok (.invokevirtual 41, 3) := by decide +kernel
theorem dX0_find_77 : decode cX0_find 77 = .ok (.ifCond .eq 8, 3) := by decide +kernel
theorem dX0_find_80 : decode cX0_find 80 = .ok (.aload_n 0, 1) := by decide +kernel
theorem dX0_find_81 : decode cX0_find 81 = .ok (.iload_n 1, 1) := by decide +kernel
theorem dX0_find_82 : decode cX0_find 82 = .ok (.invokevirtual 45, 3) := by decide +kernel
theorem dX0_find_85 : decode cX0_find 85 = .ok (.iinc 1 1, 3) := by decide +kernel
theorem dX0_find_88 : decode cX0_find 88 = .ok (.goto (-30), 3) := by decide +kernel
theorem dX0_find_91 : decode cX0_find 91 = .ok (.aload_n 0, 1) := by decide +kernel
theorem dX0_find_92 : decode cX0_find 92 = .ok (.aload_n 0, 1) := by decide +kernel
theorem dX0_find_93 : decode cX0_find 93 = .ok (.aload_n 0, 1) := by decide +kernel
theorem dX0_find_94 : decode cX0_find 94 = .ok (.getfield 19, 3) := by decide +kernel
theorem dX0_find_97 : decode cX0_find 97 = .ok (.getfield 38, 3) := by decide +kernel
theorem dX0_find_100 : decode cX0_find 100 = .ok (.invokevirtual 49, 3) := by decide +kernel
theorem dX0_find_103 : decode cX0_find 103 = .ok (.putfield 53, 3) := by decide +kernel
theorem dX0_find_106 : decode cX0_find 106 = .ok (.return_, 1) := by decide +kernel
theorem dX0_joinCircuit_0 : decode cX0_joinCircuit 0 = .ok (.iconst 0, 1) := by decide +kernel
theorem dX0_joinCircuit_1 : decode cX0_joinCircuit 1 = .ok (.istore_n 2, 1) := by decide +kernel
theorem dX0_joinCircuit_2 : decode cX0_joinCircuit 2 = .ok (.iload_n 2, 1) := by decide +kernel
theorem dX0_joinCircuit_3 : decode cX0_joinCircuit 3 = .ok (.aload_n 0, 1) := by decide +kernel
theorem dX0_joinCircuit_4 : decode cX0_joinCircuit 4 = .ok (.getfield 19, 3) := by decide +kernel
theorem dX0_joinCircuit_7 : decode cX0_joinCircuit 7 = .ok (.getfield 38, 3) := by decide +kernel
theorem dX0_joinCircuit_10 : decode cX0_joinCircuit 10 = .ok (.if_icmp .ge 52, 3) := by decide +kernel
theorem dX0_joinCircuit_13 : decode cX0_joinCircuit 13 = .ok (.aload_n 0, 1) := by decide +kernel
theorem dX0_joinCircuit_14 : decode cX0_joinCircuit 14 = .ok (.getfield 9, 3) := by decide +kernel
theorem dX0_joinCircuit_17 : decode cX0_joinCircuit 17 = .ok (.iload_n 2, 1) := by decide +kernel
theorem dX0_joinCircuit_18 : decode cX0_joinCircuit 18 = .ok (.iaload, 1) := by decide +kernel
theorem dX0_joinCircuit_19 : decode cX0_joinCircuit 19 = .ok (.aload_n 0, 1) := by decide +kernel
theorem dX0_joinCircuit_20 : decode cX0_joinCircuit 20 = .ok (.getfield 9, 3) := by decide +kernel
theorem dX0_joinCircuit_23 : decode cX0_joinCircuit 23 = .ok (.iload_n 1, 1) := by decide +kernel
theorem dX0_joinCircuit_24 : decode cX0_joinCircuit 24 = .ok (.iaload, 1) := by decide +kernel
theorem dX0_joinCircuit_25 : decode cX0_joinCircuit 25 = .ok (.if_icmp .eq 31, 3) := by decide +kernel
theorem dX0_joinCircuit_28 : decode cX0_joinCircuit 28 = .ok (.aload_n 0, 1) := by decide +kernel
theorem dX0_joinCircuit_29 : decode cX0_joinCircuit 29 = .ok (.getfield 23, 3) := by decide +kernel
theorem dX0_joinCircuit_32 : decode cX0_joinCircuit 32 = .ok (.iload_n 2, 1) := by decide +kernel
theorem dX0_joinCircuit_33 : decode cX0_joinCircuit 33 = .ok (.iload_n 1, 1) := by decide +kernel
theorem dX0_joinCircuit_34 : decode cX0_joinCircuit 34 = .ok (.invokevirtual 56, 3) := by decide +kernel
theorem dX0_joinCircuit_37 : decode cX0_joinCircuit 37 = .ok (.ifCond .eq 19, 3) := by decide +kernel
theorem dX0_joinCircuit_40 : decode cX0_joinCircuit 40 = .ok (.aload_n 0, 1) := by decide +kernel
theorem dX0_joinCircuit_41 : decode cX0_joinCircuit 41 = .ok (.aload_n 0, 1) := by decide +kernel
theorem dX0_joinCircuit_42 : decode cX0_joinCircuit 42 = .ok (.getfield 9, 3) := by decide +kernel
theorem dX0_joinCircuit_45 : decode cX0_joinCircuit 45 = .ok (.iload_n 2, 1) := by decide +kernel
theorem dX0_joinCircuit_46 : decode cX0_joinCircuit 46 = .ok (.iaload, 1) := by decide +kernel
theorem dX0_joinCircuit_47 : decode cX0_joinCircuit 47 = .ok (.aload_n 0, 1) := by decide +kernel
theorem dX0_joinCircuit_48 : decode cX0_joinCircuit 48 = .ok (.getfield 9, 3) := by decide +kernel
theorem dX0_joinCircuit_51 : decode cX0_joinCircuit 51 = .ok (.iload_n 1, 1) := by decide +kernel
theorem dX0_joinCircuit_52 : decode cX0_joinCircuit 52 = .ok (.iaload, 1) := by decide +kernel
theorem dX0_joinCircuit_53 : decode cX0_joinCircuit 53 = .ok (.invokevirtual 60, 3) := by decide +kernel
theorem dX0_joinCircuit_56 : decode cX0_joinCircuit 56 = .ok (.iinc 2 1, 3) := by decide +kernel
theorem dX0_joinCircuit_59 : decode cX0_joinCircuit 59 = .ok (.goto (-57), 3) := by decide +kernel
theorem dX0_joinCircuit_62 : decode cX0_joinCircuit 62 = .ok (.return_, 1) := by decide +kernel
theorem dX0_join_0 : decode cX0_join 0 = .ok (.iload_n 1, 1) := by decide +kernel
theorem dX0_join_1 : decode cX0_join 1 = .ok (.iload_n 2, 1) := by decide +kernel
theorem dX0_join_2 : decode cX0_join 2 = .ok (.invokestatic 63, 3) := by decide +kernel
theorem dX0_join_5 : decode cX0_join 5 = .ok (.istore_n 3, 1) := by decide +kernel
theorem dX0_join_6 : decode cX0_join 6 = .ok (.iload_n 1, 1) := by decide +kernel
theorem dX0_join_7 : decode cX0_join 7 = .ok (.iload_n 2, 1) := by decide +kernel
theorem dX0_join_8 : decode cX0_join 8 = .ok (.invokestatic 69, 3) := by decide +kernel
theorem dX0_join_11 : decode cX0_join 11 = .ok (.istore 4, 2) := by decide +kernel
theorem dX0_join_13 : decode cX0_join 13 = .ok (.iconst 0, 1) := by decide +kernel
theorem dX0_join_14 : decode cX0_join 14 = .ok (.istore 5, 2) := by decide +kernel
theorem dX0_join_16 : decode cX0_join 16 = .ok (.iload 5, 2) := by decide +kernel
theorem dX0_join_18 : decode cX0_join 18 = .ok (.aload_n 0, 1) := by decide +kernel
theorem dX0_join_19 : decode cX0_join 19 = .ok (.getfield 19, 3) := by decide +kernel
theorem dX0_join_22 : decode cX0_join 22 = .ok (.getfield 38, 3) := by decide +kernel
theorem dX0_join_25 : decode cX0_join 25 = .ok (.if_icmp .ge 29, 3) := by decide +kernel
theorem dX0_join_28 : decode cX0_join 28 = .ok (.aload_n 0, 1) := by decide +kernel
theorem dX0_join_29 : decode cX0_join 29 = .ok (.getfield 9, 3) := by decide +kernel
theorem dX0_join_32 : decode cX0_join 32 = .ok (.iload 5, 2) := by decide +kernel
theorem dX0_join_34 : decode cX0_join 34 = .ok (.iaload, 1) := by decide +kernel
theorem dX0_join_35 : decode cX0_join 35 = .ok (.iload 4, 2) := by decide +kernel
theorem dX0_join_37 : decode cX0_join 37 = .ok (.if_icmp .ne 11, 3) := by decide +kernel
theorem dX0_join_40 : decode cX0_join 40 = .ok (.aload_n 0, 1) := by decide +kernel
theorem dX0_join_41 : decode cX0_join 41 = .ok (.getfield 9, 3) := by decide +kernel
theorem dX0_join_44 : decode cX0_join 44 = .ok (.iload 5, 2) := by decide +kernel
theorem dX0_join_46 : decode cX0_join 46 = .ok (.iload_n 3, 1) := by decide +kernel
theorem dX0_join_47 : decode cX0_join 47 = .ok (.iastore, 1) := by decide +kernel
theorem dX0_join_48 : decode cX0_join 48 = .ok (.iinc 5 1, 3) := by decide +kernel
theorem dX0_join_51 : decode cX0_join 51 = .ok (.goto (-35), 3) := by decide +kernel
theorem dX0_join_54 : decode cX0_join 54 = .ok (.return_, 1) := by decide +kernel
theorem dX0_numberOf_0 : decode cX0_numberOf 0 = .ok (.aload_n 0, 1) := by decide +kernel
theorem dX0_numberOf_1 : decode cX0_numberOf 1 = .ok (.aload_n 0, 1) := by decide +kernel
theorem dX0_numberOf_2 : decode cX0_numberOf 2 = .ok (.getfield 9, 3) := by decide +kernel
theorem dX0_numberOf_5 : decode cX0_numberOf 5 = .ok (.iload_n 1, 1) := by decide +kernel
theorem dX0_numberOf_6 : decode cX0_numberOf 6 = .ok (.iaload, 1) := by decide +kernel
theorem dX0_numberOf_7 : decode cX0_numberOf 7 = .ok (.invokevirtual 49, 3) := by decide +kernel
theorem dX0_numberOf_10 : decode cX0_numberOf 10 = .ok (.ireturn, 1) := by decide +kernel
theorem dX0_headsBelow_0 : decode cX0_headsBelow 0 = .ok (.iconst 0, 1) := by decide +kernel
theorem dX0_headsBelow_1 : decode cX0_headsBelow 1 = .ok (.istore_n 2, 1) := by decide +kernel
theorem dX0_headsBelow_2 : decode cX0_headsBelow 2 = .ok (.iconst 0, 1) := by decide +kernel
theorem dX0_headsBelow_3 : decode cX0_headsBelow 3 = .ok (.istore_n 3, 1) := by decide +kernel
theorem dX0_headsBelow_4 : decode cX0_headsBelow 4 = .ok (.iload_n 3, 1) := by decide +kernel
theorem dX0_headsBelow_5 : decode cX0_headsBelow 5 = .ok (.iload_n 1, 1) := by decide +kernel
theorem dX0_headsBelow_6 : decode cX0_headsBelow 6 = .ok (.if_icmp .ge 34, 3) := by decide +kernel
theorem dX0_headsBelow_9 : decode cX0_headsBelow 9 = .ok (.aload_n 0, 1) := by decide +kernel
theorem dX0_headsBelow_10 : decode cX0_headsBelow 10 = .ok (.getfield 19, 3) := by decide +kernel
theorem dX0_headsBelow_13 : decode cX0_headsBelow 13 = .ok (.getfield 72, 3) := by decide +kernel
theorem dX0_headsBelow_16 : decode cX0_headsBelow 16 = .ok (.iload_n 3, 1) := by decide +kernel
theorem dX0_headsBelow_17 : decode cX0_headsBelow 17 = .ok (.baload, 1) := by decide +kernel
theorem dX0_headsBelow_18 : decode cX0_headsBelow 18 = .ok (.ifCond .eq 16, 3) := by decide +kernel
theorem dX0_headsBelow_21 : decode cX0_headsBelow 21 = .ok (.aload_n 0, 1) := by decide +kernel
theorem dX0_headsBelow_22 : decode cX0_headsBelow 22 = .ok (.getfield 9, 3) := by decide +kernel
theorem dX0_headsBelow_25 : decode cX0_headsBelow 25 = .ok (.iload_n 3, 1) := by decide +kernel
theorem dX0_headsBelow_26 : decode cX0_headsBelow 26 = .ok (.iaload, 1) := by decide +kernel
theorem dX0_headsBelow_27 : decode cX0_headsBelow 27 = .ok (.iload_n 3, 1) := by decide +kernel
theorem dX0_headsBelow_28 : decode cX0_headsBelow 28 = .ok (.if_icmp .ne 6, 3) := by decide +kernel
theorem dX0_headsBelow_31 : decode cX0_headsBelow 31 = .ok (.iinc 2 1, 3) := by decide +kernel
theorem dX0_headsBelow_34 : decode cX0_headsBelow 34 = .ok (.iinc 3 1, 3) := by decide +kernel
theorem dX0_headsBelow_37 : decode cX0_headsBelow 37 = .ok (.goto (-33), 3) := by decide +kernel
theorem dX0_headsBelow_40 : decode cX0_headsBelow 40 = .ok (.iload_n 2, 1) := by decide +kernel
theorem dX0_headsBelow_41 : decode cX0_headsBelow 41 = .ok (.ireturn, 1) := by decide +kernel
theorem dX1_init_0 : decode cX1_init 0 = .ok (.aload_n 0, 1) := by decide +kernel
theorem dX1_init_1 : decode cX1_init 1 = .ok (.invokespecial 3, 3) := by decide +kernel
theorem dX1_init_4 : decode cX1_init 4 = .ok (.aload_n 0, 1) := by decide +kernel
theorem dX1_init_5 : decode cX1_init 5 = .ok (.bipush 24, 2) := by decide +kernel
theorem dX1_init_7 : decode cX1_init 7 = .ok (.newarray .int, 2) := by decide +kernel
theorem dX1_init_9 : decode cX1_init 9 = .ok (.putfield 9, 3) := by decide +kernel
theorem dX1_init_12 : decode cX1_init 12 = .ok (.aload_n 0, 1) := by decide +kernel
theorem dX1_init_13 : decode cX1_init 13 = .ok (.sipush 276, 3) := by decide +kernel
theorem dX1_init_16 : decode cX1_init 16 = .ok (.newarray .int, 2) := by decide +kernel
theorem dX1_init_18 : decode cX1_init 18 = .ok (.putfield 15, 3) := by decide +kernel
theorem dX1_init_21 : decode cX1_init 21 = .ok (.aload_n 0, 1) := by decide +kernel
theorem dX1_init_22 : decode cX1_init 22 = .ok (.iconst (-1), 1) := by decide +kernel
theorem dX1_init_23 : decode cX1_init 23 = .ok (.putfield 18, 3) := by decide +kernel
theorem dX1_init_26 : decode cX1_init 26 = .ok (.aload_n 0, 1) := by decide +kernel
theorem dX1_init_27 : decode cX1_init 27 = .ok (.aload_n 1, 1) := by decide +kernel
theorem dX1_init_28 : decode cX1_init 28 = .ok (.putfield 22, 3) := by decide +kernel
theorem dX1_init_31 : decode cX1_init 31 = .ok (.aload_n 0, 1) := by decide +kernel
theorem dX1_init_32 : decode cX1_init 32 = .ok (.aload_n 2, 1) := by decide +kernel
theorem dX1_init_33 : decode cX1_init 33 = .ok (.putfield 26, 3) := by decide +kernel
theorem dX1_init_36 : decode cX1_init 36 = .ok (.return_, 1) := by decide +kernel
theorem dX1_find_0 : decode cX1_find 0 = .ok (.aload_n 0, 1) := by decide +kernel
theorem dX1_find_1 : decode cX1_find 1 = .ok (.getfield 18, 3) := by decide +kernel
theorem dX1_find_4 : decode cX1_find 4 = .ok (.aload_n 0, 1) := by decide +kernel
theorem dX1_find_5 : decode cX1_find 5 = .ok (.getfield 22, 3) := by decide +kernel
theorem dX1_find_8 : decode cX1_find 8 = .ok (.getfield 30, 3) := by decide +kernel
theorem dX1_find_11 : decode cX1_find 11 = .ok (.if_icmp .ne 4, 3) := by decide +kernel
theorem dX1_find_14 : decode cX1_find 14 = .ok (.return_, 1) := by decide +kernel
theorem dX1_find_15 : decode cX1_find 15 = .ok (.aload_n 0, 1) := by decide +kernel
theorem dX1_find_16 : decode cX1_find 16 = .ok (.aload_n 0, 1) := by decide +kernel
theorem dX1_find_17 : decode cX1_find 17 = .ok (.getfield 22, 3) := by decide +kernel
theorem dX1_find_20 : decode cX1_find 20 = .ok (.getfield 30, 3) := by decide +kernel
theorem dX1_find_23 : decode cX1_find 23 = .ok (.putfield 18, 3) := by decide +kernel
theorem dX1_find_26 : decode cX1_find 26 = .ok (.aload_n 0, 1) := by decide +kernel
theorem dX1_find_27 : decode cX1_find 27 = .ok (.getfield 26, 3) := by decide +kernel
theorem dX1_find_30 : decode cX1_find 30 = .ok (.iconst 2, 1) := by decide +kernel
theorem dX1_find_31 : decode cX1_find 31 = .ok (.iconst 3, 1) := by decide +kernel
theorem dX1_find_32 : decode cX1_find 32 = .ok (.invokevirtual 35, 3) := by decide +kernel
theorem dX1_find_35 : decode cX1_find 35 = .ok (.aload_n 0, 1) := by decide +kernel
theorem dX1_find_36 : decode cX1_find 36 = .ok (.invokevirtual 41, 3) := by decide +kernel
theorem dX1_find_39 : decode cX1_find 39 = .ok (.aload_n 0, 1) := by decide +kernel
theorem dX1_find_40 : decode cX1_find 40 = .ok (.iconst 0, 1) := by decide +kernel
theorem dX1_find_41 : decode cX1_find 41 = .ok (.putfield 44, 3) := by decide +kernel
theorem dX1_find_44 : decode cX1_find 44 = .ok (.iconst 0, 1) := by decide +kernel
theorem dX1_find_45 : decode cX1_find 45 = .ok (.istore_n 1, 1) := by decide +kernel
theorem dX1_find_46 : decode cX1_find 46 = .ok (.iload_n 1, 1) := by decide +kernel
theorem dX1_find_47 : decode cX1_find 47 = .ok (.aload_n 0, 1) := by decide +kernel
theorem dX1_find_48 : decode cX1_find 48 = .ok (.getfield 22, 3) := by decide +kernel
theorem dX1_find_51 : decode cX1_find 51 = .ok (.getfield 47, 3) := by decide +kernel
theorem dX1_find_54 : decode cX1_find 54 = .ok (.if_icmp .ge 36, 3) := by decide +kernel
theorem dX1_find_57 : decode cX1_find 57 = .ok (.iload_n 1, 1) := by decide +kernel
theorem dX1_find_58 : decode cX1_find 58 = .ok (.iconst 1, 1) := by decide +kernel
theorem dX1_find_59 : decode cX1_find 59 = .ok (.iadd, 1) := by decide +kernel
theorem dX1_find_60 : decode cX1_find 60 = .ok (.istore_n 2, 1) := by decide +kernel
theorem dX1_find_61 : decode cX1_find 61 = .ok (.iload_n 2, 1) := by decide +kernel
theorem dX1_find_62 : decode cX1_find 62 = .ok (.aload_n 0, 1) := by decide +kernel
theorem dX1_find_63 : decode cX1_find 63 = .ok (.getfield 22, 3) := by decide +kernel
theorem dX1_find_66 : decode cX1_find 66 = .ok (.getfield 47, 3) := by decide +kernel
theorem dX1_find_69 : decode cX1_find 69 = .ok (.if_icmp .ge 15, 3) := by decide +kernel
theorem dX1_find_72 : decode cX1_find 72 = .ok (.aload_n 0, 1) := by decide +kernel
theorem dX1_find_73 : decode cX1_find 73 = .ok (.iload_n 1, 1) := by decide +kernel
theorem dX1_find_74 : decode cX1_find 74 = .ok (.iload_n 2, 1) := by decide +kernel
theorem dX1_find_75 : decode cX1_find 75 = .ok (.invokevirtual 49, 3) := by decide +kernel
theorem dX1_find_78 : decode cX1_find 78 = .ok (.iinc 2 1, 3) := by decide +kernel
theorem dX1_find_81 : decode cX1_find 81 = .ok (.goto (-20), 3) := by decide +kernel
theorem dX1_find_84 : decode cX1_find 84 = .ok (.iinc 1 1, 3) := by decide +kernel
theorem dX1_find_87 : decode cX1_find 87 = .ok (.goto (-41), 3) := by decide +kernel
theorem dX1_find_90 : decode cX1_find 90 = .ok (.return_, 1) := by decide +kernel
theorem dX1_findClose_0 : decode cX1_findClose 0 = .ok (.iconst 0, 1) := by decide +kernel
theorem dX1_findClose_1 : decode cX1_findClose 1 = .ok (.istore_n 1, 1) := by decide +kernel
theorem dX1_findClose_2 : decode cX1_findClose 2 = .ok (.iload_n 1, 1) := by decide +kernel
theorem dX1_findClose_3 : decode cX1_findClose 3 = .ok (.bipush 24, 2) := by decide +kernel
theorem dX1_findClose_5 : decode cX1_findClose 5 = .ok (.if_icmp .ge 18, 3) := by decide +kernel
theorem dX1_findClose_8 : decode cX1_findClose 8 = .ok (.aload_n 0, 1) := by decide +kernel
theorem dX1_findClose_9 : decode cX1_findClose 9 = .ok (.getfield 9, 3) := by decide +kernel
theorem dX1_findClose_12 : decode cX1_findClose 12 = .ok (.iload_n 1, 1) := by decide +kernel
theorem dX1_findClose_13 : decode cX1_findClose 13 = .ok (.iconst 1, 1) := by decide +kernel
theorem dX1_findClose_14 : decode cX1_findClose 14 = .ok (.iload_n 1, 1) := by decide +kernel
theorem dX1_findClose_15 : decode cX1_findClose 15 = .ok (.ishl, 1) := by decide +kernel
theorem dX1_findClose_16 : decode cX1_findClose 16 = .ok (.iastore, 1) := by decide +kernel
theorem dX1_findClose_17 : decode cX1_findClose 17 = .ok (.iinc 1 1, 3) := by decide +kernel
theorem dX1_findClose_20 : decode cX1_findClose 20 = .ok (.goto (-18), 3) := by decide +kernel
theorem dX1_findClose_23 : decode cX1_findClose 23 = .ok (.iconst 0, 1) := by decide +kernel
theorem dX1_findClose_24 : decode cX1_findClose 24 = .ok (.istore_n 1, 1) := by decide +kernel
theorem dX1_findClose_25 : decode cX1_findClose 25 = .ok (.iload_n 1, 1) := by decide +kernel
theorem dX1_findClose_26 : decode cX1_findClose 26 = .ok (.aload_n 0, 1) := by decide +kernel
theorem dX1_findClose_27 : decode cX1_findClose 27 = .ok (.getfield 22, 3) := by decide +kernel
theorem dX1_findClose_30 : decode cX1_findClose 30 = .ok (.getfield 47, 3) := by decide +kernel
theorem dX1_findClose_33 : decode cX1_findClose 33 = .ok (.if_icmp .ge 74, 3) := by decide +kernel
theorem dX1_findClose_36 : decode cX1_findClose 36 = .ok (.iload_n 1, 1) := by decide +kernel
theorem dX1_findClose_37 : decode cX1_findClose 37 = .ok (.iconst 1, 1) := by decide +kernel
theorem dX1_findClose_38 : decode cX1_findClose 38 = .ok (.iadd, 1) := by decide +kernel
theorem dX1_findClose_39 : decode cX1_findClose 39 = .ok (.istore_n 2, 1) := by decide +kernel
theorem dX1_findClose_40 : decode cX1_findClose 40 = .ok (.iload_n 2, 1) := by decide +kernel
theorem dX1_findClose_41 : decode cX1_findClose 41 = .ok (.aload_n 0, 1) := by decide +kernel
theorem dX1_findClose_42 : decode cX1_findClose 42 = .ok (.getfield 22, 3) := by decide +kernel
theorem dX1_findClose_45 : decode cX1_findClose 45 = .ok (.getfield 47, 3) := by decide +kernel
theorem dX1_findClose_48 : decode cX1_findClose 48 = .ok (.if_icmp .ge 53, 3) := by decide +kernel
theorem dX1_findClose_51 : decode cX1_findClose 51 = .ok (.aload_n 0, 1) := by decide +kernel
theorem dX1_findClose_52 : decode cX1_findClose 52 = .ok (.getfield 9, 3) := by decide +kernel
theorem dX1_findClose_55 : decode cX1_findClose 55 = .ok (.iload_n 1, 1) := by decide +kernel
theorem dX1_findClose_56 : decode cX1_findClose 56 = .ok (.iaload, 1) := by decide +kernel
theorem dX1_findClose_57 : decode cX1_findClose 57 = .ok (.iload_n 2, 1) := by decide +kernel
theorem dX1_findClose_58 : decode cX1_findClose 58 = .ok (.invokestatic 52, 3) := by decide +kernel
theorem dX1_findClose_61 : decode cX1_findClose 61 = .ok (.ifCond .ne 34, 3) := by decide +kernel
theorem dX1_findClose_64 : decode cX1_findClose 64 = .ok (.aload_n 0, 1) := by decide +kernel
theorem dX1_findClose_65 : decode cX1_findClose 65 = .ok (.getfield 26, 3) := by decide +kernel
theorem dX1_findClose_68 : decode cX1_findClose 68 = .ok (.getfield 56, 3) := by decide +kernel
theorem dX1_findClose_71 : decode cX1_findClose 71 = .ok (.iload_n 1, 1) := by decide +kernel
theorem dX1_findClose_72 : decode cX1_findClose 72 = .ok (.iload_n 2, 1) := by decide +kernel
theorem dX1_findClose_73 : decode cX1_findClose 73 = .ok (.invokevirtual 60, 3) := by decide +kernel
theorem dX1_findClose_76 : decode cX1_findClose 76 = .ok (.ifCond .ne 19, 3) := by decide +kernel
theorem dX1_findClose_79 : decode cX1_findClose 79 = .ok (.aload_n 0, 1) := by decide +kernel
theorem dX1_findClose_80 : decode cX1_findClose 80 = .ok (.aload_n 0, 1) := by decide +kernel
theorem dX1_findClose_81 : decode cX1_findClose 81 = .ok (.getfield 26, 3) := by decide +kernel
theorem dX1_findClose_84 : decode cX1_findClose 84 = .ok (.getfield 56, 3) := by decide +kernel
theorem dX1_findClose_87 : decode cX1_findClose 87 = .ok (.iload_n 1, 1) := by decide +kernel
theorem dX1_findClose_88 : decode cX1_findClose 88 = .ok (.iload_n 2, 1) := by decide +kernel
theorem dX1_findClose_89 : decode cX1_findClose 89 = .ok (.invokevirtual 65, 3) := by decide +kernel
theorem dX1_findClose_92 : decode cX1_findClose 92 = .ok (.invokevirtual 69, 3) := by decide +kernel
theorem dX1_findClose_95 : decode cX1_findClose 95 = .ok (.iinc 2 1, 3) := by decide +kernel
theorem dX1_findClose_98 : decode cX1_findClose 98 = .ok (.goto (-58), 3) := by decide +kernel
theorem dX1_findClose_101 : decode cX1_findClose 101 = .ok (.iinc 1 1, 3) := by decide +kernel
theorem dX1_findClose_104 : decode cX1_findClose 104 = .ok (.goto (-79), 3) := by decide +kernel
theorem dX1_findClose_107 : decode cX1_findClose 107 = .ok (.return_, 1) := by decide +kernel
theorem dX1_bind_0 : decode cX1_bind 0 = .ok (.iconst 0, 1) := by decide +kernel
theorem dX1_bind_1 : decode cX1_bind 1 = .ok (.istore_n 2, 1) := by decide +kernel
theorem dX1_bind_2 : decode cX1_bind 2 = .ok (.iload_n 2, 1) := by decide +kernel
theorem dX1_bind_3 : decode cX1_bind 3 = .ok (.aload_n 0, 1) := by decide +kernel
theorem dX1_bind_4 : decode cX1_bind 4 = .ok (.getfield 22, 3) := by decide +kernel
theorem dX1_bind_7 : decode cX1_bind 7 = .ok (.getfield 47, 3) := by decide +kernel
theorem dX1_bind_10 : decode cX1_bind 10 = .ok (.if_icmp .ge 27, 3) := by decide +kernel
theorem dX1_bind_13 : decode cX1_bind 13 = .ok (.iload_n 1, 1) := by decide +kernel
theorem dX1_bind_14 : decode cX1_bind 14 = .ok (.iload_n 2, 1) := by decide +kernel
theorem dX1_bind_15 : decode cX1_bind 15 = .ok (.invokestatic 52, 3) := by decide +kernel
theorem dX1_bind_18 : decode cX1_bind 18 = .ok (.ifCond .eq 13, 3) := by decide +kernel
theorem dX1_bind_21 : decode cX1_bind 21 = .ok (.aload_n 0, 1) := by decide +kernel
theorem dX1_bind_22 : decode cX1_bind 22 = .ok (.getfield 9, 3) := by decide +kernel
theorem dX1_bind_25 : decode cX1_bind 25 = .ok (.iload_n 2, 1) := by decide +kernel
theorem dX1_bind_26 : decode cX1_bind 26 = .ok (.dup2, 1) := by decide +kernel
theorem dX1_bind_27 : decode cX1_bind 27 = .ok (.iaload, 1) := by decide +kernel
theorem dX1_bind_28 : decode cX1_bind 28 = .ok (.iload_n 1, 1) := by decide +kernel
theorem dX1_bind_29 : decode cX1_bind 29 = .ok (.ior, 1) := by decide +kernel
theorem dX1_bind_30 : decode cX1_bind 30 = .ok (.iastore, 1) := by decide +kernel
theorem dX1_bind_31 : decode cX1_bind 31 = .ok (.iinc 2 1, 3) := by decide +kernel
theorem dX1_bind_34 : decode cX1_bind 34 = .ok (.goto (-32), 3) := by decide +kernel
theorem dX1_bind_37 : decode cX1_bind 37 = .ok (.return_, 1) := by decide +kernel
theorem dX1_addIfFirstPair_0 : decode cX1_addIfFirstPair 0 = .ok (.aload_n 0, 1) := by decide +kernel
theorem dX1_addIfFirstPair_1 : decode cX1_addIfFirstPair 1 = .ok (.getfield 9, 3) := by decide +kernel
theorem dX1_addIfFirstPair_4 : decode cX1_addIfFirstPair 4 = .ok (.iload_n 1, 1) := by decide +kernel
theorem dX1_addIfFirstPair_5 : decode cX1_addIfFirstPair 5 = .ok (.iaload, 1) := by decide +kernel
theorem dX1_addIfFirstPair_6 : decode cX1_addIfFirstPair 6 = .ok (.aload_n 0, 1) := by decide +kernel
theorem dX1_addIfFirstPair_7 : decode cX1_addIfFirstPair 7 = .ok (.getfield 9, 3) := by decide +kernel
theorem dX1_addIfFirstPair_10 : decode cX1_addIfFirstPair 10 = .ok (.iload_n 2, 1) := by decide +kernel
theorem dX1_addIfFirstPair_11 : decode cX1_addIfFirstPair 11 = .ok (.iaload, 1) := by decide +kernel
theorem dX1_addIfFirstPair_12 : decode cX1_addIfFirstPair 12 = .ok (.iand, 1) := by decide +kernel
theorem dX1_addIfFirstPair_13 : decode cX1_addIfFirstPair 13 = .ok (.istore_n 3, 1) := by decide +kernel
theorem dX1_addIfFirstPair_14 : decode cX1_addIfFirstPair 14 = .ok (.iload_n 3, 1) := by decide +kernel
theorem dX1_addIfFirstPair_15 : decode cX1_addIfFirstPair 15 = .ok (.iconst 1, 1) := by decide +kernel
theorem dX1_addIfFirstPair_16 : decode cX1_addIfFirstPair 16 = .ok (.iload_n 2, 1) := by decide +kernel
theorem dX1_addIfFirstPair_17 : decode cX1_addIfFirstPair 17 = .ok (.ishl, 1) := by decide +kernel
theorem dX1_addIfFirstPair_18 : decode cX1_addIfFirstPair 18 = .ok (.iconst 1, 1) := by decide +kernel
theorem dX1_addIfFirstPair_19 : decode cX1_addIfFirstPair 19 = .ok (.isub, 1) := by decide +kernel
theorem dX1_addIfFirstPair_20 : decode cX1_addIfFirstPair 20 = .ok (.iand, 1) := by decide +kernel
theorem dX1_addIfFirstPair_21 : decode cX1_addIfFirstPair 21 = .ok (.istore 4, 2) := by decide +kernel
theorem dX1_addIfFirstPair_23 : decode cX1_addIfFirstPair 23 = .ok (.iload_n 3, 1) := by decide +kernel
theorem dX1_addIfFirstPair_24 : decode cX1_addIfFirstPair 24 = .ok (.iload_n 2, 1) := by decide +kernel
theorem dX1_addIfFirstPair_25 : decode cX1_addIfFirstPair 25 = .ok (.invokestatic 52, 3) := by decide +kernel
theorem dX1_addIfFirstPair_28 : decode cX1_addIfFirstPair 28 = .ok (.ifCond .eq 41, 3) := by decide +kernel
theorem dX1_addIfFirstPair_31 : decode cX1_addIfFirstPair 31 = .ok (.iload 4, 2) := by decide +kernel
theorem dX1_addIfFirstPair_33 : decode cX1_addIfFirstPair 33 = .ok (.iconst 1, 1) := by decide +kernel
theorem dX1_addIfFirstPair_34 : decode cX1_addIfFirstPair 34 = .ok (.iload_n 1, 1) := by decide +kernel
theorem dX1_addIfFirstPair_35 : decode cX1_addIfFirstPair 35 = .ok (.ishl, 1) := by decide +kernel
theorem dX1_addIfFirstPair_36 : decode cX1_addIfFirstPair 36 = .ok (.if_icmp .ne 33, 3) := by decide +kernel
theorem dX1_addIfFirstPair_39 : decode cX1_addIfFirstPair 39 = .ok (.aload_n 0, 1) := by decide +kernel
theorem dX1_addIfFirstPair_40 : decode cX1_addIfFirstPair 40 = .ok (.getfield 44, 3) := by decide +kernel
theorem dX1_addIfFirstPair_43 : decode cX1_addIfFirstPair 43 = .ok (.sipush 276, 3) := by decide +kernel
theorem dX1_addIfFirstPair_46 : decode cX1_addIfFirstPair 46 = .ok (.if_icmp .ge 23, 3) := by decide +kernel
theorem dX1_addIfFirstPair_49 : decode cX1_addIfFirstPair 49 = .ok (.aload_n 0, 1) := by decide +kernel
theorem dX1_addIfFirstPair_50 : decode cX1_addIfFirstPair 50 = .ok (.getfield 15, 3) := by decide +kernel
theorem dX1_addIfFirstPair_53 : decode cX1_addIfFirstPair 53 = .ok (.aload_n 0, 1) := by decide +kernel
theorem dX1_addIfFirstPair_54 : decode cX1_addIfFirstPair 54 = .ok (.getfield 44, 3) := by decide +kernel
theorem dX1_addIfFirstPair_57 : decode cX1_addIfFirstPair 57 = .ok (.iload_n 3, 1) := by decide +kernel
theorem dX1_addIfFirstPair_58 : decode cX1_addIfFirstPair 58 = .ok (.iastore, 1) := by decide +kernel
theorem dX1_addIfFirstPair_59 : decode cX1_addIfFirstPair 59 = .ok (.aload_n 0, 1) := by decide +kernel
theorem dX1_addIfFirstPair_60 : decode cX1_addIfFirstPair 60 = .ok (.dup, 1) := by decide +kernel
theorem dX1_addIfFirstPair_61 : decode cX1_addIfFirstPair 61 = .ok (.getfield 44, 3) := by decide +kernel
theorem dX1_addIfFirstPair_64 : decode cX1_addIfFirstPair 64 = .ok (.iconst 1, 1) := by decide +kernel
theorem dX1_addIfFirstPair_65 : decode cX1_addIfFirstPair 65 = .ok (.iadd, 1) := by decide +kernel
theorem dX1_addIfFirstPair_66 : decode cX1_addIfFirstPair 66 = .ok (.putfield 44, 3) := by decide +kernel
theorem dX1_addIfFirstPair_69 : decode cX1_addIfFirstPair 69 = .ok (.return_, 1) := by decide +kernel
theorem dX1_firstWith_0 : decode cX1_firstWith 0 = .ok (.iconst 0, 1) := by decide +kernel
theorem dX1_firstWith_1 : decode cX1_firstWith 1 = .ok (.istore_n 3, 1) := by decide +kernel
theorem dX1_firstWith_2 : decode cX1_firstWith 2 = .ok (.iload_n 3, 1) := by decide +kernel
theorem dX1_firstWith_3 : decode cX1_firstWith 3 = .ok (.aload_n 0, 1) := by decide +kernel
theorem dX1_firstWith_4 : decode cX1_firstWith 4 = .ok (.getfield 44, 3) := by decide +kernel
theorem dX1_firstWith_7 : decode cX1_firstWith 7 = .ok (.if_icmp .ge 37, 3) := by decide +kernel
theorem dX1_firstWith_10 : decode cX1_firstWith 10 = .ok (.aload_n 0, 1) := by decide +kernel
theorem dX1_firstWith_11 : decode cX1_firstWith 11 = .ok (.getfield 15, 3) := by decide +kernel
theorem dX1_firstWith_14 : decode cX1_firstWith 14 = .ok (.iload_n 3, 1) := by decide +kernel
theorem dX1_firstWith_15 : decode cX1_firstWith 15 = .ok (.iaload, 1) := by decide +kernel
theorem dX1_firstWith_16 : decode cX1_firstWith 16 = .ok (.iload_n 1, 1) := by decide +kernel
theorem dX1_firstWith_17 : decode cX1_firstWith 17 = .ok (.invokestatic 52, 3) := by decide +kernel
theorem dX1_firstWith_20 : decode cX1_firstWith 20 = .ok (.ifCond .eq 18, 3) := by decide +kernel
theorem dX1_firstWith_23 : decode cX1_firstWith 23 = .ok (.aload_n 0, 1) := by decide +kernel
theorem dX1_firstWith_24 : decode cX1_firstWith 24 = .ok (.getfield 15, 3) := by decide +kernel
theorem dX1_firstWith_27 : decode cX1_firstWith 27 = .ok (.iload_n 3, 1) := by decide +kernel
theorem dX1_firstWith_28 : decode cX1_firstWith 28 = .ok (.iaload, 1) := by decide +kernel
theorem dX1_firstWith_29 : decode cX1_firstWith 29 = .ok (.iload_n 2, 1) := by decide +kernel
theorem dX1_firstWith_30 : decode cX1_firstWith 30 = .ok (.invokestatic 52, 3) := by decide +kernel
theorem dX1_firstWith_33 : decode cX1_firstWith 33 = .ok (.ifCond .eq 5, 3) := by decide +kernel
theorem dX1_firstWith_36 : decode cX1_firstWith 36 = .ok (.iload_n 3, 1) := by decide +kernel
theorem dX1_firstWith_37 : decode cX1_firstWith 37 = .ok (.ireturn, 1) := by decide +kernel
theorem dX1_firstWith_38 : decode cX1_firstWith 38 = .ok (.iinc 3 1, 3) := by decide +kernel
theorem dX1_firstWith_41 : decode cX1_firstWith 41 = .ok (.goto (-39), 3) := by decide +kernel
theorem dX1_firstWith_44 : decode cX1_firstWith 44 = .ok (.bipush (-9), 2) := by decide +kernel
theorem dX1_firstWith_46 : decode cX1_firstWith 46 = .ok (.ireturn, 1) := by decide +kernel
theorem dX1_isHinge_0 : decode cX1_isHinge 0 = .ok (.iconst 0, 1) := by decide +kernel
theorem dX1_isHinge_1 : decode cX1_isHinge 1 = .ok (.istore_n 2, 1) := by decide +kernel
theorem dX1_isHinge_2 : decode cX1_isHinge 2 = .ok (.iconst 0, 1) := by decide +kernel
theorem dX1_isHinge_3 : decode cX1_isHinge 3 = .ok (.istore_n 3, 1) := by decide +kernel
theorem dX1_isHinge_4 : decode cX1_isHinge 4 = .ok (.iload_n 3, 1) := by decide +kernel
theorem dX1_isHinge_5 : decode cX1_isHinge 5 = .ok (.aload_n 0, 1) := by decide +kernel
theorem dX1_isHinge_6 : decode cX1_isHinge 6 = .ok (.getfield 44, 3) := by decide +kernel
theorem dX1_isHinge_9 : decode cX1_isHinge 9 = .ok (.if_icmp .ge 25, 3) := by decide +kernel
theorem dX1_isHinge_12 : decode cX1_isHinge 12 = .ok (.aload_n 0, 1) := by decide +kernel
theorem dX1_isHinge_13 : decode cX1_isHinge 13 = .ok (.getfield 15, 3) := by decide +kernel
theorem dX1_isHinge_16 : decode cX1_isHinge 16 = .ok (.iload_n 3, 1) := by decide +kernel
theorem dX1_isHinge_17 : decode cX1_isHinge 17 = .ok (.iaload, 1) := by decide +kernel
theorem dX1_isHinge_18 : decode cX1_isHinge 18 = .ok (.iload_n 1, 1) := by decide +kernel
theorem dX1_isHinge_19 : decode cX1_isHinge 19 = .ok (.invokestatic 52, 3) := by decide +kernel
theorem dX1_isHinge_22 : decode cX1_isHinge 22 = .ok (.ifCond .eq 6, 3) := by decide +kernel
theorem dX1_isHinge_25 : decode cX1_isHinge 25 = .ok (.iinc 2 1, 3) := by decide +kernel
theorem dX1_isHinge_28 : decode cX1_isHinge 28 = .ok (.iinc 3 1, 3) := by decide +kernel
theorem dX1_isHinge_31 : decode cX1_isHinge 31 = .ok (.goto (-27), 3) := by decide +kernel
theorem dX1_isHinge_34 : decode cX1_isHinge 34 = .ok (.iload_n 2, 1) := by decide +kernel
theorem dX1_isHinge_35 : decode cX1_isHinge 35 = .ok (.iconst 2, 1) := by decide +kernel
theorem dX1_isHinge_36 : decode cX1_isHinge 36 = .ok (.if_icmp .lt 7, 3) := by decide +kernel
theorem dX1_isHinge_39 : decode cX1_isHinge 39 = .ok (.iconst 1, 1) := by decide +kernel
theorem dX1_isHinge_40 : decode cX1_isHinge 40 = .ok (.goto 4, 3) := by decide +kernel
theorem dX1_isHinge_43 : decode cX1_isHinge 43 = .ok (.iconst 0, 1) := by decide +kernel
theorem dX1_isHinge_44 : decode cX1_isHinge 44 = .ok (.ireturn, 1) := by decide +kernel
theorem dX1_countHinges_0 : decode cX1_countHinges 0 = .ok (.iconst 0, 1) := by decide +kernel
theorem dX1_countHinges_1 : decode cX1_countHinges 1 = .ok (.istore_n 1, 1) := by decide +kernel
theorem dX1_countHinges_2 : decode cX1_countHinges 2 = .ok (.iconst 0, 1) := by decide +kernel
theorem dX1_countHinges_3 : decode cX1_countHinges 3 = .ok (.istore_n 2, 1) := by decide +kernel
theorem dX1_countHinges_4 : decode cX1_countHinges 4 = .ok (.iload_n 2, 1) := by decide +kernel
theorem dX1_countHinges_5 : decode cX1_countHinges 5 = .ok (.aload_n 0, 1) := by decide +kernel
theorem dX1_countHinges_6 : decode cX1_countHinges 6 = .ok (.getfield 22, 3) := by decide +kernel
theorem dX1_countHinges_9 : decode cX1_countHinges 9 = .ok (.getfield 47, 3) := by decide +kernel
theorem dX1_countHinges_12 : decode cX1_countHinges 12 = .ok (.if_icmp .ge 20, 3) := by decide +kernel
theorem dX1_countHinges_15 : decode cX1_countHinges 15 = .ok (.aload_n 0, 1) := by decide +kernel
theorem dX1_countHinges_16 : decode cX1_countHinges 16 = .ok (.iload_n 2, 1) := by decide +kernel
theorem dX1_countHinges_17 : decode cX1_countHinges 17 = .ok (.invokevirtual 73, 3) := by decide +kernel
theorem dX1_countHinges_20 : decode cX1_countHinges 20 = .ok (.ifCond .eq 6, 3) := by decide +kernel
theorem dX1_countHinges_23 : decode cX1_countHinges 23 = .ok (.iinc 1 1, 3) := by decide +kernel
theorem dX1_countHinges_26 : decode cX1_countHinges 26 = .ok (.iinc 2 1, 3) := by decide +kernel
theorem dX1_countHinges_29 : decode cX1_countHinges 29 = .ok (.goto (-25), 3) := by decide +kernel
theorem dX1_countHinges_32 : decode cX1_countHinges 32 = .ok (.iload_n 1, 1) := by decide +kernel
theorem dX1_countHinges_33 : decode cX1_countHinges 33 = .ok (.ireturn, 1) := by decide +kernel
theorem dX2_init_0 : decode cX2_init 0 = .ok (.aload_n 0, 1) := by decide +kernel
theorem dX2_init_1 : decode cX2_init 1 = .ok (.invokespecial 3, 3) := by decide +kernel
theorem dX2_init_4 : decode cX2_init 4 = .ok (.aload_n 0, 1) := by decide +kernel
theorem dX2_init_5 : decode cX2_init 5 = .ok (.bipush 80, 2) := by decide +kernel
theorem dX2_init_7 : decode cX2_init 7 = .ok (.newarray .int, 2) := by decide +kernel
theorem dX2_init_9 : decode cX2_init 9 = .ok (.putfield 9, 3) := by decide +kernel
theorem dX2_init_12 : decode cX2_init 12 = .ok (.aload_n 0, 1) := by decide +kernel
theorem dX2_init_13 : decode cX2_init 13 = .ok (.bipush 80, 2) := by decide +kernel
theorem dX2_init_15 : decode cX2_init 15 = .ok (.newarray .int, 2) := by decide +kernel
theorem dX2_init_17 : decode cX2_init 17 = .ok (.putfield 15, 3) := by decide +kernel
theorem dX2_init_20 : decode cX2_init 20 = .ok (.aload_n 0, 1) := by decide +kernel
theorem dX2_init_21 : decode cX2_init 21 = .ok (.bipush 80, 2) := by decide +kernel
theorem dX2_init_23 : decode cX2_init 23 = .ok (.newarray .int, 2) := by decide +kernel
theorem dX2_init_25 : decode cX2_init 25 = .ok (.putfield 18, 3) := by decide +kernel
theorem dX2_init_28 : decode cX2_init 28 = .ok (.aload_n 0, 1) := by decide +kernel
theorem dX2_init_29 : decode cX2_init 29 = .ok (.bipush 80, 2) := by decide +kernel
theorem dX2_init_31 : decode cX2_init 31 = .ok (.newarray .boolean, 2) := by decide +kernel
theorem dX2_init_33 : decode cX2_init 33 = .ok (.putfield 21, 3) := by decide +kernel
theorem dX2_init_36 : decode cX2_init 36 = .ok (.aload_n 0, 1) := by decide +kernel
theorem dX2_init_37 : decode cX2_init 37 = .ok (.bipush 24, 2) := by decide +kernel
theorem dX2_init_39 : decode cX2_init 39 = .ok (.newarray .int, 2) := by decide +kernel
theorem dX2_init_41 : decode cX2_init 41 = .ok (.putfield 25, 3) := by decide +kernel
theorem dX2_init_44 : decode cX2_init 44 = .ok (.return_, 1) := by decide +kernel
theorem dX2_addJoint_0 : decode cX2_addJoint 0 = .ok (.aload_n 0, 1) := by decide +kernel
theorem dX2_addJoint_1 : decode cX2_addJoint 1 = .ok (.dup, 1) := by decide +kernel
theorem dX2_addJoint_2 : decode cX2_addJoint 2 = .ok (.getfield 28, 3) := by decide +kernel
theorem dX2_addJoint_5 : decode cX2_addJoint 5 = .ok (.iconst 1, 1) := by decide +kernel
theorem dX2_addJoint_6 : decode cX2_addJoint 6 = .ok (.iadd, 1) := by decide +kernel
theorem dX2_addJoint_7 : decode cX2_addJoint 7 = .ok (.putfield 28, 3) := by decide +kernel
theorem dX2_addJoint_10 : decode cX2_addJoint 10 = .ok (.aload_n 0, 1) := by decide +kernel
theorem dX2_addJoint_11 : decode cX2_addJoint 11 = .ok (.dup, 1) := by decide +kernel
theorem dX2_addJoint_12 : decode cX2_addJoint 12 = .ok (.getfield 32, 3) := by decide +kernel
theorem dX2_addJoint_15 : decode cX2_addJoint 15 = .ok (.dup_x1, 1) := by decide +kernel
theorem dX2_addJoint_16 : decode cX2_addJoint 16 = .ok (.iconst 1, 1) := by decide +kernel
theorem dX2_addJoint_17 : decode cX2_addJoint 17 = .ok (.iadd, 1) := by decide +kernel
theorem dX2_addJoint_18 : decode cX2_addJoint 18 = .ok (.putfield 32, 3) := by decide +kernel
theorem dX2_addJoint_21 : decode cX2_addJoint 21 = .ok (.ireturn, 1) := by decide +kernel
theorem dX2_addBar_0 : decode cX2_addBar 0 = .ok (.aload_n 0, 1) := by decide +kernel
theorem dX2_addBar_1 : decode cX2_addBar 1 = .ok (.getfield 35, 3) := by decide +kernel
theorem dX2_addBar_4 : decode cX2_addBar 4 = .ok (.istore 4, 2) := by decide +kernel
theorem dX2_addBar_6 : decode cX2_addBar 6 = .ok (.aload_n 0, 1) := by decide +kernel
theorem dX2_addBar_7 : decode cX2_addBar 7 = .ok (.getfield 9, 3) := by decide +kernel
theorem dX2_addBar_10 : decode cX2_addBar 10 = .ok (.iload 4, 2) := by decide +kernel
theorem dX2_addBar_12 : decode cX2_addBar 12 = .ok (.iload_n 1, 1) := by decide +kernel
theorem dX2_addBar_13 : decode cX2_addBar 13 = .ok (.iastore, 1) := by decide +kernel
theorem dX2_addBar_14 : decode cX2_addBar 14 = .ok (.aload_n 0, 1) := by decide +kernel
theorem dX2_addBar_15 : decode cX2_addBar 15 = .ok (.getfield 15, 3) := by decide +kernel
theorem dX2_addBar_18 : decode cX2_addBar 18 = .ok (.iload 4, 2) := by decide +kernel
theorem dX2_addBar_20 : decode cX2_addBar 20 = .ok (.iload_n 2, 1) := by decide +kernel
theorem dX2_addBar_21 : decode cX2_addBar 21 = .ok (.iastore, 1) := by decide +kernel
theorem dX2_addBar_22 : decode cX2_addBar 22 = .ok (.aload_n 0, 1) := by decide +kernel
theorem dX2_addBar_23 : decode cX2_addBar 23 = .ok (.getfield 18, 3) := by decide +kernel
theorem dX2_addBar_26 : decode cX2_addBar 26 = .ok (.iload 4, 2) := by decide +kernel
theorem dX2_addBar_28 : decode cX2_addBar 28 = .ok (.iload_n 3, 1) := by decide +kernel
theorem dX2_addBar_29 : decode cX2_addBar 29 = .ok (.iastore, 1) := by decide +kernel
theorem dX2_addBar_30 : decode cX2_addBar 30 = .ok (.aload_n 0, 1) := by decide +kernel
theorem dX2_addBar_31 : decode cX2_addBar 31 = .ok (.getfield 21, 3) := by decide +kernel
theorem dX2_addBar_34 : decode cX2_addBar 34 = .ok (.iload 4, 2) := by decide +kernel
theorem dX2_addBar_36 : decode cX2_addBar 36 = .ok (.iconst 1, 1) := by decide +kernel
theorem dX2_addBar_37 : decode cX2_addBar 37 = .ok (.bastore, 1) := by decide +kernel
theorem dX2_addBar_38 : decode cX2_addBar 38 = .ok (.aload_n 0, 1) := by decide +kernel
theorem dX2_addBar_39 : decode cX2_addBar 39 = .ok (.getfield 25, 3) := by decide +kernel
theorem dX2_addBar_42 : decode cX2_addBar 42 = .ok (.iload_n 1, 1) := by decide +kernel
theorem dX2_addBar_43 : decode cX2_addBar 43 = .ok (.dup2, 1) := by decide +kernel
theorem dX2_addBar_44 : decode cX2_addBar 44 = .ok (.iaload, 1) := by decide +kernel
theorem dX2_addBar_45 : decode cX2_addBar 45 = .ok (.iconst 1, 1) := by decide +kernel
theorem dX2_addBar_46 : decode cX2_addBar 46 = .ok (.iload_n 2, 1) := by decide +kernel
theorem dX2_addBar_47 : decode cX2_addBar 47 = .ok (.ishl, 1) := by decide +kernel
theorem dX2_addBar_48 : decode cX2_addBar 48 = .ok (.ior, 1) := by decide +kernel
theorem dX2_addBar_49 : decode cX2_addBar 49 = .ok (.iastore, 1) := by decide +kernel
theorem dX2_addBar_50 : decode cX2_addBar 50 = .ok (.aload_n 0, 1) := by decide +kernel
theorem dX2_addBar_51 : decode cX2_addBar 51 = .ok (.getfield 25, 3) := by decide +kernel
theorem dX2_addBar_54 : decode cX2_addBar 54 = .ok (.iload_n 2, 1) := by decide +kernel
theorem dX2_addBar_55 : decode cX2_addBar 55 = .ok (.dup2, 1) := by decide +kernel
theorem dX2_addBar_56 : decode cX2_addBar 56 = .ok (.iaload, 1) := by decide +kernel
theorem dX2_addBar_57 : decode cX2_addBar 57 = .ok (.iconst 1, 1) := by decide +kernel
theorem dX2_addBar_58 : decode cX2_addBar 58 = .ok (.iload_n 1, 1) := by decide +kernel
theorem dX2_addBar_59 : decode cX2_addBar 59 = .ok (.ishl, 1) := by decide +kernel
theorem dX2_addBar_60 : decode cX2_addBar 60 = .ok (.ior, 1) := by decide +kernel
theorem dX2_addBar_61 : decode cX2_addBar 61 = .ok (.iastore, 1) := by decide +kernel
theorem dX2_addBar_62 : decode cX2_addBar 62 = .ok (.aload_n 0, 1) := by decide +kernel
theorem dX2_addBar_63 : decode cX2_addBar 63 = .ok (.dup, 1) := by decide +kernel
theorem dX2_addBar_64 : decode cX2_addBar 64 = .ok (.getfield 35, 3) := by decide +kernel
theorem dX2_addBar_67 : decode cX2_addBar 67 = .ok (.iconst 1, 1) := by decide +kernel
theorem dX2_addBar_68 : decode cX2_addBar 68 = .ok (.iadd, 1) := by decide +kernel
theorem dX2_addBar_69 : decode cX2_addBar 69 = .ok (.putfield 35, 3) := by decide +kernel
theorem dX2_addBar_72 : decode cX2_addBar 72 = .ok (.aload_n 0, 1) := by decide +kernel
theorem dX2_addBar_73 : decode cX2_addBar 73 = .ok (.dup, 1) := by decide +kernel
theorem dX2_addBar_74 : decode cX2_addBar 74 = .ok (.getfield 38, 3) := by decide +kernel
theorem dX2_addBar_77 : decode cX2_addBar 77 = .ok (.iconst 1, 1) := by decide +kernel
theorem dX2_addBar_78 : decode cX2_addBar 78 = .ok (.iadd, 1) := by decide +kernel
theorem dX2_addBar_79 : decode cX2_addBar 79 = .ok (.putfield 38, 3) := by decide +kernel
theorem dX2_addBar_82 : decode cX2_addBar 82 = .ok (.aload_n 0, 1) := by decide +kernel
theorem dX2_addBar_83 : decode cX2_addBar 83 = .ok (.dup, 1) := by decide +kernel
theorem dX2_addBar_84 : decode cX2_addBar 84 = .ok (.getfield 28, 3) := by decide +kernel
theorem dX2_addBar_87 : decode cX2_addBar 87 = .ok (.iconst 1, 1) := by decide +kernel
theorem dX2_addBar_88 : decode cX2_addBar 88 = .ok (.iadd, 1) := by decide +kernel
theorem dX2_addBar_89 : decode cX2_addBar 89 = .ok (.putfield 28, 3) := by decide +kernel
theorem dX2_addBar_92 : decode cX2_addBar 92 = .ok (.iload 4, 2) := by decide +kernel
theorem dX2_addBar_94 : decode cX2_addBar 94 = .ok (.ireturn, 1) := by decide +kernel
theorem dX2_setThere_0 : decode cX2_setThere 0 = .ok (.aload_n 0, 1) := by decide +kernel
theorem dX2_setThere_1 : decode cX2_setThere 1 = .ok (.getfield 21, 3) := by decide +kernel
theorem dX2_setThere_4 : decode cX2_setThere 4 = .ok (.iload_n 1, 1) := by decide +kernel
theorem dX2_setThere_5 : decode cX2_setThere 5 = .ok (.baload, 1) := by decide +kernel
theorem dX2_setThere_6 : decode cX2_setThere 6 = .ok (.iload_n 2, 1) := by decide +kernel
theorem dX2_setThere_7 : decode cX2_setThere 7 = .ok (.if_icmp .ne 5, 3) := by decide +kernel
theorem dX2_setThere_10 : decode cX2_setThere 10 = .ok (.iconst 0, 1) := by decide +kernel
theorem dX2_setThere_11 : decode cX2_setThere 11 = .ok (.ireturn, 1) := by decide +kernel
theorem dX2_setThere_12 : decode cX2_setThere 12 = .ok (.aload_n 0, 1) := by decide +kernel
theorem dX2_setThere_13 : decode cX2_setThere 13 = .ok (.getfield 21, 3) := by decide +kernel
theorem dX2_setThere_16 : decode cX2_setThere 16 = .ok (.iload_n 1, 1) := by decide +kernel
theorem dX2_setThere_17 : decode cX2_setThere 17 = .ok (.iload_n 2, 1) := by decide +kernel
theorem dX2_setThere_18 : decode cX2_setThere 18 = .ok (.bastore, 1) := by decide +kernel
theorem dX2_setThere_19 : decode cX2_setThere 19 = .ok (.aload_n 0, 1) := by decide +kernel
theorem dX2_setThere_20 : decode cX2_setThere 20 = .ok (.dup, 1) := by decide +kernel
theorem dX2_setThere_21 : decode cX2_setThere 21 = .ok (.getfield 38, 3) := by decide +kernel
theorem dX2_setThere_24 : decode cX2_setThere 24 = .ok (.iload_n 2, 1) := by decide +kernel
theorem dX2_setThere_25 : decode cX2_setThere 25 = .ok (.ifCond .eq 7, 3) := by decide +kernel
theorem dX2_setThere_28 : decode cX2_setThere 28 = .ok (.iconst 1, 1) := by decide +kernel
theorem dX2_setThere_29 : decode cX2_setThere 29 = .ok (.goto 4, 3) := by decide +kernel
theorem dX2_setThere_32 : decode cX2_setThere 32 = .ok (.iconst (-1), 1) := by decide +kernel
theorem dX2_setThere_33 : decode cX2_setThere 33 = .ok (.iadd, 1) := by decide +kernel
theorem dX2_setThere_34 : decode cX2_setThere 34 = .ok (.putfield 38, 3) := by decide +kernel
theorem dX2_setThere_37 : decode cX2_setThere 37 = .ok (.aload_n 0, 1) := by decide +kernel
theorem dX2_setThere_38 : decode cX2_setThere 38 = .ok (.dup, 1) := by decide +kernel
theorem dX2_setThere_39 : decode cX2_setThere 39 = .ok (.getfield 28, 3) := by decide +kernel
theorem dX2_setThere_42 : decode cX2_setThere 42 = .ok (.iconst 1, 1) := by decide +kernel
theorem dX2_setThere_43 : decode cX2_setThere 43 = .ok (.iadd, 1) := by decide +kernel
theorem dX2_setThere_44 : decode cX2_setThere 44 = .ok (.putfield 28, 3) := by decide +kernel
theorem dX2_setThere_47 : decode cX2_setThere 47 = .ok (.iconst 1, 1) := by decide +kernel
theorem dX2_setThere_48 : decode cX2_setThere 48 = .ok (.ireturn, 1) := by decide +kernel
theorem dX2_setCost_0 : decode cX2_setCost 0 = .ok (.aload_n 0, 1) := by decide +kernel
theorem dX2_setCost_1 : decode cX2_setCost 1 = .ok (.getfield 18, 3) := by decide +kernel
theorem dX2_setCost_4 : decode cX2_setCost 4 = .ok (.iload_n 1, 1) := by decide +kernel
theorem dX2_setCost_5 : decode cX2_setCost 5 = .ok (.iaload, 1) := by decide +kernel
theorem dX2_setCost_6 : decode cX2_setCost 6 = .ok (.istore_n 3, 1) := by decide +kernel
theorem dX2_setCost_7 : decode cX2_setCost 7 = .ok (.aload_n 0, 1) := by decide +kernel
theorem dX2_setCost_8 : decode cX2_setCost 8 = .ok (.getfield 18, 3) := by decide +kernel
theorem dX2_setCost_11 : decode cX2_setCost 11 = .ok (.iload_n 1, 1) := by decide +kernel
theorem dX2_setCost_12 : decode cX2_setCost 12 = .ok (.iload_n 2, 1) := by decide +kernel
theorem dX2_setCost_13 : decode cX2_setCost 13 = .ok (.iastore, 1) := by decide +kernel
theorem dX2_setCost_14 : decode cX2_setCost 14 = .ok (.aload_n 0, 1) := by decide +kernel
theorem dX2_setCost_15 : decode cX2_setCost 15 = .ok (.dup, 1) := by decide +kernel
theorem dX2_setCost_16 : decode cX2_setCost 16 = .ok (.getfield 28, 3) := by decide +kernel
theorem dX2_setCost_19 : decode cX2_setCost 19 = .ok (.iconst 1, 1) := by decide +kernel
theorem dX2_setCost_20 : decode cX2_setCost 20 = .ok (.iadd, 1) := by decide +kernel
theorem dX2_setCost_21 : decode cX2_setCost 21 = .ok (.putfield 28, 3) := by decide +kernel
theorem dX2_setCost_24 : decode cX2_setCost 24 = .ok (.iload_n 3, 1) := by decide +kernel
theorem dX2_setCost_25 : decode cX2_setCost 25 = .ok (.ireturn, 1) := by decide +kernel
theorem dX2_tied_0 : decode cX2_tied 0 = .ok (.aload_n 0, 1) := by decide +kernel
theorem dX2_tied_1 : decode cX2_tied 1 = .ok (.getfield 25, 3) := by decide +kernel
theorem dX2_tied_4 : decode cX2_tied 4 = .ok (.iload_n 1, 1) := by decide +kernel
theorem dX2_tied_5 : decode cX2_tied 5 = .ok (.iaload, 1) := by decide +kernel
theorem dX2_tied_6 : decode cX2_tied 6 = .ok (.iload_n 2, 1) := by decide +kernel
theorem dX2_tied_7 : decode cX2_tied 7 = .ok (.invokestatic 41, 3) := by decide +kernel
theorem dX2_tied_10 : decode cX2_tied 10 = .ok (.ireturn, 1) := by decide +kernel
theorem dX2_within_0 : decode cX2_within 0 = .ok (.iload_n 2, 1) := by decide +kernel
theorem dX2_within_1 : decode cX2_within 1 = .ok (.aload_n 0, 1) := by decide +kernel
theorem dX2_within_2 : decode cX2_within 2 = .ok (.getfield 9, 3) := by decide +kernel
theorem dX2_within_5 : decode cX2_within 5 = .ok (.iload_n 1, 1) := by decide +kernel
theorem dX2_within_6 : decode cX2_within 6 = .ok (.iaload, 1) := by decide +kernel
theorem dX2_within_7 : decode cX2_within 7 = .ok (.invokestatic 41, 3) := by decide +kernel
theorem dX2_within_10 : decode cX2_within 10 = .ok (.ifCond .eq 20, 3) := by decide +kernel
theorem dX2_within_13 : decode cX2_within 13 = .ok (.iload_n 2, 1) := by decide +kernel
theorem dX2_within_14 : decode cX2_within 14 = .ok (.aload_n 0, 1) := by decide +kernel
theorem dX2_within_15 : decode cX2_within 15 = .ok (.getfield 15, 3) := by decide +kernel
theorem dX2_within_18 : decode cX2_within 18 = .ok (.iload_n 1, 1) := by decide +kernel
theorem dX2_within_19 : decode cX2_within 19 = .ok (.iaload, 1) := by decide +kernel
theorem dX2_within_20 : decode cX2_within 20 = .ok (.invokestatic 41, 3) := by decide +kernel
theorem dX2_within_23 : decode cX2_within 23 = .ok (.ifCond .eq 7, 3) := by decide +kernel
theorem dX2_within_26 : decode cX2_within 26 = .ok (.iconst 1, 1) := by decide +kernel
theorem dX2_within_27 : decode cX2_within 27 = .ok (.goto 4, 3) := by decide +kernel
theorem dX2_within_30 : decode cX2_within 30 = .ok (.iconst 0, 1) := by decide +kernel
theorem dX2_within_31 : decode cX2_within 31 = .ok (.ireturn, 1) := by decide +kernel
theorem dX3_init_0 : decode cX3_init 0 = .ok (.aload_n 0, 1) := by decide +kernel
theorem dX3_init_1 : decode cX3_init 1 = .ok (.invokespecial 3, 3) := by decide +kernel
theorem dX3_init_4 : decode cX3_init 4 = .ok (.aload_n 0, 1) := by decide +kernel
theorem dX3_init_5 : decode cX3_init 5 = .ok (.sipush 276, 3) := by decide +kernel
theorem dX3_init_8 : decode cX3_init 8 = .ok (.newarray .int, 2) := by decide +kernel
theorem dX3_init_10 : decode cX3_init 10 = .ok (.putfield 9, 3) := by decide +kernel
theorem dX3_init_13 : decode cX3_init 13 = .ok (.aload_n 0, 1) := by decide +kernel
theorem dX3_init_14 : decode cX3_init 14 = .ok (.iconst (-1), 1) := by decide +kernel
theorem dX3_init_15 : decode cX3_init 15 = .ok (.putfield 15, 3) := by decide +kernel
theorem dX3_init_18 : decode cX3_init 18 = .ok (.aload_n 0, 1) := by decide +kernel
theorem dX3_init_19 : decode cX3_init 19 = .ok (.aload_n 1, 1) := by decide +kernel
theorem dX3_init_20 : decode cX3_init 20 = .ok (.putfield 19, 3) := by decide +kernel
theorem dX3_init_23 : decode cX3_init 23 = .ok (.aload_n 0, 1) := by decide +kernel
theorem dX3_init_24 : decode cX3_init 24 = .ok (.aload_n 2, 1) := by decide +kernel
theorem dX3_init_25 : decode cX3_init 25 = .ok (.putfield 23, 3) := by decide +kernel
theorem dX3_init_28 : decode cX3_init 28 = .ok (.aload_n 0, 1) := by decide +kernel
theorem dX3_init_29 : decode cX3_init 29 = .ok (.aload_n 3, 1) := by decide +kernel
theorem dX3_init_30 : decode cX3_init 30 = .ok (.putfield 27, 3) := by decide +kernel
theorem dX3_init_33 : decode cX3_init 33 = .ok (.return_, 1) := by decide +kernel
theorem dX3_find_0 : decode cX3_find 0 = .ok (.aload_n 0, 1) := by decide +kernel
theorem dX3_find_1 : decode cX3_find 1 = .ok (.getfield 15, 3) := by decide +kernel
theorem dX3_find_4 : decode cX3_find 4 = .ok (.aload_n 0, 1) := by decide +kernel
theorem dX3_find_5 : decode cX3_find 5 = .ok (.getfield 19, 3) := by decide +kernel
theorem dX3_find_8 : decode cX3_find 8 = .ok (.getfield 31, 3) := by decide +kernel
theorem dX3_find_11 : decode cX3_find 11 = .ok (.if_icmp .ne 4, 3) := by decide +kernel
theorem dX3_find_14 : decode cX3_find 14 = .ok (.return_, 1) := by decide +kernel
theorem dX3_find_15 : decode cX3_find 15 = .ok (.aload_n 0, 1) := by decide +kernel
theorem dX3_find_16 : decode cX3_find 16 = .ok (.aload_n 0, 1) := by decide +kernel
theorem dX3_find_17 : decode cX3_find 17 = .ok (.getfield 19, 3) := by decide +kernel
theorem dX3_find_20 : decode cX3_find 20 = .ok (.getfield 31, 3) := by decide +kernel
theorem dX3_find_23 : decode cX3_find 23 = .ok (.putfield 15, 3) := by decide +kernel
theorem dX3_find_26 : decode cX3_find 26 = .ok (.aload_n 0, 1) := by decide +kernel
theorem dX3_find_27 : decode cX3_find 27 = .ok (.getfield 23, 3) := by decide +kernel
theorem dX3_find_30 : decode cX3_find 30 = .ok (.iconst 2, 1) := by decide +kernel
theorem dX3_find_31 : decode cX3_find 31 = .ok (.iconst 3, 1) := by decide +kernel
theorem dX3_find_32 : decode cX3_find 32 = .ok (.invokevirtual 36, 3) := by decide +kernel
theorem dX3_find_35 : decode cX3_find 35 = .ok (.aload_n 0, 1) := by decide +kernel
theorem dX3_find_36 : decode cX3_find 36 = .ok (.getfield 27, 3) := by decide +kernel
theorem dX3_find_39 : decode cX3_find 39 = .ok (.iconst 2, 1) := by decide +kernel
theorem dX3_find_40 : decode cX3_find 40 = .ok (.iconst 3, 1) := by decide +kernel
theorem dX3_find_41 : decode cX3_find 41 = .ok (.invokevirtual 42, 3) := by decide +kernel
theorem dX3_find_44 : decode cX3_find 44 = .ok (.iconst 0, 1) := by decide +kernel
theorem dX3_find_45 : decode cX3_find 45 = .ok (.istore_n 1, 1) := by decide +kernel
theorem dX3_find_46 : decode cX3_find 46 = .ok (.iload_n 1, 1) := by decide +kernel
theorem dX3_find_47 : decode cX3_find 47 = .ok (.aload_n 0, 1) := by decide +kernel
theorem dX3_find_48 : decode cX3_find 48 = .ok (.getfield 19, 3) := by decide +kernel
theorem dX3_find_51 : decode cX3_find 51 = .ok (.getfield 47, 3) := by decide +kernel
theorem dX3_find_54 : decode cX3_find 54 = .ok (.if_icmp .ge 47, 3) := by decide +kernel
theorem dX3_find_57 : decode cX3_find 57 = .ok (.aload_n 0, 1) := by decide +kernel
theorem dX3_find_58 : decode cX3_find 58 = .ok (.getfield 23, 3) := by decide +kernel
theorem dX3_find_61 : decode cX3_find 61 = .ok (.getfield 50, 3) := by decide +kernel
theorem dX3_find_64 : decode cX3_find 64 = .ok (.iload_n 1, 1) := by decide +kernel
theorem dX3_find_65 : decode cX3_find 65 = .ok (.baload, 1) := by decide +kernel
theorem dX3_find_66 : decode cX3_find 66 = .ok (.ifCond .eq 29, 3) := by decide +kernel
theorem dX3_find_69 : decode cX3_find 69 = .ok (.aload_n 0, 1) := by decide +kernel
theorem dX3_find_70 : decode cX3_find 70 = .ok (.getfield 27, 3) := by decide +kernel
theorem dX3_find_73 : decode cX3_find 73 = .ok (.aload_n 0, 1) := by decide +kernel
theorem dX3_find_74 : decode cX3_find 74 = .ok (.getfield 19, 3) := by decide +kernel
theorem dX3_find_77 : decode cX3_find 77 = .ok (.getfield 54, 3) := by decide +kernel
theorem dX3_find_80 : decode cX3_find 80 = .ok (.iload_n 1, 1) := by decide +kernel
theorem dX3_find_81 : decode cX3_find 81 = .ok (.iaload, 1) := by decide +kernel
theorem dX3_find_82 : decode cX3_find 82 = .ok (.aload_n 0, 1) := by decide +kernel
theorem dX3_find_83 : decode cX3_find 83 = .ok (.getfield 19, 3) := by decide +kernel
theorem dX3_find_86 : decode cX3_find 86 = .ok (.getfield 57, 3) := by decide +kernel
theorem dX3_find_89 : decode cX3_find 89 = .ok (.iload_n 1, 1) := by decide +kernel
theorem dX3_find_90 : decode cX3_find 90 = .ok (.iaload, 1) := by decide +kernel
theorem dX3_find_91 : decode cX3_find 91 = .ok (.invokevirtual 60, 3) := by decide +kernel
theorem dX3_find_94 : decode cX3_find 94 = .ok (.pop, 1) := by decide +kernel
theorem dX3_find_95 : decode cX3_find 95 = .ok (.iinc 1 1, 3) := by decide +kernel
theorem dX3_find_98 : decode cX3_find 98 = .ok (.goto (-52), 3) := by decide +kernel
theorem dX3_find_101 : decode cX3_find 101 = .ok (.aload_n 0, 1) := by decide +kernel
theorem dX3_find_102 : decode cX3_find 102 = .ok (.iconst 0, 1) := by decide +kernel
theorem dX3_find_103 : decode cX3_find 103 = .ok (.putfield 64, 3) := by decide +kernel
theorem dX3_find_106 : decode cX3_find 106 = .ok (.iconst 0, 1) := by decide +kernel
theorem dX3_find_107 : decode cX3_find 107 = .ok (.istore_n 1, 1) := by decide +kernel
theorem dX3_find_108 : decode cX3_find 108 = .ok (.iload_n 1, 1) := by decide +kernel
theorem dX3_find_109 : decode cX3_find 109 = .ok (.aload_n 0, 1) := by decide +kernel
theorem dX3_find_110 : decode cX3_find 110 = .ok (.getfield 19, 3) := by decide +kernel
theorem dX3_find_113 : decode cX3_find 113 = .ok (.getfield 67, 3) := by decide +kernel
theorem dX3_find_116 : decode cX3_find 116 = .ok (.if_icmp .ge 36, 3) := by decide +kernel
theorem dX3_find_119 : decode cX3_find 119 = .ok (.iload_n 1, 1) := by decide +kernel
theorem dX3_find_120 : decode cX3_find 120 = .ok (.iconst 1, 1) := by decide +kernel
theorem dX3_find_121 : decode cX3_find 121 = .ok (.iadd, 1) := by decide +kernel
theorem dX3_find_122 : decode cX3_find 122 = .ok (.istore_n 2, 1) := by decide +kernel
theorem dX3_find_123 : decode cX3_find 123 = .ok (.iload_n 2, 1) := by decide +kernel
theorem dX3_find_124 : decode cX3_find 124 = .ok (.aload_n 0, 1) := by decide +kernel
theorem dX3_find_125 : decode cX3_find 125 = .ok (.getfield 19, 3) := by decide +kernel
theorem dX3_find_128 : decode cX3_find 128 = .ok (.getfield 67, 3) := by decide +kernel
theorem dX3_find_131 : decode cX3_find 131 = .ok (.if_icmp .ge 15, 3) := by decide +kernel
theorem dX3_find_134 : decode cX3_find 134 = .ok (.aload_n 0, 1) := by decide +kernel
theorem dX3_find_135 : decode cX3_find 135 = .ok (.iload_n 1, 1) := by decide +kernel
theorem dX3_find_136 : decode cX3_find 136 = .ok (.iload_n 2, 1) := by decide +kernel
theorem dX3_find_137 : decode cX3_find 137 = .ok (.invokevirtual 70, 3) := by decide +kernel
theorem dX3_find_140 : decode cX3_find 140 = .ok (.iinc 2 1, 3) := by decide +kernel
theorem dX3_find_143 : decode cX3_find 143 = .ok (.goto (-20), 3) := by decide +kernel
theorem dX3_find_146 : decode cX3_find 146 = .ok (.iinc 1 1, 3) := by decide +kernel
theorem dX3_find_149 : decode cX3_find 149 = .ok (.goto (-41), 3) := by decide +kernel
theorem dX3_find_152 : decode cX3_find 152 = .ok (.return_, 1) := by decide +kernel
theorem dX3_tellIfGrows_0 : decode cX3_tellIfGrows 0 = .ok (.aload_n 0, 1) := by decide +kernel
theorem dX3_tellIfGrows_1 : decode cX3_tellIfGrows 1 = .ok (.getfield 19, 3) := by decide +kernel
theorem dX3_tellIfGrows_4 : decode cX3_tellIfGrows 4 = .ok (.iload_n 1, 1) := by decide +kernel
theorem dX3_tellIfGrows_5 : decode cX3_tellIfGrows 5 = .ok (.iload_n 2, 1) := by decide +kernel
theorem dX3_tellIfGrows_6 : decode cX3_tellIfGrows 6 = .ok (.invokevirtual 73, 3) := by decide +kernel
theorem dX3_tellIfGrows_9 : decode cX3_tellIfGrows 9 = .ok (.ifCond .ne 50, 3) := by decide +kernel
theorem dX3_tellIfGrows_12 : decode cX3_tellIfGrows 12 = .ok (.aload_n 0, 1) := by decide +kernel
theorem dX3_tellIfGrows_13 : decode cX3_tellIfGrows 13 = .ok (.getfield 64, 3) := by decide +kernel
theorem dX3_tellIfGrows_16 : decode cX3_tellIfGrows 16 = .ok (.sipush 276, 3) := by decide +kernel
theorem dX3_tellIfGrows_19 : decode cX3_tellIfGrows 19 = .ok (.if_icmp .ge 40, 3) := by decide +kernel
theorem dX3_tellIfGrows_22 : decode cX3_tellIfGrows 22 = .ok (.aload_n 0, 1) := by decide +kernel
theorem dX3_tellIfGrows_23 : decode cX3_tellIfGrows 23 = .ok (.getfield 27, 3) := by decide +kernel
theorem dX3_tellIfGrows_26 : decode cX3_tellIfGrows 26 = .ok (.iload_n 1, 1) := by decide +kernel
theorem dX3_tellIfGrows_27 : decode cX3_tellIfGrows 27 = .ok (.iload_n 2, 1) := by decide +kernel
theorem dX3_tellIfGrows_28 : decode cX3_tellIfGrows 28 = .ok (.invokevirtual 60, 3) := by decide +kernel
theorem dX3_tellIfGrows_31 : decode cX3_tellIfGrows 31 = .ok (.ifCond .eq 28, 3) := by decide +kernel
theorem dX3_tellIfGrows_34 : decode cX3_tellIfGrows 34 = .ok (.aload_n 0, 1) := by decide +kernel
theorem dX3_tellIfGrows_35 : decode cX3_tellIfGrows 35 = .ok (.getfield 9, 3) := by decide +kernel
theorem dX3_tellIfGrows_38 : decode cX3_tellIfGrows 38 = .ok (.aload_n 0, 1) := by decide +kernel
theorem dX3_tellIfGrows_39 : decode cX3_tellIfGrows 39 = .ok (.getfield 64, 3) := by decide +kernel
theorem dX3_tellIfGrows_42 : decode cX3_tellIfGrows 42 = .ok (.bipush 100, 2) := by decide +kernel
theorem dX3_tellIfGrows_44 : decode cX3_tellIfGrows 44 = .ok (.iload_n 1, 1) := by decide +kernel
theorem dX3_tellIfGrows_45 : decode cX3_tellIfGrows 45 = .ok (.imul, 1) := by decide +kernel
theorem dX3_tellIfGrows_46 : decode cX3_tellIfGrows 46 = .ok (.iload_n 2, 1) := by decide +kernel
theorem dX3_tellIfGrows_47 : decode cX3_tellIfGrows 47 = .ok (.iadd, 1) := by decide +kernel
theorem dX3_tellIfGrows_48 : decode cX3_tellIfGrows 48 = .ok (.iastore, 1) := by decide +kernel
theorem dX3_tellIfGrows_49 : decode cX3_tellIfGrows 49 = .ok (.aload_n 0, 1) := by decide +kernel
theorem dX3_tellIfGrows_50 : decode cX3_tellIfGrows 50 = .ok (.dup, 1) := by decide +kernel
theorem dX3_tellIfGrows_51 : decode cX3_tellIfGrows 51 = .ok (.getfield 64, 3) := by decide +kernel
theorem dX3_tellIfGrows_54 : decode cX3_tellIfGrows 54 = .ok (.iconst 1, 1) := by decide +kernel
theorem dX3_tellIfGrows_55 : decode cX3_tellIfGrows 55 = .ok (.iadd, 1) := by decide +kernel
theorem dX3_tellIfGrows_56 : decode cX3_tellIfGrows 56 = .ok (.putfield 64, 3) := by decide +kernel
theorem dX3_tellIfGrows_59 : decode cX3_tellIfGrows 59 = .ok (.return_, 1) := by decide +kernel
theorem dX4_init_0 : decode cX4_init 0 = .ok (.aload_n 0, 1) := by decide +kernel
theorem dX4_init_1 : decode cX4_init 1 = .ok (.invokespecial 3, 3) := by decide +kernel
theorem dX4_init_4 : decode cX4_init 4 = .ok (.aload_n 0, 1) := by decide +kernel
theorem dX4_init_5 : decode cX4_init 5 = .ok (.bipush 72, 2) := by decide +kernel
theorem dX4_init_7 : decode cX4_init 7 = .ok (.newarray .int, 2) := by decide +kernel
theorem dX4_init_9 : decode cX4_init 9 = .ok (.putfield 9, 3) := by decide +kernel
theorem dX4_init_12 : decode cX4_init 12 = .ok (.aload_n 0, 1) := by decide +kernel
theorem dX4_init_13 : decode cX4_init 13 = .ok (.bipush 24, 2) := by decide +kernel
theorem dX4_init_15 : decode cX4_init 15 = .ok (.newarray .int, 2) := by decide +kernel
theorem dX4_init_17 : decode cX4_init 17 = .ok (.putfield 15, 3) := by decide +kernel
theorem dX4_init_20 : decode cX4_init 20 = .ok (.aload_n 0, 1) := by decide +kernel
theorem dX4_init_21 : decode cX4_init 21 = .ok (.bipush 24, 2) := by decide +kernel
theorem dX4_init_23 : decode cX4_init 23 = .ok (.newarray .int, 2) := by decide +kernel
theorem dX4_init_25 : decode cX4_init 25 = .ok (.putfield 18, 3) := by decide +kernel
theorem dX4_init_28 : decode cX4_init 28 = .ok (.return_, 1) := by decide +kernel
theorem dX4_start_0 : decode cX4_start 0 = .ok (.aload_n 0, 1) := by decide +kernel
theorem dX4_start_1 : decode cX4_start 1 = .ok (.iload_n 1, 1) := by decide +kernel
theorem dX4_start_2 : decode cX4_start 2 = .ok (.putfield 21, 3) := by decide +kernel
theorem dX4_start_5 : decode cX4_start 5 = .ok (.aload_n 0, 1) := by decide +kernel
theorem dX4_start_6 : decode cX4_start 6 = .ok (.iload_n 2, 1) := by decide +kernel
theorem dX4_start_7 : decode cX4_start 7 = .ok (.putfield 25, 3) := by decide +kernel
theorem dX4_start_10 : decode cX4_start 10 = .ok (.aload_n 0, 1) := by decide +kernel
theorem dX4_start_11 : decode cX4_start 11 = .ok (.getfield 9, 3) := by decide +kernel
theorem dX4_start_14 : decode cX4_start 14 = .ok (.iconst (-1), 1) := by decide +kernel
theorem dX4_start_15 : decode cX4_start 15 = .ok (.invokestatic 28, 3) := by decide +kernel
theorem dX4_start_18 : decode cX4_start 18 = .ok (.return_, 1) := by decide +kernel
theorem dX4_put_0 : decode cX4_put 0 = .ok (.aload_n 0, 1) := by decide +kernel
theorem dX4_put_1 : decode cX4_put 1 = .ok (.iload_n 1, 1) := by decide +kernel
theorem dX4_put_2 : decode cX4_put 2 = .ok (.iload_n 2, 1) := by decide +kernel
theorem dX4_put_3 : decode cX4_put 3 = .ok (.invokevirtual 34, 3) := by decide +kernel
theorem dX4_put_6 : decode cX4_put 6 = .ok (.ifCond .ne 5, 3) := by decide +kernel
theorem dX4_put_9 : decode cX4_put 9 = .ok (.iconst 0, 1) := by decide +kernel
theorem dX4_put_10 : decode cX4_put 10 = .ok (.ireturn, 1) := by decide +kernel
theorem dX4_put_11 : decode cX4_put 11 = .ok (.aload_n 0, 1) := by decide +kernel
theorem dX4_put_12 : decode cX4_put 12 = .ok (.iload_n 1, 1) := by decide +kernel
theorem dX4_put_13 : decode cX4_put 13 = .ok (.invokevirtual 38, 3) := by decide +kernel
theorem dX4_put_16 : decode cX4_put 16 = .ok (.istore_n 3, 1) := by decide +kernel
theorem dX4_put_17 : decode cX4_put 17 = .ok (.aload_n 0, 1) := by decide +kernel
theorem dX4_put_18 : decode cX4_put 18 = .ok (.iload_n 2, 1) := by decide +kernel
theorem dX4_put_19 : decode cX4_put 19 = .ok (.invokevirtual 38, 3) := by decide +kernel
theorem dX4_put_22 : decode cX4_put 22 = .ok (.istore 4, 2) := by decide +kernel
theorem dX4_put_24 : decode cX4_put 24 = .ok (.iload_n 3, 1) := by decide +kernel
theorem dX4_put_25 : decode cX4_put 25 = .ok (.ifCond .lt 13, 3) := by decide +kernel
theorem dX4_put_28 : decode cX4_put 28 = .ok (.aload_n 0, 1) := by decide +kernel
theorem dX4_put_29 : decode cX4_put 29 = .ok (.getfield 9, 3) := by decide +kernel
theorem dX4_put_32 : decode cX4_put 32 = .ok (.iload_n 3, 1) := by decide +kernel
theorem dX4_put_33 : decode cX4_put 33 = .ok (.iload_n 2, 1) := by decide +kernel
theorem dX4_put_34 : decode cX4_put 34 = .ok (.iastore, 1) := by decide +kernel
theorem dX4_put_35 : decode cX4_put 35 = .ok (.goto 16, 3) := by decide +kernel
theorem dX4_put_38 : decode cX4_put 38 = .ok (.iload 4, 2) := by decide +kernel
theorem dX4_put_40 : decode cX4_put 40 = .ok (.ifCond .lt 11, 3) := by decide +kernel
theorem dX4_put_43 : decode cX4_put 43 = .ok (.aload_n 0, 1) := by decide +kernel
theorem dX4_put_44 : decode cX4_put 44 = .ok (.getfield 9, 3) := by decide +kernel
theorem dX4_put_47 : decode cX4_put 47 = .ok (.iload 4, 2) := by decide +kernel
theorem dX4_put_49 : decode cX4_put 49 = .ok (.iload_n 1, 1) := by decide +kernel
theorem dX4_put_50 : decode cX4_put 50 = .ok (.iastore, 1) := by decide +kernel
theorem dX4_put_51 : decode cX4_put 51 = .ok (.iconst 1, 1) := by decide +kernel
theorem dX4_put_52 : decode cX4_put 52 = .ok (.ireturn, 1) := by decide +kernel
theorem dX4_allows_0 : decode cX4_allows 0 = .ok (.aload_n 0, 1) := by decide +kernel
theorem dX4_allows_1 : decode cX4_allows 1 = .ok (.iload_n 1, 1) := by decide +kernel
theorem dX4_allows_2 : decode cX4_allows 2 = .ok (.invokevirtual 42, 3) := by decide +kernel
theorem dX4_allows_5 : decode cX4_allows 5 = .ok (.aload_n 0, 1) := by decide +kernel
theorem dX4_allows_6 : decode cX4_allows 6 = .ok (.iload_n 2, 1) := by decide +kernel
theorem dX4_allows_7 : decode cX4_allows 7 = .ok (.invokevirtual 42, 3) := by decide +kernel
theorem dX4_allows_10 : decode cX4_allows 10 = .ok (.iadd, 1) := by decide +kernel
theorem dX4_allows_11 : decode cX4_allows 11 = .ok (.istore_n 3, 1) := by decide +kernel
theorem dX4_allows_12 : decode cX4_allows 12 = .ok (.iconst 0, 1) := by decide +kernel
theorem dX4_allows_13 : decode cX4_allows 13 = .ok (.istore 4, 2) := by decide +kernel
theorem dX4_allows_15 : decode cX4_allows 15 = .ok (.iload 4, 2) := by decide +kernel
theorem dX4_allows_17 : decode cX4_allows 17 = .ok (.bipush 6, 2) := by decide +kernel
theorem dX4_allows_19 : decode cX4_allows 19 = .ok (.if_icmp .ge 40, 3) := by decide +kernel
theorem dX4_allows_22 : decode cX4_allows 22 = .ok (.iload_n 3, 1) := by decide +kernel
theorem dX4_allows_23 : decode cX4_allows 23 = .ok (.aload_n 0, 1) := by decide +kernel
theorem dX4_allows_24 : decode cX4_allows 24 = .ok (.getfield 25, 3) := by decide +kernel
theorem dX4_allows_27 : decode cX4_allows 27 = .ok (.if_icmp .gt 32, 3) := by decide +kernel
theorem dX4_allows_30 : decode cX4_allows 30 = .ok (.aload_n 0, 1) := by decide +kernel
theorem dX4_allows_31 : decode cX4_allows 31 = .ok (.iload_n 1, 1) := by decide +kernel
theorem dX4_allows_32 : decode cX4_allows 32 = .ok (.iload_n 2, 1) := by decide +kernel
theorem dX4_allows_33 : decode cX4_allows 33 = .ok (.invokevirtual 45, 3) := by decide +kernel
theorem dX4_allows_36 : decode cX4_allows 36 = .ok (.ifCond .ne 14, 3) := by decide +kernel
theorem dX4_allows_39 : decode cX4_allows 39 = .ok (.aload_n 0, 1) := by decide +kernel
theorem dX4_allows_40 : decode cX4_allows 40 = .ok (.iload_n 2, 1) := by decide +kernel
theorem dX4_allows_41 : decode cX4_allows 41 = .ok (.iload_n 1, 1) := by decide +kernel
theorem dX4_allows_42 : decode cX4_allows 42 = .ok (.invokevirtual 45, 3) := by decide +kernel
theorem dX4_allows_45 : decode cX4_allows 45 = .ok (.ifCond .ne 5, 3) := by decide +kernel
theorem dX4_allows_48 : decode cX4_allows 48 = .ok (.iconst 0, 1) := by decide +kernel
theorem dX4_allows_49 : decode cX4_allows 49 = .ok (.ireturn, 1) := by decide +kernel
theorem dX4_allows_50 : decode cX4_allows 50 = .ok (.iinc 3 1, 3) := by decide +kernel
theorem dX4_allows_53 : decode cX4_allows 53 = .ok (.iinc 4 1, 3) := by decide +kernel
theorem dX4_allows_56 : decode cX4_allows 56 = .ok (.goto (-41), 3) := by decide +kernel
theorem dX4_allows_59 : decode cX4_allows 59 = .ok (.iload_n 3, 1) := by decide +kernel
theorem dX4_allows_60 : decode cX4_allows 60 = .ok (.aload_n 0, 1) := by decide +kernel
theorem dX4_allows_61 : decode cX4_allows 61 = .ok (.getfield 25, 3) := by decide +kernel
theorem dX4_allows_64 : decode cX4_allows 64 = .ok (.if_icmp .le 7, 3) := by decide +kernel
theorem dX4_allows_67 : decode cX4_allows 67 = .ok (.iconst 1, 1) := by decide +kernel
theorem dX4_allows_68 : decode cX4_allows 68 = .ok (.goto 4, 3) := by decide +kernel
theorem dX4_allows_71 : decode cX4_allows 71 = .ok (.iconst 0, 1) := by decide +kernel
theorem dX4_allows_72 : decode cX4_allows 72 = .ok (.ireturn, 1) := by decide +kernel
theorem dX4_reach_0 : decode cX4_reach 0 = .ok (.iconst 1, 1) := by decide +kernel
theorem dX4_reach_1 : decode cX4_reach 1 = .ok (.iload_n 1, 1) := by decide +kernel
theorem dX4_reach_2 : decode cX4_reach 2 = .ok (.ishl, 1) := by decide +kernel
theorem dX4_reach_3 : decode cX4_reach 3 = .ok (.iconst 1, 1) := by decide +kernel
theorem dX4_reach_4 : decode cX4_reach 4 = .ok (.iload_n 2, 1) := by decide +kernel
theorem dX4_reach_5 : decode cX4_reach 5 = .ok (.ishl, 1) := by decide +kernel
theorem dX4_reach_6 : decode cX4_reach 6 = .ok (.ior, 1) := by decide +kernel
theorem dX4_reach_7 : decode cX4_reach 7 = .ok (.istore_n 3, 1) := by decide +kernel
theorem dX4_reach_8 : decode cX4_reach 8 = .ok (.iconst 0, 1) := by decide +kernel
theorem dX4_reach_9 : decode cX4_reach 9 = .ok (.istore 4, 2) := by decide +kernel
theorem dX4_reach_11 : decode cX4_reach 11 = .ok (.iload 4, 2) := by decide +kernel
theorem dX4_reach_13 : decode cX4_reach 13 = .ok (.bipush 24, 2) := by decide +kernel
theorem dX4_reach_15 : decode cX4_reach 15 = .ok (.if_icmp .ge 60, 3) := by decide +kernel
theorem dX4_reach_18 : decode cX4_reach 18 = .ok (.iload_n 3, 1) := by decide +kernel
theorem dX4_reach_19 : decode cX4_reach 19 = .ok (.istore 5, 2) := by decide +kernel
theorem dX4_reach_21 : decode cX4_reach 21 = .ok (.iconst 0, 1) := by decide +kernel
theorem dX4_reach_22 : decode cX4_reach 22 = .ok (.istore 6, 2) := by decide +kernel
theorem dX4_reach_24 : decode cX4_reach 24 = .ok (.iload 6, 2) := by decide +kernel
theorem dX4_reach_26 : decode cX4_reach 26 = .ok (.bipush 24, 2) := by decide +kernel
theorem dX4_reach_28 : decode cX4_reach 28 = .ok (.if_icmp .ge 29, 3) := by decide +kernel
theorem dX4_reach_31 : decode cX4_reach 31 = .ok (.iload_n 3, 1) := by decide +kernel
theorem dX4_reach_32 : decode cX4_reach 32 = .ok (.iload 6, 2) := by decide +kernel
theorem dX4_reach_34 : decode cX4_reach 34 = .ok (.invokestatic 48, 3) := by decide +kernel
theorem dX4_reach_37 : decode cX4_reach 37 = .ok (.ifCond .eq 14, 3) := by decide +kernel
theorem dX4_reach_40 : decode cX4_reach 40 = .ok (.iload 5, 2) := by decide +kernel
theorem dX4_reach_42 : decode cX4_reach 42 = .ok (.aload_n 0, 1) := by decide +kernel
theorem dX4_reach_43 : decode cX4_reach 43 = .ok (.iload 6, 2) := by decide +kernel
theorem dX4_reach_45 : decode cX4_reach 45 = .ok (.invokevirtual 51, 3) := by decide +kernel
theorem dX4_reach_48 : decode cX4_reach 48 = .ok (.ior, 1) := by decide +kernel
theorem dX4_reach_49 : decode cX4_reach 49 = .ok (.istore 5, 2) := by decide +kernel
theorem dX4_reach_51 : decode cX4_reach 51 = .ok (.iinc 6 1, 3) := by decide +kernel
theorem dX4_reach_54 : decode cX4_reach 54 = .ok (.goto (-30), 3) := by decide +kernel
theorem dX4_reach_57 : decode cX4_reach 57 = .ok (.iload 5, 2) := by decide +kernel
theorem dX4_reach_59 : decode cX4_reach 59 = .ok (.iload_n 3, 1) := by decide +kernel
theorem dX4_reach_60 : decode cX4_reach 60 = .ok (.if_icmp .ne 6, 3) := by decide +kernel
theorem dX4_reach_63 : decode cX4_reach 63 = .ok (.goto 12, 3) := by decide +kernel
theorem dX4_reach_66 : decode cX4_reach 66 = .ok (.iload 5, 2) := by decide +kernel
theorem dX4_reach_68 : decode cX4_reach 68 = .ok (.istore_n 3, 1) := by decide +kernel
theorem dX4_reach_69 : decode cX4_reach 69 = .ok (.iinc 4 1, 3) := by decide +kernel
theorem dX4_reach_72 : decode cX4_reach 72 = .ok (.goto (-61), 3) := by decide +kernel
theorem dX4_reach_75 : decode cX4_reach 75 = .ok (.iload_n 3, 1) := by decide +kernel
theorem dX4_reach_76 : decode cX4_reach 76 = .ok (.ireturn, 1) := by decide +kernel
theorem dX4_ledTo_0 : decode cX4_ledTo 0 = .ok (.iconst 0, 1) := by decide +kernel
theorem dX4_ledTo_1 : decode cX4_ledTo 1 = .ok (.istore_n 2, 1) := by decide +kernel
theorem dX4_ledTo_2 : decode cX4_ledTo 2 = .ok (.iload_n 1, 1) := by decide +kernel
theorem dX4_ledTo_3 : decode cX4_ledTo 3 = .ok (.iconst 3, 1) := by decide +kernel
theorem dX4_ledTo_4 : decode cX4_ledTo 4 = .ok (.imul, 1) := by decide +kernel
theorem dX4_ledTo_5 : decode cX4_ledTo 5 = .ok (.istore_n 3, 1) := by decide +kernel
theorem dX4_ledTo_6 : decode cX4_ledTo 6 = .ok (.iload_n 3, 1) := by decide +kernel
theorem dX4_ledTo_7 : decode cX4_ledTo 7 = .ok (.iload_n 1, 1) := by decide +kernel
theorem dX4_ledTo_8 : decode cX4_ledTo 8 = .ok (.iconst 3, 1) := by decide +kernel
theorem dX4_ledTo_9 : decode cX4_ledTo 9 = .ok (.imul, 1) := by decide +kernel
theorem dX4_ledTo_10 : decode cX4_ledTo 10 = .ok (.aload_n 0, 1) := by decide +kernel
theorem dX4_ledTo_11 : decode cX4_ledTo 11 = .ok (.getfield 21, 3) := by decide +kernel
theorem dX4_ledTo_14 : decode cX4_ledTo 14 = .ok (.iadd, 1) := by decide +kernel
theorem dX4_ledTo_15 : decode cX4_ledTo 15 = .ok (.if_icmp .ge 30, 3) := by decide +kernel
theorem dX4_ledTo_18 : decode cX4_ledTo 18 = .ok (.aload_n 0, 1) := by decide +kernel
theorem dX4_ledTo_19 : decode cX4_ledTo 19 = .ok (.getfield 9, 3) := by decide +kernel
theorem dX4_ledTo_22 : decode cX4_ledTo 22 = .ok (.iload_n 3, 1) := by decide +kernel
theorem dX4_ledTo_23 : decode cX4_ledTo 23 = .ok (.iaload, 1) := by decide +kernel
theorem dX4_ledTo_24 : decode cX4_ledTo 24 = .ok (.iconst (-1), 1) := by decide +kernel
theorem dX4_ledTo_25 : decode cX4_ledTo 25 = .ok (.if_icmp .eq 14, 3) := by decide +kernel
theorem dX4_ledTo_28 : decode cX4_ledTo 28 = .ok (.iload_n 2, 1) := by decide +kernel
theorem dX4_ledTo_29 : decode cX4_ledTo 29 = .ok (.iconst 1, 1) := by decide +kernel
theorem dX4_ledTo_30 : decode cX4_ledTo 30 = .ok (.aload_n 0, 1) := by decide +kernel
theorem dX4_ledTo_31 : decode cX4_ledTo 31 = .ok (.getfield 9, 3) := by decide +kernel
theorem dX4_ledTo_34 : decode cX4_ledTo 34 = .ok (.iload_n 3, 1) := by decide +kernel
theorem dX4_ledTo_35 : decode cX4_ledTo 35 = .ok (.iaload, 1) := by decide +kernel
theorem dX4_ledTo_36 : decode cX4_ledTo 36 = .ok (.ishl, 1) := by decide +kernel
theorem dX4_ledTo_37 : decode cX4_ledTo 37 = .ok (.ior, 1) := by decide +kernel
theorem dX4_ledTo_38 : decode cX4_ledTo 38 = .ok (.istore_n 2, 1) := by decide +kernel
theorem dX4_ledTo_39 : decode cX4_ledTo 39 = .ok (.iinc 3 1, 3) := by decide +kernel
theorem dX4_ledTo_42 : decode cX4_ledTo 42 = .ok (.goto (-36), 3) := by decide +kernel
theorem dX4_ledTo_45 : decode cX4_ledTo 45 = .ok (.iload_n 2, 1) := by decide +kernel
theorem dX4_ledTo_46 : decode cX4_ledTo 46 = .ok (.ireturn, 1) := by decide +kernel
theorem dX4_countLoose_0 : decode cX4_countLoose 0 = .ok (.iconst 0, 1) := by decide +kernel
theorem dX4_countLoose_1 : decode cX4_countLoose 1 = .ok (.istore_n 2, 1) := by decide +kernel
theorem dX4_countLoose_2 : decode cX4_countLoose 2 = .ok (.iload_n 1, 1) := by decide +kernel
theorem dX4_countLoose_3 : decode cX4_countLoose 3 = .ok (.iconst 3, 1) := by decide +kernel
theorem dX4_countLoose_4 : decode cX4_countLoose 4 = .ok (.imul, 1) := by decide +kernel
theorem dX4_countLoose_5 : decode cX4_countLoose 5 = .ok (.istore_n 3, 1) := by decide +kernel
theorem dX4_countLoose_6 : decode cX4_countLoose 6 = .ok (.iload_n 3, 1) := by decide +kernel
theorem dX4_countLoose_7 : decode cX4_countLoose 7 = .ok (.iload_n 1, 1) := by decide +kernel
theorem dX4_countLoose_8 : decode cX4_countLoose 8 = .ok (.iconst 3, 1) := by decide +kernel
theorem dX4_countLoose_9 : decode cX4_countLoose 9 = .ok (.imul, 1) := by decide +kernel
theorem dX4_countLoose_10 : decode cX4_countLoose 10 = .ok (.aload_n 0, 1) := by decide +kernel
theorem dX4_countLoose_11 : decode cX4_countLoose 11 = .ok (.getfield 21, 3) := by decide +kernel
theorem dX4_countLoose_14 : decode cX4_countLoose 14 = .ok (.iadd, 1) := by decide +kernel
theorem dX4_countLoose_15 : decode cX4_countLoose 15 = .ok (.if_icmp .ge 22, 3) := by decide +kernel
theorem dX4_countLoose_18 : decode cX4_countLoose 18 = .ok (.aload_n 0, 1) := by decide +kernel
theorem dX4_countLoose_19 : decode cX4_countLoose 19 = .ok (.getfield 9, 3) := by decide +kernel
theorem dX4_countLoose_22 : decode cX4_countLoose 22 = .ok (.iload_n 3, 1) := by decide +kernel
theorem dX4_countLoose_23 : decode cX4_countLoose 23 = .ok (.iaload, 1) := by decide +kernel
theorem dX4_countLoose_24 : decode cX4_countLoose 24 = .ok (.iconst (-1), 1) := by decide +kernel
theorem dX4_countLoose_25 : decode cX4_countLoose 25 = .ok (.if_icmp .ne 6, 3) := by decide +kernel
theorem dX4_countLoose_28 : decode cX4_countLoose 28 = .ok (.iinc 2 1, 3) := by decide +kernel
theorem dX4_countLoose_31 : decode cX4_countLoose 31 = .ok (.iinc 3 1, 3) := by decide +kernel
theorem dX4_countLoose_34 : decode cX4_countLoose 34 = .ok (.goto (-28), 3) := by decide +kernel
theorem dX4_countLoose_37 : decode cX4_countLoose 37 = .ok (.iload_n 2, 1) := by decide +kernel
theorem dX4_countLoose_38 : decode cX4_countLoose 38 = .ok (.ireturn, 1) := by decide +kernel
theorem dX4_loosePebble_0 : decode cX4_loosePebble 0 = .ok (.iload_n 1, 1) := by decide +kernel
theorem dX4_loosePebble_1 : decode cX4_loosePebble 1 = .ok (.iconst 3, 1) := by decide +kernel
theorem dX4_loosePebble_2 : decode cX4_loosePebble 2 = .ok (.imul, 1) := by decide +kernel
theorem dX4_loosePebble_3 : decode cX4_loosePebble 3 = .ok (.istore_n 2, 1) := by decide +kernel
theorem dX4_loosePebble_4 : decode cX4_loosePebble 4 = .ok (.iload_n 2, 1) := by decide +kernel
theorem dX4_loosePebble_5 : decode cX4_loosePebble 5 = .ok (.iload_n 1, 1) := by decide +kernel
theorem dX4_loosePebble_6 : decode cX4_loosePebble 6 = .ok (.iconst 3, 1) := by decide +kernel
theorem dX4_loosePebble_7 : decode cX4_loosePebble 7 = .ok (.imul, 1) := by decide +kernel
theorem dX4_loosePebble_8 : decode cX4_loosePebble 8 = .ok (.aload_n 0, 1) := by decide +kernel
theorem dX4_loosePebble_9 : decode cX4_loosePebble 9 = .ok (.getfield 21, 3) := by decide +kernel
theorem dX4_loosePebble_12 : decode cX4_loosePebble 12 = .ok (.iadd, 1) := by decide +kernel
theorem dX4_loosePebble_13 : decode cX4_loosePebble 13 = .ok (.if_icmp .ge 21, 3) := by decide +kernel
theorem dX4_loosePebble_16 : decode cX4_loosePebble 16 = .ok (.aload_n 0, 1) := by decide +kernel
theorem dX4_loosePebble_17 : decode cX4_loosePebble 17 = .ok (.getfield 9, 3) := by decide +kernel
theorem dX4_loosePebble_20 : decode cX4_loosePebble 20 = .ok (.iload_n 2, 1) := by decide +kernel
theorem dX4_loosePebble_21 : decode cX4_loosePebble 21 = .ok (.iaload, 1) := by decide +kernel
theorem dX4_loosePebble_22 : decode cX4_loosePebble 22 = .ok (.iconst (-1), 1) := by decide +kernel
theorem dX4_loosePebble_23 : decode cX4_loosePebble 23 = .ok (.if_icmp .ne 5, 3) := by decide +kernel
theorem dX4_loosePebble_26 : decode cX4_loosePebble 26 = .ok (.iload_n 2, 1) := by decide +kernel
theorem dX4_loosePebble_27 : decode cX4_loosePebble 27 = .ok (.ireturn, 1) := by decide +kernel
theorem dX4_loosePebble_28 : decode cX4_loosePebble 28 = .ok (.iinc 2 1, 3) := by decide +kernel
theorem dX4_loosePebble_31 : decode cX4_loosePebble 31 = .ok (.goto (-27), 3) := by decide +kernel
theorem dX4_loosePebble_34 : decode cX4_loosePebble 34 = .ok (.bipush (-9), 2) := by decide +kernel
theorem dX4_loosePebble_36 : decode cX4_loosePebble 36 = .ok (.ireturn, 1) := by decide +kernel
theorem dX4_fetch_0 : decode cX4_fetch 0 = .ok (.iconst 1, 1) := by decide +kernel
theorem dX4_fetch_1 : decode cX4_fetch 1 = .ok (.iload_n 1, 1) := by decide +kernel
theorem dX4_fetch_2 : decode cX4_fetch 2 = .ok (.ishl, 1) := by decide +kernel
theorem dX4_fetch_3 : decode cX4_fetch 3 = .ok (.iconst 1, 1) := by decide +kernel
theorem dX4_fetch_4 : decode cX4_fetch 4 = .ok (.iload_n 2, 1) := by decide +kernel
theorem dX4_fetch_5 : decode cX4_fetch 5 = .ok (.ishl, 1) := by decide +kernel
