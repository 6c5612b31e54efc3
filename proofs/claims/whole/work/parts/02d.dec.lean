theorem dX8_areJoints_27 : decode cX8_areJoints 27 = .ok (.iconst 1, 1) := by decide +kernel
theorem dX8_areJoints_28 : decode cX8_areJoints 28 = .ok (.goto 4, 3) := by decide +kernel
theorem dX8_areJoints_31 : decode cX8_areJoints 31 = .ok (.iconst 0, 1) := by decide +kernel
theorem dX8_areJoints_32 : decode cX8_areJoints 32 = .ok (.ireturn, 1) := by decide +kernel
theorem dX8_between_0 : decode cX8_between 0 = .ok (.iconst 0, 1) := by decide +kernel
theorem dX8_between_1 : decode cX8_between 1 = .ok (.istore_n 3, 1) := by decide +kernel
theorem dX8_between_2 : decode cX8_between 2 = .ok (.iload_n 3, 1) := by decide +kernel
theorem dX8_between_3 : decode cX8_between 3 = .ok (.aload_n 0, 1) := by decide +kernel
theorem dX8_between_4 : decode cX8_between 4 = .ok (.getfield 92, 3) := by decide +kernel
theorem dX8_between_7 : decode cX8_between 7 = .ok (.if_icmp .ge 39, 3) := by decide +kernel
theorem dX8_between_10 : decode cX8_between 10 = .ok (.aload_n 0, 1) := by decide +kernel
theorem dX8_between_11 : decode cX8_between 11 = .ok (.getfield 13, 3) := by decide +kernel
theorem dX8_between_14 : decode cX8_between 14 = .ok (.iload_n 3, 1) := by decide +kernel
theorem dX8_between_15 : decode cX8_between 15 = .ok (.iaload, 1) := by decide +kernel
theorem dX8_between_16 : decode cX8_between 16 = .ok (.iload_n 1, 1) := by decide +kernel
theorem dX8_between_17 : decode cX8_between 17 = .ok (.iload_n 2, 1) := by decide +kernel
theorem dX8_between_18 : decode cX8_between 18 = .ok (.invokestatic 95, 3) := by decide +kernel
theorem dX8_between_21 : decode cX8_between 21 = .ok (.if_icmp .ne 19, 3) := by decide +kernel
theorem dX8_between_24 : decode cX8_between 24 = .ok (.aload_n 0, 1) := by decide +kernel
theorem dX8_between_25 : decode cX8_between 25 = .ok (.getfield 16, 3) := by decide +kernel
theorem dX8_between_28 : decode cX8_between 28 = .ok (.iload_n 3, 1) := by decide +kernel
theorem dX8_between_29 : decode cX8_between 29 = .ok (.iaload, 1) := by decide +kernel
theorem dX8_between_30 : decode cX8_between 30 = .ok (.iload_n 1, 1) := by decide +kernel
theorem dX8_between_31 : decode cX8_between 31 = .ok (.iload_n 2, 1) := by decide +kernel
theorem dX8_between_32 : decode cX8_between 32 = .ok (.invokestatic 101, 3) := by decide +kernel
theorem dX8_between_35 : decode cX8_between 35 = .ok (.if_icmp .ne 5, 3) := by decide +kernel
theorem dX8_between_38 : decode cX8_between 38 = .ok (.iload_n 3, 1) := by decide +kernel
theorem dX8_between_39 : decode cX8_between 39 = .ok (.ireturn, 1) := by decide +kernel
theorem dX8_between_40 : decode cX8_between 40 = .ok (.iinc 3 1, 3) := by decide +kernel
theorem dX8_between_43 : decode cX8_between 43 = .ok (.goto (-41), 3) := by decide +kernel
theorem dX8_between_46 : decode cX8_between 46 = .ok (.bipush (-9), 2) := by decide +kernel
theorem dX8_between_48 : decode cX8_between 48 = .ok (.ireturn, 1) := by decide +kernel
theorem dX8_bar_0 : decode cX8_bar 0 = .ok (.aload_n 0, 1) := by decide +kernel
theorem dX8_bar_1 : decode cX8_bar 1 = .ok (.iload_n 1, 1) := by decide +kernel
theorem dX8_bar_2 : decode cX8_bar 2 = .ok (.iload_n 2, 1) := by decide +kernel
theorem dX8_bar_3 : decode cX8_bar 3 = .ok (.invokevirtual 104, 3) := by decide +kernel
theorem dX8_bar_6 : decode cX8_bar 6 = .ok (.ifCond .ne 9, 3) := by decide +kernel
theorem dX8_bar_9 : decode cX8_bar 9 = .ok (.aload_n 0, 1) := by decide +kernel
theorem dX8_bar_10 : decode cX8_bar 10 = .ok (.iconst (-1), 1) := by decide +kernel
theorem dX8_bar_11 : decode cX8_bar 11 = .ok (.invokevirtual 84, 3) := by decide +kernel
theorem dX8_bar_14 : decode cX8_bar 14 = .ok (.ireturn, 1) := by decide +kernel
theorem dX8_bar_15 : decode cX8_bar 15 = .ok (.aload_n 0, 1) := by decide +kernel
theorem dX8_bar_16 : decode cX8_bar 16 = .ok (.iload_n 1, 1) := by decide +kernel
theorem dX8_bar_17 : decode cX8_bar 17 = .ok (.iload_n 2, 1) := by decide +kernel
theorem dX8_bar_18 : decode cX8_bar 18 = .ok (.invokevirtual 107, 3) := by decide +kernel
theorem dX8_bar_21 : decode cX8_bar 21 = .ok (.ifCond .lt 10, 3) := by decide +kernel
theorem dX8_bar_24 : decode cX8_bar 24 = .ok (.aload_n 0, 1) := by decide +kernel
theorem dX8_bar_25 : decode cX8_bar 25 = .ok (.bipush (-3), 2) := by decide +kernel
theorem dX8_bar_27 : decode cX8_bar 27 = .ok (.invokevirtual 84, 3) := by decide +kernel
theorem dX8_bar_30 : decode cX8_bar 30 = .ok (.ireturn, 1) := by decide +kernel
theorem dX8_bar_31 : decode cX8_bar 31 = .ok (.iload_n 3, 1) := by decide +kernel
theorem dX8_bar_32 : decode cX8_bar 32 = .ok (.ifCond .ge 10, 3) := by decide +kernel
theorem dX8_bar_35 : decode cX8_bar 35 = .ok (.aload_n 0, 1) := by decide +kernel
theorem dX8_bar_36 : decode cX8_bar 36 = .ok (.bipush (-4), 2) := by decide +kernel
theorem dX8_bar_38 : decode cX8_bar 38 = .ok (.invokevirtual 84, 3) := by decide +kernel
theorem dX8_bar_41 : decode cX8_bar 41 = .ok (.ireturn, 1) := by decide +kernel
theorem dX8_bar_42 : decode cX8_bar 42 = .ok (.iload_n 3, 1) := by decide +kernel
theorem dX8_bar_43 : decode cX8_bar 43 = .ok (.sipush 999, 3) := by decide +kernel
theorem dX8_bar_46 : decode cX8_bar 46 = .ok (.if_icmp .gt 12, 3) := by decide +kernel
theorem dX8_bar_49 : decode cX8_bar 49 = .ok (.aload_n 0, 1) := by decide +kernel
theorem dX8_bar_50 : decode cX8_bar 50 = .ok (.getfield 92, 3) := by decide +kernel
theorem dX8_bar_53 : decode cX8_bar 53 = .ok (.bipush 80, 2) := by decide +kernel
theorem dX8_bar_55 : decode cX8_bar 55 = .ok (.if_icmp .ne 10, 3) := by decide +kernel
theorem dX8_bar_58 : decode cX8_bar 58 = .ok (.aload_n 0, 1) := by decide +kernel
theorem dX8_bar_59 : decode cX8_bar 59 = .ok (.bipush (-6), 2) := by decide +kernel
theorem dX8_bar_61 : decode cX8_bar 61 = .ok (.invokevirtual 84, 3) := by decide +kernel
theorem dX8_bar_64 : decode cX8_bar 64 = .ok (.ireturn, 1) := by decide +kernel
theorem dX8_bar_65 : decode cX8_bar 65 = .ok (.aload_n 0, 1) := by decide +kernel
theorem dX8_bar_66 : decode cX8_bar 66 = .ok (.getfield 13, 3) := by decide +kernel
theorem dX8_bar_69 : decode cX8_bar 69 = .ok (.aload_n 0, 1) := by decide +kernel
theorem dX8_bar_70 : decode cX8_bar 70 = .ok (.getfield 92, 3) := by decide +kernel
theorem dX8_bar_73 : decode cX8_bar 73 = .ok (.iload_n 1, 1) := by decide +kernel
theorem dX8_bar_74 : decode cX8_bar 74 = .ok (.iload_n 2, 1) := by decide +kernel
theorem dX8_bar_75 : decode cX8_bar 75 = .ok (.invokestatic 95, 3) := by decide +kernel
theorem dX8_bar_78 : decode cX8_bar 78 = .ok (.iastore, 1) := by decide +kernel
theorem dX8_bar_79 : decode cX8_bar 79 = .ok (.aload_n 0, 1) := by decide +kernel
theorem dX8_bar_80 : decode cX8_bar 80 = .ok (.getfield 16, 3) := by decide +kernel
theorem dX8_bar_83 : decode cX8_bar 83 = .ok (.aload_n 0, 1) := by decide +kernel
theorem dX8_bar_84 : decode cX8_bar 84 = .ok (.getfield 92, 3) := by decide +kernel
theorem dX8_bar_87 : decode cX8_bar 87 = .ok (.iload_n 1, 1) := by decide +kernel
theorem dX8_bar_88 : decode cX8_bar 88 = .ok (.iload_n 2, 1) := by decide +kernel
theorem dX8_bar_89 : decode cX8_bar 89 = .ok (.invokestatic 101, 3) := by decide +kernel
theorem dX8_bar_92 : decode cX8_bar 92 = .ok (.iastore, 1) := by decide +kernel
theorem dX8_bar_93 : decode cX8_bar 93 = .ok (.aload_n 0, 1) := by decide +kernel
theorem dX8_bar_94 : decode cX8_bar 94 = .ok (.getfield 19, 3) := by decide +kernel
theorem dX8_bar_97 : decode cX8_bar 97 = .ok (.aload_n 0, 1) := by decide +kernel
theorem dX8_bar_98 : decode cX8_bar 98 = .ok (.getfield 92, 3) := by decide +kernel
theorem dX8_bar_101 : decode cX8_bar 101 = .ok (.iload_n 3, 1) := by decide +kernel
theorem dX8_bar_102 : decode cX8_bar 102 = .ok (.iastore, 1) := by decide +kernel
theorem dX8_bar_103 : decode cX8_bar 103 = .ok (.aload_n 0, 1) := by decide +kernel
theorem dX8_bar_104 : decode cX8_bar 104 = .ok (.getfield 22, 3) := by decide +kernel
theorem dX8_bar_107 : decode cX8_bar 107 = .ok (.aload_n 0, 1) := by decide +kernel
theorem dX8_bar_108 : decode cX8_bar 108 = .ok (.getfield 92, 3) := by decide +kernel
theorem dX8_bar_111 : decode cX8_bar 111 = .ok (.iconst 1, 1) := by decide +kernel
theorem dX8_bar_112 : decode cX8_bar 112 = .ok (.bastore, 1) := by decide +kernel
theorem dX8_bar_113 : decode cX8_bar 113 = .ok (.aload_n 0, 1) := by decide +kernel
theorem dX8_bar_114 : decode cX8_bar 114 = .ok (.dup, 1) := by decide +kernel
theorem dX8_bar_115 : decode cX8_bar 115 = .ok (.getfield 92, 3) := by decide +kernel
theorem dX8_bar_118 : decode cX8_bar 118 = .ok (.iconst 1, 1) := by decide +kernel
theorem dX8_bar_119 : decode cX8_bar 119 = .ok (.iadd, 1) := by decide +kernel
theorem dX8_bar_120 : decode cX8_bar 120 = .ok (.putfield 92, 3) := by decide +kernel
theorem dX8_bar_123 : decode cX8_bar 123 = .ok (.aload_n 0, 1) := by decide +kernel
theorem dX8_bar_124 : decode cX8_bar 124 = .ok (.getfield 92, 3) := by decide +kernel
theorem dX8_bar_127 : decode cX8_bar 127 = .ok (.iconst 1, 1) := by decide +kernel
theorem dX8_bar_128 : decode cX8_bar 128 = .ok (.isub, 1) := by decide +kernel
theorem dX8_bar_129 : decode cX8_bar 129 = .ok (.ireturn, 1) := by decide +kernel
theorem dX8_isBar_0 : decode cX8_isBar 0 = .ok (.iload_n 1, 1) := by decide +kernel
theorem dX8_isBar_1 : decode cX8_isBar 1 = .ok (.aload_n 0, 1) := by decide +kernel
theorem dX8_isBar_2 : decode cX8_isBar 2 = .ok (.getfield 92, 3) := by decide +kernel
theorem dX8_isBar_5 : decode cX8_isBar 5 = .ok (.invokestatic 88, 3) := by decide +kernel
theorem dX8_isBar_8 : decode cX8_isBar 8 = .ok (.ireturn, 1) := by decide +kernel
theorem dX8_cut_0 : decode cX8_cut 0 = .ok (.aload_n 0, 1) := by decide +kernel
theorem dX8_cut_1 : decode cX8_cut 1 = .ok (.iload_n 1, 1) := by decide +kernel
theorem dX8_cut_2 : decode cX8_cut 2 = .ok (.invokevirtual 110, 3) := by decide +kernel
theorem dX8_cut_5 : decode cX8_cut 5 = .ok (.ifCond .ne 9, 3) := by decide +kernel
theorem dX8_cut_8 : decode cX8_cut 8 = .ok (.aload_n 0, 1) := by decide +kernel
theorem dX8_cut_9 : decode cX8_cut 9 = .ok (.iconst (-1), 1) := by decide +kernel
theorem dX8_cut_10 : decode cX8_cut 10 = .ok (.invokevirtual 84, 3) := by decide +kernel
theorem dX8_cut_13 : decode cX8_cut 13 = .ok (.ireturn, 1) := by decide +kernel
theorem dX8_cut_14 : decode cX8_cut 14 = .ok (.aload_n 0, 1) := by decide +kernel
theorem dX8_cut_15 : decode cX8_cut 15 = .ok (.getfield 22, 3) := by decide +kernel
theorem dX8_cut_18 : decode cX8_cut 18 = .ok (.iload_n 1, 1) := by decide +kernel
theorem dX8_cut_19 : decode cX8_cut 19 = .ok (.baload, 1) := by decide +kernel
theorem dX8_cut_20 : decode cX8_cut 20 = .ok (.iload_n 2, 1) := by decide +kernel
theorem dX8_cut_21 : decode cX8_cut 21 = .ok (.ifCond .ne 7, 3) := by decide +kernel
theorem dX8_cut_24 : decode cX8_cut 24 = .ok (.iconst 1, 1) := by decide +kernel
theorem dX8_cut_25 : decode cX8_cut 25 = .ok (.goto 4, 3) := by decide +kernel
theorem dX8_cut_28 : decode cX8_cut 28 = .ok (.iconst 0, 1) := by decide +kernel
theorem dX8_cut_29 : decode cX8_cut 29 = .ok (.if_icmp .ne 5, 3) := by decide +kernel
theorem dX8_cut_32 : decode cX8_cut 32 = .ok (.iconst 0, 1) := by decide +kernel
theorem dX8_cut_33 : decode cX8_cut 33 = .ok (.ireturn, 1) := by decide +kernel
theorem dX8_cut_34 : decode cX8_cut 34 = .ok (.aload_n 0, 1) := by decide +kernel
theorem dX8_cut_35 : decode cX8_cut 35 = .ok (.getfield 22, 3) := by decide +kernel
theorem dX8_cut_38 : decode cX8_cut 38 = .ok (.iload_n 1, 1) := by decide +kernel
theorem dX8_cut_39 : decode cX8_cut 39 = .ok (.iload_n 2, 1) := by decide +kernel
theorem dX8_cut_40 : decode cX8_cut 40 = .ok (.ifCond .ne 7, 3) := by decide +kernel
theorem dX8_cut_43 : decode cX8_cut 43 = .ok (.iconst 1, 1) := by decide +kernel
theorem dX8_cut_44 : decode cX8_cut 44 = .ok (.goto 4, 3) := by decide +kernel
theorem dX8_cut_47 : decode cX8_cut 47 = .ok (.iconst 0, 1) := by decide +kernel
theorem dX8_cut_48 : decode cX8_cut 48 = .ok (.bastore, 1) := by decide +kernel
theorem dX8_cut_49 : decode cX8_cut 49 = .ok (.iconst 1, 1) := by decide +kernel
theorem dX8_cut_50 : decode cX8_cut 50 = .ok (.ireturn, 1) := by decide +kernel
theorem dX8_cost_0 : decode cX8_cost 0 = .ok (.aload_n 0, 1) := by decide +kernel
theorem dX8_cost_1 : decode cX8_cost 1 = .ok (.iload_n 1, 1) := by decide +kernel
theorem dX8_cost_2 : decode cX8_cost 2 = .ok (.invokevirtual 110, 3) := by decide +kernel
theorem dX8_cost_5 : decode cX8_cost 5 = .ok (.ifCond .eq 14, 3) := by decide +kernel
theorem dX8_cost_8 : decode cX8_cost 8 = .ok (.iload_n 2, 1) := by decide +kernel
theorem dX8_cost_9 : decode cX8_cost 9 = .ok (.iconst 0, 1) := by decide +kernel
theorem dX8_cost_10 : decode cX8_cost 10 = .ok (.sipush 999, 3) := by decide +kernel
theorem dX8_cost_13 : decode cX8_cost 13 = .ok (.invokestatic 114, 3) := by decide +kernel
theorem dX8_cost_16 : decode cX8_cost 16 = .ok (.goto 4, 3) := by decide +kernel
theorem dX8_cost_19 : decode cX8_cost 19 = .ok (.iconst (-1), 1) := by decide +kernel
theorem dX8_cost_20 : decode cX8_cost 20 = .ok (.istore_n 3, 1) := by decide +kernel
theorem dX8_cost_21 : decode cX8_cost 21 = .ok (.iload_n 3, 1) := by decide +kernel
theorem dX8_cost_22 : decode cX8_cost 22 = .ok (.ifCond .eq 9, 3) := by decide +kernel
theorem dX8_cost_25 : decode cX8_cost 25 = .ok (.aload_n 0, 1) := by decide +kernel
theorem dX8_cost_26 : decode cX8_cost 26 = .ok (.iload_n 3, 1) := by decide +kernel
theorem dX8_cost_27 : decode cX8_cost 27 = .ok (.invokevirtual 84, 3) := by decide +kernel
theorem dX8_cost_30 : decode cX8_cost 30 = .ok (.ireturn, 1) := by decide +kernel
theorem dX8_cost_31 : decode cX8_cost 31 = .ok (.aload_n 0, 1) := by decide +kernel
theorem dX8_cost_32 : decode cX8_cost 32 = .ok (.getfield 19, 3) := by decide +kernel
theorem dX8_cost_35 : decode cX8_cost 35 = .ok (.iload_n 1, 1) := by decide +kernel
theorem dX8_cost_36 : decode cX8_cost 36 = .ok (.iaload, 1) := by decide +kernel
theorem dX8_cost_37 : decode cX8_cost 37 = .ok (.istore 4, 2) := by decide +kernel
theorem dX8_cost_39 : decode cX8_cost 39 = .ok (.aload_n 0, 1) := by decide +kernel
theorem dX8_cost_40 : decode cX8_cost 40 = .ok (.getfield 19, 3) := by decide +kernel
theorem dX8_cost_43 : decode cX8_cost 43 = .ok (.iload_n 1, 1) := by decide +kernel
theorem dX8_cost_44 : decode cX8_cost 44 = .ok (.iload_n 2, 1) := by decide +kernel
theorem dX8_cost_45 : decode cX8_cost 45 = .ok (.iastore, 1) := by decide +kernel
theorem dX8_cost_46 : decode cX8_cost 46 = .ok (.iload 4, 2) := by decide +kernel
theorem dX8_cost_48 : decode cX8_cost 48 = .ok (.ireturn, 1) := by decide +kernel
theorem dX8_begins_0 : decode cX8_begins 0 = .ok (.aload_n 0, 1) := by decide +kernel
theorem dX8_begins_1 : decode cX8_begins 1 = .ok (.iload_n 1, 1) := by decide +kernel
theorem dX8_begins_2 : decode cX8_begins 2 = .ok (.putfield 118, 3) := by decide +kernel
theorem dX8_begins_5 : decode cX8_begins 5 = .ok (.aload_n 0, 1) := by decide +kernel
theorem dX8_begins_6 : decode cX8_begins 6 = .ok (.iload_n 2, 1) := by decide +kernel
theorem dX8_begins_7 : decode cX8_begins 7 = .ok (.putfield 121, 3) := by decide +kernel
theorem dX8_begins_10 : decode cX8_begins 10 = .ok (.aload_n 0, 1) := by decide +kernel
theorem dX8_begins_11 : decode cX8_begins 11 = .ok (.iconst 0, 1) := by decide +kernel
theorem dX8_begins_12 : decode cX8_begins 12 = .ok (.putfield 124, 3) := by decide +kernel
theorem dX8_begins_15 : decode cX8_begins 15 = .ok (.iconst 0, 1) := by decide +kernel
theorem dX8_begins_16 : decode cX8_begins 16 = .ok (.istore_n 3, 1) := by decide +kernel
theorem dX8_begins_17 : decode cX8_begins 17 = .ok (.iload_n 3, 1) := by decide +kernel
theorem dX8_begins_18 : decode cX8_begins 18 = .ok (.bipush 24, 2) := by decide +kernel
theorem dX8_begins_20 : decode cX8_begins 20 = .ok (.if_icmp .ge 16, 3) := by decide +kernel
theorem dX8_begins_23 : decode cX8_begins 23 = .ok (.aload_n 0, 1) := by decide +kernel
theorem dX8_begins_24 : decode cX8_begins 24 = .ok (.getfield 35, 3) := by decide +kernel
theorem dX8_begins_27 : decode cX8_begins 27 = .ok (.iload_n 3, 1) := by decide +kernel
theorem dX8_begins_28 : decode cX8_begins 28 = .ok (.iconst 0, 1) := by decide +kernel
theorem dX8_begins_29 : decode cX8_begins 29 = .ok (.iastore, 1) := by decide +kernel
theorem dX8_begins_30 : decode cX8_begins 30 = .ok (.iinc 3 1, 3) := by decide +kernel
theorem dX8_begins_33 : decode cX8_begins 33 = .ok (.goto (-16), 3) := by decide +kernel
theorem dX8_begins_36 : decode cX8_begins 36 = .ok (.return_, 1) := by decide +kernel
theorem dX8_makesRoom_0 : decode cX8_makesRoom 0 = .ok (.aload_n 0, 1) := by decide +kernel
theorem dX8_makesRoom_1 : decode cX8_makesRoom 1 = .ok (.getfield 35, 3) := by decide +kernel
theorem dX8_makesRoom_4 : decode cX8_makesRoom 4 = .ok (.iload_n 1, 1) := by decide +kernel
theorem dX8_makesRoom_5 : decode cX8_makesRoom 5 = .ok (.iaload, 1) := by decide +kernel
theorem dX8_makesRoom_6 : decode cX8_makesRoom 6 = .ok (.aload_n 0, 1) := by decide +kernel
theorem dX8_makesRoom_7 : decode cX8_makesRoom 7 = .ok (.getfield 118, 3) := by decide +kernel
theorem dX8_makesRoom_10 : decode cX8_makesRoom 10 = .ok (.if_icmp .ge 5, 3) := by decide +kernel
theorem dX8_makesRoom_13 : decode cX8_makesRoom 13 = .ok (.iconst 1, 1) := by decide +kernel
theorem dX8_makesRoom_14 : decode cX8_makesRoom 14 = .ok (.ireturn, 1) := by decide +kernel
theorem dX8_makesRoom_15 : decode cX8_makesRoom 15 = .ok (.aload_n 0, 1) := by decide +kernel
theorem dX8_makesRoom_16 : decode cX8_makesRoom 16 = .ok (.getfield 38, 3) := by decide +kernel
theorem dX8_makesRoom_19 : decode cX8_makesRoom 19 = .ok (.iload_n 1, 1) := by decide +kernel
theorem dX8_makesRoom_20 : decode cX8_makesRoom 20 = .ok (.iconst 1, 1) := by decide +kernel
theorem dX8_makesRoom_21 : decode cX8_makesRoom 21 = .ok (.bastore, 1) := by decide +kernel
theorem dX8_makesRoom_22 : decode cX8_makesRoom 22 = .ok (.iconst 0, 1) := by decide +kernel
theorem dX8_makesRoom_23 : decode cX8_makesRoom 23 = .ok (.istore_n 2, 1) := by decide +kernel
theorem dX8_makesRoom_24 : decode cX8_makesRoom 24 = .ok (.iload_n 2, 1) := by decide +kernel
theorem dX8_makesRoom_25 : decode cX8_makesRoom 25 = .ok (.aload_n 0, 1) := by decide +kernel
theorem dX8_makesRoom_26 : decode cX8_makesRoom 26 = .ok (.getfield 124, 3) := by decide +kernel
theorem dX8_makesRoom_29 : decode cX8_makesRoom 29 = .ok (.if_icmp .ge 97, 3) := by decide +kernel
theorem dX8_makesRoom_32 : decode cX8_makesRoom 32 = .ok (.aload_n 0, 1) := by decide +kernel
theorem dX8_makesRoom_33 : decode cX8_makesRoom 33 = .ok (.getfield 32, 3) := by decide +kernel
theorem dX8_makesRoom_36 : decode cX8_makesRoom 36 = .ok (.iload_n 2, 1) := by decide +kernel
theorem dX8_makesRoom_37 : decode cX8_makesRoom 37 = .ok (.iaload, 1) := by decide +kernel
theorem dX8_makesRoom_38 : decode cX8_makesRoom 38 = .ok (.iload_n 1, 1) := by decide +kernel
theorem dX8_makesRoom_39 : decode cX8_makesRoom 39 = .ok (.if_icmp .eq 6, 3) := by decide +kernel
theorem dX8_makesRoom_42 : decode cX8_makesRoom 42 = .ok (.goto 78, 3) := by decide +kernel
theorem dX8_makesRoom_45 : decode cX8_makesRoom 45 = .ok (.aload_n 0, 1) := by decide +kernel
theorem dX8_makesRoom_46 : decode cX8_makesRoom 46 = .ok (.getfield 26, 3) := by decide +kernel
theorem dX8_makesRoom_49 : decode cX8_makesRoom 49 = .ok (.iload_n 2, 1) := by decide +kernel
theorem dX8_makesRoom_50 : decode cX8_makesRoom 50 = .ok (.iaload, 1) := by decide +kernel
theorem dX8_makesRoom_51 : decode cX8_makesRoom 51 = .ok (.iload_n 1, 1) := by decide +kernel
theorem dX8_makesRoom_52 : decode cX8_makesRoom 52 = .ok (.if_icmp .ne 12, 3) := by decide +kernel
theorem dX8_makesRoom_55 : decode cX8_makesRoom 55 = .ok (.aload_n 0, 1) := by decide +kernel
theorem dX8_makesRoom_56 : decode cX8_makesRoom 56 = .ok (.getfield 29, 3) := by decide +kernel
theorem dX8_makesRoom_59 : decode cX8_makesRoom 59 = .ok (.iload_n 2, 1) := by decide +kernel
theorem dX8_makesRoom_60 : decode cX8_makesRoom 60 = .ok (.iaload, 1) := by decide +kernel
theorem dX8_makesRoom_61 : decode cX8_makesRoom 61 = .ok (.goto 9, 3) := by decide +kernel
theorem dX8_makesRoom_64 : decode cX8_makesRoom 64 = .ok (.aload_n 0, 1) := by decide +kernel
theorem dX8_makesRoom_65 : decode cX8_makesRoom 65 = .ok (.getfield 26, 3) := by decide +kernel
theorem dX8_makesRoom_68 : decode cX8_makesRoom 68 = .ok (.iload_n 2, 1) := by decide +kernel
theorem dX8_makesRoom_69 : decode cX8_makesRoom 69 = .ok (.iaload, 1) := by decide +kernel
theorem dX8_makesRoom_70 : decode cX8_makesRoom 70 = .ok (.istore_n 3, 1) := by decide +kernel
theorem dX8_makesRoom_71 : decode cX8_makesRoom 71 = .ok (.aload_n 0, 1) := by decide +kernel
theorem dX8_makesRoom_72 : decode cX8_makesRoom 72 = .ok (.getfield 38, 3) := by decide +kernel
theorem dX8_makesRoom_75 : decode cX8_makesRoom 75 = .ok (.iload_n 3, 1) := by decide +kernel
theorem dX8_makesRoom_76 : decode cX8_makesRoom 76 = .ok (.baload, 1) := by decide +kernel
theorem dX8_makesRoom_77 : decode cX8_makesRoom 77 = .ok (.ifCond .ne 43, 3) := by decide +kernel
theorem dX8_makesRoom_80 : decode cX8_makesRoom 80 = .ok (.aload_n 0, 1) := by decide +kernel
theorem dX8_makesRoom_81 : decode cX8_makesRoom 81 = .ok (.iload_n 3, 1) := by decide +kernel
theorem dX8_makesRoom_82 : decode cX8_makesRoom 82 = .ok (.invokevirtual 127, 3) := by decide +kernel
theorem dX8_makesRoom_85 : decode cX8_makesRoom 85 = .ok (.ifCond .ne 6, 3) := by decide +kernel
theorem dX8_makesRoom_88 : decode cX8_makesRoom 88 = .ok (.goto 32, 3) := by decide +kernel
theorem dX8_makesRoom_91 : decode cX8_makesRoom 91 = .ok (.aload_n 0, 1) := by decide +kernel
theorem dX8_makesRoom_92 : decode cX8_makesRoom 92 = .ok (.getfield 32, 3) := by decide +kernel
theorem dX8_makesRoom_95 : decode cX8_makesRoom 95 = .ok (.iload_n 2, 1) := by decide +kernel
theorem dX8_makesRoom_96 : decode cX8_makesRoom 96 = .ok (.iload_n 3, 1) := by decide +kernel
theorem dX8_makesRoom_97 : decode cX8_makesRoom 97 = .ok (.iastore, 1) := by decide +kernel
theorem dX8_makesRoom_98 : decode cX8_makesRoom 98 = .ok (.aload_n 0, 1) := by decide +kernel
theorem dX8_makesRoom_99 : decode cX8_makesRoom 99 = .ok (.getfield 35, 3) := by decide +kernel
theorem dX8_makesRoom_102 : decode cX8_makesRoom 102 = .ok (.iload_n 3, 1) := by decide +kernel
theorem dX8_makesRoom_103 : decode cX8_makesRoom 103 = .ok (.dup2, 1) := by decide +kernel
theorem dX8_makesRoom_104 : decode cX8_makesRoom 104 = .ok (.iaload, 1) := by decide +kernel
theorem dX8_makesRoom_105 : decode cX8_makesRoom 105 = .ok (.iconst 1, 1) := by decide +kernel
theorem dX8_makesRoom_106 : decode cX8_makesRoom 106 = .ok (.iadd, 1) := by decide +kernel
theorem dX8_makesRoom_107 : decode cX8_makesRoom 107 = .ok (.iastore, 1) := by decide +kernel
theorem dX8_makesRoom_108 : decode cX8_makesRoom 108 = .ok (.aload_n 0, 1) := by decide +kernel
theorem dX8_makesRoom_109 : decode cX8_makesRoom 109 = .ok (.getfield 35, 3) := by decide +kernel
theorem dX8_makesRoom_112 : decode cX8_makesRoom 112 = .ok (.iload_n 1, 1) := by decide +kernel
theorem dX8_makesRoom_113 : decode cX8_makesRoom 113 = .ok (.dup2, 1) := by decide +kernel
theorem dX8_makesRoom_114 : decode cX8_makesRoom 114 = .ok (.iaload, 1) := by decide +kernel
theorem dX8_makesRoom_115 : decode cX8_makesRoom 115 = .ok (.iconst 1, 1) := by decide +kernel
theorem dX8_makesRoom_116 : decode cX8_makesRoom 116 = .ok (.isub, 1) := by decide +kernel
theorem dX8_makesRoom_117 : decode cX8_makesRoom 117 = .ok (.iastore, 1) := by decide +kernel
theorem dX8_makesRoom_118 : decode cX8_makesRoom 118 = .ok (.iconst 1, 1) := by decide +kernel
theorem dX8_makesRoom_119 : decode cX8_makesRoom 119 = .ok (.ireturn, 1) := by decide +kernel
theorem dX8_makesRoom_120 : decode cX8_makesRoom 120 = .ok (.iinc 2 1, 3) := by decide +kernel
theorem dX8_makesRoom_123 : decode cX8_makesRoom 123 = .ok (.goto (-99), 3) := by decide +kernel
theorem dX8_makesRoom_126 : decode cX8_makesRoom 126 = .ok (.iconst 0, 1) := by decide +kernel
theorem dX8_makesRoom_127 : decode cX8_makesRoom 127 = .ok (.ireturn, 1) := by decide +kernel
theorem dX8_leansOn_0 : decode cX8_leansOn 0 = .ok (.iconst 0, 1) := by decide +kernel
theorem dX8_leansOn_1 : decode cX8_leansOn 1 = .ok (.istore_n 3, 1) := by decide +kernel
theorem dX8_leansOn_2 : decode cX8_leansOn 2 = .ok (.iload_n 3, 1) := by decide +kernel
theorem dX8_leansOn_3 : decode cX8_leansOn 3 = .ok (.bipush 24, 2) := by decide +kernel
theorem dX8_leansOn_5 : decode cX8_leansOn 5 = .ok (.if_icmp .ge 16, 3) := by decide +kernel
theorem dX8_leansOn_8 : decode cX8_leansOn 8 = .ok (.aload_n 0, 1) := by decide +kernel
theorem dX8_leansOn_9 : decode cX8_leansOn 9 = .ok (.getfield 38, 3) := by decide +kernel
theorem dX8_leansOn_12 : decode cX8_leansOn 12 = .ok (.iload_n 3, 1) := by decide +kernel
theorem dX8_leansOn_13 : decode cX8_leansOn 13 = .ok (.iconst 0, 1) := by decide +kernel
theorem dX8_leansOn_14 : decode cX8_leansOn 14 = .ok (.bastore, 1) := by decide +kernel
theorem dX8_leansOn_15 : decode cX8_leansOn 15 = .ok (.iinc 3 1, 3) := by decide +kernel
theorem dX8_leansOn_18 : decode cX8_leansOn 18 = .ok (.goto (-16), 3) := by decide +kernel
theorem dX8_leansOn_21 : decode cX8_leansOn 21 = .ok (.aload_n 0, 1) := by decide +kernel
theorem dX8_leansOn_22 : decode cX8_leansOn 22 = .ok (.iload_n 1, 1) := by decide +kernel
theorem dX8_leansOn_23 : decode cX8_leansOn 23 = .ok (.invokevirtual 127, 3) := by decide +kernel
theorem dX8_leansOn_26 : decode cX8_leansOn 26 = .ok (.ifCond .eq 7, 3) := by decide +kernel
theorem dX8_leansOn_29 : decode cX8_leansOn 29 = .ok (.iload_n 1, 1) := by decide +kernel
theorem dX8_leansOn_30 : decode cX8_leansOn 30 = .ok (.goto 25, 3) := by decide +kernel
theorem dX8_leansOn_33 : decode cX8_leansOn 33 = .ok (.aload_n 0, 1) := by decide +kernel
theorem dX8_leansOn_34 : decode cX8_leansOn 34 = .ok (.getfield 38, 3) := by decide +kernel
theorem dX8_leansOn_37 : decode cX8_leansOn 37 = .ok (.iload_n 2, 1) := by decide +kernel
theorem dX8_leansOn_38 : decode cX8_leansOn 38 = .ok (.baload, 1) := by decide +kernel
theorem dX8_leansOn_39 : decode cX8_leansOn 39 = .ok (.ifCond .ne 15, 3) := by decide +kernel
theorem dX8_leansOn_42 : decode cX8_leansOn 42 = .ok (.aload_n 0, 1) := by decide +kernel
theorem dX8_leansOn_43 : decode cX8_leansOn 43 = .ok (.iload_n 2, 1) := by decide +kernel
theorem dX8_leansOn_44 : decode cX8_leansOn 44 = .ok (.invokevirtual 127, 3) := by decide +kernel
theorem dX8_leansOn_47 : decode cX8_leansOn 47 = .ok (.ifCond .eq 7, 3) := by decide +kernel
theorem dX8_leansOn_50 : decode cX8_leansOn 50 = .ok (.iload_n 2, 1) := by decide +kernel
theorem dX8_leansOn_51 : decode cX8_leansOn 51 = .ok (.goto 4, 3) := by decide +kernel
theorem dX8_leansOn_54 : decode cX8_leansOn 54 = .ok (.iconst (-1), 1) := by decide +kernel
theorem dX8_leansOn_55 : decode cX8_leansOn 55 = .ok (.istore_n 3, 1) := by decide +kernel
theorem dX8_leansOn_56 : decode cX8_leansOn 56 = .ok (.iload_n 3, 1) := by decide +kernel
theorem dX8_leansOn_57 : decode cX8_leansOn 57 = .ok (.ifCond .ge 5, 3) := by decide +kernel
theorem dX8_leansOn_60 : decode cX8_leansOn 60 = .ok (.iconst 0, 1) := by decide +kernel
theorem dX8_leansOn_61 : decode cX8_leansOn 61 = .ok (.ireturn, 1) := by decide +kernel
theorem dX8_leansOn_62 : decode cX8_leansOn 62 = .ok (.aload_n 0, 1) := by decide +kernel
theorem dX8_leansOn_63 : decode cX8_leansOn 63 = .ok (.getfield 26, 3) := by decide +kernel
theorem dX8_leansOn_66 : decode cX8_leansOn 66 = .ok (.aload_n 0, 1) := by decide +kernel
theorem dX8_leansOn_67 : decode cX8_leansOn 67 = .ok (.getfield 124, 3) := by decide +kernel
theorem dX8_leansOn_70 : decode cX8_leansOn 70 = .ok (.iload_n 1, 1) := by decide +kernel
theorem dX8_leansOn_71 : decode cX8_leansOn 71 = .ok (.iastore, 1) := by decide +kernel
theorem dX8_leansOn_72 : decode cX8_leansOn 72 = .ok (.aload_n 0, 1) := by decide +kernel
theorem dX8_leansOn_73 : decode cX8_leansOn 73 = .ok (.getfield 29, 3) := by decide +kernel
theorem dX8_leansOn_76 : decode cX8_leansOn 76 = .ok (.aload_n 0, 1) := by decide +kernel
theorem dX8_leansOn_77 : decode cX8_leansOn 77 = .ok (.getfield 124, 3) := by decide +kernel
theorem dX8_leansOn_80 : decode cX8_leansOn 80 = .ok (.iload_n 2, 1) := by decide +kernel
theorem dX8_leansOn_81 : decode cX8_leansOn 81 = .ok (.iastore, 1) := by decide +kernel
theorem dX8_leansOn_82 : decode cX8_leansOn 82 = .ok (.aload_n 0, 1) := by decide +kernel
theorem dX8_leansOn_83 : decode cX8_leansOn 83 = .ok (.getfield 32, 3) := by decide +kernel
theorem dX8_leansOn_86 : decode cX8_leansOn 86 = .ok (.aload_n 0, 1) := by decide +kernel
theorem dX8_leansOn_87 : decode cX8_leansOn 87 = .ok (.getfield 124, 3) := by decide +kernel
theorem dX8_leansOn_90 : decode cX8_leansOn 90 = .ok (.iload_n 3, 1) := by decide +kernel
theorem dX8_leansOn_91 : decode cX8_leansOn 91 = .ok (.iastore, 1) := by decide +kernel
theorem dX8_leansOn_92 : decode cX8_leansOn 92 = .ok (.aload_n 0, 1) := by decide +kernel
theorem dX8_leansOn_93 : decode cX8_leansOn 93 = .ok (.getfield 35, 3) := by decide +kernel
theorem dX8_leansOn_96 : decode cX8_leansOn 96 = .ok (.iload_n 3, 1) := by decide +kernel
theorem dX8_leansOn_97 : decode cX8_leansOn 97 = .ok (.dup2, 1) := by decide +kernel
theorem dX8_leansOn_98 : decode cX8_leansOn 98 = .ok (.iaload, 1) := by decide +kernel
theorem dX8_leansOn_99 : decode cX8_leansOn 99 = .ok (.iconst 1, 1) := by decide +kernel
theorem dX8_leansOn_100 : decode cX8_leansOn 100 = .ok (.iadd, 1) := by decide +kernel
theorem dX8_leansOn_101 : decode cX8_leansOn 101 = .ok (.iastore, 1) := by decide +kernel
theorem dX8_leansOn_102 : decode cX8_leansOn 102 = .ok (.aload_n 0, 1) := by decide +kernel
theorem dX8_leansOn_103 : decode cX8_leansOn 103 = .ok (.dup, 1) := by decide +kernel
theorem dX8_leansOn_104 : decode cX8_leansOn 104 = .ok (.getfield 124, 3) := by decide +kernel
theorem dX8_leansOn_107 : decode cX8_leansOn 107 = .ok (.iconst 1, 1) := by decide +kernel
theorem dX8_leansOn_108 : decode cX8_leansOn 108 = .ok (.iadd, 1) := by decide +kernel
theorem dX8_leansOn_109 : decode cX8_leansOn 109 = .ok (.putfield 124, 3) := by decide +kernel
theorem dX8_leansOn_112 : decode cX8_leansOn 112 = .ok (.iconst 1, 1) := by decide +kernel
theorem dX8_leansOn_113 : decode cX8_leansOn 113 = .ok (.ireturn, 1) := by decide +kernel
theorem dX8_drops_0 : decode cX8_drops 0 = .ok (.aload_n 0, 1) := by decide +kernel
theorem dX8_drops_1 : decode cX8_drops 1 = .ok (.getfield 124, 3) := by decide +kernel
theorem dX8_drops_4 : decode cX8_drops 4 = .ok (.iload_n 1, 1) := by decide +kernel
theorem dX8_drops_5 : decode cX8_drops 5 = .ok (.if_icmp .le 34, 3) := by decide +kernel
theorem dX8_drops_8 : decode cX8_drops 8 = .ok (.aload_n 0, 1) := by decide +kernel
theorem dX8_drops_9 : decode cX8_drops 9 = .ok (.dup, 1) := by decide +kernel
theorem dX8_drops_10 : decode cX8_drops 10 = .ok (.getfield 124, 3) := by decide +kernel
theorem dX8_drops_13 : decode cX8_drops 13 = .ok (.iconst 1, 1) := by decide +kernel
theorem dX8_drops_14 : decode cX8_drops 14 = .ok (.isub, 1) := by decide +kernel
theorem dX8_drops_15 : decode cX8_drops 15 = .ok (.putfield 124, 3) := by decide +kernel
theorem dX8_drops_18 : decode cX8_drops 18 = .ok (.aload_n 0, 1) := by decide +kernel
theorem dX8_drops_19 : decode cX8_drops 19 = .ok (.getfield 35, 3) := by decide +kernel
theorem dX8_drops_22 : decode cX8_drops 22 = .ok (.aload_n 0, 1) := by decide +kernel
theorem dX8_drops_23 : decode cX8_drops 23 = .ok (.getfield 32, 3) := by decide +kernel
theorem dX8_drops_26 : decode cX8_drops 26 = .ok (.aload_n 0, 1) := by decide +kernel
theorem dX8_drops_27 : decode cX8_drops 27 = .ok (.getfield 124, 3) := by decide +kernel
theorem dX8_drops_30 : decode cX8_drops 30 = .ok (.iaload, 1) := by decide +kernel
theorem dX8_drops_31 : decode cX8_drops 31 = .ok (.dup2, 1) := by decide +kernel
theorem dX8_drops_32 : decode cX8_drops 32 = .ok (.iaload, 1) := by decide +kernel
theorem dX8_drops_33 : decode cX8_drops 33 = .ok (.iconst 1, 1) := by decide +kernel
theorem dX8_drops_34 : decode cX8_drops 34 = .ok (.isub, 1) := by decide +kernel
theorem dX8_drops_35 : decode cX8_drops 35 = .ok (.iastore, 1) := by decide +kernel
theorem dX8_drops_36 : decode cX8_drops 36 = .ok (.goto (-36), 3) := by decide +kernel
theorem dX8_drops_39 : decode cX8_drops 39 = .ok (.return_, 1) := by decide +kernel
theorem dX8_isFree_0 : decode cX8_isFree 0 = .ok (.aload_n 0, 1) := by decide +kernel
theorem dX8_isFree_1 : decode cX8_isFree 1 = .ok (.getfield 124, 3) := by decide +kernel
theorem dX8_isFree_4 : decode cX8_isFree 4 = .ok (.istore 4, 2) := by decide +kernel
theorem dX8_isFree_6 : decode cX8_isFree 6 = .ok (.iconst 1, 1) := by decide +kernel
theorem dX8_isFree_7 : decode cX8_isFree 7 = .ok (.istore 5, 2) := by decide +kernel
theorem dX8_isFree_9 : decode cX8_isFree 9 = .ok (.iconst 0, 1) := by decide +kernel
theorem dX8_isFree_10 : decode cX8_isFree 10 = .ok (.istore 6, 2) := by decide +kernel
theorem dX8_isFree_12 : decode cX8_isFree 12 = .ok (.iload 6, 2) := by decide +kernel
theorem dX8_isFree_14 : decode cX8_isFree 14 = .ok (.aload_n 0, 1) := by decide +kernel
theorem dX8_isFree_15 : decode cX8_isFree 15 = .ok (.getfield 121, 3) := by decide +kernel
theorem dX8_isFree_18 : decode cX8_isFree 18 = .ok (.if_icmp .gt 22, 3) := by decide +kernel
theorem dX8_isFree_21 : decode cX8_isFree 21 = .ok (.iload 5, 2) := by decide +kernel
theorem dX8_isFree_23 : decode cX8_isFree 23 = .ok (.ifCond .eq 17, 3) := by decide +kernel
theorem dX8_isFree_26 : decode cX8_isFree 26 = .ok (.aload_n 0, 1) := by decide +kernel
theorem dX8_isFree_27 : decode cX8_isFree 27 = .ok (.iload_n 1, 1) := by decide +kernel
theorem dX8_isFree_28 : decode cX8_isFree 28 = .ok (.iload_n 2, 1) := by decide +kernel
theorem dX8_isFree_29 : decode cX8_isFree 29 = .ok (.invokevirtual 130, 3) := by decide +kernel
theorem dX8_isFree_32 : decode cX8_isFree 32 = .ok (.istore 5, 2) := by decide +kernel
theorem dX8_isFree_34 : decode cX8_isFree 34 = .ok (.iinc 6 1, 3) := by decide +kernel
theorem dX8_isFree_37 : decode cX8_isFree 37 = .ok (.goto (-25), 3) := by decide +kernel
theorem dX8_isFree_40 : decode cX8_isFree 40 = .ok (.aload_n 0, 1) := by decide +kernel
theorem dX8_isFree_41 : decode cX8_isFree 41 = .ok (.iload 5, 2) := by decide +kernel
theorem dX8_isFree_43 : decode cX8_isFree 43 = .ok (.ifCond .eq 14, 3) := by decide +kernel
theorem dX8_isFree_46 : decode cX8_isFree 46 = .ok (.iload_n 3, 1) := by decide +kernel
theorem dX8_isFree_47 : decode cX8_isFree 47 = .ok (.ifCond .eq 10, 3) := by decide +kernel
theorem dX8_isFree_50 : decode cX8_isFree 50 = .ok (.iload 4, 2) := by decide +kernel
theorem dX8_isFree_52 : decode cX8_isFree 52 = .ok (.iconst 1, 1) := by decide +kernel
theorem dX8_isFree_53 : decode cX8_isFree 53 = .ok (.iadd, 1) := by decide +kernel
theorem dX8_isFree_54 : decode cX8_isFree 54 = .ok (.goto 5, 3) := by decide +kernel
theorem dX8_isFree_57 : decode cX8_isFree 57 = .ok (.iload 4, 2) := by decide +kernel
theorem dX8_isFree_59 : decode cX8_isFree 59 = .ok (.invokevirtual 133, 3) := by decide +kernel
theorem dX8_isFree_62 : decode cX8_isFree 62 = .ok (.iload 5, 2) := by decide +kernel
theorem dX8_isFree_64 : decode cX8_isFree 64 = .ok (.ireturn, 1) := by decide +kernel
theorem dX8_keeps_0 : decode cX8_keeps 0 = .ok (.aload_n 0, 1) := by decide +kernel
theorem dX8_keeps_1 : decode cX8_keeps 1 = .ok (.iload_n 1, 1) := by decide +kernel
theorem dX8_keeps_2 : decode cX8_keeps 2 = .ok (.iload_n 2, 1) := by decide +kernel
theorem dX8_keeps_3 : decode cX8_keeps 3 = .ok (.invokevirtual 137, 3) := by decide +kernel
theorem dX8_keeps_6 : decode cX8_keeps 6 = .ok (.iconst 0, 1) := by decide +kernel
theorem dX8_keeps_7 : decode cX8_keeps 7 = .ok (.istore 4, 2) := by decide +kernel
theorem dX8_keeps_9 : decode cX8_keeps 9 = .ok (.iload 4, 2) := by decide +kernel
theorem dX8_keeps_11 : decode cX8_keeps 11 = .ok (.aload_n 0, 1) := by decide +kernel
theorem dX8_keeps_12 : decode cX8_keeps 12 = .ok (.getfield 92, 3) := by decide +kernel
theorem dX8_keeps_15 : decode cX8_keeps 15 = .ok (.if_icmp .ge 59, 3) := by decide +kernel
theorem dX8_keeps_18 : decode cX8_keeps 18 = .ok (.aload_n 0, 1) := by decide +kernel
theorem dX8_keeps_19 : decode cX8_keeps 19 = .ok (.getfield 41, 3) := by decide +kernel
theorem dX8_keeps_22 : decode cX8_keeps 22 = .ok (.iload 4, 2) := by decide +kernel
theorem dX8_keeps_24 : decode cX8_keeps 24 = .ok (.aload_n 0, 1) := by decide +kernel
theorem dX8_keeps_25 : decode cX8_keeps 25 = .ok (.getfield 22, 3) := by decide +kernel
theorem dX8_keeps_28 : decode cX8_keeps 28 = .ok (.iload 4, 2) := by decide +kernel
theorem dX8_keeps_30 : decode cX8_keeps 30 = .ok (.baload, 1) := by decide +kernel
theorem dX8_keeps_31 : decode cX8_keeps 31 = .ok (.ifCond .eq 35, 3) := by decide +kernel
theorem dX8_keeps_34 : decode cX8_keeps 34 = .ok (.iload 4, 2) := by decide +kernel
theorem dX8_keeps_36 : decode cX8_keeps 36 = .ok (.iload_n 3, 1) := by decide +kernel
theorem dX8_keeps_37 : decode cX8_keeps 37 = .ok (.if_icmp .eq 29, 3) := by decide +kernel
theorem dX8_keeps_40 : decode cX8_keeps 40 = .ok (.aload_n 0, 1) := by decide +kernel
theorem dX8_keeps_41 : decode cX8_keeps 41 = .ok (.aload_n 0, 1) := by decide +kernel
theorem dX8_keeps_42 : decode cX8_keeps 42 = .ok (.getfield 13, 3) := by decide +kernel
theorem dX8_keeps_45 : decode cX8_keeps 45 = .ok (.iload 4, 2) := by decide +kernel
theorem dX8_keeps_47 : decode cX8_keeps 47 = .ok (.iaload, 1) := by decide +kernel
theorem dX8_keeps_48 : decode cX8_keeps 48 = .ok (.aload_n 0, 1) := by decide +kernel
theorem dX8_keeps_49 : decode cX8_keeps 49 = .ok (.getfield 16, 3) := by decide +kernel
theorem dX8_keeps_52 : decode cX8_keeps 52 = .ok (.iload 4, 2) := by decide +kernel
theorem dX8_keeps_54 : decode cX8_keeps 54 = .ok (.iaload, 1) := by decide +kernel
theorem dX8_keeps_55 : decode cX8_keeps 55 = .ok (.iconst 1, 1) := by decide +kernel
theorem dX8_keeps_56 : decode cX8_keeps 56 = .ok (.invokevirtual 141, 3) := by decide +kernel
theorem dX8_keeps_59 : decode cX8_keeps 59 = .ok (.ifCond .eq 7, 3) := by decide +kernel
theorem dX8_keeps_62 : decode cX8_keeps 62 = .ok (.iconst 1, 1) := by decide +kernel
theorem dX8_keeps_63 : decode cX8_keeps 63 = .ok (.goto 4, 3) := by decide +kernel
theorem dX8_keeps_66 : decode cX8_keeps 66 = .ok (.iconst 0, 1) := by decide +kernel
theorem dX8_keeps_67 : decode cX8_keeps 67 = .ok (.bastore, 1) := by decide +kernel
theorem dX8_keeps_68 : decode cX8_keeps 68 = .ok (.iinc 4 1, 3) := by decide +kernel
theorem dX8_keeps_71 : decode cX8_keeps 71 = .ok (.goto (-62), 3) := by decide +kernel
theorem dX8_keeps_74 : decode cX8_keeps 74 = .ok (.aload_n 0, 1) := by decide +kernel
theorem dX8_keeps_75 : decode cX8_keeps 75 = .ok (.getfield 124, 3) := by decide +kernel
theorem dX8_keeps_78 : decode cX8_keeps 78 = .ok (.ireturn, 1) := by decide +kernel
theorem dX8_ranks_0 : decode cX8_ranks 0 = .ok (.aload_n 0, 1) := by decide +kernel
theorem dX8_ranks_1 : decode cX8_ranks 1 = .ok (.iconst 2, 1) := by decide +kernel
theorem dX8_ranks_2 : decode cX8_ranks 2 = .ok (.iconst 3, 1) := by decide +kernel
theorem dX8_ranks_3 : decode cX8_ranks 3 = .ok (.iconst (-1), 1) := by decide +kernel
theorem dX8_ranks_4 : decode cX8_ranks 4 = .ok (.invokevirtual 145, 3) := by decide +kernel
theorem dX8_ranks_7 : decode cX8_ranks 7 = .ok (.ireturn, 1) := by decide +kernel
theorem dX8_rank_0 : decode cX8_rank 0 = .ok (.aload_n 0, 1) := by decide +kernel
theorem dX8_rank_1 : decode cX8_rank 1 = .ok (.invokevirtual 148, 3) := by decide +kernel
theorem dX8_rank_4 : decode cX8_rank 4 = .ok (.ireturn, 1) := by decide +kernel
theorem dX8_freedomOf_0 : decode cX8_freedomOf 0 = .ok (.iconst 2, 1) := by decide +kernel
theorem dX8_freedomOf_1 : decode cX8_freedomOf 1 = .ok (.aload_n 0, 1) := by decide +kernel
theorem dX8_freedomOf_2 : decode cX8_freedomOf 2 = .ok (.getfield 80, 3) := by decide +kernel
theorem dX8_freedomOf_5 : decode cX8_freedomOf 5 = .ok (.imul, 1) := by decide +kernel
theorem dX8_freedomOf_6 : decode cX8_freedomOf 6 = .ok (.iload_n 1, 1) := by decide +kernel
theorem dX8_freedomOf_7 : decode cX8_freedomOf 7 = .ok (.isub, 1) := by decide +kernel
theorem dX8_freedomOf_8 : decode cX8_freedomOf 8 = .ok (.ireturn, 1) := by decide +kernel
theorem dX8_freedom_0 : decode cX8_freedom 0 = .ok (.aload_n 0, 1) := by decide +kernel
theorem dX8_freedom_1 : decode cX8_freedom 1 = .ok (.aload_n 0, 1) := by decide +kernel
theorem dX8_freedom_2 : decode cX8_freedom 2 = .ok (.invokevirtual 148, 3) := by decide +kernel
theorem dX8_freedom_5 : decode cX8_freedom 5 = .ok (.invokevirtual 152, 3) := by decide +kernel
theorem dX8_freedom_8 : decode cX8_freedom 8 = .ok (.ireturn, 1) := by decide +kernel
theorem dX8_stiff_0 : decode cX8_stiff 0 = .ok (.aload_n 0, 1) := by decide +kernel
theorem dX8_stiff_1 : decode cX8_stiff 1 = .ok (.getfield 80, 3) := by decide +kernel
theorem dX8_stiff_4 : decode cX8_stiff 4 = .ok (.ifCond .eq 11, 3) := by decide +kernel
theorem dX8_stiff_7 : decode cX8_stiff 7 = .ok (.aload_n 0, 1) := by decide +kernel
theorem dX8_stiff_8 : decode cX8_stiff 8 = .ok (.invokevirtual 155, 3) := by decide +kernel
theorem dX8_stiff_11 : decode cX8_stiff 11 = .ok (.iconst 3, 1) := by decide +kernel
theorem dX8_stiff_12 : decode cX8_stiff 12 = .ok (.if_icmp .le 5, 3) := by decide +kernel
theorem dX8_stiff_15 : decode cX8_stiff 15 = .ok (.iconst 0, 1) := by decide +kernel
theorem dX8_stiff_16 : decode cX8_stiff 16 = .ok (.ireturn, 1) := by decide +kernel
theorem dX8_stiff_17 : decode cX8_stiff 17 = .ok (.iconst 0, 1) := by decide +kernel
theorem dX8_stiff_18 : decode cX8_stiff 18 = .ok (.istore_n 1, 1) := by decide +kernel
theorem dX8_stiff_19 : decode cX8_stiff 19 = .ok (.iload_n 1, 1) := by decide +kernel
theorem dX8_stiff_20 : decode cX8_stiff 20 = .ok (.aload_n 0, 1) := by decide +kernel
theorem dX8_stiff_21 : decode cX8_stiff 21 = .ok (.getfield 92, 3) := by decide +kernel
theorem dX8_stiff_24 : decode cX8_stiff 24 = .ok (.if_icmp .ge 35, 3) := by decide +kernel
theorem dX8_stiff_27 : decode cX8_stiff 27 = .ok (.aload_n 0, 1) := by decide +kernel
theorem dX8_stiff_28 : decode cX8_stiff 28 = .ok (.getfield 22, 3) := by decide +kernel
theorem dX8_stiff_31 : decode cX8_stiff 31 = .ok (.iload_n 1, 1) := by decide +kernel
theorem dX8_stiff_32 : decode cX8_stiff 32 = .ok (.baload, 1) := by decide +kernel
theorem dX8_stiff_33 : decode cX8_stiff 33 = .ok (.ifCond .eq 20, 3) := by decide +kernel
theorem dX8_stiff_36 : decode cX8_stiff 36 = .ok (.aload_n 0, 1) := by decide +kernel
theorem dX8_stiff_37 : decode cX8_stiff 37 = .ok (.aload_n 0, 1) := by decide +kernel
theorem dX8_stiff_38 : decode cX8_stiff 38 = .ok (.iconst 2, 1) := by decide +kernel
theorem dX8_stiff_39 : decode cX8_stiff 39 = .ok (.iconst 3, 1) := by decide +kernel
theorem dX8_stiff_40 : decode cX8_stiff 40 = .ok (.iload_n 1, 1) := by decide +kernel
theorem dX8_stiff_41 : decode cX8_stiff 41 = .ok (.invokevirtual 145, 3) := by decide +kernel
theorem dX8_stiff_44 : decode cX8_stiff 44 = .ok (.invokevirtual 152, 3) := by decide +kernel
theorem dX8_stiff_47 : decode cX8_stiff 47 = .ok (.iconst 3, 1) := by decide +kernel
theorem dX8_stiff_48 : decode cX8_stiff 48 = .ok (.if_icmp .le 5, 3) := by decide +kernel
theorem dX8_stiff_51 : decode cX8_stiff 51 = .ok (.iconst 1, 1) := by decide +kernel
theorem dX8_stiff_52 : decode cX8_stiff 52 = .ok (.ireturn, 1) := by decide +kernel
theorem dX8_stiff_53 : decode cX8_stiff 53 = .ok (.iinc 1 1, 3) := by decide +kernel
theorem dX8_stiff_56 : decode cX8_stiff 56 = .ok (.goto (-37), 3) := by decide +kernel
theorem dX8_stiff_59 : decode cX8_stiff 59 = .ok (.iconst 2, 1) := by decide +kernel
theorem dX8_stiff_60 : decode cX8_stiff 60 = .ok (.ireturn, 1) := by decide +kernel
theorem dX8_kept_0 : decode cX8_kept 0 = .ok (.aload_n 0, 1) := by decide +kernel
theorem dX8_kept_1 : decode cX8_kept 1 = .ok (.iload_n 1, 1) := by decide +kernel
theorem dX8_kept_2 : decode cX8_kept 2 = .ok (.invokevirtual 110, 3) := by decide +kernel
theorem dX8_kept_5 : decode cX8_kept 5 = .ok (.ifCond .ne 9, 3) := by decide +kernel
theorem dX8_kept_8 : decode cX8_kept 8 = .ok (.aload_n 0, 1) := by decide +kernel
theorem dX8_kept_9 : decode cX8_kept 9 = .ok (.iconst (-1), 1) := by decide +kernel
theorem dX8_kept_10 : decode cX8_kept 10 = .ok (.invokevirtual 84, 3) := by decide +kernel
theorem dX8_kept_13 : decode cX8_kept 13 = .ok (.ireturn, 1) := by decide +kernel
theorem dX8_kept_14 : decode cX8_kept 14 = .ok (.aload_n 0, 1) := by decide +kernel
theorem dX8_kept_15 : decode cX8_kept 15 = .ok (.invokevirtual 148, 3) := by decide +kernel
theorem dX8_kept_18 : decode cX8_kept 18 = .ok (.istore_n 2, 1) := by decide +kernel
theorem dX8_kept_19 : decode cX8_kept 19 = .ok (.aload_n 0, 1) := by decide +kernel
theorem dX8_kept_20 : decode cX8_kept 20 = .ok (.getfield 22, 3) := by decide +kernel
theorem dX8_kept_23 : decode cX8_kept 23 = .ok (.iload_n 1, 1) := by decide +kernel
theorem dX8_kept_24 : decode cX8_kept 24 = .ok (.baload, 1) := by decide +kernel
theorem dX8_kept_25 : decode cX8_kept 25 = .ok (.ifCond .ne 8, 3) := by decide +kernel
theorem dX8_kept_28 : decode cX8_kept 28 = .ok (.bipush (-9), 2) := by decide +kernel
theorem dX8_kept_30 : decode cX8_kept 30 = .ok (.goto 17, 3) := by decide +kernel
theorem dX8_kept_33 : decode cX8_kept 33 = .ok (.aload_n 0, 1) := by decide +kernel
theorem dX8_kept_34 : decode cX8_kept 34 = .ok (.getfield 41, 3) := by decide +kernel
theorem dX8_kept_37 : decode cX8_kept 37 = .ok (.iload_n 1, 1) := by decide +kernel
theorem dX8_kept_38 : decode cX8_kept 38 = .ok (.baload, 1) := by decide +kernel
theorem dX8_kept_39 : decode cX8_kept 39 = .ok (.ifCond .eq 7, 3) := by decide +kernel
theorem dX8_kept_42 : decode cX8_kept 42 = .ok (.iconst 1, 1) := by decide +kernel
theorem dX8_kept_43 : decode cX8_kept 43 = .ok (.goto 4, 3) := by decide +kernel
theorem dX8_kept_46 : decode cX8_kept 46 = .ok (.iconst 0, 1) := by decide +kernel
theorem dX8_kept_47 : decode cX8_kept 47 = .ok (.ireturn, 1) := by decide +kernel
theorem dX8_isSpare_0 : decode cX8_isSpare 0 = .ok (.aload_n 0, 1) := by decide +kernel
theorem dX8_isSpare_1 : decode cX8_isSpare 1 = .ok (.invokevirtual 148, 3) := by decide +kernel
theorem dX8_isSpare_4 : decode cX8_isSpare 4 = .ok (.aload_n 0, 1) := by decide +kernel
theorem dX8_isSpare_5 : decode cX8_isSpare 5 = .ok (.iconst 2, 1) := by decide +kernel
theorem dX8_isSpare_6 : decode cX8_isSpare 6 = .ok (.iconst 3, 1) := by decide +kernel
theorem dX8_isSpare_7 : decode cX8_isSpare 7 = .ok (.iload_n 1, 1) := by decide +kernel
theorem dX8_isSpare_8 : decode cX8_isSpare 8 = .ok (.invokevirtual 145, 3) := by decide +kernel
theorem dX8_isSpare_11 : decode cX8_isSpare 11 = .ok (.if_icmp .ne 7, 3) := by decide +kernel
theorem dX8_isSpare_14 : decode cX8_isSpare 14 = .ok (.iconst 1, 1) := by decide +kernel
theorem dX8_isSpare_15 : decode cX8_isSpare 15 = .ok (.goto 4, 3) := by decide +kernel
theorem dX8_isSpare_18 : decode cX8_isSpare 18 = .ok (.iconst 0, 1) := by decide +kernel
theorem dX8_isSpare_19 : decode cX8_isSpare 19 = .ok (.ireturn, 1) := by decide +kernel
theorem dX8_spare_0 : decode cX8_spare 0 = .ok (.aload_n 0, 1) := by decide +kernel
theorem dX8_spare_1 : decode cX8_spare 1 = .ok (.iload_n 1, 1) := by decide +kernel
theorem dX8_spare_2 : decode cX8_spare 2 = .ok (.invokevirtual 110, 3) := by decide +kernel
theorem dX8_spare_5 : decode cX8_spare 5 = .ok (.ifCond .ne 9, 3) := by decide +kernel
theorem dX8_spare_8 : decode cX8_spare 8 = .ok (.aload_n 0, 1) := by decide +kernel
theorem dX8_spare_9 : decode cX8_spare 9 = .ok (.iconst (-1), 1) := by decide +kernel
theorem dX8_spare_10 : decode cX8_spare 10 = .ok (.invokevirtual 84, 3) := by decide +kernel
theorem dX8_spare_13 : decode cX8_spare 13 = .ok (.ireturn, 1) := by decide +kernel
theorem dX8_spare_14 : decode cX8_spare 14 = .ok (.aload_n 0, 1) := by decide +kernel
theorem dX8_spare_15 : decode cX8_spare 15 = .ok (.getfield 22, 3) := by decide +kernel
theorem dX8_spare_18 : decode cX8_spare 18 = .ok (.iload_n 1, 1) := by decide +kernel
theorem dX8_spare_19 : decode cX8_spare 19 = .ok (.baload, 1) := by decide +kernel
theorem dX8_spare_20 : decode cX8_spare 20 = .ok (.ifCond .ne 8, 3) := by decide +kernel
theorem dX8_spare_23 : decode cX8_spare 23 = .ok (.bipush (-9), 2) := by decide +kernel
theorem dX8_spare_25 : decode cX8_spare 25 = .ok (.goto 16, 3) := by decide +kernel
theorem dX8_spare_28 : decode cX8_spare 28 = .ok (.aload_n 0, 1) := by decide +kernel
theorem dX8_spare_29 : decode cX8_spare 29 = .ok (.iload_n 1, 1) := by decide +kernel
theorem dX8_spare_30 : decode cX8_spare 30 = .ok (.invokevirtual 158, 3) := by decide +kernel
theorem dX8_spare_33 : decode cX8_spare 33 = .ok (.ifCond .eq 7, 3) := by decide +kernel
theorem dX8_spare_36 : decode cX8_spare 36 = .ok (.iconst 1, 1) := by decide +kernel
theorem dX8_spare_37 : decode cX8_spare 37 = .ok (.goto 4, 3) := by decide +kernel
theorem dX8_spare_40 : decode cX8_spare 40 = .ok (.iconst 0, 1) := by decide +kernel
theorem dX8_spare_41 : decode cX8_spare 41 = .ok (.ireturn, 1) := by decide +kernel
theorem dX8_findCircuit_0 : decode cX8_findCircuit 0 = .ok (.iconst 0, 1) := by decide +kernel
theorem dX8_findCircuit_1 : decode cX8_findCircuit 1 = .ok (.istore_n 2, 1) := by decide +kernel
theorem dX8_findCircuit_2 : decode cX8_findCircuit 2 = .ok (.iconst 0, 1) := by decide +kernel
theorem dX8_findCircuit_3 : decode cX8_findCircuit 3 = .ok (.istore_n 3, 1) := by decide +kernel
theorem dX8_findCircuit_4 : decode cX8_findCircuit 4 = .ok (.iload_n 3, 1) := by decide +kernel
theorem dX8_findCircuit_5 : decode cX8_findCircuit 5 = .ok (.aload_n 0, 1) := by decide +kernel
theorem dX8_findCircuit_6 : decode cX8_findCircuit 6 = .ok (.getfield 92, 3) := by decide +kernel
theorem dX8_findCircuit_9 : decode cX8_findCircuit 9 = .ok (.if_icmp .ge 132, 3) := by decide +kernel
theorem dX8_findCircuit_12 : decode cX8_findCircuit 12 = .ok (.aload_n 0, 1) := by decide +kernel
theorem dX8_findCircuit_13 : decode cX8_findCircuit 13 = .ok (.getfield 47, 3) := by decide +kernel
theorem dX8_findCircuit_16 : decode cX8_findCircuit 16 = .ok (.iload_n 3, 1) := by decide +kernel
theorem dX8_findCircuit_17 : decode cX8_findCircuit 17 = .ok (.iconst 0, 1) := by decide +kernel
theorem dX8_findCircuit_18 : decode cX8_findCircuit 18 = .ok (.bastore, 1) := by decide +kernel
theorem dX8_findCircuit_19 : decode cX8_findCircuit 19 = .ok (.aload_n 0, 1) := by decide +kernel
theorem dX8_findCircuit_20 : decode cX8_findCircuit 20 = .ok (.getfield 50, 3) := by decide +kernel
theorem dX8_findCircuit_23 : decode cX8_findCircuit 23 = .ok (.iload_n 3, 1) := by decide +kernel
theorem dX8_findCircuit_24 : decode cX8_findCircuit 24 = .ok (.baload, 1) := by decide +kernel
theorem dX8_findCircuit_25 : decode cX8_findCircuit 25 = .ok (.ifCond .ne 6, 3) := by decide +kernel
theorem dX8_findCircuit_28 : decode cX8_findCircuit 28 = .ok (.goto 107, 3) := by decide +kernel
theorem dX8_findCircuit_31 : decode cX8_findCircuit 31 = .ok (.aload_n 0, 1) := by decide +kernel
theorem dX8_findCircuit_32 : decode cX8_findCircuit 32 = .ok (.iconst 2, 1) := by decide +kernel
theorem dX8_findCircuit_33 : decode cX8_findCircuit 33 = .ok (.iconst 3, 1) := by decide +kernel
theorem dX8_findCircuit_34 : decode cX8_findCircuit 34 = .ok (.invokevirtual 137, 3) := by decide +kernel
theorem dX8_findCircuit_37 : decode cX8_findCircuit 37 = .ok (.iconst 0, 1) := by decide +kernel
theorem dX8_findCircuit_38 : decode cX8_findCircuit 38 = .ok (.istore 4, 2) := by decide +kernel
theorem dX8_findCircuit_40 : decode cX8_findCircuit 40 = .ok (.iload 4, 2) := by decide +kernel
theorem dX8_findCircuit_42 : decode cX8_findCircuit 42 = .ok (.aload_n 0, 1) := by decide +kernel
theorem dX8_findCircuit_43 : decode cX8_findCircuit 43 = .ok (.getfield 92, 3) := by decide +kernel
theorem dX8_findCircuit_46 : decode cX8_findCircuit 46 = .ok (.if_icmp .ge 49, 3) := by decide +kernel
theorem dX8_findCircuit_49 : decode cX8_findCircuit 49 = .ok (.aload_n 0, 1) := by decide +kernel
theorem dX8_findCircuit_50 : decode cX8_findCircuit 50 = .ok (.getfield 50, 3) := by decide +kernel
theorem dX8_findCircuit_53 : decode cX8_findCircuit 53 = .ok (.iload 4, 2) := by decide +kernel
theorem dX8_findCircuit_55 : decode cX8_findCircuit 55 = .ok (.baload, 1) := by decide +kernel
theorem dX8_findCircuit_56 : decode cX8_findCircuit 56 = .ok (.ifCond .eq 33, 3) := by decide +kernel
theorem dX8_findCircuit_59 : decode cX8_findCircuit 59 = .ok (.iload 4, 2) := by decide +kernel
theorem dX8_findCircuit_61 : decode cX8_findCircuit 61 = .ok (.iload_n 3, 1) := by decide +kernel
theorem dX8_findCircuit_62 : decode cX8_findCircuit 62 = .ok (.if_icmp .eq 27, 3) := by decide +kernel
theorem dX8_findCircuit_65 : decode cX8_findCircuit 65 = .ok (.aload_n 0, 1) := by decide +kernel
theorem dX8_findCircuit_66 : decode cX8_findCircuit 66 = .ok (.aload_n 0, 1) := by decide +kernel
theorem dX8_findCircuit_67 : decode cX8_findCircuit 67 = .ok (.getfield 13, 3) := by decide +kernel
theorem dX8_findCircuit_70 : decode cX8_findCircuit 70 = .ok (.iload 4, 2) := by decide +kernel
theorem dX8_findCircuit_72 : decode cX8_findCircuit 72 = .ok (.iaload, 1) := by decide +kernel
theorem dX8_findCircuit_73 : decode cX8_findCircuit 73 = .ok (.aload_n 0, 1) := by decide +kernel
theorem dX8_findCircuit_74 : decode cX8_findCircuit 74 = .ok (.getfield 16, 3) := by decide +kernel
theorem dX8_findCircuit_77 : decode cX8_findCircuit 77 = .ok (.iload 4, 2) := by decide +kernel
theorem dX8_findCircuit_79 : decode cX8_findCircuit 79 = .ok (.iaload, 1) := by decide +kernel
theorem dX8_findCircuit_80 : decode cX8_findCircuit 80 = .ok (.iconst 1, 1) := by decide +kernel
theorem dX8_findCircuit_81 : decode cX8_findCircuit 81 = .ok (.invokevirtual 141, 3) := by decide +kernel
theorem dX8_findCircuit_84 : decode cX8_findCircuit 84 = .ok (.ifCond .ne 5, 3) := by decide +kernel
theorem dX8_findCircuit_87 : decode cX8_findCircuit 87 = .ok (.iconst (-1), 1) := by decide +kernel
theorem dX8_findCircuit_88 : decode cX8_findCircuit 88 = .ok (.ireturn, 1) := by decide +kernel
theorem dX8_findCircuit_89 : decode cX8_findCircuit 89 = .ok (.iinc 4 1, 3) := by decide +kernel
theorem dX8_findCircuit_92 : decode cX8_findCircuit 92 = .ok (.goto (-52), 3) := by decide +kernel
theorem dX8_findCircuit_95 : decode cX8_findCircuit 95 = .ok (.aload_n 0, 1) := by decide +kernel
theorem dX8_findCircuit_96 : decode cX8_findCircuit 96 = .ok (.getfield 47, 3) := by decide +kernel
theorem dX8_findCircuit_99 : decode cX8_findCircuit 99 = .ok (.iload_n 3, 1) := by decide +kernel
theorem dX8_findCircuit_100 : decode cX8_findCircuit 100 = .ok (.aload_n 0, 1) := by decide +kernel
theorem dX8_findCircuit_101 : decode cX8_findCircuit 101 = .ok (.aload_n 0, 1) := by decide +kernel
theorem dX8_findCircuit_102 : decode cX8_findCircuit 102 = .ok (.getfield 13, 3) := by decide +kernel
theorem dX8_findCircuit_105 : decode cX8_findCircuit 105 = .ok (.iload_n 1, 1) := by decide +kernel
theorem dX8_findCircuit_106 : decode cX8_findCircuit 106 = .ok (.iaload, 1) := by decide +kernel
theorem dX8_findCircuit_107 : decode cX8_findCircuit 107 = .ok (.aload_n 0, 1) := by decide +kernel
theorem dX8_findCircuit_108 : decode cX8_findCircuit 108 = .ok (.getfield 16, 3) := by decide +kernel
theorem dX8_findCircuit_111 : decode cX8_findCircuit 111 = .ok (.iload_n 1, 1) := by decide +kernel
theorem dX8_findCircuit_112 : decode cX8_findCircuit 112 = .ok (.iaload, 1) := by decide +kernel
theorem dX8_findCircuit_113 : decode cX8_findCircuit 113 = .ok (.iconst 0, 1) := by decide +kernel
theorem dX8_findCircuit_114 : decode cX8_findCircuit 114 = .ok (.invokevirtual 141, 3) := by decide +kernel
theorem dX8_findCircuit_117 : decode cX8_findCircuit 117 = .ok (.bastore, 1) := by decide +kernel
theorem dX8_findCircuit_118 : decode cX8_findCircuit 118 = .ok (.iload_n 2, 1) := by decide +kernel
theorem dX8_findCircuit_119 : decode cX8_findCircuit 119 = .ok (.aload_n 0, 1) := by decide +kernel
theorem dX8_findCircuit_120 : decode cX8_findCircuit 120 = .ok (.getfield 47, 3) := by decide +kernel
theorem dX8_findCircuit_123 : decode cX8_findCircuit 123 = .ok (.iload_n 3, 1) := by decide +kernel
theorem dX8_findCircuit_124 : decode cX8_findCircuit 124 = .ok (.baload, 1) := by decide +kernel
theorem dX8_findCircuit_125 : decode cX8_findCircuit 125 = .ok (.ifCond .eq 7, 3) := by decide +kernel
theorem dX8_findCircuit_128 : decode cX8_findCircuit 128 = .ok (.iconst 1, 1) := by decide +kernel
theorem dX8_findCircuit_129 : decode cX8_findCircuit 129 = .ok (.goto 4, 3) := by decide +kernel
theorem dX8_findCircuit_132 : decode cX8_findCircuit 132 = .ok (.iconst 0, 1) := by decide +kernel
theorem dX8_findCircuit_133 : decode cX8_findCircuit 133 = .ok (.iadd, 1) := by decide +kernel
theorem dX8_findCircuit_134 : decode cX8_findCircuit 134 = .ok (.istore_n 2, 1) := by decide +kernel
theorem dX8_findCircuit_135 : decode cX8_findCircuit 135 = .ok (.iinc 3 1, 3) := by decide +kernel
theorem dX8_findCircuit_138 : decode cX8_findCircuit 138 = .ok (.goto (-134), 3) := by decide +kernel
theorem dX8_findCircuit_141 : decode cX8_findCircuit 141 = .ok (.iload_n 2, 1) := by decide +kernel
theorem dX8_findCircuit_142 : decode cX8_findCircuit 142 = .ok (.ireturn, 1) := by decide +kernel
theorem dX8_findBase_0 : decode cX8_findBase 0 = .ok (.aload_n 0, 1) := by decide +kernel
theorem dX8_findBase_1 : decode cX8_findBase 1 = .ok (.invokevirtual 148, 3) := by decide +kernel
theorem dX8_findBase_4 : decode cX8_findBase 4 = .ok (.istore_n 1, 1) := by decide +kernel
theorem dX8_findBase_5 : decode cX8_findBase 5 = .ok (.iconst 0, 1) := by decide +kernel
theorem dX8_findBase_6 : decode cX8_findBase 6 = .ok (.istore_n 2, 1) := by decide +kernel
theorem dX8_findBase_7 : decode cX8_findBase 7 = .ok (.iload_n 2, 1) := by decide +kernel
theorem dX8_findBase_8 : decode cX8_findBase 8 = .ok (.aload_n 0, 1) := by decide +kernel
theorem dX8_findBase_9 : decode cX8_findBase 9 = .ok (.getfield 92, 3) := by decide +kernel
theorem dX8_findBase_12 : decode cX8_findBase 12 = .ok (.if_icmp .ge 21, 3) := by decide +kernel
theorem dX8_findBase_15 : decode cX8_findBase 15 = .ok (.aload_n 0, 1) := by decide +kernel
theorem dX8_findBase_16 : decode cX8_findBase 16 = .ok (.getfield 50, 3) := by decide +kernel
theorem dX8_findBase_19 : decode cX8_findBase 19 = .ok (.iload_n 2, 1) := by decide +kernel
theorem dX8_findBase_20 : decode cX8_findBase 20 = .ok (.aload_n 0, 1) := by decide +kernel
theorem dX8_findBase_21 : decode cX8_findBase 21 = .ok (.getfield 41, 3) := by decide +kernel
theorem dX8_findBase_24 : decode cX8_findBase 24 = .ok (.iload_n 2, 1) := by decide +kernel
theorem dX8_findBase_25 : decode cX8_findBase 25 = .ok (.baload, 1) := by decide +kernel
theorem dX8_findBase_26 : decode cX8_findBase 26 = .ok (.bastore, 1) := by decide +kernel
theorem dX8_findBase_27 : decode cX8_findBase 27 = .ok (.iinc 2 1, 3) := by decide +kernel
theorem dX8_findBase_30 : decode cX8_findBase 30 = .ok (.goto (-23), 3) := by decide +kernel
theorem dX8_findBase_33 : decode cX8_findBase 33 = .ok (.return_, 1) := by decide +kernel
theorem dX8_circuit_0 : decode cX8_circuit 0 = .ok (.aload_n 0, 1) := by decide +kernel
theorem dX8_circuit_1 : decode cX8_circuit 1 = .ok (.iload_n 1, 1) := by decide +kernel
theorem dX8_circuit_2 : decode cX8_circuit 2 = .ok (.invokevirtual 110, 3) := by decide +kernel
theorem dX8_circuit_5 : decode cX8_circuit 5 = .ok (.ifCond .ne 9, 3) := by decide +kernel
theorem dX8_circuit_8 : decode cX8_circuit 8 = .ok (.aload_n 0, 1) := by decide +kernel
theorem dX8_circuit_9 : decode cX8_circuit 9 = .ok (.iconst (-1), 1) := by decide +kernel
theorem dX8_circuit_10 : decode cX8_circuit 10 = .ok (.invokevirtual 84, 3) := by decide +kernel
theorem dX8_circuit_13 : decode cX8_circuit 13 = .ok (.ireturn, 1) := by decide +kernel
theorem dX8_circuit_14 : decode cX8_circuit 14 = .ok (.aload_n 0, 1) := by decide +kernel
theorem dX8_circuit_15 : decode cX8_circuit 15 = .ok (.invokevirtual 161, 3) := by decide +kernel
theorem dX8_circuit_18 : decode cX8_circuit 18 = .ok (.aload_n 0, 1) := by decide +kernel
theorem dX8_circuit_19 : decode cX8_circuit 19 = .ok (.getfield 22, 3) := by decide +kernel
theorem dX8_circuit_22 : decode cX8_circuit 22 = .ok (.iload_n 1, 1) := by decide +kernel
theorem dX8_circuit_23 : decode cX8_circuit 23 = .ok (.baload, 1) := by decide +kernel
theorem dX8_circuit_24 : decode cX8_circuit 24 = .ok (.ifCond .eq 12, 3) := by decide +kernel
theorem dX8_circuit_27 : decode cX8_circuit 27 = .ok (.aload_n 0, 1) := by decide +kernel
theorem dX8_circuit_28 : decode cX8_circuit 28 = .ok (.getfield 50, 3) := by decide +kernel
theorem dX8_circuit_31 : decode cX8_circuit 31 = .ok (.iload_n 1, 1) := by decide +kernel
theorem dX8_circuit_32 : decode cX8_circuit 32 = .ok (.baload, 1) := by decide +kernel
theorem dX8_circuit_33 : decode cX8_circuit 33 = .ok (.ifCond .eq 10, 3) := by decide +kernel
theorem dX8_circuit_36 : decode cX8_circuit 36 = .ok (.aload_n 0, 1) := by decide +kernel
theorem dX8_circuit_37 : decode cX8_circuit 37 = .ok (.bipush (-3), 2) := by decide +kernel
theorem dX8_circuit_39 : decode cX8_circuit 39 = .ok (.invokevirtual 84, 3) := by decide +kernel
theorem dX8_circuit_42 : decode cX8_circuit 42 = .ok (.ireturn, 1) := by decide +kernel
theorem dX8_circuit_43 : decode cX8_circuit 43 = .ok (.aload_n 0, 1) := by decide +kernel
theorem dX8_circuit_44 : decode cX8_circuit 44 = .ok (.iload_n 1, 1) := by decide +kernel
theorem dX8_circuit_45 : decode cX8_circuit 45 = .ok (.invokevirtual 164, 3) := by decide +kernel
theorem dX8_circuit_48 : decode cX8_circuit 48 = .ok (.ireturn, 1) := by decide +kernel
theorem dX8_circuitBar_0 : decode cX8_circuitBar 0 = .ok (.aload_n 0, 1) := by decide +kernel
theorem dX8_circuitBar_1 : decode cX8_circuitBar 1 = .ok (.iload_n 1, 1) := by decide +kernel
theorem dX8_circuitBar_2 : decode cX8_circuitBar 2 = .ok (.invokevirtual 110, 3) := by decide +kernel
theorem dX8_circuitBar_5 : decode cX8_circuitBar 5 = .ok (.ifCond .ne 9, 3) := by decide +kernel
theorem dX8_circuitBar_8 : decode cX8_circuitBar 8 = .ok (.aload_n 0, 1) := by decide +kernel
theorem dX8_circuitBar_9 : decode cX8_circuitBar 9 = .ok (.iconst (-1), 1) := by decide +kernel
theorem dX8_circuitBar_10 : decode cX8_circuitBar 10 = .ok (.invokevirtual 84, 3) := by decide +kernel
theorem dX8_circuitBar_13 : decode cX8_circuitBar 13 = .ok (.ireturn, 1) := by decide +kernel
theorem dX8_circuitBar_14 : decode cX8_circuitBar 14 = .ok (.aload_n 0, 1) := by decide +kernel
theorem dX8_circuitBar_15 : decode cX8_circuitBar 15 = .ok (.invokevirtual 161, 3) := by decide +kernel
theorem dX8_circuitBar_18 : decode cX8_circuitBar 18 = .ok (.aload_n 0, 1) := by decide +kernel
theorem dX8_circuitBar_19 : decode cX8_circuitBar 19 = .ok (.getfield 22, 3) := by decide +kernel
theorem dX8_circuitBar_22 : decode cX8_circuitBar 22 = .ok (.iload_n 1, 1) := by decide +kernel
theorem dX8_circuitBar_23 : decode cX8_circuitBar 23 = .ok (.baload, 1) := by decide +kernel
theorem dX8_circuitBar_24 : decode cX8_circuitBar 24 = .ok (.ifCond .eq 12, 3) := by decide +kernel
theorem dX8_circuitBar_27 : decode cX8_circuitBar 27 = .ok (.aload_n 0, 1) := by decide +kernel
theorem dX8_circuitBar_28 : decode cX8_circuitBar 28 = .ok (.getfield 50, 3) := by decide +kernel
theorem dX8_circuitBar_31 : decode cX8_circuitBar 31 = .ok (.iload_n 1, 1) := by decide +kernel
theorem dX8_circuitBar_32 : decode cX8_circuitBar 32 = .ok (.baload, 1) := by decide +kernel
theorem dX8_circuitBar_33 : decode cX8_circuitBar 33 = .ok (.ifCond .eq 10, 3) := by decide +kernel
theorem dX8_circuitBar_36 : decode cX8_circuitBar 36 = .ok (.aload_n 0, 1) := by decide +kernel
theorem dX8_circuitBar_37 : decode cX8_circuitBar 37 = .ok (.bipush (-3), 2) := by decide +kernel
theorem dX8_circuitBar_39 : decode cX8_circuitBar 39 = .ok (.invokevirtual 84, 3) := by decide +kernel
theorem dX8_circuitBar_42 : decode cX8_circuitBar 42 = .ok (.ireturn, 1) := by decide +kernel
theorem dX8_circuitBar_43 : decode cX8_circuitBar 43 = .ok (.aload_n 0, 1) := by decide +kernel
theorem dX8_circuitBar_44 : decode cX8_circuitBar 44 = .ok (.iload_n 1, 1) := by decide +kernel
theorem dX8_circuitBar_45 : decode cX8_circuitBar 45 = .ok (.invokevirtual 164, 3) := by decide +kernel
theorem dX8_circuitBar_48 : decode cX8_circuitBar 48 = .ok (.istore_n 3, 1) := by decide +kernel
theorem dX8_circuitBar_49 : decode cX8_circuitBar 49 = .ok (.iload_n 2, 1) := by decide +kernel
theorem dX8_circuitBar_50 : decode cX8_circuitBar 50 = .ok (.istore 4, 2) := by decide +kernel
theorem dX8_circuitBar_52 : decode cX8_circuitBar 52 = .ok (.iconst 0, 1) := by decide +kernel
theorem dX8_circuitBar_53 : decode cX8_circuitBar 53 = .ok (.istore 5, 2) := by decide +kernel
theorem dX8_circuitBar_55 : decode cX8_circuitBar 55 = .ok (.iload 5, 2) := by decide +kernel
theorem dX8_circuitBar_57 : decode cX8_circuitBar 57 = .ok (.aload_n 0, 1) := by decide +kernel
theorem dX8_circuitBar_58 : decode cX8_circuitBar 58 = .ok (.getfield 92, 3) := by decide +kernel
theorem dX8_circuitBar_61 : decode cX8_circuitBar 61 = .ok (.if_icmp .ge 42, 3) := by decide +kernel
theorem dX8_circuitBar_64 : decode cX8_circuitBar 64 = .ok (.iload_n 2, 1) := by decide +kernel
theorem dX8_circuitBar_65 : decode cX8_circuitBar 65 = .ok (.ifCond .lt 38, 3) := by decide +kernel
theorem dX8_circuitBar_68 : decode cX8_circuitBar 68 = .ok (.iload_n 2, 1) := by decide +kernel
theorem dX8_circuitBar_69 : decode cX8_circuitBar 69 = .ok (.iload_n 3, 1) := by decide +kernel
theorem dX8_circuitBar_70 : decode cX8_circuitBar 70 = .ok (.if_icmp .ge 33, 3) := by decide +kernel
theorem dX8_circuitBar_73 : decode cX8_circuitBar 73 = .ok (.aload_n 0, 1) := by decide +kernel
theorem dX8_circuitBar_74 : decode cX8_circuitBar 74 = .ok (.getfield 47, 3) := by decide +kernel
theorem dX8_circuitBar_77 : decode cX8_circuitBar 77 = .ok (.iload 5, 2) := by decide +kernel
theorem dX8_circuitBar_79 : decode cX8_circuitBar 79 = .ok (.baload, 1) := by decide +kernel
theorem dX8_circuitBar_80 : decode cX8_circuitBar 80 = .ok (.ifCond .ne 6, 3) := by decide +kernel
theorem dX8_circuitBar_83 : decode cX8_circuitBar 83 = .ok (.goto 14, 3) := by decide +kernel
theorem dX8_circuitBar_86 : decode cX8_circuitBar 86 = .ok (.iload 4, 2) := by decide +kernel
theorem dX8_circuitBar_88 : decode cX8_circuitBar 88 = .ok (.ifCond .ne 6, 3) := by decide +kernel
theorem dX8_circuitBar_91 : decode cX8_circuitBar 91 = .ok (.iload 5, 2) := by decide +kernel
theorem dX8_circuitBar_93 : decode cX8_circuitBar 93 = .ok (.ireturn, 1) := by decide +kernel
theorem dX8_circuitBar_94 : decode cX8_circuitBar 94 = .ok (.iinc 4 (-1), 3) := by decide +kernel
theorem dX8_circuitBar_97 : decode cX8_circuitBar 97 = .ok (.iinc 5 1, 3) := by decide +kernel
theorem dX8_circuitBar_100 : decode cX8_circuitBar 100 = .ok (.goto (-45), 3) := by decide +kernel
theorem dX8_circuitBar_103 : decode cX8_circuitBar 103 = .ok (.bipush (-9), 2) := by decide +kernel
theorem dX8_circuitBar_105 : decode cX8_circuitBar 105 = .ok (.ireturn, 1) := by decide +kernel
theorem dX8_grows_0 : decode cX8_grows 0 = .ok (.aload_n 0, 1) := by decide +kernel
theorem dX8_grows_1 : decode cX8_grows 1 = .ok (.iload_n 1, 1) := by decide +kernel
theorem dX8_grows_2 : decode cX8_grows 2 = .ok (.iload_n 2, 1) := by decide +kernel
theorem dX8_grows_3 : decode cX8_grows 3 = .ok (.invokevirtual 104, 3) := by decide +kernel
theorem dX8_grows_6 : decode cX8_grows 6 = .ok (.ifCond .ne 9, 3) := by decide +kernel
theorem dX8_grows_9 : decode cX8_grows 9 = .ok (.aload_n 0, 1) := by decide +kernel
theorem dX8_grows_10 : decode cX8_grows 10 = .ok (.iconst (-1), 1) := by decide +kernel
theorem dX8_grows_11 : decode cX8_grows 11 = .ok (.invokevirtual 84, 3) := by decide +kernel
theorem dX8_grows_14 : decode cX8_grows 14 = .ok (.ireturn, 1) := by decide +kernel
theorem dX8_grows_15 : decode cX8_grows 15 = .ok (.aload_n 0, 1) := by decide +kernel
theorem dX8_grows_16 : decode cX8_grows 16 = .ok (.invokevirtual 148, 3) := by decide +kernel
theorem dX8_grows_19 : decode cX8_grows 19 = .ok (.istore_n 3, 1) := by decide +kernel
theorem dX8_grows_20 : decode cX8_grows 20 = .ok (.aload_n 0, 1) := by decide +kernel
theorem dX8_grows_21 : decode cX8_grows 21 = .ok (.iload_n 1, 1) := by decide +kernel
theorem dX8_grows_22 : decode cX8_grows 22 = .ok (.iload_n 2, 1) := by decide +kernel
theorem dX8_grows_23 : decode cX8_grows 23 = .ok (.iconst 0, 1) := by decide +kernel
theorem dX8_grows_24 : decode cX8_grows 24 = .ok (.invokevirtual 141, 3) := by decide +kernel
theorem dX8_grows_27 : decode cX8_grows 27 = .ok (.ifCond .eq 7, 3) := by decide +kernel
theorem dX8_grows_30 : decode cX8_grows 30 = .ok (.iconst 1, 1) := by decide +kernel
theorem dX8_grows_31 : decode cX8_grows 31 = .ok (.goto 4, 3) := by decide +kernel
theorem dX8_grows_34 : decode cX8_grows 34 = .ok (.iconst 0, 1) := by decide +kernel
theorem dX8_grows_35 : decode cX8_grows 35 = .ok (.ireturn, 1) := by decide +kernel
theorem dX8_findClusters_0 : decode cX8_findClusters 0 = .ok (.aload_n 0, 1) := by decide +kernel
theorem dX8_findClusters_1 : decode cX8_findClusters 1 = .ok (.invokevirtual 148, 3) := by decide +kernel
theorem dX8_findClusters_4 : decode cX8_findClusters 4 = .ok (.istore_n 1, 1) := by decide +kernel
theorem dX8_findClusters_5 : decode cX8_findClusters 5 = .ok (.iconst 0, 1) := by decide +kernel
theorem dX8_findClusters_6 : decode cX8_findClusters 6 = .ok (.istore_n 2, 1) := by decide +kernel
theorem dX8_findClusters_7 : decode cX8_findClusters 7 = .ok (.iload_n 2, 1) := by decide +kernel
theorem dX8_findClusters_8 : decode cX8_findClusters 8 = .ok (.aload_n 0, 1) := by decide +kernel
theorem dX8_findClusters_9 : decode cX8_findClusters 9 = .ok (.getfield 80, 3) := by decide +kernel
theorem dX8_findClusters_12 : decode cX8_findClusters 12 = .ok (.if_icmp .ge 75, 3) := by decide +kernel
theorem dX8_findClusters_15 : decode cX8_findClusters 15 = .ok (.iload_n 2, 1) := by decide +kernel
theorem dX8_findClusters_16 : decode cX8_findClusters 16 = .ok (.iconst 1, 1) := by decide +kernel
theorem dX8_findClusters_17 : decode cX8_findClusters 17 = .ok (.iadd, 1) := by decide +kernel
theorem dX8_findClusters_18 : decode cX8_findClusters 18 = .ok (.istore_n 3, 1) := by decide +kernel
theorem dX8_findClusters_19 : decode cX8_findClusters 19 = .ok (.iload_n 3, 1) := by decide +kernel
theorem dX8_findClusters_20 : decode cX8_findClusters 20 = .ok (.aload_n 0, 1) := by decide +kernel
theorem dX8_findClusters_21 : decode cX8_findClusters 21 = .ok (.getfield 80, 3) := by decide +kernel
theorem dX8_findClusters_24 : decode cX8_findClusters 24 = .ok (.if_icmp .ge 57, 3) := by decide +kernel
theorem dX8_findClusters_27 : decode cX8_findClusters 27 = .ok (.aload_n 0, 1) := by decide +kernel
theorem dX8_findClusters_28 : decode cX8_findClusters 28 = .ok (.getfield 56, 3) := by decide +kernel
theorem dX8_findClusters_31 : decode cX8_findClusters 31 = .ok (.bipush 24, 2) := by decide +kernel
theorem dX8_findClusters_33 : decode cX8_findClusters 33 = .ok (.iload_n 2, 1) := by decide +kernel
theorem dX8_findClusters_34 : decode cX8_findClusters 34 = .ok (.imul, 1) := by decide +kernel
theorem dX8_findClusters_35 : decode cX8_findClusters 35 = .ok (.iload_n 3, 1) := by decide +kernel
theorem dX8_findClusters_36 : decode cX8_findClusters 36 = .ok (.iadd, 1) := by decide +kernel
theorem dX8_findClusters_37 : decode cX8_findClusters 37 = .ok (.aload_n 0, 1) := by decide +kernel
theorem dX8_findClusters_38 : decode cX8_findClusters 38 = .ok (.iload_n 2, 1) := by decide +kernel
theorem dX8_findClusters_39 : decode cX8_findClusters 39 = .ok (.iload_n 3, 1) := by decide +kernel
theorem dX8_findClusters_40 : decode cX8_findClusters 40 = .ok (.iconst 0, 1) := by decide +kernel
theorem dX8_findClusters_41 : decode cX8_findClusters 41 = .ok (.invokevirtual 141, 3) := by decide +kernel
theorem dX8_findClusters_44 : decode cX8_findClusters 44 = .ok (.ifCond .ne 7, 3) := by decide +kernel
theorem dX8_findClusters_47 : decode cX8_findClusters 47 = .ok (.iconst 1, 1) := by decide +kernel
theorem dX8_findClusters_48 : decode cX8_findClusters 48 = .ok (.goto 4, 3) := by decide +kernel
theorem dX8_findClusters_51 : decode cX8_findClusters 51 = .ok (.iconst 0, 1) := by decide +kernel
theorem dX8_findClusters_52 : decode cX8_findClusters 52 = .ok (.bastore, 1) := by decide +kernel
theorem dX8_findClusters_53 : decode cX8_findClusters 53 = .ok (.aload_n 0, 1) := by decide +kernel
theorem dX8_findClusters_54 : decode cX8_findClusters 54 = .ok (.getfield 56, 3) := by decide +kernel
theorem dX8_findClusters_57 : decode cX8_findClusters 57 = .ok (.bipush 24, 2) := by decide +kernel
theorem dX8_findClusters_59 : decode cX8_findClusters 59 = .ok (.iload_n 3, 1) := by decide +kernel
theorem dX8_findClusters_60 : decode cX8_findClusters 60 = .ok (.imul, 1) := by decide +kernel
theorem dX8_findClusters_61 : decode cX8_findClusters 61 = .ok (.iload_n 2, 1) := by decide +kernel
theorem dX8_findClusters_62 : decode cX8_findClusters 62 = .ok (.iadd, 1) := by decide +kernel
theorem dX8_findClusters_63 : decode cX8_findClusters 63 = .ok (.aload_n 0, 1) := by decide +kernel
theorem dX8_findClusters_64 : decode cX8_findClusters 64 = .ok (.getfield 56, 3) := by decide +kernel
theorem dX8_findClusters_67 : decode cX8_findClusters 67 = .ok (.bipush 24, 2) := by decide +kernel
theorem dX8_findClusters_69 : decode cX8_findClusters 69 = .ok (.iload_n 2, 1) := by decide +kernel
theorem dX8_findClusters_70 : decode cX8_findClusters 70 = .ok (.imul, 1) := by decide +kernel
theorem dX8_findClusters_71 : decode cX8_findClusters 71 = .ok (.iload_n 3, 1) := by decide +kernel
theorem dX8_findClusters_72 : decode cX8_findClusters 72 = .ok (.iadd, 1) := by decide +kernel
theorem dX8_findClusters_73 : decode cX8_findClusters 73 = .ok (.baload, 1) := by decide +kernel
theorem dX8_findClusters_74 : decode cX8_findClusters 74 = .ok (.bastore, 1) := by decide +kernel
theorem dX8_findClusters_75 : decode cX8_findClusters 75 = .ok (.iinc 3 1, 3) := by decide +kernel
theorem dX8_findClusters_78 : decode cX8_findClusters 78 = .ok (.goto (-59), 3) := by decide +kernel
theorem dX8_findClusters_81 : decode cX8_findClusters 81 = .ok (.iinc 2 1, 3) := by decide +kernel
theorem dX8_findClusters_84 : decode cX8_findClusters 84 = .ok (.goto (-77), 3) := by decide +kernel
theorem dX8_findClusters_87 : decode cX8_findClusters 87 = .ok (.aload_n 0, 1) := by decide +kernel
theorem dX8_findClusters_88 : decode cX8_findClusters 88 = .ok (.iconst 0, 1) := by decide +kernel
theorem dX8_findClusters_89 : decode cX8_findClusters 89 = .ok (.putfield 167, 3) := by decide +kernel
theorem dX8_findClusters_92 : decode cX8_findClusters 92 = .ok (.iconst 0, 1) := by decide +kernel
theorem dX8_findClusters_93 : decode cX8_findClusters 93 = .ok (.istore_n 2, 1) := by decide +kernel
theorem dX8_findClusters_94 : decode cX8_findClusters 94 = .ok (.iload_n 2, 1) := by decide +kernel
theorem dX8_findClusters_95 : decode cX8_findClusters 95 = .ok (.aload_n 0, 1) := by decide +kernel
theorem dX8_findClusters_96 : decode cX8_findClusters 96 = .ok (.getfield 80, 3) := by decide +kernel
theorem dX8_findClusters_99 : decode cX8_findClusters 99 = .ok (.if_icmp .ge 56, 3) := by decide +kernel
theorem dX8_findClusters_102 : decode cX8_findClusters 102 = .ok (.iload_n 2, 1) := by decide +kernel
theorem dX8_findClusters_103 : decode cX8_findClusters 103 = .ok (.iconst 1, 1) := by decide +kernel
theorem dX8_findClusters_104 : decode cX8_findClusters 104 = .ok (.iadd, 1) := by decide +kernel
theorem dX8_findClusters_105 : decode cX8_findClusters 105 = .ok (.istore_n 3, 1) := by decide +kernel
theorem dX8_findClusters_106 : decode cX8_findClusters 106 = .ok (.iload_n 3, 1) := by decide +kernel
theorem dX8_findClusters_107 : decode cX8_findClusters 107 = .ok (.aload_n 0, 1) := by decide +kernel
theorem dX8_findClusters_108 : decode cX8_findClusters 108 = .ok (.getfield 80, 3) := by decide +kernel
theorem dX8_findClusters_111 : decode cX8_findClusters 111 = .ok (.if_icmp .ge 38, 3) := by decide +kernel
theorem dX8_findClusters_114 : decode cX8_findClusters 114 = .ok (.aload_n 0, 1) := by decide +kernel
theorem dX8_findClusters_115 : decode cX8_findClusters 115 = .ok (.getfield 56, 3) := by decide +kernel
theorem dX8_findClusters_118 : decode cX8_findClusters 118 = .ok (.bipush 24, 2) := by decide +kernel
theorem dX8_findClusters_120 : decode cX8_findClusters 120 = .ok (.iload_n 2, 1) := by decide +kernel
theorem dX8_findClusters_121 : decode cX8_findClusters 121 = .ok (.imul, 1) := by decide +kernel
theorem dX8_findClusters_122 : decode cX8_findClusters 122 = .ok (.iload_n 3, 1) := by decide +kernel
theorem dX8_findClusters_123 : decode cX8_findClusters 123 = .ok (.iadd, 1) := by decide +kernel
theorem dX8_findClusters_124 : decode cX8_findClusters 124 = .ok (.baload, 1) := by decide +kernel
theorem dX8_findClusters_125 : decode cX8_findClusters 125 = .ok (.ifCond .eq 18, 3) := by decide +kernel
theorem dX8_findClusters_128 : decode cX8_findClusters 128 = .ok (.aload_n 0, 1) := by decide +kernel
theorem dX8_findClusters_129 : decode cX8_findClusters 129 = .ok (.iload_n 2, 1) := by decide +kernel
theorem dX8_findClusters_130 : decode cX8_findClusters 130 = .ok (.iload_n 3, 1) := by decide +kernel
theorem dX8_findClusters_131 : decode cX8_findClusters 131 = .ok (.invokevirtual 170, 3) := by decide +kernel
theorem dX8_findClusters_134 : decode cX8_findClusters 134 = .ok (.ifCond .ge 9, 3) := by decide +kernel
theorem dX8_findClusters_137 : decode cX8_findClusters 137 = .ok (.aload_n 0, 1) := by decide +kernel
theorem dX8_findClusters_138 : decode cX8_findClusters 138 = .ok (.iload_n 2, 1) := by decide +kernel
theorem dX8_findClusters_139 : decode cX8_findClusters 139 = .ok (.iload_n 3, 1) := by decide +kernel
theorem dX8_findClusters_140 : decode cX8_findClusters 140 = .ok (.invokevirtual 173, 3) := by decide +kernel
theorem dX8_findClusters_143 : decode cX8_findClusters 143 = .ok (.iinc 3 1, 3) := by decide +kernel
theorem dX8_findClusters_146 : decode cX8_findClusters 146 = .ok (.goto (-40), 3) := by decide +kernel
theorem dX8_findClusters_149 : decode cX8_findClusters 149 = .ok (.iinc 2 1, 3) := by decide +kernel
theorem dX8_findClusters_152 : decode cX8_findClusters 152 = .ok (.goto (-58), 3) := by decide +kernel
theorem dX8_findClusters_155 : decode cX8_findClusters 155 = .ok (.return_, 1) := by decide +kernel
theorem dX8_adds_0 : decode cX8_adds 0 = .ok (.iconst 1, 1) := by decide +kernel
theorem dX8_adds_1 : decode cX8_adds 1 = .ok (.iload_n 1, 1) := by decide +kernel
theorem dX8_adds_2 : decode cX8_adds 2 = .ok (.ishl, 1) := by decide +kernel
theorem dX8_adds_3 : decode cX8_adds 3 = .ok (.iconst 1, 1) := by decide +kernel
theorem dX8_adds_4 : decode cX8_adds 4 = .ok (.iload_n 2, 1) := by decide +kernel
theorem dX8_adds_5 : decode cX8_adds 5 = .ok (.ishl, 1) := by decide +kernel
theorem dX8_adds_6 : decode cX8_adds 6 = .ok (.ior, 1) := by decide +kernel
theorem dX8_adds_7 : decode cX8_adds 7 = .ok (.istore_n 3, 1) := by decide +kernel
theorem dX8_adds_8 : decode cX8_adds 8 = .ok (.iconst 0, 1) := by decide +kernel
theorem dX8_adds_9 : decode cX8_adds 9 = .ok (.istore 4, 2) := by decide +kernel
theorem dX8_adds_11 : decode cX8_adds 11 = .ok (.iload 4, 2) := by decide +kernel
theorem dX8_adds_13 : decode cX8_adds 13 = .ok (.aload_n 0, 1) := by decide +kernel
theorem dX8_adds_14 : decode cX8_adds 14 = .ok (.getfield 80, 3) := by decide +kernel
theorem dX8_adds_17 : decode cX8_adds 17 = .ok (.if_icmp .ge 58, 3) := by decide +kernel
theorem dX8_adds_20 : decode cX8_adds 20 = .ok (.iload 4, 2) := by decide +kernel
theorem dX8_adds_22 : decode cX8_adds 22 = .ok (.iload_n 1, 1) := by decide +kernel
theorem dX8_adds_23 : decode cX8_adds 23 = .ok (.if_icmp .eq 46, 3) := by decide +kernel
theorem dX8_adds_26 : decode cX8_adds 26 = .ok (.iload 4, 2) := by decide +kernel
theorem dX8_adds_28 : decode cX8_adds 28 = .ok (.iload_n 2, 1) := by decide +kernel
theorem dX8_adds_29 : decode cX8_adds 29 = .ok (.if_icmp .eq 40, 3) := by decide +kernel
theorem dX8_adds_32 : decode cX8_adds 32 = .ok (.aload_n 0, 1) := by decide +kernel
theorem dX8_adds_33 : decode cX8_adds 33 = .ok (.getfield 56, 3) := by decide +kernel
theorem dX8_adds_36 : decode cX8_adds 36 = .ok (.bipush 24, 2) := by decide +kernel
theorem dX8_adds_38 : decode cX8_adds 38 = .ok (.iload_n 1, 1) := by decide +kernel
theorem dX8_adds_39 : decode cX8_adds 39 = .ok (.imul, 1) := by decide +kernel
theorem dX8_adds_40 : decode cX8_adds 40 = .ok (.iload 4, 2) := by decide +kernel
theorem dX8_adds_42 : decode cX8_adds 42 = .ok (.iadd, 1) := by decide +kernel
theorem dX8_adds_43 : decode cX8_adds 43 = .ok (.baload, 1) := by decide +kernel
theorem dX8_adds_44 : decode cX8_adds 44 = .ok (.ifCond .eq 25, 3) := by decide +kernel
theorem dX8_adds_47 : decode cX8_adds 47 = .ok (.aload_n 0, 1) := by decide +kernel
theorem dX8_adds_48 : decode cX8_adds 48 = .ok (.getfield 56, 3) := by decide +kernel
theorem dX8_adds_51 : decode cX8_adds 51 = .ok (.bipush 24, 2) := by decide +kernel
theorem dX8_adds_53 : decode cX8_adds 53 = .ok (.iload_n 2, 1) := by decide +kernel
theorem dX8_adds_54 : decode cX8_adds 54 = .ok (.imul, 1) := by decide +kernel
theorem dX8_adds_55 : decode cX8_adds 55 = .ok (.iload 4, 2) := by decide +kernel
theorem dX8_adds_57 : decode cX8_adds 57 = .ok (.iadd, 1) := by decide +kernel
theorem dX8_adds_58 : decode cX8_adds 58 = .ok (.baload, 1) := by decide +kernel
theorem dX8_adds_59 : decode cX8_adds 59 = .ok (.ifCond .eq 10, 3) := by decide +kernel
theorem dX8_adds_62 : decode cX8_adds 62 = .ok (.iload_n 3, 1) := by decide +kernel
theorem dX8_adds_63 : decode cX8_adds 63 = .ok (.iconst 1, 1) := by decide +kernel
theorem dX8_adds_64 : decode cX8_adds 64 = .ok (.iload 4, 2) := by decide +kernel
theorem dX8_adds_66 : decode cX8_adds 66 = .ok (.ishl, 1) := by decide +kernel
theorem dX8_adds_67 : decode cX8_adds 67 = .ok (.ior, 1) := by decide +kernel
theorem dX8_adds_68 : decode cX8_adds 68 = .ok (.istore_n 3, 1) := by decide +kernel
theorem dX8_adds_69 : decode cX8_adds 69 = .ok (.iinc 4 1, 3) := by decide +kernel
theorem dX8_adds_72 : decode cX8_adds 72 = .ok (.goto (-61), 3) := by decide +kernel
theorem dX8_adds_75 : decode cX8_adds 75 = .ok (.aload_n 0, 1) := by decide +kernel
theorem dX8_adds_76 : decode cX8_adds 76 = .ok (.getfield 53, 3) := by decide +kernel
theorem dX8_adds_79 : decode cX8_adds 79 = .ok (.aload_n 0, 1) := by decide +kernel
theorem dX8_adds_80 : decode cX8_adds 80 = .ok (.getfield 167, 3) := by decide +kernel
theorem dX8_adds_83 : decode cX8_adds 83 = .ok (.iload_n 3, 1) := by decide +kernel
theorem dX8_adds_84 : decode cX8_adds 84 = .ok (.iastore, 1) := by decide +kernel
theorem dX8_adds_85 : decode cX8_adds 85 = .ok (.aload_n 0, 1) := by decide +kernel
theorem dX8_adds_86 : decode cX8_adds 86 = .ok (.dup, 1) := by decide +kernel
theorem dX8_adds_87 : decode cX8_adds 87 = .ok (.getfield 167, 3) := by decide +kernel
theorem dX8_adds_90 : decode cX8_adds 90 = .ok (.iconst 1, 1) := by decide +kernel
theorem dX8_adds_91 : decode cX8_adds 91 = .ok (.iadd, 1) := by decide +kernel
theorem dX8_adds_92 : decode cX8_adds 92 = .ok (.putfield 167, 3) := by decide +kernel
theorem dX8_adds_95 : decode cX8_adds 95 = .ok (.return_, 1) := by decide +kernel
theorem dX8_clusterOf_0 : decode cX8_clusterOf 0 = .ok (.iconst 0, 1) := by decide +kernel
theorem dX8_clusterOf_1 : decode cX8_clusterOf 1 = .ok (.istore_n 3, 1) := by decide +kernel
theorem dX8_clusterOf_2 : decode cX8_clusterOf 2 = .ok (.iload_n 3, 1) := by decide +kernel
theorem dX8_clusterOf_3 : decode cX8_clusterOf 3 = .ok (.aload_n 0, 1) := by decide +kernel
theorem dX8_clusterOf_4 : decode cX8_clusterOf 4 = .ok (.getfield 167, 3) := by decide +kernel
theorem dX8_clusterOf_7 : decode cX8_clusterOf 7 = .ok (.if_icmp .ge 39, 3) := by decide +kernel
theorem dX8_clusterOf_10 : decode cX8_clusterOf 10 = .ok (.aload_n 0, 1) := by decide +kernel
theorem dX8_clusterOf_11 : decode cX8_clusterOf 11 = .ok (.getfield 53, 3) := by decide +kernel
theorem dX8_clusterOf_14 : decode cX8_clusterOf 14 = .ok (.iload_n 3, 1) := by decide +kernel
theorem dX8_clusterOf_15 : decode cX8_clusterOf 15 = .ok (.iaload, 1) := by decide +kernel
theorem dX8_clusterOf_16 : decode cX8_clusterOf 16 = .ok (.iload_n 1, 1) := by decide +kernel
theorem dX8_clusterOf_17 : decode cX8_clusterOf 17 = .ok (.ishr, 1) := by decide +kernel
theorem dX8_clusterOf_18 : decode cX8_clusterOf 18 = .ok (.iconst 1, 1) := by decide +kernel
theorem dX8_clusterOf_19 : decode cX8_clusterOf 19 = .ok (.iand, 1) := by decide +kernel
theorem dX8_clusterOf_20 : decode cX8_clusterOf 20 = .ok (.iconst 1, 1) := by decide +kernel
theorem dX8_clusterOf_21 : decode cX8_clusterOf 21 = .ok (.if_icmp .ne 19, 3) := by decide +kernel
theorem dX8_clusterOf_24 : decode cX8_clusterOf 24 = .ok (.aload_n 0, 1) := by decide +kernel
theorem dX8_clusterOf_25 : decode cX8_clusterOf 25 = .ok (.getfield 53, 3) := by decide +kernel
theorem dX8_clusterOf_28 : decode cX8_clusterOf 28 = .ok (.iload_n 3, 1) := by decide +kernel
theorem dX8_clusterOf_29 : decode cX8_clusterOf 29 = .ok (.iaload, 1) := by decide +kernel
theorem dX8_clusterOf_30 : decode cX8_clusterOf 30 = .ok (.iload_n 2, 1) := by decide +kernel
theorem dX8_clusterOf_31 : decode cX8_clusterOf 31 = .ok (.ishr, 1) := by decide +kernel
theorem dX8_clusterOf_32 : decode cX8_clusterOf 32 = .ok (.iconst 1, 1) := by decide +kernel
theorem dX8_clusterOf_33 : decode cX8_clusterOf 33 = .ok (.iand, 1) := by decide +kernel
theorem dX8_clusterOf_34 : decode cX8_clusterOf 34 = .ok (.iconst 1, 1) := by decide +kernel
theorem dX8_clusterOf_35 : decode cX8_clusterOf 35 = .ok (.if_icmp .ne 5, 3) := by decide +kernel
theorem dX8_clusterOf_38 : decode cX8_clusterOf 38 = .ok (.iload_n 3, 1) := by decide +kernel
theorem dX8_clusterOf_39 : decode cX8_clusterOf 39 = .ok (.ireturn, 1) := by decide +kernel
theorem dX8_clusterOf_40 : decode cX8_clusterOf 40 = .ok (.iinc 3 1, 3) := by decide +kernel
theorem dX8_clusterOf_43 : decode cX8_clusterOf 43 = .ok (.goto (-41), 3) := by decide +kernel
theorem dX8_clusterOf_46 : decode cX8_clusterOf 46 = .ok (.bipush (-9), 2) := by decide +kernel
theorem dX8_clusterOf_48 : decode cX8_clusterOf 48 = .ok (.ireturn, 1) := by decide +kernel
theorem dX8_clusters_0 : decode cX8_clusters 0 = .ok (.aload_n 0, 1) := by decide +kernel
theorem dX8_clusters_1 : decode cX8_clusters 1 = .ok (.invokevirtual 176, 3) := by decide +kernel
theorem dX8_clusters_4 : decode cX8_clusters 4 = .ok (.aload_n 0, 1) := by decide +kernel
theorem dX8_clusters_5 : decode cX8_clusters 5 = .ok (.getfield 167, 3) := by decide +kernel
