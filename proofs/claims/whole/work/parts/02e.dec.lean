theorem dX8_clusters_8 : decode cX8_clusters 8 = .ok (.ireturn, 1) := by decide +kernel
theorem dX8_bits_0 : decode cX8_bits 0 = .ok (.iconst 0, 1) := by decide +kernel
theorem dX8_bits_1 : decode cX8_bits 1 = .ok (.istore_n 1, 1) := by decide +kernel
theorem dX8_bits_2 : decode cX8_bits 2 = .ok (.iload_n 0, 1) := by decide +kernel
theorem dX8_bits_3 : decode cX8_bits 3 = .ok (.istore_n 2, 1) := by decide +kernel
theorem dX8_bits_4 : decode cX8_bits 4 = .ok (.iload_n 2, 1) := by decide +kernel
theorem dX8_bits_5 : decode cX8_bits 5 = .ok (.ifCond .eq 15, 3) := by decide +kernel
theorem dX8_bits_8 : decode cX8_bits 8 = .ok (.iinc 1 1, 3) := by decide +kernel
theorem dX8_bits_11 : decode cX8_bits 11 = .ok (.iload_n 2, 1) := by decide +kernel
theorem dX8_bits_12 : decode cX8_bits 12 = .ok (.iload_n 2, 1) := by decide +kernel
theorem dX8_bits_13 : decode cX8_bits 13 = .ok (.iconst 1, 1) := by decide +kernel
theorem dX8_bits_14 : decode cX8_bits 14 = .ok (.isub, 1) := by decide +kernel
theorem dX8_bits_15 : decode cX8_bits 15 = .ok (.iand, 1) := by decide +kernel
theorem dX8_bits_16 : decode cX8_bits 16 = .ok (.istore_n 2, 1) := by decide +kernel
theorem dX8_bits_17 : decode cX8_bits 17 = .ok (.goto (-13), 3) := by decide +kernel
theorem dX8_bits_20 : decode cX8_bits 20 = .ok (.iload_n 1, 1) := by decide +kernel
theorem dX8_bits_21 : decode cX8_bits 21 = .ok (.ireturn, 1) := by decide +kernel
theorem dX8_size_0 : decode cX8_size 0 = .ok (.aload_n 0, 1) := by decide +kernel
theorem dX8_size_1 : decode cX8_size 1 = .ok (.invokevirtual 176, 3) := by decide +kernel
theorem dX8_size_4 : decode cX8_size 4 = .ok (.iload_n 1, 1) := by decide +kernel
theorem dX8_size_5 : decode cX8_size 5 = .ok (.aload_n 0, 1) := by decide +kernel
theorem dX8_size_6 : decode cX8_size 6 = .ok (.getfield 167, 3) := by decide +kernel
theorem dX8_size_9 : decode cX8_size 9 = .ok (.invokestatic 88, 3) := by decide +kernel
theorem dX8_size_12 : decode cX8_size 12 = .ok (.ifCond .eq 15, 3) := by decide +kernel
theorem dX8_size_15 : decode cX8_size 15 = .ok (.aload_n 0, 1) := by decide +kernel
theorem dX8_size_16 : decode cX8_size 16 = .ok (.getfield 53, 3) := by decide +kernel
theorem dX8_size_19 : decode cX8_size 19 = .ok (.iload_n 1, 1) := by decide +kernel
theorem dX8_size_20 : decode cX8_size 20 = .ok (.iaload, 1) := by decide +kernel
theorem dX8_size_21 : decode cX8_size 21 = .ok (.invokestatic 179, 3) := by decide +kernel
theorem dX8_size_24 : decode cX8_size 24 = .ok (.goto 8, 3) := by decide +kernel
theorem dX8_size_27 : decode cX8_size 27 = .ok (.aload_n 0, 1) := by decide +kernel
theorem dX8_size_28 : decode cX8_size 28 = .ok (.iconst (-1), 1) := by decide +kernel
theorem dX8_size_29 : decode cX8_size 29 = .ok (.invokevirtual 84, 3) := by decide +kernel
theorem dX8_size_32 : decode cX8_size 32 = .ok (.ireturn, 1) := by decide +kernel
theorem dX8_member_0 : decode cX8_member 0 = .ok (.aload_n 0, 1) := by decide +kernel
theorem dX8_member_1 : decode cX8_member 1 = .ok (.invokevirtual 176, 3) := by decide +kernel
theorem dX8_member_4 : decode cX8_member 4 = .ok (.iload_n 1, 1) := by decide +kernel
theorem dX8_member_5 : decode cX8_member 5 = .ok (.aload_n 0, 1) := by decide +kernel
theorem dX8_member_6 : decode cX8_member 6 = .ok (.getfield 167, 3) := by decide +kernel
theorem dX8_member_9 : decode cX8_member 9 = .ok (.invokestatic 88, 3) := by decide +kernel
theorem dX8_member_12 : decode cX8_member 12 = .ok (.ifCond .ne 9, 3) := by decide +kernel
theorem dX8_member_15 : decode cX8_member 15 = .ok (.aload_n 0, 1) := by decide +kernel
theorem dX8_member_16 : decode cX8_member 16 = .ok (.iconst (-1), 1) := by decide +kernel
theorem dX8_member_17 : decode cX8_member 17 = .ok (.invokevirtual 84, 3) := by decide +kernel
theorem dX8_member_20 : decode cX8_member 20 = .ok (.ireturn, 1) := by decide +kernel
theorem dX8_member_21 : decode cX8_member 21 = .ok (.iload_n 2, 1) := by decide +kernel
theorem dX8_member_22 : decode cX8_member 22 = .ok (.istore_n 3, 1) := by decide +kernel
theorem dX8_member_23 : decode cX8_member 23 = .ok (.iconst 0, 1) := by decide +kernel
theorem dX8_member_24 : decode cX8_member 24 = .ok (.istore 4, 2) := by decide +kernel
theorem dX8_member_26 : decode cX8_member 26 = .ok (.iload 4, 2) := by decide +kernel
theorem dX8_member_28 : decode cX8_member 28 = .ok (.aload_n 0, 1) := by decide +kernel
theorem dX8_member_29 : decode cX8_member 29 = .ok (.getfield 80, 3) := by decide +kernel
theorem dX8_member_32 : decode cX8_member 32 = .ok (.if_icmp .ge 40, 3) := by decide +kernel
theorem dX8_member_35 : decode cX8_member 35 = .ok (.iload_n 2, 1) := by decide +kernel
theorem dX8_member_36 : decode cX8_member 36 = .ok (.ifCond .lt 36, 3) := by decide +kernel
theorem dX8_member_39 : decode cX8_member 39 = .ok (.aload_n 0, 1) := by decide +kernel
theorem dX8_member_40 : decode cX8_member 40 = .ok (.getfield 53, 3) := by decide +kernel
theorem dX8_member_43 : decode cX8_member 43 = .ok (.iload_n 1, 1) := by decide +kernel
theorem dX8_member_44 : decode cX8_member 44 = .ok (.iaload, 1) := by decide +kernel
theorem dX8_member_45 : decode cX8_member 45 = .ok (.iload 4, 2) := by decide +kernel
theorem dX8_member_47 : decode cX8_member 47 = .ok (.ishr, 1) := by decide +kernel
theorem dX8_member_48 : decode cX8_member 48 = .ok (.iconst 1, 1) := by decide +kernel
theorem dX8_member_49 : decode cX8_member 49 = .ok (.iand, 1) := by decide +kernel
theorem dX8_member_50 : decode cX8_member 50 = .ok (.ifCond .ne 6, 3) := by decide +kernel
theorem dX8_member_53 : decode cX8_member 53 = .ok (.goto 13, 3) := by decide +kernel
theorem dX8_member_56 : decode cX8_member 56 = .ok (.iload_n 3, 1) := by decide +kernel
theorem dX8_member_57 : decode cX8_member 57 = .ok (.ifCond .ne 6, 3) := by decide +kernel
theorem dX8_member_60 : decode cX8_member 60 = .ok (.iload 4, 2) := by decide +kernel
theorem dX8_member_62 : decode cX8_member 62 = .ok (.ireturn, 1) := by decide +kernel
theorem dX8_member_63 : decode cX8_member 63 = .ok (.iinc 3 (-1), 3) := by decide +kernel
theorem dX8_member_66 : decode cX8_member 66 = .ok (.iinc 4 1, 3) := by decide +kernel
theorem dX8_member_69 : decode cX8_member 69 = .ok (.goto (-43), 3) := by decide +kernel
theorem dX8_member_72 : decode cX8_member 72 = .ok (.bipush (-9), 2) := by decide +kernel
theorem dX8_member_74 : decode cX8_member 74 = .ok (.ireturn, 1) := by decide +kernel
theorem dX8_together_0 : decode cX8_together 0 = .ok (.aload_n 0, 1) := by decide +kernel
theorem dX8_together_1 : decode cX8_together 1 = .ok (.iload_n 1, 1) := by decide +kernel
theorem dX8_together_2 : decode cX8_together 2 = .ok (.iload_n 2, 1) := by decide +kernel
theorem dX8_together_3 : decode cX8_together 3 = .ok (.invokevirtual 104, 3) := by decide +kernel
theorem dX8_together_6 : decode cX8_together 6 = .ok (.ifCond .ne 9, 3) := by decide +kernel
theorem dX8_together_9 : decode cX8_together 9 = .ok (.aload_n 0, 1) := by decide +kernel
theorem dX8_together_10 : decode cX8_together 10 = .ok (.iconst (-1), 1) := by decide +kernel
theorem dX8_together_11 : decode cX8_together 11 = .ok (.invokevirtual 84, 3) := by decide +kernel
theorem dX8_together_14 : decode cX8_together 14 = .ok (.ireturn, 1) := by decide +kernel
theorem dX8_together_15 : decode cX8_together 15 = .ok (.aload_n 0, 1) := by decide +kernel
theorem dX8_together_16 : decode cX8_together 16 = .ok (.invokevirtual 176, 3) := by decide +kernel
theorem dX8_together_19 : decode cX8_together 19 = .ok (.aload_n 0, 1) := by decide +kernel
theorem dX8_together_20 : decode cX8_together 20 = .ok (.iload_n 1, 1) := by decide +kernel
theorem dX8_together_21 : decode cX8_together 21 = .ok (.iload_n 2, 1) := by decide +kernel
theorem dX8_together_22 : decode cX8_together 22 = .ok (.invokevirtual 170, 3) := by decide +kernel
theorem dX8_together_25 : decode cX8_together 25 = .ok (.ireturn, 1) := by decide +kernel
theorem dX8_isHinge_0 : decode cX8_isHinge 0 = .ok (.iconst 0, 1) := by decide +kernel
theorem dX8_isHinge_1 : decode cX8_isHinge 1 = .ok (.istore_n 2, 1) := by decide +kernel
theorem dX8_isHinge_2 : decode cX8_isHinge 2 = .ok (.iconst 0, 1) := by decide +kernel
theorem dX8_isHinge_3 : decode cX8_isHinge 3 = .ok (.istore_n 3, 1) := by decide +kernel
theorem dX8_isHinge_4 : decode cX8_isHinge 4 = .ok (.iload_n 3, 1) := by decide +kernel
theorem dX8_isHinge_5 : decode cX8_isHinge 5 = .ok (.aload_n 0, 1) := by decide +kernel
theorem dX8_isHinge_6 : decode cX8_isHinge 6 = .ok (.getfield 167, 3) := by decide +kernel
theorem dX8_isHinge_9 : decode cX8_isHinge 9 = .ok (.if_icmp .ge 22, 3) := by decide +kernel
theorem dX8_isHinge_12 : decode cX8_isHinge 12 = .ok (.iload_n 2, 1) := by decide +kernel
theorem dX8_isHinge_13 : decode cX8_isHinge 13 = .ok (.aload_n 0, 1) := by decide +kernel
theorem dX8_isHinge_14 : decode cX8_isHinge 14 = .ok (.getfield 53, 3) := by decide +kernel
theorem dX8_isHinge_17 : decode cX8_isHinge 17 = .ok (.iload_n 3, 1) := by decide +kernel
theorem dX8_isHinge_18 : decode cX8_isHinge 18 = .ok (.iaload, 1) := by decide +kernel
theorem dX8_isHinge_19 : decode cX8_isHinge 19 = .ok (.iload_n 1, 1) := by decide +kernel
theorem dX8_isHinge_20 : decode cX8_isHinge 20 = .ok (.ishr, 1) := by decide +kernel
theorem dX8_isHinge_21 : decode cX8_isHinge 21 = .ok (.iconst 1, 1) := by decide +kernel
theorem dX8_isHinge_22 : decode cX8_isHinge 22 = .ok (.iand, 1) := by decide +kernel
theorem dX8_isHinge_23 : decode cX8_isHinge 23 = .ok (.iadd, 1) := by decide +kernel
theorem dX8_isHinge_24 : decode cX8_isHinge 24 = .ok (.istore_n 2, 1) := by decide +kernel
theorem dX8_isHinge_25 : decode cX8_isHinge 25 = .ok (.iinc 3 1, 3) := by decide +kernel
theorem dX8_isHinge_28 : decode cX8_isHinge 28 = .ok (.goto (-24), 3) := by decide +kernel
theorem dX8_isHinge_31 : decode cX8_isHinge 31 = .ok (.iload_n 2, 1) := by decide +kernel
theorem dX8_isHinge_32 : decode cX8_isHinge 32 = .ok (.iconst 1, 1) := by decide +kernel
theorem dX8_isHinge_33 : decode cX8_isHinge 33 = .ok (.if_icmp .le 7, 3) := by decide +kernel
theorem dX8_isHinge_36 : decode cX8_isHinge 36 = .ok (.iconst 1, 1) := by decide +kernel
theorem dX8_isHinge_37 : decode cX8_isHinge 37 = .ok (.goto 4, 3) := by decide +kernel
theorem dX8_isHinge_40 : decode cX8_isHinge 40 = .ok (.iconst 0, 1) := by decide +kernel
theorem dX8_isHinge_41 : decode cX8_isHinge 41 = .ok (.ireturn, 1) := by decide +kernel
theorem dX8_hinge_0 : decode cX8_hinge 0 = .ok (.iload_n 1, 1) := by decide +kernel
theorem dX8_hinge_1 : decode cX8_hinge 1 = .ok (.aload_n 0, 1) := by decide +kernel
theorem dX8_hinge_2 : decode cX8_hinge 2 = .ok (.getfield 80, 3) := by decide +kernel
theorem dX8_hinge_5 : decode cX8_hinge 5 = .ok (.invokestatic 88, 3) := by decide +kernel
theorem dX8_hinge_8 : decode cX8_hinge 8 = .ok (.ifCond .ne 9, 3) := by decide +kernel
theorem dX8_hinge_11 : decode cX8_hinge 11 = .ok (.aload_n 0, 1) := by decide +kernel
theorem dX8_hinge_12 : decode cX8_hinge 12 = .ok (.iconst (-1), 1) := by decide +kernel
theorem dX8_hinge_13 : decode cX8_hinge 13 = .ok (.invokevirtual 84, 3) := by decide +kernel
theorem dX8_hinge_16 : decode cX8_hinge 16 = .ok (.ireturn, 1) := by decide +kernel
theorem dX8_hinge_17 : decode cX8_hinge 17 = .ok (.aload_n 0, 1) := by decide +kernel
theorem dX8_hinge_18 : decode cX8_hinge 18 = .ok (.invokevirtual 176, 3) := by decide +kernel
theorem dX8_hinge_21 : decode cX8_hinge 21 = .ok (.aload_n 0, 1) := by decide +kernel
theorem dX8_hinge_22 : decode cX8_hinge 22 = .ok (.iload_n 1, 1) := by decide +kernel
theorem dX8_hinge_23 : decode cX8_hinge 23 = .ok (.invokevirtual 182, 3) := by decide +kernel
theorem dX8_hinge_26 : decode cX8_hinge 26 = .ok (.ifCond .eq 7, 3) := by decide +kernel
theorem dX8_hinge_29 : decode cX8_hinge 29 = .ok (.iconst 1, 1) := by decide +kernel
theorem dX8_hinge_30 : decode cX8_hinge 30 = .ok (.goto 4, 3) := by decide +kernel
theorem dX8_hinge_33 : decode cX8_hinge 33 = .ok (.iconst 0, 1) := by decide +kernel
theorem dX8_hinge_34 : decode cX8_hinge 34 = .ok (.ireturn, 1) := by decide +kernel
theorem dX8_pieces_0 : decode cX8_pieces 0 = .ok (.iconst 1, 1) := by decide +kernel
theorem dX8_pieces_1 : decode cX8_pieces 1 = .ok (.aload_n 0, 1) := by decide +kernel
theorem dX8_pieces_2 : decode cX8_pieces 2 = .ok (.getfield 80, 3) := by decide +kernel
theorem dX8_pieces_5 : decode cX8_pieces 5 = .ok (.ishl, 1) := by decide +kernel
theorem dX8_pieces_6 : decode cX8_pieces 6 = .ok (.iconst 1, 1) := by decide +kernel
theorem dX8_pieces_7 : decode cX8_pieces 7 = .ok (.isub, 1) := by decide +kernel
theorem dX8_pieces_8 : decode cX8_pieces 8 = .ok (.istore_n 1, 1) := by decide +kernel
theorem dX8_pieces_9 : decode cX8_pieces 9 = .ok (.iconst 0, 1) := by decide +kernel
theorem dX8_pieces_10 : decode cX8_pieces 10 = .ok (.istore_n 2, 1) := by decide +kernel
theorem dX8_pieces_11 : decode cX8_pieces 11 = .ok (.iload_n 1, 1) := by decide +kernel
theorem dX8_pieces_12 : decode cX8_pieces 12 = .ok (.ifCond .eq 110, 3) := by decide +kernel
theorem dX8_pieces_15 : decode cX8_pieces 15 = .ok (.iload_n 1, 1) := by decide +kernel
theorem dX8_pieces_16 : decode cX8_pieces 16 = .ok (.iload_n 1, 1) := by decide +kernel
theorem dX8_pieces_17 : decode cX8_pieces 17 = .ok (.ineg, 1) := by decide +kernel
theorem dX8_pieces_18 : decode cX8_pieces 18 = .ok (.iand, 1) := by decide +kernel
theorem dX8_pieces_19 : decode cX8_pieces 19 = .ok (.istore_n 3, 1) := by decide +kernel
theorem dX8_pieces_20 : decode cX8_pieces 20 = .ok (.iconst 1, 1) := by decide +kernel
theorem dX8_pieces_21 : decode cX8_pieces 21 = .ok (.istore 4, 2) := by decide +kernel
theorem dX8_pieces_23 : decode cX8_pieces 23 = .ok (.iload 4, 2) := by decide +kernel
theorem dX8_pieces_25 : decode cX8_pieces 25 = .ok (.ifCond .eq 85, 3) := by decide +kernel
theorem dX8_pieces_28 : decode cX8_pieces 28 = .ok (.iconst 0, 1) := by decide +kernel
theorem dX8_pieces_29 : decode cX8_pieces 29 = .ok (.istore 4, 2) := by decide +kernel
theorem dX8_pieces_31 : decode cX8_pieces 31 = .ok (.iconst 0, 1) := by decide +kernel
theorem dX8_pieces_32 : decode cX8_pieces 32 = .ok (.istore 5, 2) := by decide +kernel
theorem dX8_pieces_34 : decode cX8_pieces 34 = .ok (.iload 5, 2) := by decide +kernel
theorem dX8_pieces_36 : decode cX8_pieces 36 = .ok (.aload_n 0, 1) := by decide +kernel
theorem dX8_pieces_37 : decode cX8_pieces 37 = .ok (.getfield 92, 3) := by decide +kernel
theorem dX8_pieces_40 : decode cX8_pieces 40 = .ok (.if_icmp .ge 67, 3) := by decide +kernel
theorem dX8_pieces_43 : decode cX8_pieces 43 = .ok (.iconst 1, 1) := by decide +kernel
theorem dX8_pieces_44 : decode cX8_pieces 44 = .ok (.aload_n 0, 1) := by decide +kernel
theorem dX8_pieces_45 : decode cX8_pieces 45 = .ok (.getfield 13, 3) := by decide +kernel
theorem dX8_pieces_48 : decode cX8_pieces 48 = .ok (.iload 5, 2) := by decide +kernel
theorem dX8_pieces_50 : decode cX8_pieces 50 = .ok (.iaload, 1) := by decide +kernel
theorem dX8_pieces_51 : decode cX8_pieces 51 = .ok (.ishl, 1) := by decide +kernel
theorem dX8_pieces_52 : decode cX8_pieces 52 = .ok (.iconst 1, 1) := by decide +kernel
theorem dX8_pieces_53 : decode cX8_pieces 53 = .ok (.aload_n 0, 1) := by decide +kernel
theorem dX8_pieces_54 : decode cX8_pieces 54 = .ok (.getfield 16, 3) := by decide +kernel
theorem dX8_pieces_57 : decode cX8_pieces 57 = .ok (.iload 5, 2) := by decide +kernel
theorem dX8_pieces_59 : decode cX8_pieces 59 = .ok (.iaload, 1) := by decide +kernel
theorem dX8_pieces_60 : decode cX8_pieces 60 = .ok (.ishl, 1) := by decide +kernel
theorem dX8_pieces_61 : decode cX8_pieces 61 = .ok (.ior, 1) := by decide +kernel
theorem dX8_pieces_62 : decode cX8_pieces 62 = .ok (.istore 6, 2) := by decide +kernel
theorem dX8_pieces_64 : decode cX8_pieces 64 = .ok (.aload_n 0, 1) := by decide +kernel
theorem dX8_pieces_65 : decode cX8_pieces 65 = .ok (.getfield 22, 3) := by decide +kernel
theorem dX8_pieces_68 : decode cX8_pieces 68 = .ok (.iload 5, 2) := by decide +kernel
theorem dX8_pieces_70 : decode cX8_pieces 70 = .ok (.baload, 1) := by decide +kernel
theorem dX8_pieces_71 : decode cX8_pieces 71 = .ok (.ifCond .eq 30, 3) := by decide +kernel
theorem dX8_pieces_74 : decode cX8_pieces 74 = .ok (.iload_n 3, 1) := by decide +kernel
theorem dX8_pieces_75 : decode cX8_pieces 75 = .ok (.iload 6, 2) := by decide +kernel
theorem dX8_pieces_77 : decode cX8_pieces 77 = .ok (.iand, 1) := by decide +kernel
theorem dX8_pieces_78 : decode cX8_pieces 78 = .ok (.ifCond .eq 23, 3) := by decide +kernel
theorem dX8_pieces_81 : decode cX8_pieces 81 = .ok (.iload_n 3, 1) := by decide +kernel
theorem dX8_pieces_82 : decode cX8_pieces 82 = .ok (.iload 6, 2) := by decide +kernel
theorem dX8_pieces_84 : decode cX8_pieces 84 = .ok (.iand, 1) := by decide +kernel
theorem dX8_pieces_85 : decode cX8_pieces 85 = .ok (.iload 6, 2) := by decide +kernel
theorem dX8_pieces_87 : decode cX8_pieces 87 = .ok (.if_icmp .ne 6, 3) := by decide +kernel
theorem dX8_pieces_90 : decode cX8_pieces 90 = .ok (.goto 11, 3) := by decide +kernel
theorem dX8_pieces_93 : decode cX8_pieces 93 = .ok (.iload_n 3, 1) := by decide +kernel
theorem dX8_pieces_94 : decode cX8_pieces 94 = .ok (.iload 6, 2) := by decide +kernel
theorem dX8_pieces_96 : decode cX8_pieces 96 = .ok (.ior, 1) := by decide +kernel
theorem dX8_pieces_97 : decode cX8_pieces 97 = .ok (.istore_n 3, 1) := by decide +kernel
theorem dX8_pieces_98 : decode cX8_pieces 98 = .ok (.iconst 1, 1) := by decide +kernel
theorem dX8_pieces_99 : decode cX8_pieces 99 = .ok (.istore 4, 2) := by decide +kernel
theorem dX8_pieces_101 : decode cX8_pieces 101 = .ok (.iinc 5 1, 3) := by decide +kernel
theorem dX8_pieces_104 : decode cX8_pieces 104 = .ok (.goto (-70), 3) := by decide +kernel
theorem dX8_pieces_107 : decode cX8_pieces 107 = .ok (.goto (-84), 3) := by decide +kernel
theorem dX8_pieces_110 : decode cX8_pieces 110 = .ok (.iload_n 1, 1) := by decide +kernel
theorem dX8_pieces_111 : decode cX8_pieces 111 = .ok (.iload_n 3, 1) := by decide +kernel
theorem dX8_pieces_112 : decode cX8_pieces 112 = .ok (.iconst (-1), 1) := by decide +kernel
theorem dX8_pieces_113 : decode cX8_pieces 113 = .ok (.ixor, 1) := by decide +kernel
theorem dX8_pieces_114 : decode cX8_pieces 114 = .ok (.iand, 1) := by decide +kernel
theorem dX8_pieces_115 : decode cX8_pieces 115 = .ok (.istore_n 1, 1) := by decide +kernel
theorem dX8_pieces_116 : decode cX8_pieces 116 = .ok (.iinc 2 1, 3) := by decide +kernel
theorem dX8_pieces_119 : decode cX8_pieces 119 = .ok (.goto (-108), 3) := by decide +kernel
theorem dX8_pieces_122 : decode cX8_pieces 122 = .ok (.iload_n 2, 1) := by decide +kernel
theorem dX8_pieces_123 : decode cX8_pieces 123 = .ok (.ireturn, 1) := by decide +kernel
theorem dX8_cheapestOf_0 : decode cX8_cheapestOf 0 = .ok (.iconst 0, 1) := by decide +kernel
theorem dX8_cheapestOf_1 : decode cX8_cheapestOf 1 = .ok (.istore_n 1, 1) := by decide +kernel
theorem dX8_cheapestOf_2 : decode cX8_cheapestOf 2 = .ok (.iconst 0, 1) := by decide +kernel
theorem dX8_cheapestOf_3 : decode cX8_cheapestOf 3 = .ok (.istore_n 2, 1) := by decide +kernel
theorem dX8_cheapestOf_4 : decode cX8_cheapestOf 4 = .ok (.iload_n 2, 1) := by decide +kernel
theorem dX8_cheapestOf_5 : decode cX8_cheapestOf 5 = .ok (.aload_n 0, 1) := by decide +kernel
theorem dX8_cheapestOf_6 : decode cX8_cheapestOf 6 = .ok (.getfield 92, 3) := by decide +kernel
theorem dX8_cheapestOf_9 : decode cX8_cheapestOf 9 = .ok (.if_icmp .ge 86, 3) := by decide +kernel
theorem dX8_cheapestOf_12 : decode cX8_cheapestOf 12 = .ok (.aload_n 0, 1) := by decide +kernel
theorem dX8_cheapestOf_13 : decode cX8_cheapestOf 13 = .ok (.getfield 44, 3) := by decide +kernel
theorem dX8_cheapestOf_16 : decode cX8_cheapestOf 16 = .ok (.iload_n 2, 1) := by decide +kernel
theorem dX8_cheapestOf_17 : decode cX8_cheapestOf 17 = .ok (.iconst 0, 1) := by decide +kernel
theorem dX8_cheapestOf_18 : decode cX8_cheapestOf 18 = .ok (.bastore, 1) := by decide +kernel
theorem dX8_cheapestOf_19 : decode cX8_cheapestOf 19 = .ok (.aload_n 0, 1) := by decide +kernel
theorem dX8_cheapestOf_20 : decode cX8_cheapestOf 20 = .ok (.getfield 22, 3) := by decide +kernel
theorem dX8_cheapestOf_23 : decode cX8_cheapestOf 23 = .ok (.iload_n 2, 1) := by decide +kernel
theorem dX8_cheapestOf_24 : decode cX8_cheapestOf 24 = .ok (.baload, 1) := by decide +kernel
theorem dX8_cheapestOf_25 : decode cX8_cheapestOf 25 = .ok (.ifCond .ne 6, 3) := by decide +kernel
theorem dX8_cheapestOf_28 : decode cX8_cheapestOf 28 = .ok (.goto 61, 3) := by decide +kernel
theorem dX8_cheapestOf_31 : decode cX8_cheapestOf 31 = .ok (.iload_n 1, 1) := by decide +kernel
theorem dX8_cheapestOf_32 : decode cX8_cheapestOf 32 = .ok (.istore_n 3, 1) := by decide +kernel
theorem dX8_cheapestOf_33 : decode cX8_cheapestOf 33 = .ok (.iload_n 3, 1) := by decide +kernel
theorem dX8_cheapestOf_34 : decode cX8_cheapestOf 34 = .ok (.ifCond .le 45, 3) := by decide +kernel
theorem dX8_cheapestOf_37 : decode cX8_cheapestOf 37 = .ok (.aload_n 0, 1) := by decide +kernel
theorem dX8_cheapestOf_38 : decode cX8_cheapestOf 38 = .ok (.getfield 19, 3) := by decide +kernel
theorem dX8_cheapestOf_41 : decode cX8_cheapestOf 41 = .ok (.aload_n 0, 1) := by decide +kernel
theorem dX8_cheapestOf_42 : decode cX8_cheapestOf 42 = .ok (.getfield 59, 3) := by decide +kernel
theorem dX8_cheapestOf_45 : decode cX8_cheapestOf 45 = .ok (.iload_n 3, 1) := by decide +kernel
theorem dX8_cheapestOf_46 : decode cX8_cheapestOf 46 = .ok (.iconst 1, 1) := by decide +kernel
theorem dX8_cheapestOf_47 : decode cX8_cheapestOf 47 = .ok (.isub, 1) := by decide +kernel
theorem dX8_cheapestOf_48 : decode cX8_cheapestOf 48 = .ok (.iaload, 1) := by decide +kernel
theorem dX8_cheapestOf_49 : decode cX8_cheapestOf 49 = .ok (.iaload, 1) := by decide +kernel
theorem dX8_cheapestOf_50 : decode cX8_cheapestOf 50 = .ok (.aload_n 0, 1) := by decide +kernel
theorem dX8_cheapestOf_51 : decode cX8_cheapestOf 51 = .ok (.getfield 19, 3) := by decide +kernel
theorem dX8_cheapestOf_54 : decode cX8_cheapestOf 54 = .ok (.iload_n 2, 1) := by decide +kernel
theorem dX8_cheapestOf_55 : decode cX8_cheapestOf 55 = .ok (.iaload, 1) := by decide +kernel
theorem dX8_cheapestOf_56 : decode cX8_cheapestOf 56 = .ok (.if_icmp .le 23, 3) := by decide +kernel
theorem dX8_cheapestOf_59 : decode cX8_cheapestOf 59 = .ok (.aload_n 0, 1) := by decide +kernel
theorem dX8_cheapestOf_60 : decode cX8_cheapestOf 60 = .ok (.getfield 59, 3) := by decide +kernel
theorem dX8_cheapestOf_63 : decode cX8_cheapestOf 63 = .ok (.iload_n 3, 1) := by decide +kernel
theorem dX8_cheapestOf_64 : decode cX8_cheapestOf 64 = .ok (.aload_n 0, 1) := by decide +kernel
theorem dX8_cheapestOf_65 : decode cX8_cheapestOf 65 = .ok (.getfield 59, 3) := by decide +kernel
theorem dX8_cheapestOf_68 : decode cX8_cheapestOf 68 = .ok (.iload_n 3, 1) := by decide +kernel
theorem dX8_cheapestOf_69 : decode cX8_cheapestOf 69 = .ok (.iconst 1, 1) := by decide +kernel
theorem dX8_cheapestOf_70 : decode cX8_cheapestOf 70 = .ok (.isub, 1) := by decide +kernel
theorem dX8_cheapestOf_71 : decode cX8_cheapestOf 71 = .ok (.iaload, 1) := by decide +kernel
theorem dX8_cheapestOf_72 : decode cX8_cheapestOf 72 = .ok (.iastore, 1) := by decide +kernel
theorem dX8_cheapestOf_73 : decode cX8_cheapestOf 73 = .ok (.iinc 3 (-1), 3) := by decide +kernel
theorem dX8_cheapestOf_76 : decode cX8_cheapestOf 76 = .ok (.goto (-43), 3) := by decide +kernel
theorem dX8_cheapestOf_79 : decode cX8_cheapestOf 79 = .ok (.aload_n 0, 1) := by decide +kernel
theorem dX8_cheapestOf_80 : decode cX8_cheapestOf 80 = .ok (.getfield 59, 3) := by decide +kernel
theorem dX8_cheapestOf_83 : decode cX8_cheapestOf 83 = .ok (.iload_n 3, 1) := by decide +kernel
theorem dX8_cheapestOf_84 : decode cX8_cheapestOf 84 = .ok (.iload_n 2, 1) := by decide +kernel
theorem dX8_cheapestOf_85 : decode cX8_cheapestOf 85 = .ok (.iastore, 1) := by decide +kernel
theorem dX8_cheapestOf_86 : decode cX8_cheapestOf 86 = .ok (.iinc 1 1, 3) := by decide +kernel
theorem dX8_cheapestOf_89 : decode cX8_cheapestOf 89 = .ok (.iinc 2 1, 3) := by decide +kernel
theorem dX8_cheapestOf_92 : decode cX8_cheapestOf 92 = .ok (.goto (-88), 3) := by decide +kernel
theorem dX8_cheapestOf_95 : decode cX8_cheapestOf 95 = .ok (.aload_n 0, 1) := by decide +kernel
theorem dX8_cheapestOf_96 : decode cX8_cheapestOf 96 = .ok (.iconst 2, 1) := by decide +kernel
theorem dX8_cheapestOf_97 : decode cX8_cheapestOf 97 = .ok (.iconst 3, 1) := by decide +kernel
theorem dX8_cheapestOf_98 : decode cX8_cheapestOf 98 = .ok (.invokevirtual 137, 3) := by decide +kernel
theorem dX8_cheapestOf_101 : decode cX8_cheapestOf 101 = .ok (.iconst 0, 1) := by decide +kernel
theorem dX8_cheapestOf_102 : decode cX8_cheapestOf 102 = .ok (.istore_n 2, 1) := by decide +kernel
theorem dX8_cheapestOf_103 : decode cX8_cheapestOf 103 = .ok (.iconst 0, 1) := by decide +kernel
theorem dX8_cheapestOf_104 : decode cX8_cheapestOf 104 = .ok (.istore_n 3, 1) := by decide +kernel
theorem dX8_cheapestOf_105 : decode cX8_cheapestOf 105 = .ok (.iload_n 3, 1) := by decide +kernel
theorem dX8_cheapestOf_106 : decode cX8_cheapestOf 106 = .ok (.iload_n 1, 1) := by decide +kernel
theorem dX8_cheapestOf_107 : decode cX8_cheapestOf 107 = .ok (.if_icmp .ge 67, 3) := by decide +kernel
theorem dX8_cheapestOf_110 : decode cX8_cheapestOf 110 = .ok (.aload_n 0, 1) := by decide +kernel
theorem dX8_cheapestOf_111 : decode cX8_cheapestOf 111 = .ok (.getfield 59, 3) := by decide +kernel
theorem dX8_cheapestOf_114 : decode cX8_cheapestOf 114 = .ok (.iload_n 3, 1) := by decide +kernel
theorem dX8_cheapestOf_115 : decode cX8_cheapestOf 115 = .ok (.iaload, 1) := by decide +kernel
theorem dX8_cheapestOf_116 : decode cX8_cheapestOf 116 = .ok (.istore 4, 2) := by decide +kernel
theorem dX8_cheapestOf_118 : decode cX8_cheapestOf 118 = .ok (.aload_n 0, 1) := by decide +kernel
theorem dX8_cheapestOf_119 : decode cX8_cheapestOf 119 = .ok (.getfield 44, 3) := by decide +kernel
theorem dX8_cheapestOf_122 : decode cX8_cheapestOf 122 = .ok (.iload 4, 2) := by decide +kernel
theorem dX8_cheapestOf_124 : decode cX8_cheapestOf 124 = .ok (.aload_n 0, 1) := by decide +kernel
theorem dX8_cheapestOf_125 : decode cX8_cheapestOf 125 = .ok (.aload_n 0, 1) := by decide +kernel
theorem dX8_cheapestOf_126 : decode cX8_cheapestOf 126 = .ok (.getfield 13, 3) := by decide +kernel
theorem dX8_cheapestOf_129 : decode cX8_cheapestOf 129 = .ok (.iload 4, 2) := by decide +kernel
theorem dX8_cheapestOf_131 : decode cX8_cheapestOf 131 = .ok (.iaload, 1) := by decide +kernel
theorem dX8_cheapestOf_132 : decode cX8_cheapestOf 132 = .ok (.aload_n 0, 1) := by decide +kernel
theorem dX8_cheapestOf_133 : decode cX8_cheapestOf 133 = .ok (.getfield 16, 3) := by decide +kernel
theorem dX8_cheapestOf_136 : decode cX8_cheapestOf 136 = .ok (.iload 4, 2) := by decide +kernel
theorem dX8_cheapestOf_138 : decode cX8_cheapestOf 138 = .ok (.iaload, 1) := by decide +kernel
theorem dX8_cheapestOf_139 : decode cX8_cheapestOf 139 = .ok (.iconst 1, 1) := by decide +kernel
theorem dX8_cheapestOf_140 : decode cX8_cheapestOf 140 = .ok (.invokevirtual 141, 3) := by decide +kernel
theorem dX8_cheapestOf_143 : decode cX8_cheapestOf 143 = .ok (.bastore, 1) := by decide +kernel
theorem dX8_cheapestOf_144 : decode cX8_cheapestOf 144 = .ok (.iload_n 2, 1) := by decide +kernel
theorem dX8_cheapestOf_145 : decode cX8_cheapestOf 145 = .ok (.aload_n 0, 1) := by decide +kernel
theorem dX8_cheapestOf_146 : decode cX8_cheapestOf 146 = .ok (.getfield 44, 3) := by decide +kernel
theorem dX8_cheapestOf_149 : decode cX8_cheapestOf 149 = .ok (.iload 4, 2) := by decide +kernel
theorem dX8_cheapestOf_151 : decode cX8_cheapestOf 151 = .ok (.baload, 1) := by decide +kernel
theorem dX8_cheapestOf_152 : decode cX8_cheapestOf 152 = .ok (.ifCond .eq 13, 3) := by decide +kernel
theorem dX8_cheapestOf_155 : decode cX8_cheapestOf 155 = .ok (.aload_n 0, 1) := by decide +kernel
theorem dX8_cheapestOf_156 : decode cX8_cheapestOf 156 = .ok (.getfield 19, 3) := by decide +kernel
theorem dX8_cheapestOf_159 : decode cX8_cheapestOf 159 = .ok (.iload 4, 2) := by decide +kernel
theorem dX8_cheapestOf_161 : decode cX8_cheapestOf 161 = .ok (.iaload, 1) := by decide +kernel
theorem dX8_cheapestOf_162 : decode cX8_cheapestOf 162 = .ok (.goto 4, 3) := by decide +kernel
theorem dX8_cheapestOf_165 : decode cX8_cheapestOf 165 = .ok (.iconst 0, 1) := by decide +kernel
theorem dX8_cheapestOf_166 : decode cX8_cheapestOf 166 = .ok (.iadd, 1) := by decide +kernel
theorem dX8_cheapestOf_167 : decode cX8_cheapestOf 167 = .ok (.istore_n 2, 1) := by decide +kernel
theorem dX8_cheapestOf_168 : decode cX8_cheapestOf 168 = .ok (.iinc 3 1, 3) := by decide +kernel
theorem dX8_cheapestOf_171 : decode cX8_cheapestOf 171 = .ok (.goto (-66), 3) := by decide +kernel
theorem dX8_cheapestOf_174 : decode cX8_cheapestOf 174 = .ok (.iload_n 2, 1) := by decide +kernel
theorem dX8_cheapestOf_175 : decode cX8_cheapestOf 175 = .ok (.ireturn, 1) := by decide +kernel
theorem dX8_cheapest_0 : decode cX8_cheapest 0 = .ok (.aload_n 0, 1) := by decide +kernel
theorem dX8_cheapest_1 : decode cX8_cheapest 1 = .ok (.invokevirtual 185, 3) := by decide +kernel
theorem dX8_cheapest_4 : decode cX8_cheapest 4 = .ok (.ireturn, 1) := by decide +kernel
theorem dX8_cheap_0 : decode cX8_cheap 0 = .ok (.aload_n 0, 1) := by decide +kernel
theorem dX8_cheap_1 : decode cX8_cheap 1 = .ok (.iload_n 1, 1) := by decide +kernel
theorem dX8_cheap_2 : decode cX8_cheap 2 = .ok (.invokevirtual 110, 3) := by decide +kernel
theorem dX8_cheap_5 : decode cX8_cheap 5 = .ok (.ifCond .ne 9, 3) := by decide +kernel
theorem dX8_cheap_8 : decode cX8_cheap 8 = .ok (.aload_n 0, 1) := by decide +kernel
theorem dX8_cheap_9 : decode cX8_cheap 9 = .ok (.iconst (-1), 1) := by decide +kernel
theorem dX8_cheap_10 : decode cX8_cheap 10 = .ok (.invokevirtual 84, 3) := by decide +kernel
theorem dX8_cheap_13 : decode cX8_cheap 13 = .ok (.ireturn, 1) := by decide +kernel
theorem dX8_cheap_14 : decode cX8_cheap 14 = .ok (.aload_n 0, 1) := by decide +kernel
theorem dX8_cheap_15 : decode cX8_cheap 15 = .ok (.invokevirtual 185, 3) := by decide +kernel
theorem dX8_cheap_18 : decode cX8_cheap 18 = .ok (.istore_n 2, 1) := by decide +kernel
theorem dX8_cheap_19 : decode cX8_cheap 19 = .ok (.aload_n 0, 1) := by decide +kernel
theorem dX8_cheap_20 : decode cX8_cheap 20 = .ok (.getfield 22, 3) := by decide +kernel
theorem dX8_cheap_23 : decode cX8_cheap 23 = .ok (.iload_n 1, 1) := by decide +kernel
theorem dX8_cheap_24 : decode cX8_cheap 24 = .ok (.baload, 1) := by decide +kernel
theorem dX8_cheap_25 : decode cX8_cheap 25 = .ok (.ifCond .ne 8, 3) := by decide +kernel
theorem dX8_cheap_28 : decode cX8_cheap 28 = .ok (.bipush (-9), 2) := by decide +kernel
theorem dX8_cheap_30 : decode cX8_cheap 30 = .ok (.goto 17, 3) := by decide +kernel
theorem dX8_cheap_33 : decode cX8_cheap 33 = .ok (.aload_n 0, 1) := by decide +kernel
theorem dX8_cheap_34 : decode cX8_cheap 34 = .ok (.getfield 44, 3) := by decide +kernel
theorem dX8_cheap_37 : decode cX8_cheap 37 = .ok (.iload_n 1, 1) := by decide +kernel
theorem dX8_cheap_38 : decode cX8_cheap 38 = .ok (.baload, 1) := by decide +kernel
theorem dX8_cheap_39 : decode cX8_cheap 39 = .ok (.ifCond .eq 7, 3) := by decide +kernel
theorem dX8_cheap_42 : decode cX8_cheap 42 = .ok (.iconst 1, 1) := by decide +kernel
theorem dX8_cheap_43 : decode cX8_cheap 43 = .ok (.goto 4, 3) := by decide +kernel
theorem dX8_cheap_46 : decode cX8_cheap 46 = .ok (.iconst 0, 1) := by decide +kernel
theorem dX8_cheap_47 : decode cX8_cheap 47 = .ok (.ireturn, 1) := by decide +kernel
theorem dX8_findFewest_0 : decode cX8_findFewest 0 = .ok (.aload_n 0, 1) := by decide +kernel
theorem dX8_findFewest_1 : decode cX8_findFewest 1 = .ok (.invokevirtual 148, 3) := by decide +kernel
theorem dX8_findFewest_4 : decode cX8_findFewest 4 = .ok (.istore_n 1, 1) := by decide +kernel
theorem dX8_findFewest_5 : decode cX8_findFewest 5 = .ok (.iconst 0, 1) := by decide +kernel
theorem dX8_findFewest_6 : decode cX8_findFewest 6 = .ok (.istore_n 2, 1) := by decide +kernel
theorem dX8_findFewest_7 : decode cX8_findFewest 7 = .ok (.iconst 0, 1) := by decide +kernel
theorem dX8_findFewest_8 : decode cX8_findFewest 8 = .ok (.istore_n 3, 1) := by decide +kernel
theorem dX8_findFewest_9 : decode cX8_findFewest 9 = .ok (.iload_n 3, 1) := by decide +kernel
theorem dX8_findFewest_10 : decode cX8_findFewest 10 = .ok (.aload_n 0, 1) := by decide +kernel
theorem dX8_findFewest_11 : decode cX8_findFewest 11 = .ok (.getfield 80, 3) := by decide +kernel
theorem dX8_findFewest_14 : decode cX8_findFewest 14 = .ok (.if_icmp .ge 81, 3) := by decide +kernel
theorem dX8_findFewest_17 : decode cX8_findFewest 17 = .ok (.iload_n 3, 1) := by decide +kernel
theorem dX8_findFewest_18 : decode cX8_findFewest 18 = .ok (.iconst 1, 1) := by decide +kernel
theorem dX8_findFewest_19 : decode cX8_findFewest 19 = .ok (.iadd, 1) := by decide +kernel
theorem dX8_findFewest_20 : decode cX8_findFewest 20 = .ok (.istore 4, 2) := by decide +kernel
theorem dX8_findFewest_22 : decode cX8_findFewest 22 = .ok (.iload 4, 2) := by decide +kernel
theorem dX8_findFewest_24 : decode cX8_findFewest 24 = .ok (.aload_n 0, 1) := by decide +kernel
theorem dX8_findFewest_25 : decode cX8_findFewest 25 = .ok (.getfield 80, 3) := by decide +kernel
theorem dX8_findFewest_28 : decode cX8_findFewest 28 = .ok (.if_icmp .ge 61, 3) := by decide +kernel
theorem dX8_findFewest_31 : decode cX8_findFewest 31 = .ok (.aload_n 0, 1) := by decide +kernel
theorem dX8_findFewest_32 : decode cX8_findFewest 32 = .ok (.aload_n 0, 1) := by decide +kernel
theorem dX8_findFewest_33 : decode cX8_findFewest 33 = .ok (.getfield 124, 3) := by decide +kernel
theorem dX8_findFewest_36 : decode cX8_findFewest 36 = .ok (.invokevirtual 152, 3) := by decide +kernel
theorem dX8_findFewest_39 : decode cX8_findFewest 39 = .ok (.iconst 3, 1) := by decide +kernel
theorem dX8_findFewest_40 : decode cX8_findFewest 40 = .ok (.if_icmp .le 49, 3) := by decide +kernel
theorem dX8_findFewest_43 : decode cX8_findFewest 43 = .ok (.aload_n 0, 1) := by decide +kernel
theorem dX8_findFewest_44 : decode cX8_findFewest 44 = .ok (.iload_n 3, 1) := by decide +kernel
theorem dX8_findFewest_45 : decode cX8_findFewest 45 = .ok (.iload 4, 2) := by decide +kernel
theorem dX8_findFewest_47 : decode cX8_findFewest 47 = .ok (.invokevirtual 107, 3) := by decide +kernel
theorem dX8_findFewest_50 : decode cX8_findFewest 50 = .ok (.ifCond .ge 33, 3) := by decide +kernel
theorem dX8_findFewest_53 : decode cX8_findFewest 53 = .ok (.aload_n 0, 1) := by decide +kernel
theorem dX8_findFewest_54 : decode cX8_findFewest 54 = .ok (.iload_n 3, 1) := by decide +kernel
theorem dX8_findFewest_55 : decode cX8_findFewest 55 = .ok (.iload 4, 2) := by decide +kernel
theorem dX8_findFewest_57 : decode cX8_findFewest 57 = .ok (.iconst 1, 1) := by decide +kernel
theorem dX8_findFewest_58 : decode cX8_findFewest 58 = .ok (.invokevirtual 141, 3) := by decide +kernel
theorem dX8_findFewest_61 : decode cX8_findFewest 61 = .ok (.ifCond .ne 6, 3) := by decide +kernel
theorem dX8_findFewest_64 : decode cX8_findFewest 64 = .ok (.goto 19, 3) := by decide +kernel
theorem dX8_findFewest_67 : decode cX8_findFewest 67 = .ok (.aload_n 0, 1) := by decide +kernel
theorem dX8_findFewest_68 : decode cX8_findFewest 68 = .ok (.getfield 62, 3) := by decide +kernel
theorem dX8_findFewest_71 : decode cX8_findFewest 71 = .ok (.iload_n 2, 1) := by decide +kernel
theorem dX8_findFewest_72 : decode cX8_findFewest 72 = .ok (.bipush 100, 2) := by decide +kernel
theorem dX8_findFewest_74 : decode cX8_findFewest 74 = .ok (.iload_n 3, 1) := by decide +kernel
theorem dX8_findFewest_75 : decode cX8_findFewest 75 = .ok (.imul, 1) := by decide +kernel
theorem dX8_findFewest_76 : decode cX8_findFewest 76 = .ok (.iload 4, 2) := by decide +kernel
theorem dX8_findFewest_78 : decode cX8_findFewest 78 = .ok (.iadd, 1) := by decide +kernel
theorem dX8_findFewest_79 : decode cX8_findFewest 79 = .ok (.iastore, 1) := by decide +kernel
theorem dX8_findFewest_80 : decode cX8_findFewest 80 = .ok (.iinc 2 1, 3) := by decide +kernel
theorem dX8_findFewest_83 : decode cX8_findFewest 83 = .ok (.iinc 4 1, 3) := by decide +kernel
theorem dX8_findFewest_86 : decode cX8_findFewest 86 = .ok (.goto (-64), 3) := by decide +kernel
theorem dX8_findFewest_89 : decode cX8_findFewest 89 = .ok (.iinc 3 1, 3) := by decide +kernel
theorem dX8_findFewest_92 : decode cX8_findFewest 92 = .ok (.goto (-83), 3) := by decide +kernel
theorem dX8_findFewest_95 : decode cX8_findFewest 95 = .ok (.iload_n 2, 1) := by decide +kernel
theorem dX8_findFewest_96 : decode cX8_findFewest 96 = .ok (.ireturn, 1) := by decide +kernel
theorem dX8_fewest_0 : decode cX8_fewest 0 = .ok (.aload_n 0, 1) := by decide +kernel
theorem dX8_fewest_1 : decode cX8_fewest 1 = .ok (.invokevirtual 188, 3) := by decide +kernel
theorem dX8_fewest_4 : decode cX8_fewest 4 = .ok (.ireturn, 1) := by decide +kernel
theorem dX8_fewestAt_0 : decode cX8_fewestAt 0 = .ok (.iload_n 1, 1) := by decide +kernel
theorem dX8_fewestAt_1 : decode cX8_fewestAt 1 = .ok (.aload_n 0, 1) := by decide +kernel
theorem dX8_fewestAt_2 : decode cX8_fewestAt 2 = .ok (.invokevirtual 188, 3) := by decide +kernel
theorem dX8_fewestAt_5 : decode cX8_fewestAt 5 = .ok (.invokestatic 88, 3) := by decide +kernel
theorem dX8_fewestAt_8 : decode cX8_fewestAt 8 = .ok (.ifCond .eq 12, 3) := by decide +kernel
theorem dX8_fewestAt_11 : decode cX8_fewestAt 11 = .ok (.aload_n 0, 1) := by decide +kernel
theorem dX8_fewestAt_12 : decode cX8_fewestAt 12 = .ok (.getfield 62, 3) := by decide +kernel
theorem dX8_fewestAt_15 : decode cX8_fewestAt 15 = .ok (.iload_n 1, 1) := by decide +kernel
theorem dX8_fewestAt_16 : decode cX8_fewestAt 16 = .ok (.iaload, 1) := by decide +kernel
theorem dX8_fewestAt_17 : decode cX8_fewestAt 17 = .ok (.goto 5, 3) := by decide +kernel
theorem dX8_fewestAt_20 : decode cX8_fewestAt 20 = .ok (.bipush (-9), 2) := by decide +kernel
theorem dX8_fewestAt_22 : decode cX8_fewestAt 22 = .ok (.ireturn, 1) := by decide +kernel
theorem dX8_goesBack_0 : decode cX8_goesBack 0 = .ok (.aload_n 0, 1) := by decide +kernel
theorem dX8_goesBack_1 : decode cX8_goesBack 1 = .ok (.invokevirtual 161, 3) := by decide +kernel
theorem dX8_goesBack_4 : decode cX8_goesBack 4 = .ok (.iconst 0, 1) := by decide +kernel
theorem dX8_goesBack_5 : decode cX8_goesBack 5 = .ok (.istore_n 1, 1) := by decide +kernel
theorem dX8_goesBack_6 : decode cX8_goesBack 6 = .ok (.iload_n 1, 1) := by decide +kernel
theorem dX8_goesBack_7 : decode cX8_goesBack 7 = .ok (.aload_n 0, 1) := by decide +kernel
theorem dX8_goesBack_8 : decode cX8_goesBack 8 = .ok (.getfield 80, 3) := by decide +kernel
theorem dX8_goesBack_11 : decode cX8_goesBack 11 = .ok (.if_icmp .ge 16, 3) := by decide +kernel
theorem dX8_goesBack_14 : decode cX8_goesBack 14 = .ok (.aload_n 0, 1) := by decide +kernel
theorem dX8_goesBack_15 : decode cX8_goesBack 15 = .ok (.getfield 65, 3) := by decide +kernel
theorem dX8_goesBack_18 : decode cX8_goesBack 18 = .ok (.iload_n 1, 1) := by decide +kernel
theorem dX8_goesBack_19 : decode cX8_goesBack 19 = .ok (.iconst 0, 1) := by decide +kernel
theorem dX8_goesBack_20 : decode cX8_goesBack 20 = .ok (.iastore, 1) := by decide +kernel
theorem dX8_goesBack_21 : decode cX8_goesBack 21 = .ok (.iinc 1 1, 3) := by decide +kernel
theorem dX8_goesBack_24 : decode cX8_goesBack 24 = .ok (.goto (-18), 3) := by decide +kernel
theorem dX8_goesBack_27 : decode cX8_goesBack 27 = .ok (.iconst 0, 1) := by decide +kernel
theorem dX8_goesBack_28 : decode cX8_goesBack 28 = .ok (.istore_n 1, 1) := by decide +kernel
theorem dX8_goesBack_29 : decode cX8_goesBack 29 = .ok (.iload_n 1, 1) := by decide +kernel
theorem dX8_goesBack_30 : decode cX8_goesBack 30 = .ok (.aload_n 0, 1) := by decide +kernel
theorem dX8_goesBack_31 : decode cX8_goesBack 31 = .ok (.getfield 92, 3) := by decide +kernel
theorem dX8_goesBack_34 : decode cX8_goesBack 34 = .ok (.if_icmp .ge 34, 3) := by decide +kernel
theorem dX8_goesBack_37 : decode cX8_goesBack 37 = .ok (.aload_n 0, 1) := by decide +kernel
theorem dX8_goesBack_38 : decode cX8_goesBack 38 = .ok (.getfield 50, 3) := by decide +kernel
theorem dX8_goesBack_41 : decode cX8_goesBack 41 = .ok (.iload_n 1, 1) := by decide +kernel
theorem dX8_goesBack_42 : decode cX8_goesBack 42 = .ok (.baload, 1) := by decide +kernel
theorem dX8_goesBack_43 : decode cX8_goesBack 43 = .ok (.ifCond .eq 19, 3) := by decide +kernel
theorem dX8_goesBack_46 : decode cX8_goesBack 46 = .ok (.aload_n 0, 1) := by decide +kernel
theorem dX8_goesBack_47 : decode cX8_goesBack 47 = .ok (.aload_n 0, 1) := by decide +kernel
theorem dX8_goesBack_48 : decode cX8_goesBack 48 = .ok (.getfield 13, 3) := by decide +kernel
theorem dX8_goesBack_51 : decode cX8_goesBack 51 = .ok (.iload_n 1, 1) := by decide +kernel
theorem dX8_goesBack_52 : decode cX8_goesBack 52 = .ok (.iaload, 1) := by decide +kernel
theorem dX8_goesBack_53 : decode cX8_goesBack 53 = .ok (.aload_n 0, 1) := by decide +kernel
theorem dX8_goesBack_54 : decode cX8_goesBack 54 = .ok (.getfield 16, 3) := by decide +kernel
theorem dX8_goesBack_57 : decode cX8_goesBack 57 = .ok (.iload_n 1, 1) := by decide +kernel
theorem dX8_goesBack_58 : decode cX8_goesBack 58 = .ok (.iaload, 1) := by decide +kernel
theorem dX8_goesBack_59 : decode cX8_goesBack 59 = .ok (.invokevirtual 191, 3) := by decide +kernel
theorem dX8_goesBack_62 : decode cX8_goesBack 62 = .ok (.iinc 1 1, 3) := by decide +kernel
theorem dX8_goesBack_65 : decode cX8_goesBack 65 = .ok (.goto (-36), 3) := by decide +kernel
theorem dX8_goesBack_68 : decode cX8_goesBack 68 = .ok (.iconst 1, 1) := by decide +kernel
theorem dX8_goesBack_69 : decode cX8_goesBack 69 = .ok (.aload_n 0, 1) := by decide +kernel
theorem dX8_goesBack_70 : decode cX8_goesBack 70 = .ok (.getfield 80, 3) := by decide +kernel
theorem dX8_goesBack_73 : decode cX8_goesBack 73 = .ok (.ishl, 1) := by decide +kernel
theorem dX8_goesBack_74 : decode cX8_goesBack 74 = .ok (.iconst 1, 1) := by decide +kernel
theorem dX8_goesBack_75 : decode cX8_goesBack 75 = .ok (.isub, 1) := by decide +kernel
theorem dX8_goesBack_76 : decode cX8_goesBack 76 = .ok (.istore_n 1, 1) := by decide +kernel
theorem dX8_goesBack_77 : decode cX8_goesBack 77 = .ok (.iconst 0, 1) := by decide +kernel
theorem dX8_goesBack_78 : decode cX8_goesBack 78 = .ok (.istore_n 2, 1) := by decide +kernel
theorem dX8_goesBack_79 : decode cX8_goesBack 79 = .ok (.iload_n 2, 1) := by decide +kernel
theorem dX8_goesBack_80 : decode cX8_goesBack 80 = .ok (.aload_n 0, 1) := by decide +kernel
theorem dX8_goesBack_81 : decode cX8_goesBack 81 = .ok (.getfield 80, 3) := by decide +kernel
theorem dX8_goesBack_84 : decode cX8_goesBack 84 = .ok (.if_icmp .ge 176, 3) := by decide +kernel
theorem dX8_goesBack_87 : decode cX8_goesBack 87 = .ok (.iconst (-1), 1) := by decide +kernel
theorem dX8_goesBack_88 : decode cX8_goesBack 88 = .ok (.istore_n 3, 1) := by decide +kernel
theorem dX8_goesBack_89 : decode cX8_goesBack 89 = .ok (.iconst 0, 1) := by decide +kernel
theorem dX8_goesBack_90 : decode cX8_goesBack 90 = .ok (.istore 4, 2) := by decide +kernel
theorem dX8_goesBack_92 : decode cX8_goesBack 92 = .ok (.iload 4, 2) := by decide +kernel
theorem dX8_goesBack_94 : decode cX8_goesBack 94 = .ok (.aload_n 0, 1) := by decide +kernel
theorem dX8_goesBack_95 : decode cX8_goesBack 95 = .ok (.getfield 80, 3) := by decide +kernel
theorem dX8_goesBack_98 : decode cX8_goesBack 98 = .ok (.if_icmp .ge 48, 3) := by decide +kernel
theorem dX8_goesBack_101 : decode cX8_goesBack 101 = .ok (.iload_n 1, 1) := by decide +kernel
theorem dX8_goesBack_102 : decode cX8_goesBack 102 = .ok (.iload 4, 2) := by decide +kernel
theorem dX8_goesBack_104 : decode cX8_goesBack 104 = .ok (.ishr, 1) := by decide +kernel
theorem dX8_goesBack_105 : decode cX8_goesBack 105 = .ok (.iconst 1, 1) := by decide +kernel
theorem dX8_goesBack_106 : decode cX8_goesBack 106 = .ok (.iand, 1) := by decide +kernel
theorem dX8_goesBack_107 : decode cX8_goesBack 107 = .ok (.iconst 1, 1) := by decide +kernel
theorem dX8_goesBack_108 : decode cX8_goesBack 108 = .ok (.if_icmp .ne 32, 3) := by decide +kernel
theorem dX8_goesBack_111 : decode cX8_goesBack 111 = .ok (.iload_n 3, 1) := by decide +kernel
theorem dX8_goesBack_112 : decode cX8_goesBack 112 = .ok (.ifCond .lt 25, 3) := by decide +kernel
theorem dX8_goesBack_115 : decode cX8_goesBack 115 = .ok (.aload_n 0, 1) := by decide +kernel
theorem dX8_goesBack_116 : decode cX8_goesBack 116 = .ok (.getfield 65, 3) := by decide +kernel
theorem dX8_goesBack_119 : decode cX8_goesBack 119 = .ok (.iload 4, 2) := by decide +kernel
theorem dX8_goesBack_121 : decode cX8_goesBack 121 = .ok (.iaload, 1) := by decide +kernel
theorem dX8_goesBack_122 : decode cX8_goesBack 122 = .ok (.invokestatic 179, 3) := by decide +kernel
theorem dX8_goesBack_125 : decode cX8_goesBack 125 = .ok (.aload_n 0, 1) := by decide +kernel
theorem dX8_goesBack_126 : decode cX8_goesBack 126 = .ok (.getfield 65, 3) := by decide +kernel
theorem dX8_goesBack_129 : decode cX8_goesBack 129 = .ok (.iload_n 3, 1) := by decide +kernel
theorem dX8_goesBack_130 : decode cX8_goesBack 130 = .ok (.iaload, 1) := by decide +kernel
theorem dX8_goesBack_131 : decode cX8_goesBack 131 = .ok (.invokestatic 179, 3) := by decide +kernel
theorem dX8_goesBack_134 : decode cX8_goesBack 134 = .ok (.if_icmp .ge 6, 3) := by decide +kernel
theorem dX8_goesBack_137 : decode cX8_goesBack 137 = .ok (.iload 4, 2) := by decide +kernel
theorem dX8_goesBack_139 : decode cX8_goesBack 139 = .ok (.istore_n 3, 1) := by decide +kernel
theorem dX8_goesBack_140 : decode cX8_goesBack 140 = .ok (.iinc 4 1, 3) := by decide +kernel
theorem dX8_goesBack_143 : decode cX8_goesBack 143 = .ok (.goto (-51), 3) := by decide +kernel
theorem dX8_goesBack_146 : decode cX8_goesBack 146 = .ok (.iload_n 1, 1) := by decide +kernel
theorem dX8_goesBack_147 : decode cX8_goesBack 147 = .ok (.iconst 1, 1) := by decide +kernel
theorem dX8_goesBack_148 : decode cX8_goesBack 148 = .ok (.iload_n 3, 1) := by decide +kernel
theorem dX8_goesBack_149 : decode cX8_goesBack 149 = .ok (.ishl, 1) := by decide +kernel
theorem dX8_goesBack_150 : decode cX8_goesBack 150 = .ok (.iconst (-1), 1) := by decide +kernel
theorem dX8_goesBack_151 : decode cX8_goesBack 151 = .ok (.ixor, 1) := by decide +kernel
theorem dX8_goesBack_152 : decode cX8_goesBack 152 = .ok (.iand, 1) := by decide +kernel
theorem dX8_goesBack_153 : decode cX8_goesBack 153 = .ok (.istore_n 1, 1) := by decide +kernel
theorem dX8_goesBack_154 : decode cX8_goesBack 154 = .ok (.aload_n 0, 1) := by decide +kernel
theorem dX8_goesBack_155 : decode cX8_goesBack 155 = .ok (.getfield 68, 3) := by decide +kernel
theorem dX8_goesBack_158 : decode cX8_goesBack 158 = .ok (.iload_n 2, 1) := by decide +kernel
theorem dX8_goesBack_159 : decode cX8_goesBack 159 = .ok (.iload_n 3, 1) := by decide +kernel
theorem dX8_goesBack_160 : decode cX8_goesBack 160 = .ok (.iastore, 1) := by decide +kernel
theorem dX8_goesBack_161 : decode cX8_goesBack 161 = .ok (.aload_n 0, 1) := by decide +kernel
theorem dX8_goesBack_162 : decode cX8_goesBack 162 = .ok (.getfield 71, 3) := by decide +kernel
theorem dX8_goesBack_165 : decode cX8_goesBack 165 = .ok (.iload_n 2, 1) := by decide +kernel
theorem dX8_goesBack_166 : decode cX8_goesBack 166 = .ok (.aload_n 0, 1) := by decide +kernel
theorem dX8_goesBack_167 : decode cX8_goesBack 167 = .ok (.getfield 65, 3) := by decide +kernel
theorem dX8_goesBack_170 : decode cX8_goesBack 170 = .ok (.iload_n 3, 1) := by decide +kernel
theorem dX8_goesBack_171 : decode cX8_goesBack 171 = .ok (.iaload, 1) := by decide +kernel
theorem dX8_goesBack_172 : decode cX8_goesBack 172 = .ok (.invokestatic 179, 3) := by decide +kernel
theorem dX8_goesBack_175 : decode cX8_goesBack 175 = .ok (.iastore, 1) := by decide +kernel
theorem dX8_goesBack_176 : decode cX8_goesBack 176 = .ok (.aload_n 0, 1) := by decide +kernel
theorem dX8_goesBack_177 : decode cX8_goesBack 177 = .ok (.getfield 74, 3) := by decide +kernel
theorem dX8_goesBack_180 : decode cX8_goesBack 180 = .ok (.iload_n 2, 1) := by decide +kernel
theorem dX8_goesBack_181 : decode cX8_goesBack 181 = .ok (.bipush (-9), 2) := by decide +kernel
theorem dX8_goesBack_183 : decode cX8_goesBack 183 = .ok (.iastore, 1) := by decide +kernel
theorem dX8_goesBack_184 : decode cX8_goesBack 184 = .ok (.aload_n 0, 1) := by decide +kernel
theorem dX8_goesBack_185 : decode cX8_goesBack 185 = .ok (.getfield 65, 3) := by decide +kernel
theorem dX8_goesBack_188 : decode cX8_goesBack 188 = .ok (.iload_n 3, 1) := by decide +kernel
theorem dX8_goesBack_189 : decode cX8_goesBack 189 = .ok (.iaload, 1) := by decide +kernel
theorem dX8_goesBack_190 : decode cX8_goesBack 190 = .ok (.istore 4, 2) := by decide +kernel
theorem dX8_goesBack_192 : decode cX8_goesBack 192 = .ok (.iconst 0, 1) := by decide +kernel
theorem dX8_goesBack_193 : decode cX8_goesBack 193 = .ok (.istore 5, 2) := by decide +kernel
theorem dX8_goesBack_195 : decode cX8_goesBack 195 = .ok (.iload 5, 2) := by decide +kernel
theorem dX8_goesBack_197 : decode cX8_goesBack 197 = .ok (.aload_n 0, 1) := by decide +kernel
theorem dX8_goesBack_198 : decode cX8_goesBack 198 = .ok (.getfield 80, 3) := by decide +kernel
theorem dX8_goesBack_201 : decode cX8_goesBack 201 = .ok (.if_icmp .ge 24, 3) := by decide +kernel
theorem dX8_goesBack_204 : decode cX8_goesBack 204 = .ok (.aload_n 0, 1) := by decide +kernel
theorem dX8_goesBack_205 : decode cX8_goesBack 205 = .ok (.getfield 65, 3) := by decide +kernel
theorem dX8_goesBack_208 : decode cX8_goesBack 208 = .ok (.iload 5, 2) := by decide +kernel
theorem dX8_goesBack_210 : decode cX8_goesBack 210 = .ok (.dup2, 1) := by decide +kernel
theorem dX8_goesBack_211 : decode cX8_goesBack 211 = .ok (.iaload, 1) := by decide +kernel
theorem dX8_goesBack_212 : decode cX8_goesBack 212 = .ok (.iconst 1, 1) := by decide +kernel
theorem dX8_goesBack_213 : decode cX8_goesBack 213 = .ok (.iload_n 3, 1) := by decide +kernel
theorem dX8_goesBack_214 : decode cX8_goesBack 214 = .ok (.ishl, 1) := by decide +kernel
theorem dX8_goesBack_215 : decode cX8_goesBack 215 = .ok (.iconst (-1), 1) := by decide +kernel
theorem dX8_goesBack_216 : decode cX8_goesBack 216 = .ok (.ixor, 1) := by decide +kernel
theorem dX8_goesBack_217 : decode cX8_goesBack 217 = .ok (.iand, 1) := by decide +kernel
theorem dX8_goesBack_218 : decode cX8_goesBack 218 = .ok (.iastore, 1) := by decide +kernel
theorem dX8_goesBack_219 : decode cX8_goesBack 219 = .ok (.iinc 5 1, 3) := by decide +kernel
theorem dX8_goesBack_222 : decode cX8_goesBack 222 = .ok (.goto (-27), 3) := by decide +kernel
theorem dX8_goesBack_225 : decode cX8_goesBack 225 = .ok (.aload_n 0, 1) := by decide +kernel
theorem dX8_goesBack_226 : decode cX8_goesBack 226 = .ok (.getfield 65, 3) := by decide +kernel
theorem dX8_goesBack_229 : decode cX8_goesBack 229 = .ok (.iload_n 3, 1) := by decide +kernel
theorem dX8_goesBack_230 : decode cX8_goesBack 230 = .ok (.iconst 0, 1) := by decide +kernel
theorem dX8_goesBack_231 : decode cX8_goesBack 231 = .ok (.iastore, 1) := by decide +kernel
theorem dX8_goesBack_232 : decode cX8_goesBack 232 = .ok (.aload_n 0, 1) := by decide +kernel
theorem dX8_goesBack_233 : decode cX8_goesBack 233 = .ok (.getfield 71, 3) := by decide +kernel
theorem dX8_goesBack_236 : decode cX8_goesBack 236 = .ok (.iload_n 2, 1) := by decide +kernel
theorem dX8_goesBack_237 : decode cX8_goesBack 237 = .ok (.iaload, 1) := by decide +kernel
theorem dX8_goesBack_238 : decode cX8_goesBack 238 = .ok (.iconst 3, 1) := by decide +kernel
theorem dX8_goesBack_239 : decode cX8_goesBack 239 = .ok (.if_icmp .ne 15, 3) := by decide +kernel
theorem dX8_goesBack_242 : decode cX8_goesBack 242 = .ok (.aload_n 0, 1) := by decide +kernel
theorem dX8_goesBack_243 : decode cX8_goesBack 243 = .ok (.getfield 74, 3) := by decide +kernel
theorem dX8_goesBack_246 : decode cX8_goesBack 246 = .ok (.iload_n 2, 1) := by decide +kernel
theorem dX8_goesBack_247 : decode cX8_goesBack 247 = .ok (.aload_n 0, 1) := by decide +kernel
theorem dX8_goesBack_248 : decode cX8_goesBack 248 = .ok (.iload 4, 2) := by decide +kernel
theorem dX8_goesBack_250 : decode cX8_goesBack 250 = .ok (.invokevirtual 194, 3) := by decide +kernel
theorem dX8_goesBack_253 : decode cX8_goesBack 253 = .ok (.iastore, 1) := by decide +kernel
theorem dX8_goesBack_254 : decode cX8_goesBack 254 = .ok (.iinc 2 1, 3) := by decide +kernel
theorem dX8_goesBack_257 : decode cX8_goesBack 257 = .ok (.goto (-178), 3) := by decide +kernel
theorem dX8_goesBack_260 : decode cX8_goesBack 260 = .ok (.return_, 1) := by decide +kernel
theorem dX8_links_0 : decode cX8_links 0 = .ok (.aload_n 0, 1) := by decide +kernel
theorem dX8_links_1 : decode cX8_links 1 = .ok (.getfield 65, 3) := by decide +kernel
theorem dX8_links_4 : decode cX8_links 4 = .ok (.iload_n 1, 1) := by decide +kernel
theorem dX8_links_5 : decode cX8_links 5 = .ok (.dup2, 1) := by decide +kernel
theorem dX8_links_6 : decode cX8_links 6 = .ok (.iaload, 1) := by decide +kernel
theorem dX8_links_7 : decode cX8_links 7 = .ok (.iconst 1, 1) := by decide +kernel
theorem dX8_links_8 : decode cX8_links 8 = .ok (.iload_n 2, 1) := by decide +kernel
theorem dX8_links_9 : decode cX8_links 9 = .ok (.ishl, 1) := by decide +kernel
theorem dX8_links_10 : decode cX8_links 10 = .ok (.ior, 1) := by decide +kernel
theorem dX8_links_11 : decode cX8_links 11 = .ok (.iastore, 1) := by decide +kernel
theorem dX8_links_12 : decode cX8_links 12 = .ok (.aload_n 0, 1) := by decide +kernel
theorem dX8_links_13 : decode cX8_links 13 = .ok (.getfield 65, 3) := by decide +kernel
theorem dX8_links_16 : decode cX8_links 16 = .ok (.iload_n 2, 1) := by decide +kernel
theorem dX8_links_17 : decode cX8_links 17 = .ok (.dup2, 1) := by decide +kernel
theorem dX8_links_18 : decode cX8_links 18 = .ok (.iaload, 1) := by decide +kernel
theorem dX8_links_19 : decode cX8_links 19 = .ok (.iconst 1, 1) := by decide +kernel
theorem dX8_links_20 : decode cX8_links 20 = .ok (.iload_n 1, 1) := by decide +kernel
theorem dX8_links_21 : decode cX8_links 21 = .ok (.ishl, 1) := by decide +kernel
theorem dX8_links_22 : decode cX8_links 22 = .ok (.ior, 1) := by decide +kernel
theorem dX8_links_23 : decode cX8_links 23 = .ok (.iastore, 1) := by decide +kernel
theorem dX8_links_24 : decode cX8_links 24 = .ok (.return_, 1) := by decide +kernel
theorem dX8_mends_0 : decode cX8_mends 0 = .ok (.iload_n 1, 1) := by decide +kernel
theorem dX8_mends_1 : decode cX8_mends 1 = .ok (.invokestatic 197, 3) := by decide +kernel
theorem dX8_mends_4 : decode cX8_mends 4 = .ok (.istore_n 2, 1) := by decide +kernel
theorem dX8_mends_5 : decode cX8_mends 5 = .ok (.iload_n 1, 1) := by decide +kernel
theorem dX8_mends_6 : decode cX8_mends 6 = .ok (.iload_n 1, 1) := by decide +kernel
theorem dX8_mends_7 : decode cX8_mends 7 = .ok (.iconst 1, 1) := by decide +kernel
theorem dX8_mends_8 : decode cX8_mends 8 = .ok (.isub, 1) := by decide +kernel
theorem dX8_mends_9 : decode cX8_mends 9 = .ok (.iand, 1) := by decide +kernel
theorem dX8_mends_10 : decode cX8_mends 10 = .ok (.invokestatic 197, 3) := by decide +kernel
theorem dX8_mends_13 : decode cX8_mends 13 = .ok (.istore_n 3, 1) := by decide +kernel
theorem dX8_mends_14 : decode cX8_mends 14 = .ok (.iload_n 1, 1) := by decide +kernel
theorem dX8_mends_15 : decode cX8_mends 15 = .ok (.iload_n 1, 1) := by decide +kernel
theorem dX8_mends_16 : decode cX8_mends 16 = .ok (.iconst 1, 1) := by decide +kernel
theorem dX8_mends_17 : decode cX8_mends 17 = .ok (.isub, 1) := by decide +kernel
theorem dX8_mends_18 : decode cX8_mends 18 = .ok (.iand, 1) := by decide +kernel
theorem dX8_mends_19 : decode cX8_mends 19 = .ok (.iload_n 1, 1) := by decide +kernel
theorem dX8_mends_20 : decode cX8_mends 20 = .ok (.iload_n 1, 1) := by decide +kernel
theorem dX8_mends_21 : decode cX8_mends 21 = .ok (.iconst 1, 1) := by decide +kernel
theorem dX8_mends_22 : decode cX8_mends 22 = .ok (.isub, 1) := by decide +kernel
theorem dX8_mends_23 : decode cX8_mends 23 = .ok (.iand, 1) := by decide +kernel
theorem dX8_mends_24 : decode cX8_mends 24 = .ok (.iconst 1, 1) := by decide +kernel
theorem dX8_mends_25 : decode cX8_mends 25 = .ok (.isub, 1) := by decide +kernel
theorem dX8_mends_26 : decode cX8_mends 26 = .ok (.iand, 1) := by decide +kernel
theorem dX8_mends_27 : decode cX8_mends 27 = .ok (.invokestatic 197, 3) := by decide +kernel
theorem dX8_mends_30 : decode cX8_mends 30 = .ok (.istore 4, 2) := by decide +kernel
theorem dX8_mends_32 : decode cX8_mends 32 = .ok (.iconst 0, 1) := by decide +kernel
theorem dX8_mends_33 : decode cX8_mends 33 = .ok (.istore 5, 2) := by decide +kernel
theorem dX8_mends_35 : decode cX8_mends 35 = .ok (.iload 5, 2) := by decide +kernel
theorem dX8_mends_37 : decode cX8_mends 37 = .ok (.iconst 3, 1) := by decide +kernel
theorem dX8_mends_38 : decode cX8_mends 38 = .ok (.if_icmp .ge 174, 3) := by decide +kernel
theorem dX8_mends_41 : decode cX8_mends 41 = .ok (.iload 5, 2) := by decide +kernel
theorem dX8_mends_43 : decode cX8_mends 43 = .ok (.iconst 2, 1) := by decide +kernel
theorem dX8_mends_44 : decode cX8_mends 44 = .ok (.if_icmp .ge 7, 3) := by decide +kernel
theorem dX8_mends_47 : decode cX8_mends 47 = .ok (.iload_n 2, 1) := by decide +kernel
theorem dX8_mends_48 : decode cX8_mends 48 = .ok (.goto 4, 3) := by decide +kernel
theorem dX8_mends_51 : decode cX8_mends 51 = .ok (.iload_n 3, 1) := by decide +kernel
theorem dX8_mends_52 : decode cX8_mends 52 = .ok (.istore 6, 2) := by decide +kernel
theorem dX8_mends_54 : decode cX8_mends 54 = .ok (.iload 5, 2) := by decide +kernel
theorem dX8_mends_56 : decode cX8_mends 56 = .ok (.ifCond .ne 7, 3) := by decide +kernel
theorem dX8_mends_59 : decode cX8_mends 59 = .ok (.iload_n 3, 1) := by decide +kernel
theorem dX8_mends_60 : decode cX8_mends 60 = .ok (.goto 5, 3) := by decide +kernel
theorem dX8_mends_63 : decode cX8_mends 63 = .ok (.iload 4, 2) := by decide +kernel
theorem dX8_mends_65 : decode cX8_mends 65 = .ok (.istore 7, 2) := by decide +kernel
theorem dX8_mends_67 : decode cX8_mends 67 = .ok (.aload_n 0, 1) := by decide +kernel
theorem dX8_mends_68 : decode cX8_mends 68 = .ok (.getfield 65, 3) := by decide +kernel
theorem dX8_mends_71 : decode cX8_mends 71 = .ok (.iload 6, 2) := by decide +kernel
theorem dX8_mends_73 : decode cX8_mends 73 = .ok (.iaload, 1) := by decide +kernel
theorem dX8_mends_74 : decode cX8_mends 74 = .ok (.iload 7, 2) := by decide +kernel
theorem dX8_mends_76 : decode cX8_mends 76 = .ok (.ishr, 1) := by decide +kernel
theorem dX8_mends_77 : decode cX8_mends 77 = .ok (.iconst 1, 1) := by decide +kernel
theorem dX8_mends_78 : decode cX8_mends 78 = .ok (.iand, 1) := by decide +kernel
theorem dX8_mends_79 : decode cX8_mends 79 = .ok (.iconst 1, 1) := by decide +kernel
theorem dX8_mends_80 : decode cX8_mends 80 = .ok (.if_icmp .ne 6, 3) := by decide +kernel
theorem dX8_mends_83 : decode cX8_mends 83 = .ok (.goto 123, 3) := by decide +kernel
theorem dX8_mends_86 : decode cX8_mends 86 = .ok (.aload_n 0, 1) := by decide +kernel
theorem dX8_mends_87 : decode cX8_mends 87 = .ok (.iconst 2, 1) := by decide +kernel
theorem dX8_mends_88 : decode cX8_mends 88 = .ok (.iconst 3, 1) := by decide +kernel
theorem dX8_mends_89 : decode cX8_mends 89 = .ok (.invokevirtual 137, 3) := by decide +kernel
theorem dX8_mends_92 : decode cX8_mends 92 = .ok (.iconst 1, 1) := by decide +kernel
theorem dX8_mends_93 : decode cX8_mends 93 = .ok (.istore 8, 2) := by decide +kernel
theorem dX8_mends_95 : decode cX8_mends 95 = .ok (.iconst 0, 1) := by decide +kernel
theorem dX8_mends_96 : decode cX8_mends 96 = .ok (.istore 9, 2) := by decide +kernel
theorem dX8_mends_98 : decode cX8_mends 98 = .ok (.iload 9, 2) := by decide +kernel
theorem dX8_mends_100 : decode cX8_mends 100 = .ok (.aload_n 0, 1) := by decide +kernel
theorem dX8_mends_101 : decode cX8_mends 101 = .ok (.getfield 80, 3) := by decide +kernel
theorem dX8_mends_104 : decode cX8_mends 104 = .ok (.if_icmp .ge 70, 3) := by decide +kernel
theorem dX8_mends_107 : decode cX8_mends 107 = .ok (.iload 9, 2) := by decide +kernel
theorem dX8_mends_109 : decode cX8_mends 109 = .ok (.iconst 1, 1) := by decide +kernel
theorem dX8_mends_110 : decode cX8_mends 110 = .ok (.iadd, 1) := by decide +kernel
theorem dX8_mends_111 : decode cX8_mends 111 = .ok (.istore 10, 2) := by decide +kernel
theorem dX8_mends_113 : decode cX8_mends 113 = .ok (.iload 10, 2) := by decide +kernel
theorem dX8_mends_115 : decode cX8_mends 115 = .ok (.aload_n 0, 1) := by decide +kernel
theorem dX8_mends_116 : decode cX8_mends 116 = .ok (.getfield 80, 3) := by decide +kernel
theorem dX8_mends_119 : decode cX8_mends 119 = .ok (.if_icmp .ge 49, 3) := by decide +kernel
theorem dX8_mends_122 : decode cX8_mends 122 = .ok (.aload_n 0, 1) := by decide +kernel
theorem dX8_mends_123 : decode cX8_mends 123 = .ok (.getfield 65, 3) := by decide +kernel
theorem dX8_mends_126 : decode cX8_mends 126 = .ok (.iload 9, 2) := by decide +kernel
theorem dX8_mends_128 : decode cX8_mends 128 = .ok (.iaload, 1) := by decide +kernel
theorem dX8_mends_129 : decode cX8_mends 129 = .ok (.iload 10, 2) := by decide +kernel
theorem dX8_mends_131 : decode cX8_mends 131 = .ok (.ishr, 1) := by decide +kernel
theorem dX8_mends_132 : decode cX8_mends 132 = .ok (.iconst 1, 1) := by decide +kernel
theorem dX8_mends_133 : decode cX8_mends 133 = .ok (.iand, 1) := by decide +kernel
theorem dX8_mends_134 : decode cX8_mends 134 = .ok (.iconst 1, 1) := by decide +kernel
theorem dX8_mends_135 : decode cX8_mends 135 = .ok (.if_icmp .ne 27, 3) := by decide +kernel
theorem dX8_mends_138 : decode cX8_mends 138 = .ok (.aload_n 0, 1) := by decide +kernel
theorem dX8_mends_139 : decode cX8_mends 139 = .ok (.iload 9, 2) := by decide +kernel
theorem dX8_mends_141 : decode cX8_mends 141 = .ok (.iload 10, 2) := by decide +kernel
theorem dX8_mends_143 : decode cX8_mends 143 = .ok (.iconst 1, 1) := by decide +kernel
theorem dX8_mends_144 : decode cX8_mends 144 = .ok (.invokevirtual 141, 3) := by decide +kernel
theorem dX8_mends_147 : decode cX8_mends 147 = .ok (.ifCond .eq 12, 3) := by decide +kernel
theorem dX8_mends_150 : decode cX8_mends 150 = .ok (.iload 8, 2) := by decide +kernel
theorem dX8_mends_152 : decode cX8_mends 152 = .ok (.ifCond .eq 7, 3) := by decide +kernel
theorem dX8_mends_155 : decode cX8_mends 155 = .ok (.iconst 1, 1) := by decide +kernel
theorem dX8_mends_156 : decode cX8_mends 156 = .ok (.goto 4, 3) := by decide +kernel
theorem dX8_mends_159 : decode cX8_mends 159 = .ok (.iconst 0, 1) := by decide +kernel
theorem dX8_mends_160 : decode cX8_mends 160 = .ok (.istore 8, 2) := by decide +kernel
theorem dX8_mends_162 : decode cX8_mends 162 = .ok (.iinc 10 1, 3) := by decide +kernel
theorem dX8_mends_165 : decode cX8_mends 165 = .ok (.goto (-52), 3) := by decide +kernel
theorem dX8_mends_168 : decode cX8_mends 168 = .ok (.iinc 9 1, 3) := by decide +kernel
theorem dX8_mends_171 : decode cX8_mends 171 = .ok (.goto (-73), 3) := by decide +kernel
theorem dX8_mends_174 : decode cX8_mends 174 = .ok (.aload_n 0, 1) := by decide +kernel
theorem dX8_mends_175 : decode cX8_mends 175 = .ok (.iload 6, 2) := by decide +kernel
theorem dX8_mends_177 : decode cX8_mends 177 = .ok (.iload 7, 2) := by decide +kernel
theorem dX8_mends_179 : decode cX8_mends 179 = .ok (.iconst 0, 1) := by decide +kernel
theorem dX8_mends_180 : decode cX8_mends 180 = .ok (.invokevirtual 141, 3) := by decide +kernel
theorem dX8_mends_183 : decode cX8_mends 183 = .ok (.ifCond .ne 6, 3) := by decide +kernel
theorem dX8_mends_186 : decode cX8_mends 186 = .ok (.goto 20, 3) := by decide +kernel
theorem dX8_mends_189 : decode cX8_mends 189 = .ok (.aload_n 0, 1) := by decide +kernel
theorem dX8_mends_190 : decode cX8_mends 190 = .ok (.iload 6, 2) := by decide +kernel
theorem dX8_mends_192 : decode cX8_mends 192 = .ok (.iload 7, 2) := by decide +kernel
theorem dX8_mends_194 : decode cX8_mends 194 = .ok (.invokevirtual 191, 3) := by decide +kernel
theorem dX8_mends_197 : decode cX8_mends 197 = .ok (.bipush 100, 2) := by decide +kernel
theorem dX8_mends_199 : decode cX8_mends 199 = .ok (.iload 6, 2) := by decide +kernel
theorem dX8_mends_201 : decode cX8_mends 201 = .ok (.imul, 1) := by decide +kernel
theorem dX8_mends_202 : decode cX8_mends 202 = .ok (.iload 7, 2) := by decide +kernel
theorem dX8_mends_204 : decode cX8_mends 204 = .ok (.iadd, 1) := by decide +kernel
theorem dX8_mends_205 : decode cX8_mends 205 = .ok (.ireturn, 1) := by decide +kernel
theorem dX8_mends_206 : decode cX8_mends 206 = .ok (.iinc 5 1, 3) := by decide +kernel
theorem dX8_mends_209 : decode cX8_mends 209 = .ok (.goto (-174), 3) := by decide +kernel
theorem dX8_mends_212 : decode cX8_mends 212 = .ok (.bipush (-9), 2) := by decide +kernel
theorem dX8_mends_214 : decode cX8_mends 214 = .ok (.ireturn, 1) := by decide +kernel
theorem dX8_first_0 : decode cX8_first 0 = .ok (.iconst 0, 1) := by decide +kernel
theorem dX8_first_1 : decode cX8_first 1 = .ok (.istore_n 1, 1) := by decide +kernel
theorem dX8_first_2 : decode cX8_first 2 = .ok (.iload_n 0, 1) := by decide +kernel
theorem dX8_first_3 : decode cX8_first 3 = .ok (.iload_n 1, 1) := by decide +kernel
theorem dX8_first_4 : decode cX8_first 4 = .ok (.ishr, 1) := by decide +kernel
theorem dX8_first_5 : decode cX8_first 5 = .ok (.iconst 1, 1) := by decide +kernel
theorem dX8_first_6 : decode cX8_first 6 = .ok (.iand, 1) := by decide +kernel
theorem dX8_first_7 : decode cX8_first 7 = .ok (.ifCond .ne 9, 3) := by decide +kernel
theorem dX8_first_10 : decode cX8_first 10 = .ok (.iinc 1 1, 3) := by decide +kernel
theorem dX8_first_13 : decode cX8_first 13 = .ok (.goto (-11), 3) := by decide +kernel
theorem dX8_first_16 : decode cX8_first 16 = .ok (.iload_n 1, 1) := by decide +kernel
theorem dX8_first_17 : decode cX8_first 17 = .ok (.ireturn, 1) := by decide +kernel
theorem dX8_back_0 : decode cX8_back 0 = .ok (.iload_n 2, 1) := by decide +kernel
theorem dX8_back_1 : decode cX8_back 1 = .ok (.iconst 3, 1) := by decide +kernel
theorem dX8_back_2 : decode cX8_back 2 = .ok (.invokestatic 88, 3) := by decide +kernel
theorem dX8_back_5 : decode cX8_back 5 = .ok (.ifCond .ne 10, 3) := by decide +kernel
theorem dX8_back_8 : decode cX8_back 8 = .ok (.aload_n 0, 1) := by decide +kernel
theorem dX8_back_9 : decode cX8_back 9 = .ok (.bipush (-2), 2) := by decide +kernel
theorem dX8_back_11 : decode cX8_back 11 = .ok (.invokevirtual 84, 3) := by decide +kernel
theorem dX8_back_14 : decode cX8_back 14 = .ok (.ireturn, 1) := by decide +kernel
theorem dX8_back_15 : decode cX8_back 15 = .ok (.iload_n 1, 1) := by decide +kernel
theorem dX8_back_16 : decode cX8_back 16 = .ok (.aload_n 0, 1) := by decide +kernel
theorem dX8_back_17 : decode cX8_back 17 = .ok (.getfield 80, 3) := by decide +kernel
theorem dX8_back_20 : decode cX8_back 20 = .ok (.invokestatic 88, 3) := by decide +kernel
theorem dX8_back_23 : decode cX8_back 23 = .ok (.ifCond .ne 6, 3) := by decide +kernel
theorem dX8_back_26 : decode cX8_back 26 = .ok (.bipush (-9), 2) := by decide +kernel
theorem dX8_back_28 : decode cX8_back 28 = .ok (.ireturn, 1) := by decide +kernel
theorem dX8_back_29 : decode cX8_back 29 = .ok (.aload_n 0, 1) := by decide +kernel
theorem dX8_back_30 : decode cX8_back 30 = .ok (.invokevirtual 200, 3) := by decide +kernel
theorem dX8_back_33 : decode cX8_back 33 = .ok (.iload_n 2, 1) := by decide +kernel
theorem dX8_back_34 : decode cX8_back 34 = .ok (.ifCond .ne 12, 3) := by decide +kernel
theorem dX8_back_37 : decode cX8_back 37 = .ok (.aload_n 0, 1) := by decide +kernel
theorem dX8_back_38 : decode cX8_back 38 = .ok (.getfield 68, 3) := by decide +kernel
theorem dX8_back_41 : decode cX8_back 41 = .ok (.iload_n 1, 1) := by decide +kernel
theorem dX8_back_42 : decode cX8_back 42 = .ok (.iaload, 1) := by decide +kernel
theorem dX8_back_43 : decode cX8_back 43 = .ok (.goto 23, 3) := by decide +kernel
theorem dX8_back_46 : decode cX8_back 46 = .ok (.iload_n 2, 1) := by decide +kernel
theorem dX8_back_47 : decode cX8_back 47 = .ok (.iconst 1, 1) := by decide +kernel
theorem dX8_back_48 : decode cX8_back 48 = .ok (.if_icmp .ne 12, 3) := by decide +kernel
theorem dX8_back_51 : decode cX8_back 51 = .ok (.aload_n 0, 1) := by decide +kernel
theorem dX8_back_52 : decode cX8_back 52 = .ok (.getfield 71, 3) := by decide +kernel
theorem dX8_back_55 : decode cX8_back 55 = .ok (.iload_n 1, 1) := by decide +kernel
theorem dX8_back_56 : decode cX8_back 56 = .ok (.iaload, 1) := by decide +kernel
theorem dX8_back_57 : decode cX8_back 57 = .ok (.goto 9, 3) := by decide +kernel
theorem dX8_back_60 : decode cX8_back 60 = .ok (.aload_n 0, 1) := by decide +kernel
theorem dX8_back_61 : decode cX8_back 61 = .ok (.getfield 74, 3) := by decide +kernel
theorem dX8_back_64 : decode cX8_back 64 = .ok (.iload_n 1, 1) := by decide +kernel
theorem dX8_back_65 : decode cX8_back 65 = .ok (.iaload, 1) := by decide +kernel
theorem dX8_back_66 : decode cX8_back 66 = .ok (.ireturn, 1) := by decide +kernel
theorem dX8_threes_0 : decode cX8_threes 0 = .ok (.aload_n 0, 1) := by decide +kernel
theorem dX8_threes_1 : decode cX8_threes 1 = .ok (.invokevirtual 200, 3) := by decide +kernel
theorem dX8_threes_4 : decode cX8_threes 4 = .ok (.iconst 0, 1) := by decide +kernel
theorem dX8_threes_5 : decode cX8_threes 5 = .ok (.istore_n 1, 1) := by decide +kernel
theorem dX8_threes_6 : decode cX8_threes 6 = .ok (.iconst 0, 1) := by decide +kernel
theorem dX8_threes_7 : decode cX8_threes 7 = .ok (.istore_n 2, 1) := by decide +kernel
theorem dX8_threes_8 : decode cX8_threes 8 = .ok (.iload_n 2, 1) := by decide +kernel
theorem dX8_threes_9 : decode cX8_threes 9 = .ok (.aload_n 0, 1) := by decide +kernel
theorem dX8_threes_10 : decode cX8_threes 10 = .ok (.getfield 80, 3) := by decide +kernel
theorem dX8_threes_13 : decode cX8_threes 13 = .ok (.if_icmp .ge 27, 3) := by decide +kernel
theorem dX8_threes_16 : decode cX8_threes 16 = .ok (.iload_n 1, 1) := by decide +kernel
theorem dX8_threes_17 : decode cX8_threes 17 = .ok (.aload_n 0, 1) := by decide +kernel
theorem dX8_threes_18 : decode cX8_threes 18 = .ok (.getfield 71, 3) := by decide +kernel
theorem dX8_threes_21 : decode cX8_threes 21 = .ok (.iload_n 2, 1) := by decide +kernel
theorem dX8_threes_22 : decode cX8_threes 22 = .ok (.iaload, 1) := by decide +kernel
theorem dX8_threes_23 : decode cX8_threes 23 = .ok (.iconst 3, 1) := by decide +kernel
theorem dX8_threes_24 : decode cX8_threes 24 = .ok (.if_icmp .ne 7, 3) := by decide +kernel
theorem dX8_threes_27 : decode cX8_threes 27 = .ok (.iconst 1, 1) := by decide +kernel
theorem dX8_threes_28 : decode cX8_threes 28 = .ok (.goto 4, 3) := by decide +kernel
theorem dX8_threes_31 : decode cX8_threes 31 = .ok (.iconst 0, 1) := by decide +kernel
theorem dX8_threes_32 : decode cX8_threes 32 = .ok (.iadd, 1) := by decide +kernel
theorem dX8_threes_33 : decode cX8_threes 33 = .ok (.istore_n 1, 1) := by decide +kernel
theorem dX8_threes_34 : decode cX8_threes 34 = .ok (.iinc 2 1, 3) := by decide +kernel
theorem dX8_threes_37 : decode cX8_threes 37 = .ok (.goto (-29), 3) := by decide +kernel
theorem dX8_threes_40 : decode cX8_threes 40 = .ok (.iload_n 1, 1) := by decide +kernel
theorem dX8_threes_41 : decode cX8_threes 41 = .ok (.ireturn, 1) := by decide +kernel
theorem dX8_findBundles_0 : decode cX8_findBundles 0 = .ok (.aload_n 0, 1) := by decide +kernel
theorem dX8_findBundles_1 : decode cX8_findBundles 1 = .ok (.invokevirtual 161, 3) := by decide +kernel
theorem dX8_findBundles_4 : decode cX8_findBundles 4 = .ok (.iconst 0, 1) := by decide +kernel
theorem dX8_findBundles_5 : decode cX8_findBundles 5 = .ok (.istore_n 1, 1) := by decide +kernel
theorem dX8_findBundles_6 : decode cX8_findBundles 6 = .ok (.iload_n 1, 1) := by decide +kernel
theorem dX8_findBundles_7 : decode cX8_findBundles 7 = .ok (.aload_n 0, 1) := by decide +kernel
theorem dX8_findBundles_8 : decode cX8_findBundles 8 = .ok (.getfield 92, 3) := by decide +kernel
theorem dX8_findBundles_11 : decode cX8_findBundles 11 = .ok (.if_icmp .ge 16, 3) := by decide +kernel
theorem dX8_findBundles_14 : decode cX8_findBundles 14 = .ok (.aload_n 0, 1) := by decide +kernel
theorem dX8_findBundles_15 : decode cX8_findBundles 15 = .ok (.getfield 77, 3) := by decide +kernel
theorem dX8_findBundles_18 : decode cX8_findBundles 18 = .ok (.iload_n 1, 1) := by decide +kernel
theorem dX8_findBundles_19 : decode cX8_findBundles 19 = .ok (.iload_n 1, 1) := by decide +kernel
theorem dX8_findBundles_20 : decode cX8_findBundles 20 = .ok (.iastore, 1) := by decide +kernel
theorem dX8_findBundles_21 : decode cX8_findBundles 21 = .ok (.iinc 1 1, 3) := by decide +kernel
theorem dX8_findBundles_24 : decode cX8_findBundles 24 = .ok (.goto (-18), 3) := by decide +kernel
theorem dX8_findBundles_27 : decode cX8_findBundles 27 = .ok (.iconst 0, 1) := by decide +kernel
theorem dX8_findBundles_28 : decode cX8_findBundles 28 = .ok (.istore_n 1, 1) := by decide +kernel
theorem dX8_findBundles_29 : decode cX8_findBundles 29 = .ok (.iload_n 1, 1) := by decide +kernel
theorem dX8_findBundles_30 : decode cX8_findBundles 30 = .ok (.aload_n 0, 1) := by decide +kernel
theorem dX8_findBundles_31 : decode cX8_findBundles 31 = .ok (.getfield 92, 3) := by decide +kernel
theorem dX8_findBundles_34 : decode cX8_findBundles 34 = .ok (.if_icmp .ge 77, 3) := by decide +kernel
theorem dX8_findBundles_37 : decode cX8_findBundles 37 = .ok (.aload_n 0, 1) := by decide +kernel
theorem dX8_findBundles_38 : decode cX8_findBundles 38 = .ok (.getfield 22, 3) := by decide +kernel
theorem dX8_findBundles_41 : decode cX8_findBundles 41 = .ok (.iload_n 1, 1) := by decide +kernel
theorem dX8_findBundles_42 : decode cX8_findBundles 42 = .ok (.baload, 1) := by decide +kernel
theorem dX8_findBundles_43 : decode cX8_findBundles 43 = .ok (.ifCond .eq 62, 3) := by decide +kernel
theorem dX8_findBundles_46 : decode cX8_findBundles 46 = .ok (.aload_n 0, 1) := by decide +kernel
theorem dX8_findBundles_47 : decode cX8_findBundles 47 = .ok (.getfield 50, 3) := by decide +kernel
theorem dX8_findBundles_50 : decode cX8_findBundles 50 = .ok (.iload_n 1, 1) := by decide +kernel
theorem dX8_findBundles_51 : decode cX8_findBundles 51 = .ok (.baload, 1) := by decide +kernel
theorem dX8_findBundles_52 : decode cX8_findBundles 52 = .ok (.ifCond .eq 6, 3) := by decide +kernel
theorem dX8_findBundles_55 : decode cX8_findBundles 55 = .ok (.goto 50, 3) := by decide +kernel
theorem dX8_findBundles_58 : decode cX8_findBundles 58 = .ok (.aload_n 0, 1) := by decide +kernel
theorem dX8_findBundles_59 : decode cX8_findBundles 59 = .ok (.iload_n 1, 1) := by decide +kernel
theorem dX8_findBundles_60 : decode cX8_findBundles 60 = .ok (.invokevirtual 164, 3) := by decide +kernel
theorem dX8_findBundles_63 : decode cX8_findBundles 63 = .ok (.istore_n 2, 1) := by decide +kernel
theorem dX8_findBundles_64 : decode cX8_findBundles 64 = .ok (.iconst 0, 1) := by decide +kernel
theorem dX8_findBundles_65 : decode cX8_findBundles 65 = .ok (.istore_n 3, 1) := by decide +kernel
theorem dX8_findBundles_66 : decode cX8_findBundles 66 = .ok (.iload_n 3, 1) := by decide +kernel
theorem dX8_findBundles_67 : decode cX8_findBundles 67 = .ok (.aload_n 0, 1) := by decide +kernel
theorem dX8_findBundles_68 : decode cX8_findBundles 68 = .ok (.getfield 92, 3) := by decide +kernel
theorem dX8_findBundles_71 : decode cX8_findBundles 71 = .ok (.if_icmp .ge 34, 3) := by decide +kernel
theorem dX8_findBundles_74 : decode cX8_findBundles 74 = .ok (.aload_n 0, 1) := by decide +kernel
theorem dX8_findBundles_75 : decode cX8_findBundles 75 = .ok (.getfield 47, 3) := by decide +kernel
theorem dX8_findBundles_78 : decode cX8_findBundles 78 = .ok (.iload_n 3, 1) := by decide +kernel
theorem dX8_findBundles_79 : decode cX8_findBundles 79 = .ok (.baload, 1) := by decide +kernel
theorem dX8_findBundles_80 : decode cX8_findBundles 80 = .ok (.ifCond .eq 19, 3) := by decide +kernel
theorem dX8_findBundles_83 : decode cX8_findBundles 83 = .ok (.aload_n 0, 1) := by decide +kernel
theorem dX8_findBundles_84 : decode cX8_findBundles 84 = .ok (.aload_n 0, 1) := by decide +kernel
theorem dX8_findBundles_85 : decode cX8_findBundles 85 = .ok (.getfield 77, 3) := by decide +kernel
theorem dX8_findBundles_88 : decode cX8_findBundles 88 = .ok (.iload_n 1, 1) := by decide +kernel
theorem dX8_findBundles_89 : decode cX8_findBundles 89 = .ok (.iaload, 1) := by decide +kernel
theorem dX8_findBundles_90 : decode cX8_findBundles 90 = .ok (.aload_n 0, 1) := by decide +kernel
theorem dX8_findBundles_91 : decode cX8_findBundles 91 = .ok (.getfield 77, 3) := by decide +kernel
theorem dX8_findBundles_94 : decode cX8_findBundles 94 = .ok (.iload_n 3, 1) := by decide +kernel
theorem dX8_findBundles_95 : decode cX8_findBundles 95 = .ok (.iaload, 1) := by decide +kernel
theorem dX8_findBundles_96 : decode cX8_findBundles 96 = .ok (.invokevirtual 203, 3) := by decide +kernel
theorem dX8_findBundles_99 : decode cX8_findBundles 99 = .ok (.iinc 3 1, 3) := by decide +kernel
theorem dX8_findBundles_102 : decode cX8_findBundles 102 = .ok (.goto (-36), 3) := by decide +kernel
theorem dX8_findBundles_105 : decode cX8_findBundles 105 = .ok (.iinc 1 1, 3) := by decide +kernel
theorem dX8_findBundles_108 : decode cX8_findBundles 108 = .ok (.goto (-79), 3) := by decide +kernel
theorem dX8_findBundles_111 : decode cX8_findBundles 111 = .ok (.iconst 0, 1) := by decide +kernel
theorem dX8_findBundles_112 : decode cX8_findBundles 112 = .ok (.istore_n 1, 1) := by decide +kernel
theorem dX8_findBundles_113 : decode cX8_findBundles 113 = .ok (.iconst 0, 1) := by decide +kernel
theorem dX8_findBundles_114 : decode cX8_findBundles 114 = .ok (.istore_n 2, 1) := by decide +kernel
theorem dX8_findBundles_115 : decode cX8_findBundles 115 = .ok (.iload_n 2, 1) := by decide +kernel
theorem dX8_findBundles_116 : decode cX8_findBundles 116 = .ok (.aload_n 0, 1) := by decide +kernel
theorem dX8_findBundles_117 : decode cX8_findBundles 117 = .ok (.getfield 92, 3) := by decide +kernel
theorem dX8_findBundles_120 : decode cX8_findBundles 120 = .ok (.if_icmp .ge 36, 3) := by decide +kernel
theorem dX8_findBundles_123 : decode cX8_findBundles 123 = .ok (.iload_n 1, 1) := by decide +kernel
theorem dX8_findBundles_124 : decode cX8_findBundles 124 = .ok (.aload_n 0, 1) := by decide +kernel
theorem dX8_findBundles_125 : decode cX8_findBundles 125 = .ok (.getfield 22, 3) := by decide +kernel
theorem dX8_findBundles_128 : decode cX8_findBundles 128 = .ok (.iload_n 2, 1) := by decide +kernel
theorem dX8_findBundles_129 : decode cX8_findBundles 129 = .ok (.baload, 1) := by decide +kernel
theorem dX8_findBundles_130 : decode cX8_findBundles 130 = .ok (.ifCond .eq 17, 3) := by decide +kernel
theorem dX8_findBundles_133 : decode cX8_findBundles 133 = .ok (.aload_n 0, 1) := by decide +kernel
theorem dX8_findBundles_134 : decode cX8_findBundles 134 = .ok (.getfield 77, 3) := by decide +kernel
theorem dX8_findBundles_137 : decode cX8_findBundles 137 = .ok (.iload_n 2, 1) := by decide +kernel
theorem dX8_findBundles_138 : decode cX8_findBundles 138 = .ok (.iaload, 1) := by decide +kernel
theorem dX8_findBundles_139 : decode cX8_findBundles 139 = .ok (.iload_n 2, 1) := by decide +kernel
theorem dX8_findBundles_140 : decode cX8_findBundles 140 = .ok (.if_icmp .ne 7, 3) := by decide +kernel
theorem dX8_findBundles_143 : decode cX8_findBundles 143 = .ok (.iconst 1, 1) := by decide +kernel
theorem dX8_findBundles_144 : decode cX8_findBundles 144 = .ok (.goto 4, 3) := by decide +kernel
theorem dX8_findBundles_147 : decode cX8_findBundles 147 = .ok (.iconst 0, 1) := by decide +kernel
theorem dX8_findBundles_148 : decode cX8_findBundles 148 = .ok (.iadd, 1) := by decide +kernel
theorem dX8_findBundles_149 : decode cX8_findBundles 149 = .ok (.istore_n 1, 1) := by decide +kernel
theorem dX8_findBundles_150 : decode cX8_findBundles 150 = .ok (.iinc 2 1, 3) := by decide +kernel
theorem dX8_findBundles_153 : decode cX8_findBundles 153 = .ok (.goto (-38), 3) := by decide +kernel
theorem dX8_findBundles_156 : decode cX8_findBundles 156 = .ok (.iload_n 1, 1) := by decide +kernel
theorem dX8_findBundles_157 : decode cX8_findBundles 157 = .ok (.ireturn, 1) := by decide +kernel
theorem dX8_merges_0 : decode cX8_merges 0 = .ok (.iload_n 1, 1) := by decide +kernel
theorem dX8_merges_1 : decode cX8_merges 1 = .ok (.iload_n 2, 1) := by decide +kernel
theorem dX8_merges_2 : decode cX8_merges 2 = .ok (.invokestatic 95, 3) := by decide +kernel
theorem dX8_merges_5 : decode cX8_merges 5 = .ok (.istore_n 3, 1) := by decide +kernel
theorem dX8_merges_6 : decode cX8_merges 6 = .ok (.iload_n 1, 1) := by decide +kernel
theorem dX8_merges_7 : decode cX8_merges 7 = .ok (.iload_n 2, 1) := by decide +kernel
theorem dX8_merges_8 : decode cX8_merges 8 = .ok (.invokestatic 101, 3) := by decide +kernel
theorem dX8_merges_11 : decode cX8_merges 11 = .ok (.istore 4, 2) := by decide +kernel
theorem dX8_merges_13 : decode cX8_merges 13 = .ok (.iconst 0, 1) := by decide +kernel
theorem dX8_merges_14 : decode cX8_merges 14 = .ok (.istore 5, 2) := by decide +kernel
theorem dX8_merges_16 : decode cX8_merges 16 = .ok (.iload 5, 2) := by decide +kernel
theorem dX8_merges_18 : decode cX8_merges 18 = .ok (.aload_n 0, 1) := by decide +kernel
theorem dX8_merges_19 : decode cX8_merges 19 = .ok (.getfield 92, 3) := by decide +kernel
theorem dX8_merges_22 : decode cX8_merges 22 = .ok (.if_icmp .ge 29, 3) := by decide +kernel
theorem dX8_merges_25 : decode cX8_merges 25 = .ok (.aload_n 0, 1) := by decide +kernel
theorem dX8_merges_26 : decode cX8_merges 26 = .ok (.getfield 77, 3) := by decide +kernel
theorem dX8_merges_29 : decode cX8_merges 29 = .ok (.iload 5, 2) := by decide +kernel
theorem dX8_merges_31 : decode cX8_merges 31 = .ok (.iaload, 1) := by decide +kernel
theorem dX8_merges_32 : decode cX8_merges 32 = .ok (.iload 4, 2) := by decide +kernel
theorem dX8_merges_34 : decode cX8_merges 34 = .ok (.if_icmp .ne 11, 3) := by decide +kernel
theorem dX8_merges_37 : decode cX8_merges 37 = .ok (.aload_n 0, 1) := by decide +kernel
theorem dX8_merges_38 : decode cX8_merges 38 = .ok (.getfield 77, 3) := by decide +kernel
theorem dX8_merges_41 : decode cX8_merges 41 = .ok (.iload 5, 2) := by decide +kernel
theorem dX8_merges_43 : decode cX8_merges 43 = .ok (.iload_n 3, 1) := by decide +kernel
theorem dX8_merges_44 : decode cX8_merges 44 = .ok (.iastore, 1) := by decide +kernel
theorem dX8_merges_45 : decode cX8_merges 45 = .ok (.iinc 5 1, 3) := by decide +kernel
theorem dX8_merges_48 : decode cX8_merges 48 = .ok (.goto (-32), 3) := by decide +kernel
theorem dX8_merges_51 : decode cX8_merges 51 = .ok (.return_, 1) := by decide +kernel
theorem dX8_bundles_0 : decode cX8_bundles 0 = .ok (.aload_n 0, 1) := by decide +kernel
theorem dX8_bundles_1 : decode cX8_bundles 1 = .ok (.invokevirtual 206, 3) := by decide +kernel
theorem dX8_bundles_4 : decode cX8_bundles 4 = .ok (.ireturn, 1) := by decide +kernel
theorem dX8_bundle_0 : decode cX8_bundle 0 = .ok (.aload_n 0, 1) := by decide +kernel
theorem dX8_bundle_1 : decode cX8_bundle 1 = .ok (.iload_n 1, 1) := by decide +kernel
theorem dX8_bundle_2 : decode cX8_bundle 2 = .ok (.invokevirtual 110, 3) := by decide +kernel
theorem dX8_bundle_5 : decode cX8_bundle 5 = .ok (.ifCond .ne 9, 3) := by decide +kernel
theorem dX8_bundle_8 : decode cX8_bundle 8 = .ok (.aload_n 0, 1) := by decide +kernel
theorem dX8_bundle_9 : decode cX8_bundle 9 = .ok (.iconst (-1), 1) := by decide +kernel
theorem dX8_bundle_10 : decode cX8_bundle 10 = .ok (.invokevirtual 84, 3) := by decide +kernel
theorem dX8_bundle_13 : decode cX8_bundle 13 = .ok (.ireturn, 1) := by decide +kernel
theorem dX8_bundle_14 : decode cX8_bundle 14 = .ok (.aload_n 0, 1) := by decide +kernel
theorem dX8_bundle_15 : decode cX8_bundle 15 = .ok (.getfield 22, 3) := by decide +kernel
theorem dX8_bundle_18 : decode cX8_bundle 18 = .ok (.iload_n 1, 1) := by decide +kernel
theorem dX8_bundle_19 : decode cX8_bundle 19 = .ok (.baload, 1) := by decide +kernel
theorem dX8_bundle_20 : decode cX8_bundle 20 = .ok (.ifCond .ne 6, 3) := by decide +kernel
theorem dX8_bundle_23 : decode cX8_bundle 23 = .ok (.bipush (-9), 2) := by decide +kernel
theorem dX8_bundle_25 : decode cX8_bundle 25 = .ok (.ireturn, 1) := by decide +kernel
theorem dX8_bundle_26 : decode cX8_bundle 26 = .ok (.aload_n 0, 1) := by decide +kernel
theorem dX8_bundle_27 : decode cX8_bundle 27 = .ok (.invokevirtual 206, 3) := by decide +kernel
theorem dX8_bundle_30 : decode cX8_bundle 30 = .ok (.istore_n 2, 1) := by decide +kernel
theorem dX8_bundle_31 : decode cX8_bundle 31 = .ok (.iconst 0, 1) := by decide +kernel
theorem dX8_bundle_32 : decode cX8_bundle 32 = .ok (.istore_n 3, 1) := by decide +kernel
theorem dX8_bundle_33 : decode cX8_bundle 33 = .ok (.iconst 0, 1) := by decide +kernel
theorem dX8_bundle_34 : decode cX8_bundle 34 = .ok (.istore 4, 2) := by decide +kernel
theorem dX8_bundle_36 : decode cX8_bundle 36 = .ok (.iload 4, 2) := by decide +kernel
theorem dX8_bundle_38 : decode cX8_bundle 38 = .ok (.aload_n 0, 1) := by decide +kernel
theorem dX8_bundle_39 : decode cX8_bundle 39 = .ok (.getfield 77, 3) := by decide +kernel
theorem dX8_bundle_42 : decode cX8_bundle 42 = .ok (.iload_n 1, 1) := by decide +kernel
theorem dX8_bundle_43 : decode cX8_bundle 43 = .ok (.iaload, 1) := by decide +kernel
theorem dX8_bundle_44 : decode cX8_bundle 44 = .ok (.if_icmp .ge 39, 3) := by decide +kernel
theorem dX8_bundle_47 : decode cX8_bundle 47 = .ok (.iload_n 3, 1) := by decide +kernel
theorem dX8_bundle_48 : decode cX8_bundle 48 = .ok (.aload_n 0, 1) := by decide +kernel
theorem dX8_bundle_49 : decode cX8_bundle 49 = .ok (.getfield 22, 3) := by decide +kernel
theorem dX8_bundle_52 : decode cX8_bundle 52 = .ok (.iload 4, 2) := by decide +kernel
theorem dX8_bundle_54 : decode cX8_bundle 54 = .ok (.baload, 1) := by decide +kernel
theorem dX8_bundle_55 : decode cX8_bundle 55 = .ok (.ifCond .eq 19, 3) := by decide +kernel
theorem dX8_bundle_58 : decode cX8_bundle 58 = .ok (.aload_n 0, 1) := by decide +kernel
theorem dX8_bundle_59 : decode cX8_bundle 59 = .ok (.getfield 77, 3) := by decide +kernel
theorem dX8_bundle_62 : decode cX8_bundle 62 = .ok (.iload 4, 2) := by decide +kernel
theorem dX8_bundle_64 : decode cX8_bundle 64 = .ok (.iaload, 1) := by decide +kernel
theorem dX8_bundle_65 : decode cX8_bundle 65 = .ok (.iload 4, 2) := by decide +kernel
theorem dX8_bundle_67 : decode cX8_bundle 67 = .ok (.if_icmp .ne 7, 3) := by decide +kernel
theorem dX8_bundle_70 : decode cX8_bundle 70 = .ok (.iconst 1, 1) := by decide +kernel
theorem dX8_bundle_71 : decode cX8_bundle 71 = .ok (.goto 4, 3) := by decide +kernel
theorem dX8_bundle_74 : decode cX8_bundle 74 = .ok (.iconst 0, 1) := by decide +kernel
theorem dX8_bundle_75 : decode cX8_bundle 75 = .ok (.iadd, 1) := by decide +kernel
theorem dX8_bundle_76 : decode cX8_bundle 76 = .ok (.istore_n 3, 1) := by decide +kernel
theorem dX8_bundle_77 : decode cX8_bundle 77 = .ok (.iinc 4 1, 3) := by decide +kernel
