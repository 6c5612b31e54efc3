theorem dX4_fetch_6 : decode cX4_fetch 6 = .ok (.ior, 1) := by decide +kernel
theorem dX4_fetch_7 : decode cX4_fetch 7 = .ok (.istore_n 3, 1) := by decide +kernel
theorem dX4_fetch_8 : decode cX4_fetch 8 = .ok (.iconst 1, 1) := by decide +kernel
theorem dX4_fetch_9 : decode cX4_fetch 9 = .ok (.istore 4, 2) := by decide +kernel
theorem dX4_fetch_11 : decode cX4_fetch 11 = .ok (.aload_n 0, 1) := by decide +kernel
theorem dX4_fetch_12 : decode cX4_fetch 12 = .ok (.getfield 18, 3) := by decide +kernel
theorem dX4_fetch_15 : decode cX4_fetch 15 = .ok (.iconst 0, 1) := by decide +kernel
theorem dX4_fetch_16 : decode cX4_fetch 16 = .ok (.iload_n 1, 1) := by decide +kernel
theorem dX4_fetch_17 : decode cX4_fetch 17 = .ok (.iastore, 1) := by decide +kernel
theorem dX4_fetch_18 : decode cX4_fetch 18 = .ok (.iconst 0, 1) := by decide +kernel
theorem dX4_fetch_19 : decode cX4_fetch 19 = .ok (.istore 5, 2) := by decide +kernel
theorem dX4_fetch_21 : decode cX4_fetch 21 = .ok (.iload 5, 2) := by decide +kernel
theorem dX4_fetch_23 : decode cX4_fetch 23 = .ok (.iload 4, 2) := by decide +kernel
theorem dX4_fetch_25 : decode cX4_fetch 25 = .ok (.if_icmp .ge 137, 3) := by decide +kernel
theorem dX4_fetch_28 : decode cX4_fetch 28 = .ok (.iload 5, 2) := by decide +kernel
theorem dX4_fetch_30 : decode cX4_fetch 30 = .ok (.bipush 24, 2) := by decide +kernel
theorem dX4_fetch_32 : decode cX4_fetch 32 = .ok (.if_icmp .ge 130, 3) := by decide +kernel
theorem dX4_fetch_35 : decode cX4_fetch 35 = .ok (.aload_n 0, 1) := by decide +kernel
theorem dX4_fetch_36 : decode cX4_fetch 36 = .ok (.getfield 18, 3) := by decide +kernel
theorem dX4_fetch_39 : decode cX4_fetch 39 = .ok (.iload 5, 2) := by decide +kernel
theorem dX4_fetch_41 : decode cX4_fetch 41 = .ok (.iaload, 1) := by decide +kernel
theorem dX4_fetch_42 : decode cX4_fetch 42 = .ok (.istore 6, 2) := by decide +kernel
theorem dX4_fetch_44 : decode cX4_fetch 44 = .ok (.iload 6, 2) := by decide +kernel
theorem dX4_fetch_46 : decode cX4_fetch 46 = .ok (.iconst 3, 1) := by decide +kernel
theorem dX4_fetch_47 : decode cX4_fetch 47 = .ok (.imul, 1) := by decide +kernel
theorem dX4_fetch_48 : decode cX4_fetch 48 = .ok (.istore 7, 2) := by decide +kernel
theorem dX4_fetch_50 : decode cX4_fetch 50 = .ok (.iload 7, 2) := by decide +kernel
theorem dX4_fetch_52 : decode cX4_fetch 52 = .ok (.iload 6, 2) := by decide +kernel
theorem dX4_fetch_54 : decode cX4_fetch 54 = .ok (.iconst 3, 1) := by decide +kernel
theorem dX4_fetch_55 : decode cX4_fetch 55 = .ok (.imul, 1) := by decide +kernel
theorem dX4_fetch_56 : decode cX4_fetch 56 = .ok (.aload_n 0, 1) := by decide +kernel
theorem dX4_fetch_57 : decode cX4_fetch 57 = .ok (.getfield 21, 3) := by decide +kernel
theorem dX4_fetch_60 : decode cX4_fetch 60 = .ok (.iadd, 1) := by decide +kernel
theorem dX4_fetch_61 : decode cX4_fetch 61 = .ok (.if_icmp .ge 95, 3) := by decide +kernel
theorem dX4_fetch_64 : decode cX4_fetch 64 = .ok (.aload_n 0, 1) := by decide +kernel
theorem dX4_fetch_65 : decode cX4_fetch 65 = .ok (.getfield 9, 3) := by decide +kernel
theorem dX4_fetch_68 : decode cX4_fetch 68 = .ok (.iload 7, 2) := by decide +kernel
theorem dX4_fetch_70 : decode cX4_fetch 70 = .ok (.iaload, 1) := by decide +kernel
theorem dX4_fetch_71 : decode cX4_fetch 71 = .ok (.istore 8, 2) := by decide +kernel
theorem dX4_fetch_73 : decode cX4_fetch 73 = .ok (.iload 8, 2) := by decide +kernel
theorem dX4_fetch_75 : decode cX4_fetch 75 = .ok (.iconst (-1), 1) := by decide +kernel
theorem dX4_fetch_76 : decode cX4_fetch 76 = .ok (.if_icmp .eq 74, 3) := by decide +kernel
theorem dX4_fetch_79 : decode cX4_fetch 79 = .ok (.iload_n 3, 1) := by decide +kernel
theorem dX4_fetch_80 : decode cX4_fetch 80 = .ok (.iload 8, 2) := by decide +kernel
theorem dX4_fetch_82 : decode cX4_fetch 82 = .ok (.invokestatic 48, 3) := by decide +kernel
theorem dX4_fetch_85 : decode cX4_fetch 85 = .ok (.ifCond .eq 6, 3) := by decide +kernel
theorem dX4_fetch_88 : decode cX4_fetch 88 = .ok (.goto 62, 3) := by decide +kernel
theorem dX4_fetch_91 : decode cX4_fetch 91 = .ok (.iload_n 3, 1) := by decide +kernel
theorem dX4_fetch_92 : decode cX4_fetch 92 = .ok (.iconst 1, 1) := by decide +kernel
theorem dX4_fetch_93 : decode cX4_fetch 93 = .ok (.iload 8, 2) := by decide +kernel
theorem dX4_fetch_95 : decode cX4_fetch 95 = .ok (.ishl, 1) := by decide +kernel
theorem dX4_fetch_96 : decode cX4_fetch 96 = .ok (.ior, 1) := by decide +kernel
theorem dX4_fetch_97 : decode cX4_fetch 97 = .ok (.istore_n 3, 1) := by decide +kernel
theorem dX4_fetch_98 : decode cX4_fetch 98 = .ok (.aload_n 0, 1) := by decide +kernel
theorem dX4_fetch_99 : decode cX4_fetch 99 = .ok (.getfield 15, 3) := by decide +kernel
theorem dX4_fetch_102 : decode cX4_fetch 102 = .ok (.iload 8, 2) := by decide +kernel
theorem dX4_fetch_104 : decode cX4_fetch 104 = .ok (.iload 7, 2) := by decide +kernel
theorem dX4_fetch_106 : decode cX4_fetch 106 = .ok (.iastore, 1) := by decide +kernel
theorem dX4_fetch_107 : decode cX4_fetch 107 = .ok (.aload_n 0, 1) := by decide +kernel
theorem dX4_fetch_108 : decode cX4_fetch 108 = .ok (.iload 8, 2) := by decide +kernel
theorem dX4_fetch_110 : decode cX4_fetch 110 = .ok (.invokevirtual 38, 3) := by decide +kernel
theorem dX4_fetch_113 : decode cX4_fetch 113 = .ok (.istore 9, 2) := by decide +kernel
theorem dX4_fetch_115 : decode cX4_fetch 115 = .ok (.iload 9, 2) := by decide +kernel
theorem dX4_fetch_117 : decode cX4_fetch 117 = .ok (.ifCond .lt 14, 3) := by decide +kernel
theorem dX4_fetch_120 : decode cX4_fetch 120 = .ok (.aload_n 0, 1) := by decide +kernel
theorem dX4_fetch_121 : decode cX4_fetch 121 = .ok (.iload_n 1, 1) := by decide +kernel
theorem dX4_fetch_122 : decode cX4_fetch 122 = .ok (.iload 8, 2) := by decide +kernel
theorem dX4_fetch_124 : decode cX4_fetch 124 = .ok (.iload 9, 2) := by decide +kernel
theorem dX4_fetch_126 : decode cX4_fetch 126 = .ok (.invokevirtual 54, 3) := by decide +kernel
theorem dX4_fetch_129 : decode cX4_fetch 129 = .ok (.iconst 1, 1) := by decide +kernel
theorem dX4_fetch_130 : decode cX4_fetch 130 = .ok (.ireturn, 1) := by decide +kernel
theorem dX4_fetch_131 : decode cX4_fetch 131 = .ok (.iload 4, 2) := by decide +kernel
theorem dX4_fetch_133 : decode cX4_fetch 133 = .ok (.bipush 24, 2) := by decide +kernel
theorem dX4_fetch_135 : decode cX4_fetch 135 = .ok (.if_icmp .ge 15, 3) := by decide +kernel
theorem dX4_fetch_138 : decode cX4_fetch 138 = .ok (.aload_n 0, 1) := by decide +kernel
theorem dX4_fetch_139 : decode cX4_fetch 139 = .ok (.getfield 18, 3) := by decide +kernel
theorem dX4_fetch_142 : decode cX4_fetch 142 = .ok (.iload 4, 2) := by decide +kernel
theorem dX4_fetch_144 : decode cX4_fetch 144 = .ok (.iload 8, 2) := by decide +kernel
theorem dX4_fetch_146 : decode cX4_fetch 146 = .ok (.iastore, 1) := by decide +kernel
theorem dX4_fetch_147 : decode cX4_fetch 147 = .ok (.iinc 4 1, 3) := by decide +kernel
theorem dX4_fetch_150 : decode cX4_fetch 150 = .ok (.iinc 7 1, 3) := by decide +kernel
theorem dX4_fetch_153 : decode cX4_fetch 153 = .ok (.goto (-103), 3) := by decide +kernel
theorem dX4_fetch_156 : decode cX4_fetch 156 = .ok (.iinc 5 1, 3) := by decide +kernel
theorem dX4_fetch_159 : decode cX4_fetch 159 = .ok (.goto (-138), 3) := by decide +kernel
theorem dX4_fetch_162 : decode cX4_fetch 162 = .ok (.iconst 0, 1) := by decide +kernel
theorem dX4_fetch_163 : decode cX4_fetch 163 = .ok (.ireturn, 1) := by decide +kernel
theorem dX4_turnBack_0 : decode cX4_turnBack 0 = .ok (.iload_n 2, 1) := by decide +kernel
theorem dX4_turnBack_1 : decode cX4_turnBack 1 = .ok (.istore 4, 2) := by decide +kernel
theorem dX4_turnBack_3 : decode cX4_turnBack 3 = .ok (.iload_n 3, 1) := by decide +kernel
theorem dX4_turnBack_4 : decode cX4_turnBack 4 = .ok (.istore 5, 2) := by decide +kernel
theorem dX4_turnBack_6 : decode cX4_turnBack 6 = .ok (.iconst 0, 1) := by decide +kernel
theorem dX4_turnBack_7 : decode cX4_turnBack 7 = .ok (.istore 6, 2) := by decide +kernel
theorem dX4_turnBack_9 : decode cX4_turnBack 9 = .ok (.iload 6, 2) := by decide +kernel
theorem dX4_turnBack_11 : decode cX4_turnBack 11 = .ok (.bipush 24, 2) := by decide +kernel
theorem dX4_turnBack_13 : decode cX4_turnBack 13 = .ok (.if_icmp .ge 43, 3) := by decide +kernel
theorem dX4_turnBack_16 : decode cX4_turnBack 16 = .ok (.iload 4, 2) := by decide +kernel
theorem dX4_turnBack_18 : decode cX4_turnBack 18 = .ok (.iload_n 1, 1) := by decide +kernel
theorem dX4_turnBack_19 : decode cX4_turnBack 19 = .ok (.if_icmp .eq 37, 3) := by decide +kernel
theorem dX4_turnBack_22 : decode cX4_turnBack 22 = .ok (.aload_n 0, 1) := by decide +kernel
theorem dX4_turnBack_23 : decode cX4_turnBack 23 = .ok (.getfield 15, 3) := by decide +kernel
theorem dX4_turnBack_26 : decode cX4_turnBack 26 = .ok (.iload 4, 2) := by decide +kernel
theorem dX4_turnBack_28 : decode cX4_turnBack 28 = .ok (.iaload, 1) := by decide +kernel
theorem dX4_turnBack_29 : decode cX4_turnBack 29 = .ok (.istore 7, 2) := by decide +kernel
theorem dX4_turnBack_31 : decode cX4_turnBack 31 = .ok (.iload 7, 2) := by decide +kernel
theorem dX4_turnBack_33 : decode cX4_turnBack 33 = .ok (.iconst 3, 1) := by decide +kernel
theorem dX4_turnBack_34 : decode cX4_turnBack 34 = .ok (.idiv, 1) := by decide +kernel
theorem dX4_turnBack_35 : decode cX4_turnBack 35 = .ok (.istore 4, 2) := by decide +kernel
theorem dX4_turnBack_37 : decode cX4_turnBack 37 = .ok (.aload_n 0, 1) := by decide +kernel
theorem dX4_turnBack_38 : decode cX4_turnBack 38 = .ok (.getfield 9, 3) := by decide +kernel
theorem dX4_turnBack_41 : decode cX4_turnBack 41 = .ok (.iload 5, 2) := by decide +kernel
theorem dX4_turnBack_43 : decode cX4_turnBack 43 = .ok (.iload 4, 2) := by decide +kernel
theorem dX4_turnBack_45 : decode cX4_turnBack 45 = .ok (.iastore, 1) := by decide +kernel
theorem dX4_turnBack_46 : decode cX4_turnBack 46 = .ok (.iload 7, 2) := by decide +kernel
theorem dX4_turnBack_48 : decode cX4_turnBack 48 = .ok (.istore 5, 2) := by decide +kernel
theorem dX4_turnBack_50 : decode cX4_turnBack 50 = .ok (.iinc 6 1, 3) := by decide +kernel
theorem dX4_turnBack_53 : decode cX4_turnBack 53 = .ok (.goto (-44), 3) := by decide +kernel
theorem dX4_turnBack_56 : decode cX4_turnBack 56 = .ok (.aload_n 0, 1) := by decide +kernel
theorem dX4_turnBack_57 : decode cX4_turnBack 57 = .ok (.getfield 9, 3) := by decide +kernel
theorem dX4_turnBack_60 : decode cX4_turnBack 60 = .ok (.iload 5, 2) := by decide +kernel
theorem dX4_turnBack_62 : decode cX4_turnBack 62 = .ok (.iconst (-1), 1) := by decide +kernel
theorem dX4_turnBack_63 : decode cX4_turnBack 63 = .ok (.iastore, 1) := by decide +kernel
theorem dX4_turnBack_64 : decode cX4_turnBack 64 = .ok (.return_, 1) := by decide +kernel
theorem dX5_init_0 : decode cX5_init 0 = .ok (.aload_n 0, 1) := by decide +kernel
theorem dX5_init_1 : decode cX5_init 1 = .ok (.invokespecial 3, 3) := by decide +kernel
theorem dX5_init_4 : decode cX5_init 4 = .ok (.aload_n 0, 1) := by decide +kernel
theorem dX5_init_5 : decode cX5_init 5 = .ok (.new 9, 3) := by decide +kernel
theorem dX5_init_8 : decode cX5_init 8 = .ok (.dup, 1) := by decide +kernel
theorem dX5_init_9 : decode cX5_init 9 = .ok (.invokespecial 11, 3) := by decide +kernel
theorem dX5_init_12 : decode cX5_init 12 = .ok (.putfield 12, 3) := by decide +kernel
theorem dX5_init_15 : decode cX5_init 15 = .ok (.aload_n 0, 1) := by decide +kernel
theorem dX5_init_16 : decode cX5_init 16 = .ok (.bipush 80, 2) := by decide +kernel
theorem dX5_init_18 : decode cX5_init 18 = .ok (.newarray .boolean, 2) := by decide +kernel
theorem dX5_init_20 : decode cX5_init 20 = .ok (.putfield 18, 3) := by decide +kernel
theorem dX5_init_23 : decode cX5_init 23 = .ok (.aload_n 0, 1) := by decide +kernel
theorem dX5_init_24 : decode cX5_init 24 = .ok (.bipush 80, 2) := by decide +kernel
theorem dX5_init_26 : decode cX5_init 26 = .ok (.newarray .int, 2) := by decide +kernel
theorem dX5_init_28 : decode cX5_init 28 = .ok (.putfield 22, 3) := by decide +kernel
theorem dX5_init_31 : decode cX5_init 31 = .ok (.aload_n 0, 1) := by decide +kernel
theorem dX5_init_32 : decode cX5_init 32 = .ok (.bipush 80, 2) := by decide +kernel
theorem dX5_init_34 : decode cX5_init 34 = .ok (.newarray .int, 2) := by decide +kernel
theorem dX5_init_36 : decode cX5_init 36 = .ok (.putfield 26, 3) := by decide +kernel
theorem dX5_init_39 : decode cX5_init 39 = .ok (.aload_n 0, 1) := by decide +kernel
theorem dX5_init_40 : decode cX5_init 40 = .ok (.iconst (-1), 1) := by decide +kernel
theorem dX5_init_41 : decode cX5_init 41 = .ok (.putfield 29, 3) := by decide +kernel
theorem dX5_init_44 : decode cX5_init 44 = .ok (.aload_n 0, 1) := by decide +kernel
theorem dX5_init_45 : decode cX5_init 45 = .ok (.aload_n 1, 1) := by decide +kernel
theorem dX5_init_46 : decode cX5_init 46 = .ok (.putfield 33, 3) := by decide +kernel
theorem dX5_init_49 : decode cX5_init 49 = .ok (.aload_n 0, 1) := by decide +kernel
theorem dX5_init_50 : decode cX5_init 50 = .ok (.iload_n 2, 1) := by decide +kernel
theorem dX5_init_51 : decode cX5_init 51 = .ok (.putfield 37, 3) := by decide +kernel
theorem dX5_init_54 : decode cX5_init 54 = .ok (.return_, 1) := by decide +kernel
theorem dX5_play_0 : decode cX5_play 0 = .ok (.aload_n 0, 1) := by decide +kernel
theorem dX5_play_1 : decode cX5_play 1 = .ok (.getfield 29, 3) := by decide +kernel
theorem dX5_play_4 : decode cX5_play 4 = .ok (.aload_n 0, 1) := by decide +kernel
theorem dX5_play_5 : decode cX5_play 5 = .ok (.getfield 33, 3) := by decide +kernel
theorem dX5_play_8 : decode cX5_play 8 = .ok (.getfield 41, 3) := by decide +kernel
theorem dX5_play_11 : decode cX5_play 11 = .ok (.if_icmp .ne 20, 3) := by decide +kernel
theorem dX5_play_14 : decode cX5_play 14 = .ok (.aload_n 0, 1) := by decide +kernel
theorem dX5_play_15 : decode cX5_play 15 = .ok (.getfield 46, 3) := by decide +kernel
theorem dX5_play_18 : decode cX5_play 18 = .ok (.iload_n 1, 1) := by decide +kernel
theorem dX5_play_19 : decode cX5_play 19 = .ok (.if_icmp .ne 12, 3) := by decide +kernel
theorem dX5_play_22 : decode cX5_play 22 = .ok (.aload_n 0, 1) := by decide +kernel
theorem dX5_play_23 : decode cX5_play 23 = .ok (.getfield 49, 3) := by decide +kernel
theorem dX5_play_26 : decode cX5_play 26 = .ok (.iload_n 2, 1) := by decide +kernel
theorem dX5_play_27 : decode cX5_play 27 = .ok (.if_icmp .ne 4, 3) := by decide +kernel
theorem dX5_play_30 : decode cX5_play 30 = .ok (.return_, 1) := by decide +kernel
theorem dX5_play_31 : decode cX5_play 31 = .ok (.aload_n 0, 1) := by decide +kernel
theorem dX5_play_32 : decode cX5_play 32 = .ok (.aload_n 0, 1) := by decide +kernel
theorem dX5_play_33 : decode cX5_play 33 = .ok (.getfield 33, 3) := by decide +kernel
theorem dX5_play_36 : decode cX5_play 36 = .ok (.getfield 41, 3) := by decide +kernel
theorem dX5_play_39 : decode cX5_play 39 = .ok (.putfield 29, 3) := by decide +kernel
theorem dX5_play_42 : decode cX5_play 42 = .ok (.aload_n 0, 1) := by decide +kernel
theorem dX5_play_43 : decode cX5_play 43 = .ok (.iload_n 1, 1) := by decide +kernel
theorem dX5_play_44 : decode cX5_play 44 = .ok (.putfield 46, 3) := by decide +kernel
theorem dX5_play_47 : decode cX5_play 47 = .ok (.aload_n 0, 1) := by decide +kernel
theorem dX5_play_48 : decode cX5_play 48 = .ok (.iload_n 2, 1) := by decide +kernel
theorem dX5_play_49 : decode cX5_play 49 = .ok (.putfield 49, 3) := by decide +kernel
theorem dX5_play_52 : decode cX5_play 52 = .ok (.aload_n 0, 1) := by decide +kernel
theorem dX5_play_53 : decode cX5_play 53 = .ok (.getfield 12, 3) := by decide +kernel
theorem dX5_play_56 : decode cX5_play 56 = .ok (.iload_n 1, 1) := by decide +kernel
theorem dX5_play_57 : decode cX5_play 57 = .ok (.iload_n 2, 1) := by decide +kernel
theorem dX5_play_58 : decode cX5_play 58 = .ok (.invokevirtual 52, 3) := by decide +kernel
theorem dX5_play_61 : decode cX5_play 61 = .ok (.iconst 0, 1) := by decide +kernel
theorem dX5_play_62 : decode cX5_play 62 = .ok (.istore_n 3, 1) := by decide +kernel
theorem dX5_play_63 : decode cX5_play 63 = .ok (.iload_n 3, 1) := by decide +kernel
theorem dX5_play_64 : decode cX5_play 64 = .ok (.bipush 80, 2) := by decide +kernel
theorem dX5_play_66 : decode cX5_play 66 = .ok (.if_icmp .ge 16, 3) := by decide +kernel
theorem dX5_play_69 : decode cX5_play 69 = .ok (.aload_n 0, 1) := by decide +kernel
theorem dX5_play_70 : decode cX5_play 70 = .ok (.getfield 18, 3) := by decide +kernel
theorem dX5_play_73 : decode cX5_play 73 = .ok (.iload_n 3, 1) := by decide +kernel
theorem dX5_play_74 : decode cX5_play 74 = .ok (.iconst 0, 1) := by decide +kernel
theorem dX5_play_75 : decode cX5_play 75 = .ok (.bastore, 1) := by decide +kernel
theorem dX5_play_76 : decode cX5_play 76 = .ok (.iinc 3 1, 3) := by decide +kernel
theorem dX5_play_79 : decode cX5_play 79 = .ok (.goto (-16), 3) := by decide +kernel
theorem dX5_play_82 : decode cX5_play 82 = .ok (.aload_n 0, 1) := by decide +kernel
theorem dX5_play_83 : decode cX5_play 83 = .ok (.iconst 0, 1) := by decide +kernel
theorem dX5_play_84 : decode cX5_play 84 = .ok (.putfield 56, 3) := by decide +kernel
theorem dX5_play_87 : decode cX5_play 87 = .ok (.aload_n 0, 1) := by decide +kernel
theorem dX5_play_88 : decode cX5_play 88 = .ok (.invokevirtual 59, 3) := by decide +kernel
theorem dX5_play_91 : decode cX5_play 91 = .ok (.istore_n 3, 1) := by decide +kernel
theorem dX5_play_92 : decode cX5_play 92 = .ok (.iconst 0, 1) := by decide +kernel
theorem dX5_play_93 : decode cX5_play 93 = .ok (.istore 4, 2) := by decide +kernel
theorem dX5_play_95 : decode cX5_play 95 = .ok (.iload 4, 2) := by decide +kernel
theorem dX5_play_97 : decode cX5_play 97 = .ok (.iload_n 3, 1) := by decide +kernel
theorem dX5_play_98 : decode cX5_play 98 = .ok (.if_icmp .ge 109, 3) := by decide +kernel
theorem dX5_play_101 : decode cX5_play 101 = .ok (.aload_n 0, 1) := by decide +kernel
theorem dX5_play_102 : decode cX5_play 102 = .ok (.getfield 26, 3) := by decide +kernel
theorem dX5_play_105 : decode cX5_play 105 = .ok (.iload 4, 2) := by decide +kernel
theorem dX5_play_107 : decode cX5_play 107 = .ok (.iaload, 1) := by decide +kernel
theorem dX5_play_108 : decode cX5_play 108 = .ok (.istore 5, 2) := by decide +kernel
theorem dX5_play_110 : decode cX5_play 110 = .ok (.aload_n 0, 1) := by decide +kernel
theorem dX5_play_111 : decode cX5_play 111 = .ok (.getfield 18, 3) := by decide +kernel
theorem dX5_play_114 : decode cX5_play 114 = .ok (.iload 5, 2) := by decide +kernel
theorem dX5_play_116 : decode cX5_play 116 = .ok (.aload_n 0, 1) := by decide +kernel
theorem dX5_play_117 : decode cX5_play 117 = .ok (.getfield 12, 3) := by decide +kernel
theorem dX5_play_120 : decode cX5_play 120 = .ok (.aload_n 0, 1) := by decide +kernel
theorem dX5_play_121 : decode cX5_play 121 = .ok (.getfield 33, 3) := by decide +kernel
theorem dX5_play_124 : decode cX5_play 124 = .ok (.getfield 63, 3) := by decide +kernel
theorem dX5_play_127 : decode cX5_play 127 = .ok (.iload 5, 2) := by decide +kernel
theorem dX5_play_129 : decode cX5_play 129 = .ok (.iaload, 1) := by decide +kernel
theorem dX5_play_130 : decode cX5_play 130 = .ok (.aload_n 0, 1) := by decide +kernel
theorem dX5_play_131 : decode cX5_play 131 = .ok (.getfield 33, 3) := by decide +kernel
theorem dX5_play_134 : decode cX5_play 134 = .ok (.getfield 66, 3) := by decide +kernel
theorem dX5_play_137 : decode cX5_play 137 = .ok (.iload 5, 2) := by decide +kernel
theorem dX5_play_139 : decode cX5_play 139 = .ok (.iaload, 1) := by decide +kernel
theorem dX5_play_140 : decode cX5_play 140 = .ok (.invokevirtual 69, 3) := by decide +kernel
theorem dX5_play_143 : decode cX5_play 143 = .ok (.bastore, 1) := by decide +kernel
theorem dX5_play_144 : decode cX5_play 144 = .ok (.aload_n 0, 1) := by decide +kernel
theorem dX5_play_145 : decode cX5_play 145 = .ok (.getfield 18, 3) := by decide +kernel
theorem dX5_play_148 : decode cX5_play 148 = .ok (.iload 5, 2) := by decide +kernel
theorem dX5_play_150 : decode cX5_play 150 = .ok (.baload, 1) := by decide +kernel
theorem dX5_play_151 : decode cX5_play 151 = .ok (.ifCond .eq 16, 3) := by decide +kernel
theorem dX5_play_154 : decode cX5_play 154 = .ok (.aload_n 0, 1) := by decide +kernel
theorem dX5_play_155 : decode cX5_play 155 = .ok (.dup, 1) := by decide +kernel
theorem dX5_play_156 : decode cX5_play 156 = .ok (.getfield 56, 3) := by decide +kernel
theorem dX5_play_159 : decode cX5_play 159 = .ok (.iconst 1, 1) := by decide +kernel
theorem dX5_play_160 : decode cX5_play 160 = .ok (.iadd, 1) := by decide +kernel
theorem dX5_play_161 : decode cX5_play 161 = .ok (.putfield 56, 3) := by decide +kernel
theorem dX5_play_164 : decode cX5_play 164 = .ok (.goto 37, 3) := by decide +kernel
theorem dX5_play_167 : decode cX5_play 167 = .ok (.aload_n 0, 1) := by decide +kernel
theorem dX5_play_168 : decode cX5_play 168 = .ok (.getfield 22, 3) := by decide +kernel
theorem dX5_play_171 : decode cX5_play 171 = .ok (.iload 5, 2) := by decide +kernel
theorem dX5_play_173 : decode cX5_play 173 = .ok (.aload_n 0, 1) := by decide +kernel
theorem dX5_play_174 : decode cX5_play 174 = .ok (.getfield 12, 3) := by decide +kernel
theorem dX5_play_177 : decode cX5_play 177 = .ok (.aload_n 0, 1) := by decide +kernel
theorem dX5_play_178 : decode cX5_play 178 = .ok (.getfield 33, 3) := by decide +kernel
theorem dX5_play_181 : decode cX5_play 181 = .ok (.getfield 63, 3) := by decide +kernel
theorem dX5_play_184 : decode cX5_play 184 = .ok (.iload 5, 2) := by decide +kernel
theorem dX5_play_186 : decode cX5_play 186 = .ok (.iaload, 1) := by decide +kernel
theorem dX5_play_187 : decode cX5_play 187 = .ok (.aload_n 0, 1) := by decide +kernel
theorem dX5_play_188 : decode cX5_play 188 = .ok (.getfield 33, 3) := by decide +kernel
theorem dX5_play_191 : decode cX5_play 191 = .ok (.getfield 66, 3) := by decide +kernel
theorem dX5_play_194 : decode cX5_play 194 = .ok (.iload 5, 2) := by decide +kernel
theorem dX5_play_196 : decode cX5_play 196 = .ok (.iaload, 1) := by decide +kernel
theorem dX5_play_197 : decode cX5_play 197 = .ok (.invokevirtual 73, 3) := by decide +kernel
theorem dX5_play_200 : decode cX5_play 200 = .ok (.iastore, 1) := by decide +kernel
theorem dX5_play_201 : decode cX5_play 201 = .ok (.iinc 4 1, 3) := by decide +kernel
theorem dX5_play_204 : decode cX5_play 204 = .ok (.goto (-109), 3) := by decide +kernel
theorem dX5_play_207 : decode cX5_play 207 = .ok (.return_, 1) := by decide +kernel
theorem dX5_lineUp_0 : decode cX5_lineUp 0 = .ok (.iconst 0, 1) := by decide +kernel
theorem dX5_lineUp_1 : decode cX5_lineUp 1 = .ok (.istore_n 1, 1) := by decide +kernel
theorem dX5_lineUp_2 : decode cX5_lineUp 2 = .ok (.iconst 0, 1) := by decide +kernel
theorem dX5_lineUp_3 : decode cX5_lineUp 3 = .ok (.istore_n 2, 1) := by decide +kernel
theorem dX5_lineUp_4 : decode cX5_lineUp 4 = .ok (.iload_n 2, 1) := by decide +kernel
theorem dX5_lineUp_5 : decode cX5_lineUp 5 = .ok (.aload_n 0, 1) := by decide +kernel
theorem dX5_lineUp_6 : decode cX5_lineUp 6 = .ok (.getfield 33, 3) := by decide +kernel
theorem dX5_lineUp_9 : decode cX5_lineUp 9 = .ok (.getfield 77, 3) := by decide +kernel
theorem dX5_lineUp_12 : decode cX5_lineUp 12 = .ok (.if_icmp .ge 95, 3) := by decide +kernel
theorem dX5_lineUp_15 : decode cX5_lineUp 15 = .ok (.aload_n 0, 1) := by decide +kernel
theorem dX5_lineUp_16 : decode cX5_lineUp 16 = .ok (.getfield 33, 3) := by decide +kernel
theorem dX5_lineUp_19 : decode cX5_lineUp 19 = .ok (.getfield 80, 3) := by decide +kernel
theorem dX5_lineUp_22 : decode cX5_lineUp 22 = .ok (.iload_n 2, 1) := by decide +kernel
theorem dX5_lineUp_23 : decode cX5_lineUp 23 = .ok (.baload, 1) := by decide +kernel
theorem dX5_lineUp_24 : decode cX5_lineUp 24 = .ok (.ifCond .ne 6, 3) := by decide +kernel
theorem dX5_lineUp_27 : decode cX5_lineUp 27 = .ok (.goto 74, 3) := by decide +kernel
theorem dX5_lineUp_30 : decode cX5_lineUp 30 = .ok (.iload_n 1, 1) := by decide +kernel
theorem dX5_lineUp_31 : decode cX5_lineUp 31 = .ok (.istore_n 3, 1) := by decide +kernel
theorem dX5_lineUp_32 : decode cX5_lineUp 32 = .ok (.aload_n 0, 1) := by decide +kernel
theorem dX5_lineUp_33 : decode cX5_lineUp 33 = .ok (.getfield 37, 3) := by decide +kernel
theorem dX5_lineUp_36 : decode cX5_lineUp 36 = .ok (.ifCond .eq 55, 3) := by decide +kernel
theorem dX5_lineUp_39 : decode cX5_lineUp 39 = .ok (.iload_n 3, 1) := by decide +kernel
theorem dX5_lineUp_40 : decode cX5_lineUp 40 = .ok (.ifCond .le 51, 3) := by decide +kernel
theorem dX5_lineUp_43 : decode cX5_lineUp 43 = .ok (.aload_n 0, 1) := by decide +kernel
theorem dX5_lineUp_44 : decode cX5_lineUp 44 = .ok (.getfield 33, 3) := by decide +kernel
theorem dX5_lineUp_47 : decode cX5_lineUp 47 = .ok (.getfield 83, 3) := by decide +kernel
theorem dX5_lineUp_50 : decode cX5_lineUp 50 = .ok (.aload_n 0, 1) := by decide +kernel
theorem dX5_lineUp_51 : decode cX5_lineUp 51 = .ok (.getfield 26, 3) := by decide +kernel
theorem dX5_lineUp_54 : decode cX5_lineUp 54 = .ok (.iload_n 3, 1) := by decide +kernel
theorem dX5_lineUp_55 : decode cX5_lineUp 55 = .ok (.iconst 1, 1) := by decide +kernel
theorem dX5_lineUp_56 : decode cX5_lineUp 56 = .ok (.isub, 1) := by decide +kernel
theorem dX5_lineUp_57 : decode cX5_lineUp 57 = .ok (.iaload, 1) := by decide +kernel
theorem dX5_lineUp_58 : decode cX5_lineUp 58 = .ok (.iaload, 1) := by decide +kernel
theorem dX5_lineUp_59 : decode cX5_lineUp 59 = .ok (.aload_n 0, 1) := by decide +kernel
theorem dX5_lineUp_60 : decode cX5_lineUp 60 = .ok (.getfield 33, 3) := by decide +kernel
theorem dX5_lineUp_63 : decode cX5_lineUp 63 = .ok (.getfield 83, 3) := by decide +kernel
theorem dX5_lineUp_66 : decode cX5_lineUp 66 = .ok (.iload_n 2, 1) := by decide +kernel
theorem dX5_lineUp_67 : decode cX5_lineUp 67 = .ok (.iaload, 1) := by decide +kernel
theorem dX5_lineUp_68 : decode cX5_lineUp 68 = .ok (.if_icmp .le 23, 3) := by decide +kernel
theorem dX5_lineUp_71 : decode cX5_lineUp 71 = .ok (.aload_n 0, 1) := by decide +kernel
theorem dX5_lineUp_72 : decode cX5_lineUp 72 = .ok (.getfield 26, 3) := by decide +kernel
theorem dX5_lineUp_75 : decode cX5_lineUp 75 = .ok (.iload_n 3, 1) := by decide +kernel
theorem dX5_lineUp_76 : decode cX5_lineUp 76 = .ok (.aload_n 0, 1) := by decide +kernel
theorem dX5_lineUp_77 : decode cX5_lineUp 77 = .ok (.getfield 26, 3) := by decide +kernel
theorem dX5_lineUp_80 : decode cX5_lineUp 80 = .ok (.iload_n 3, 1) := by decide +kernel
theorem dX5_lineUp_81 : decode cX5_lineUp 81 = .ok (.iconst 1, 1) := by decide +kernel
theorem dX5_lineUp_82 : decode cX5_lineUp 82 = .ok (.isub, 1) := by decide +kernel
theorem dX5_lineUp_83 : decode cX5_lineUp 83 = .ok (.iaload, 1) := by decide +kernel
theorem dX5_lineUp_84 : decode cX5_lineUp 84 = .ok (.iastore, 1) := by decide +kernel
theorem dX5_lineUp_85 : decode cX5_lineUp 85 = .ok (.iinc 3 (-1), 3) := by decide +kernel
theorem dX5_lineUp_88 : decode cX5_lineUp 88 = .ok (.goto (-56), 3) := by decide +kernel
theorem dX5_lineUp_91 : decode cX5_lineUp 91 = .ok (.aload_n 0, 1) := by decide +kernel
theorem dX5_lineUp_92 : decode cX5_lineUp 92 = .ok (.getfield 26, 3) := by decide +kernel
theorem dX5_lineUp_95 : decode cX5_lineUp 95 = .ok (.iload_n 3, 1) := by decide +kernel
theorem dX5_lineUp_96 : decode cX5_lineUp 96 = .ok (.iload_n 2, 1) := by decide +kernel
theorem dX5_lineUp_97 : decode cX5_lineUp 97 = .ok (.iastore, 1) := by decide +kernel
theorem dX5_lineUp_98 : decode cX5_lineUp 98 = .ok (.iinc 1 1, 3) := by decide +kernel
theorem dX5_lineUp_101 : decode cX5_lineUp 101 = .ok (.iinc 2 1, 3) := by decide +kernel
theorem dX5_lineUp_104 : decode cX5_lineUp 104 = .ok (.goto (-100), 3) := by decide +kernel
theorem dX5_lineUp_107 : decode cX5_lineUp 107 = .ok (.iload_n 1, 1) := by decide +kernel
theorem dX5_lineUp_108 : decode cX5_lineUp 108 = .ok (.ireturn, 1) := by decide +kernel
theorem dX5_isLeft_0 : decode cX5_isLeft 0 = .ok (.aload_n 0, 1) := by decide +kernel
theorem dX5_isLeft_1 : decode cX5_isLeft 1 = .ok (.getfield 33, 3) := by decide +kernel
theorem dX5_isLeft_4 : decode cX5_isLeft 4 = .ok (.getfield 80, 3) := by decide +kernel
theorem dX5_isLeft_7 : decode cX5_isLeft 7 = .ok (.iload_n 1, 1) := by decide +kernel
theorem dX5_isLeft_8 : decode cX5_isLeft 8 = .ok (.baload, 1) := by decide +kernel
theorem dX5_isLeft_9 : decode cX5_isLeft 9 = .ok (.ifCond .eq 16, 3) := by decide +kernel
theorem dX5_isLeft_12 : decode cX5_isLeft 12 = .ok (.aload_n 0, 1) := by decide +kernel
theorem dX5_isLeft_13 : decode cX5_isLeft 13 = .ok (.getfield 18, 3) := by decide +kernel
theorem dX5_isLeft_16 : decode cX5_isLeft 16 = .ok (.iload_n 1, 1) := by decide +kernel
theorem dX5_isLeft_17 : decode cX5_isLeft 17 = .ok (.baload, 1) := by decide +kernel
theorem dX5_isLeft_18 : decode cX5_isLeft 18 = .ok (.ifCond .ne 7, 3) := by decide +kernel
theorem dX5_isLeft_21 : decode cX5_isLeft 21 = .ok (.iconst 1, 1) := by decide +kernel
theorem dX5_isLeft_22 : decode cX5_isLeft 22 = .ok (.goto 4, 3) := by decide +kernel
theorem dX5_isLeft_25 : decode cX5_isLeft 25 = .ok (.iconst 0, 1) := by decide +kernel
theorem dX5_isLeft_26 : decode cX5_isLeft 26 = .ok (.ireturn, 1) := by decide +kernel
theorem dX5_inCircuit_0 : decode cX5_inCircuit 0 = .ok (.aload_n 0, 1) := by decide +kernel
theorem dX5_inCircuit_1 : decode cX5_inCircuit 1 = .ok (.getfield 18, 3) := by decide +kernel
theorem dX5_inCircuit_4 : decode cX5_inCircuit 4 = .ok (.iload_n 1, 1) := by decide +kernel
theorem dX5_inCircuit_5 : decode cX5_inCircuit 5 = .ok (.baload, 1) := by decide +kernel
theorem dX5_inCircuit_6 : decode cX5_inCircuit 6 = .ok (.ifCond .eq 24, 3) := by decide +kernel
theorem dX5_inCircuit_9 : decode cX5_inCircuit 9 = .ok (.aload_n 0, 1) := by decide +kernel
theorem dX5_inCircuit_10 : decode cX5_inCircuit 10 = .ok (.getfield 33, 3) := by decide +kernel
theorem dX5_inCircuit_13 : decode cX5_inCircuit 13 = .ok (.iload_n 1, 1) := by decide +kernel
theorem dX5_inCircuit_14 : decode cX5_inCircuit 14 = .ok (.aload_n 0, 1) := by decide +kernel
theorem dX5_inCircuit_15 : decode cX5_inCircuit 15 = .ok (.getfield 22, 3) := by decide +kernel
theorem dX5_inCircuit_18 : decode cX5_inCircuit 18 = .ok (.iload_n 2, 1) := by decide +kernel
theorem dX5_inCircuit_19 : decode cX5_inCircuit 19 = .ok (.iaload, 1) := by decide +kernel
theorem dX5_inCircuit_20 : decode cX5_inCircuit 20 = .ok (.invokevirtual 86, 3) := by decide +kernel
theorem dX5_inCircuit_23 : decode cX5_inCircuit 23 = .ok (.ifCond .eq 7, 3) := by decide +kernel
theorem dX5_inCircuit_26 : decode cX5_inCircuit 26 = .ok (.iconst 1, 1) := by decide +kernel
theorem dX5_inCircuit_27 : decode cX5_inCircuit 27 = .ok (.goto 4, 3) := by decide +kernel
theorem dX5_inCircuit_30 : decode cX5_inCircuit 30 = .ok (.iconst 0, 1) := by decide +kernel
theorem dX5_inCircuit_31 : decode cX5_inCircuit 31 = .ok (.ireturn, 1) := by decide +kernel
theorem dX5_circuitLength_0 : decode cX5_circuitLength 0 = .ok (.iconst 0, 1) := by decide +kernel
theorem dX5_circuitLength_1 : decode cX5_circuitLength 1 = .ok (.istore_n 2, 1) := by decide +kernel
theorem dX5_circuitLength_2 : decode cX5_circuitLength 2 = .ok (.iconst 0, 1) := by decide +kernel
theorem dX5_circuitLength_3 : decode cX5_circuitLength 3 = .ok (.istore_n 3, 1) := by decide +kernel
theorem dX5_circuitLength_4 : decode cX5_circuitLength 4 = .ok (.iload_n 3, 1) := by decide +kernel
theorem dX5_circuitLength_5 : decode cX5_circuitLength 5 = .ok (.aload_n 0, 1) := by decide +kernel
theorem dX5_circuitLength_6 : decode cX5_circuitLength 6 = .ok (.getfield 33, 3) := by decide +kernel
theorem dX5_circuitLength_9 : decode cX5_circuitLength 9 = .ok (.getfield 77, 3) := by decide +kernel
theorem dX5_circuitLength_12 : decode cX5_circuitLength 12 = .ok (.if_icmp .ge 21, 3) := by decide +kernel
theorem dX5_circuitLength_15 : decode cX5_circuitLength 15 = .ok (.aload_n 0, 1) := by decide +kernel
theorem dX5_circuitLength_16 : decode cX5_circuitLength 16 = .ok (.iload_n 3, 1) := by decide +kernel
theorem dX5_circuitLength_17 : decode cX5_circuitLength 17 = .ok (.iload_n 1, 1) := by decide +kernel
theorem dX5_circuitLength_18 : decode cX5_circuitLength 18 = .ok (.invokevirtual 89, 3) := by decide +kernel
theorem dX5_circuitLength_21 : decode cX5_circuitLength 21 = .ok (.ifCond .eq 6, 3) := by decide +kernel
theorem dX5_circuitLength_24 : decode cX5_circuitLength 24 = .ok (.iinc 2 1, 3) := by decide +kernel
theorem dX5_circuitLength_27 : decode cX5_circuitLength 27 = .ok (.iinc 3 1, 3) := by decide +kernel
theorem dX5_circuitLength_30 : decode cX5_circuitLength 30 = .ok (.goto (-26), 3) := by decide +kernel
theorem dX5_circuitLength_33 : decode cX5_circuitLength 33 = .ok (.iload_n 2, 1) := by decide +kernel
theorem dX5_circuitLength_34 : decode cX5_circuitLength 34 = .ok (.ireturn, 1) := by decide +kernel
theorem dX5_circuitAt_0 : decode cX5_circuitAt 0 = .ok (.iconst 0, 1) := by decide +kernel
theorem dX5_circuitAt_1 : decode cX5_circuitAt 1 = .ok (.istore_n 3, 1) := by decide +kernel
theorem dX5_circuitAt_2 : decode cX5_circuitAt 2 = .ok (.iconst 0, 1) := by decide +kernel
theorem dX5_circuitAt_3 : decode cX5_circuitAt 3 = .ok (.istore 4, 2) := by decide +kernel
theorem dX5_circuitAt_5 : decode cX5_circuitAt 5 = .ok (.iload 4, 2) := by decide +kernel
theorem dX5_circuitAt_7 : decode cX5_circuitAt 7 = .ok (.aload_n 0, 1) := by decide +kernel
theorem dX5_circuitAt_8 : decode cX5_circuitAt 8 = .ok (.getfield 33, 3) := by decide +kernel
theorem dX5_circuitAt_11 : decode cX5_circuitAt 11 = .ok (.getfield 77, 3) := by decide +kernel
theorem dX5_circuitAt_14 : decode cX5_circuitAt 14 = .ok (.if_icmp .ge 30, 3) := by decide +kernel
theorem dX5_circuitAt_17 : decode cX5_circuitAt 17 = .ok (.aload_n 0, 1) := by decide +kernel
theorem dX5_circuitAt_18 : decode cX5_circuitAt 18 = .ok (.iload 4, 2) := by decide +kernel
theorem dX5_circuitAt_20 : decode cX5_circuitAt 20 = .ok (.iload_n 1, 1) := by decide +kernel
theorem dX5_circuitAt_21 : decode cX5_circuitAt 21 = .ok (.invokevirtual 89, 3) := by decide +kernel
theorem dX5_circuitAt_24 : decode cX5_circuitAt 24 = .ok (.ifCond .eq 14, 3) := by decide +kernel
theorem dX5_circuitAt_27 : decode cX5_circuitAt 27 = .ok (.iload_n 3, 1) := by decide +kernel
theorem dX5_circuitAt_28 : decode cX5_circuitAt 28 = .ok (.iload_n 2, 1) := by decide +kernel
theorem dX5_circuitAt_29 : decode cX5_circuitAt 29 = .ok (.if_icmp .ne 6, 3) := by decide +kernel
theorem dX5_circuitAt_32 : decode cX5_circuitAt 32 = .ok (.iload 4, 2) := by decide +kernel
theorem dX5_circuitAt_34 : decode cX5_circuitAt 34 = .ok (.ireturn, 1) := by decide +kernel
theorem dX5_circuitAt_35 : decode cX5_circuitAt 35 = .ok (.iinc 3 1, 3) := by decide +kernel
theorem dX5_circuitAt_38 : decode cX5_circuitAt 38 = .ok (.iinc 4 1, 3) := by decide +kernel
theorem dX5_circuitAt_41 : decode cX5_circuitAt 41 = .ok (.goto (-36), 3) := by decide +kernel
theorem dX5_circuitAt_44 : decode cX5_circuitAt 44 = .ok (.bipush (-9), 2) := by decide +kernel
theorem dX5_circuitAt_46 : decode cX5_circuitAt 46 = .ok (.ireturn, 1) := by decide +kernel
theorem dX5_isSpare_0 : decode cX5_isSpare 0 = .ok (.aload_n 0, 1) := by decide +kernel
theorem dX5_isSpare_1 : decode cX5_isSpare 1 = .ok (.getfield 18, 3) := by decide +kernel
theorem dX5_isSpare_4 : decode cX5_isSpare 4 = .ok (.iload_n 1, 1) := by decide +kernel
theorem dX5_isSpare_5 : decode cX5_isSpare 5 = .ok (.baload, 1) := by decide +kernel
theorem dX5_isSpare_6 : decode cX5_isSpare 6 = .ok (.ifCond .ne 5, 3) := by decide +kernel
theorem dX5_isSpare_9 : decode cX5_isSpare 9 = .ok (.iconst 1, 1) := by decide +kernel
theorem dX5_isSpare_10 : decode cX5_isSpare 10 = .ok (.ireturn, 1) := by decide +kernel
theorem dX5_isSpare_11 : decode cX5_isSpare 11 = .ok (.iconst 0, 1) := by decide +kernel
theorem dX5_isSpare_12 : decode cX5_isSpare 12 = .ok (.istore_n 2, 1) := by decide +kernel
theorem dX5_isSpare_13 : decode cX5_isSpare 13 = .ok (.iload_n 2, 1) := by decide +kernel
theorem dX5_isSpare_14 : decode cX5_isSpare 14 = .ok (.aload_n 0, 1) := by decide +kernel
theorem dX5_isSpare_15 : decode cX5_isSpare 15 = .ok (.getfield 33, 3) := by decide +kernel
theorem dX5_isSpare_18 : decode cX5_isSpare 18 = .ok (.getfield 77, 3) := by decide +kernel
theorem dX5_isSpare_21 : decode cX5_isSpare 21 = .ok (.if_icmp .ge 28, 3) := by decide +kernel
theorem dX5_isSpare_24 : decode cX5_isSpare 24 = .ok (.aload_n 0, 1) := by decide +kernel
theorem dX5_isSpare_25 : decode cX5_isSpare 25 = .ok (.iload_n 2, 1) := by decide +kernel
theorem dX5_isSpare_26 : decode cX5_isSpare 26 = .ok (.invokevirtual 92, 3) := by decide +kernel
theorem dX5_isSpare_29 : decode cX5_isSpare 29 = .ok (.ifCond .eq 14, 3) := by decide +kernel
theorem dX5_isSpare_32 : decode cX5_isSpare 32 = .ok (.aload_n 0, 1) := by decide +kernel
theorem dX5_isSpare_33 : decode cX5_isSpare 33 = .ok (.iload_n 1, 1) := by decide +kernel
theorem dX5_isSpare_34 : decode cX5_isSpare 34 = .ok (.iload_n 2, 1) := by decide +kernel
theorem dX5_isSpare_35 : decode cX5_isSpare 35 = .ok (.invokevirtual 89, 3) := by decide +kernel
theorem dX5_isSpare_38 : decode cX5_isSpare 38 = .ok (.ifCond .eq 5, 3) := by decide +kernel
theorem dX5_isSpare_41 : decode cX5_isSpare 41 = .ok (.iconst 1, 1) := by decide +kernel
theorem dX5_isSpare_42 : decode cX5_isSpare 42 = .ok (.ireturn, 1) := by decide +kernel
theorem dX5_isSpare_43 : decode cX5_isSpare 43 = .ok (.iinc 2 1, 3) := by decide +kernel
theorem dX5_isSpare_46 : decode cX5_isSpare 46 = .ok (.goto (-33), 3) := by decide +kernel
theorem dX5_isSpare_49 : decode cX5_isSpare 49 = .ok (.iconst 0, 1) := by decide +kernel
theorem dX5_isSpare_50 : decode cX5_isSpare 50 = .ok (.ireturn, 1) := by decide +kernel
theorem dX5_countSpare_0 : decode cX5_countSpare 0 = .ok (.iconst 0, 1) := by decide +kernel
theorem dX5_countSpare_1 : decode cX5_countSpare 1 = .ok (.istore_n 1, 1) := by decide +kernel
theorem dX5_countSpare_2 : decode cX5_countSpare 2 = .ok (.iconst 0, 1) := by decide +kernel
theorem dX5_countSpare_3 : decode cX5_countSpare 3 = .ok (.istore_n 2, 1) := by decide +kernel
theorem dX5_countSpare_4 : decode cX5_countSpare 4 = .ok (.iload_n 2, 1) := by decide +kernel
theorem dX5_countSpare_5 : decode cX5_countSpare 5 = .ok (.aload_n 0, 1) := by decide +kernel
theorem dX5_countSpare_6 : decode cX5_countSpare 6 = .ok (.getfield 33, 3) := by decide +kernel
theorem dX5_countSpare_9 : decode cX5_countSpare 9 = .ok (.getfield 77, 3) := by decide +kernel
theorem dX5_countSpare_12 : decode cX5_countSpare 12 = .ok (.if_icmp .ge 32, 3) := by decide +kernel
theorem dX5_countSpare_15 : decode cX5_countSpare 15 = .ok (.aload_n 0, 1) := by decide +kernel
theorem dX5_countSpare_16 : decode cX5_countSpare 16 = .ok (.getfield 33, 3) := by decide +kernel
theorem dX5_countSpare_19 : decode cX5_countSpare 19 = .ok (.getfield 80, 3) := by decide +kernel
theorem dX5_countSpare_22 : decode cX5_countSpare 22 = .ok (.iload_n 2, 1) := by decide +kernel
theorem dX5_countSpare_23 : decode cX5_countSpare 23 = .ok (.baload, 1) := by decide +kernel
theorem dX5_countSpare_24 : decode cX5_countSpare 24 = .ok (.ifCond .eq 14, 3) := by decide +kernel
theorem dX5_countSpare_27 : decode cX5_countSpare 27 = .ok (.aload_n 0, 1) := by decide +kernel
theorem dX5_countSpare_28 : decode cX5_countSpare 28 = .ok (.iload_n 2, 1) := by decide +kernel
theorem dX5_countSpare_29 : decode cX5_countSpare 29 = .ok (.invokevirtual 96, 3) := by decide +kernel
theorem dX5_countSpare_32 : decode cX5_countSpare 32 = .ok (.ifCond .eq 6, 3) := by decide +kernel
theorem dX5_countSpare_35 : decode cX5_countSpare 35 = .ok (.iinc 1 1, 3) := by decide +kernel
theorem dX5_countSpare_38 : decode cX5_countSpare 38 = .ok (.iinc 2 1, 3) := by decide +kernel
theorem dX5_countSpare_41 : decode cX5_countSpare 41 = .ok (.goto (-37), 3) := by decide +kernel
theorem dX5_countSpare_44 : decode cX5_countSpare 44 = .ok (.iload_n 1, 1) := by decide +kernel
theorem dX5_countSpare_45 : decode cX5_countSpare 45 = .ok (.ireturn, 1) := by decide +kernel
theorem dX5_costOfKept_0 : decode cX5_costOfKept 0 = .ok (.iconst 0, 1) := by decide +kernel
theorem dX5_costOfKept_1 : decode cX5_costOfKept 1 = .ok (.istore_n 1, 1) := by decide +kernel
theorem dX5_costOfKept_2 : decode cX5_costOfKept 2 = .ok (.iconst 0, 1) := by decide +kernel
theorem dX5_costOfKept_3 : decode cX5_costOfKept 3 = .ok (.istore_n 2, 1) := by decide +kernel
theorem dX5_costOfKept_4 : decode cX5_costOfKept 4 = .ok (.iload_n 2, 1) := by decide +kernel
theorem dX5_costOfKept_5 : decode cX5_costOfKept 5 = .ok (.aload_n 0, 1) := by decide +kernel
theorem dX5_costOfKept_6 : decode cX5_costOfKept 6 = .ok (.getfield 33, 3) := by decide +kernel
theorem dX5_costOfKept_9 : decode cX5_costOfKept 9 = .ok (.getfield 77, 3) := by decide +kernel
theorem dX5_costOfKept_12 : decode cX5_costOfKept 12 = .ok (.if_icmp .ge 30, 3) := by decide +kernel
theorem dX5_costOfKept_15 : decode cX5_costOfKept 15 = .ok (.aload_n 0, 1) := by decide +kernel
theorem dX5_costOfKept_16 : decode cX5_costOfKept 16 = .ok (.getfield 18, 3) := by decide +kernel
theorem dX5_costOfKept_19 : decode cX5_costOfKept 19 = .ok (.iload_n 2, 1) := by decide +kernel
theorem dX5_costOfKept_20 : decode cX5_costOfKept 20 = .ok (.baload, 1) := by decide +kernel
theorem dX5_costOfKept_21 : decode cX5_costOfKept 21 = .ok (.ifCond .eq 15, 3) := by decide +kernel
theorem dX5_costOfKept_24 : decode cX5_costOfKept 24 = .ok (.iload_n 1, 1) := by decide +kernel
theorem dX5_costOfKept_25 : decode cX5_costOfKept 25 = .ok (.aload_n 0, 1) := by decide +kernel
theorem dX5_costOfKept_26 : decode cX5_costOfKept 26 = .ok (.getfield 33, 3) := by decide +kernel
theorem dX5_costOfKept_29 : decode cX5_costOfKept 29 = .ok (.getfield 83, 3) := by decide +kernel
theorem dX5_costOfKept_32 : decode cX5_costOfKept 32 = .ok (.iload_n 2, 1) := by decide +kernel
theorem dX5_costOfKept_33 : decode cX5_costOfKept 33 = .ok (.iaload, 1) := by decide +kernel
theorem dX5_costOfKept_34 : decode cX5_costOfKept 34 = .ok (.iadd, 1) := by decide +kernel
theorem dX5_costOfKept_35 : decode cX5_costOfKept 35 = .ok (.istore_n 1, 1) := by decide +kernel
theorem dX5_costOfKept_36 : decode cX5_costOfKept 36 = .ok (.iinc 2 1, 3) := by decide +kernel
theorem dX5_costOfKept_39 : decode cX5_costOfKept 39 = .ok (.goto (-35), 3) := by decide +kernel
theorem dX5_costOfKept_42 : decode cX5_costOfKept 42 = .ok (.iload_n 1, 1) := by decide +kernel
theorem dX5_costOfKept_43 : decode cX5_costOfKept 43 = .ok (.ireturn, 1) := by decide +kernel
theorem dX6_init_0 : decode cX6_init 0 = .ok (.aload_n 0, 1) := by decide +kernel
theorem dX6_init_1 : decode cX6_init 1 = .ok (.invokespecial 3, 3) := by decide +kernel
theorem dX6_init_4 : decode cX6_init 4 = .ok (.aload_n 0, 1) := by decide +kernel
theorem dX6_init_5 : decode cX6_init 5 = .ok (.bipush 24, 2) := by decide +kernel
theorem dX6_init_7 : decode cX6_init 7 = .ok (.newarray .int, 2) := by decide +kernel
theorem dX6_init_9 : decode cX6_init 9 = .ok (.putfield 9, 3) := by decide +kernel
theorem dX6_init_12 : decode cX6_init 12 = .ok (.aload_n 0, 1) := by decide +kernel
theorem dX6_init_13 : decode cX6_init 13 = .ok (.bipush 24, 2) := by decide +kernel
theorem dX6_init_15 : decode cX6_init 15 = .ok (.newarray .int, 2) := by decide +kernel
theorem dX6_init_17 : decode cX6_init 17 = .ok (.putfield 15, 3) := by decide +kernel
theorem dX6_init_20 : decode cX6_init 20 = .ok (.aload_n 0, 1) := by decide +kernel
theorem dX6_init_21 : decode cX6_init 21 = .ok (.bipush 24, 2) := by decide +kernel
theorem dX6_init_23 : decode cX6_init 23 = .ok (.newarray .int, 2) := by decide +kernel
theorem dX6_init_25 : decode cX6_init 25 = .ok (.putfield 18, 3) := by decide +kernel
theorem dX6_init_28 : decode cX6_init 28 = .ok (.aload_n 0, 1) := by decide +kernel
theorem dX6_init_29 : decode cX6_init 29 = .ok (.bipush 24, 2) := by decide +kernel
theorem dX6_init_31 : decode cX6_init 31 = .ok (.newarray .int, 2) := by decide +kernel
theorem dX6_init_33 : decode cX6_init 33 = .ok (.putfield 21, 3) := by decide +kernel
theorem dX6_init_36 : decode cX6_init 36 = .ok (.aload_n 0, 1) := by decide +kernel
theorem dX6_init_37 : decode cX6_init 37 = .ok (.iconst (-1), 1) := by decide +kernel
theorem dX6_init_38 : decode cX6_init 38 = .ok (.putfield 24, 3) := by decide +kernel
theorem dX6_init_41 : decode cX6_init 41 = .ok (.aload_n 0, 1) := by decide +kernel
theorem dX6_init_42 : decode cX6_init 42 = .ok (.aload_n 1, 1) := by decide +kernel
theorem dX6_init_43 : decode cX6_init 43 = .ok (.putfield 28, 3) := by decide +kernel
theorem dX6_init_46 : decode cX6_init 46 = .ok (.aload_n 0, 1) := by decide +kernel
theorem dX6_init_47 : decode cX6_init 47 = .ok (.aload_n 2, 1) := by decide +kernel
theorem dX6_init_48 : decode cX6_init 48 = .ok (.putfield 32, 3) := by decide +kernel
theorem dX6_init_51 : decode cX6_init 51 = .ok (.aload_n 0, 1) := by decide +kernel
theorem dX6_init_52 : decode cX6_init 52 = .ok (.aload_n 3, 1) := by decide +kernel
theorem dX6_init_53 : decode cX6_init 53 = .ok (.putfield 36, 3) := by decide +kernel
theorem dX6_init_56 : decode cX6_init 56 = .ok (.return_, 1) := by decide +kernel
theorem dX6_walk_0 : decode cX6_walk 0 = .ok (.aload_n 0, 1) := by decide +kernel
theorem dX6_walk_1 : decode cX6_walk 1 = .ok (.getfield 24, 3) := by decide +kernel
theorem dX6_walk_4 : decode cX6_walk 4 = .ok (.aload_n 0, 1) := by decide +kernel
theorem dX6_walk_5 : decode cX6_walk 5 = .ok (.getfield 28, 3) := by decide +kernel
theorem dX6_walk_8 : decode cX6_walk 8 = .ok (.getfield 40, 3) := by decide +kernel
theorem dX6_walk_11 : decode cX6_walk 11 = .ok (.if_icmp .ne 4, 3) := by decide +kernel
theorem dX6_walk_14 : decode cX6_walk 14 = .ok (.return_, 1) := by decide +kernel
theorem dX6_walk_15 : decode cX6_walk 15 = .ok (.aload_n 0, 1) := by decide +kernel
theorem dX6_walk_16 : decode cX6_walk 16 = .ok (.aload_n 0, 1) := by decide +kernel
theorem dX6_walk_17 : decode cX6_walk 17 = .ok (.getfield 28, 3) := by decide +kernel
theorem dX6_walk_20 : decode cX6_walk 20 = .ok (.getfield 40, 3) := by decide +kernel
theorem dX6_walk_23 : decode cX6_walk 23 = .ok (.putfield 24, 3) := by decide +kernel
theorem dX6_walk_26 : decode cX6_walk 26 = .ok (.aload_n 0, 1) := by decide +kernel
theorem dX6_walk_27 : decode cX6_walk 27 = .ok (.getfield 32, 3) := by decide +kernel
theorem dX6_walk_30 : decode cX6_walk 30 = .ok (.iconst 2, 1) := by decide +kernel
theorem dX6_walk_31 : decode cX6_walk 31 = .ok (.iconst 3, 1) := by decide +kernel
theorem dX6_walk_32 : decode cX6_walk 32 = .ok (.invokevirtual 45, 3) := by decide +kernel
theorem dX6_walk_35 : decode cX6_walk 35 = .ok (.aload_n 0, 1) := by decide +kernel
theorem dX6_walk_36 : decode cX6_walk 36 = .ok (.getfield 21, 3) := by decide +kernel
theorem dX6_walk_39 : decode cX6_walk 39 = .ok (.iconst 0, 1) := by decide +kernel
theorem dX6_walk_40 : decode cX6_walk 40 = .ok (.invokestatic 51, 3) := by decide +kernel
theorem dX6_walk_43 : decode cX6_walk 43 = .ok (.iconst 0, 1) := by decide +kernel
theorem dX6_walk_44 : decode cX6_walk 44 = .ok (.istore_n 1, 1) := by decide +kernel
theorem dX6_walk_45 : decode cX6_walk 45 = .ok (.iload_n 1, 1) := by decide +kernel
theorem dX6_walk_46 : decode cX6_walk 46 = .ok (.aload_n 0, 1) := by decide +kernel
theorem dX6_walk_47 : decode cX6_walk 47 = .ok (.getfield 28, 3) := by decide +kernel
theorem dX6_walk_50 : decode cX6_walk 50 = .ok (.getfield 57, 3) := by decide +kernel
theorem dX6_walk_53 : decode cX6_walk 53 = .ok (.if_icmp .ge 43, 3) := by decide +kernel
theorem dX6_walk_56 : decode cX6_walk 56 = .ok (.aload_n 0, 1) := by decide +kernel
theorem dX6_walk_57 : decode cX6_walk 57 = .ok (.getfield 32, 3) := by decide +kernel
theorem dX6_walk_60 : decode cX6_walk 60 = .ok (.getfield 60, 3) := by decide +kernel
theorem dX6_walk_63 : decode cX6_walk 63 = .ok (.iload_n 1, 1) := by decide +kernel
theorem dX6_walk_64 : decode cX6_walk 64 = .ok (.baload, 1) := by decide +kernel
theorem dX6_walk_65 : decode cX6_walk 65 = .ok (.ifCond .eq 25, 3) := by decide +kernel
theorem dX6_walk_68 : decode cX6_walk 68 = .ok (.aload_n 0, 1) := by decide +kernel
theorem dX6_walk_69 : decode cX6_walk 69 = .ok (.aload_n 0, 1) := by decide +kernel
theorem dX6_walk_70 : decode cX6_walk 70 = .ok (.getfield 28, 3) := by decide +kernel
theorem dX6_walk_73 : decode cX6_walk 73 = .ok (.getfield 64, 3) := by decide +kernel
theorem dX6_walk_76 : decode cX6_walk 76 = .ok (.iload_n 1, 1) := by decide +kernel
theorem dX6_walk_77 : decode cX6_walk 77 = .ok (.iaload, 1) := by decide +kernel
theorem dX6_walk_78 : decode cX6_walk 78 = .ok (.aload_n 0, 1) := by decide +kernel
theorem dX6_walk_79 : decode cX6_walk 79 = .ok (.getfield 28, 3) := by decide +kernel
theorem dX6_walk_82 : decode cX6_walk 82 = .ok (.getfield 67, 3) := by decide +kernel
theorem dX6_walk_85 : decode cX6_walk 85 = .ok (.iload_n 1, 1) := by decide +kernel
theorem dX6_walk_86 : decode cX6_walk 86 = .ok (.iaload, 1) := by decide +kernel
theorem dX6_walk_87 : decode cX6_walk 87 = .ok (.invokevirtual 70, 3) := by decide +kernel
theorem dX6_walk_90 : decode cX6_walk 90 = .ok (.iinc 1 1, 3) := by decide +kernel
theorem dX6_walk_93 : decode cX6_walk 93 = .ok (.goto (-48), 3) := by decide +kernel
theorem dX6_walk_96 : decode cX6_walk 96 = .ok (.iconst 1, 1) := by decide +kernel
theorem dX6_walk_97 : decode cX6_walk 97 = .ok (.aload_n 0, 1) := by decide +kernel
theorem dX6_walk_98 : decode cX6_walk 98 = .ok (.getfield 28, 3) := by decide +kernel
theorem dX6_walk_101 : decode cX6_walk 101 = .ok (.getfield 73, 3) := by decide +kernel
theorem dX6_walk_104 : decode cX6_walk 104 = .ok (.ishl, 1) := by decide +kernel
theorem dX6_walk_105 : decode cX6_walk 105 = .ok (.iconst 1, 1) := by decide +kernel
theorem dX6_walk_106 : decode cX6_walk 106 = .ok (.isub, 1) := by decide +kernel
theorem dX6_walk_107 : decode cX6_walk 107 = .ok (.istore_n 1, 1) := by decide +kernel
theorem dX6_walk_108 : decode cX6_walk 108 = .ok (.iconst 0, 1) := by decide +kernel
theorem dX6_walk_109 : decode cX6_walk 109 = .ok (.istore_n 2, 1) := by decide +kernel
theorem dX6_walk_110 : decode cX6_walk 110 = .ok (.iload_n 2, 1) := by decide +kernel
theorem dX6_walk_111 : decode cX6_walk 111 = .ok (.aload_n 0, 1) := by decide +kernel
theorem dX6_walk_112 : decode cX6_walk 112 = .ok (.getfield 28, 3) := by decide +kernel
theorem dX6_walk_115 : decode cX6_walk 115 = .ok (.getfield 73, 3) := by decide +kernel
theorem dX6_walk_118 : decode cX6_walk 118 = .ok (.if_icmp .ge 88, 3) := by decide +kernel
theorem dX6_walk_121 : decode cX6_walk 121 = .ok (.aload_n 0, 1) := by decide +kernel
theorem dX6_walk_122 : decode cX6_walk 122 = .ok (.iload_n 1, 1) := by decide +kernel
theorem dX6_walk_123 : decode cX6_walk 123 = .ok (.invokevirtual 76, 3) := by decide +kernel
theorem dX6_walk_126 : decode cX6_walk 126 = .ok (.istore_n 3, 1) := by decide +kernel
theorem dX6_walk_127 : decode cX6_walk 127 = .ok (.aload_n 0, 1) := by decide +kernel
theorem dX6_walk_128 : decode cX6_walk 128 = .ok (.getfield 21, 3) := by decide +kernel
theorem dX6_walk_131 : decode cX6_walk 131 = .ok (.iload_n 3, 1) := by decide +kernel
theorem dX6_walk_132 : decode cX6_walk 132 = .ok (.iaload, 1) := by decide +kernel
theorem dX6_walk_133 : decode cX6_walk 133 = .ok (.istore 4, 2) := by decide +kernel
theorem dX6_walk_135 : decode cX6_walk 135 = .ok (.aload_n 0, 1) := by decide +kernel
theorem dX6_walk_136 : decode cX6_walk 136 = .ok (.getfield 9, 3) := by decide +kernel
theorem dX6_walk_139 : decode cX6_walk 139 = .ok (.iload_n 2, 1) := by decide +kernel
theorem dX6_walk_140 : decode cX6_walk 140 = .ok (.iload_n 3, 1) := by decide +kernel
theorem dX6_walk_141 : decode cX6_walk 141 = .ok (.iastore, 1) := by decide +kernel
theorem dX6_walk_142 : decode cX6_walk 142 = .ok (.aload_n 0, 1) := by decide +kernel
theorem dX6_walk_143 : decode cX6_walk 143 = .ok (.getfield 15, 3) := by decide +kernel
theorem dX6_walk_146 : decode cX6_walk 146 = .ok (.iload_n 2, 1) := by decide +kernel
theorem dX6_walk_147 : decode cX6_walk 147 = .ok (.iload 4, 2) := by decide +kernel
theorem dX6_walk_149 : decode cX6_walk 149 = .ok (.invokestatic 80, 3) := by decide +kernel
theorem dX6_walk_152 : decode cX6_walk 152 = .ok (.iastore, 1) := by decide +kernel
theorem dX6_walk_153 : decode cX6_walk 153 = .ok (.iload_n 1, 1) := by decide +kernel
theorem dX6_walk_154 : decode cX6_walk 154 = .ok (.iconst 1, 1) := by decide +kernel
theorem dX6_walk_155 : decode cX6_walk 155 = .ok (.iload_n 3, 1) := by decide +kernel
theorem dX6_walk_156 : decode cX6_walk 156 = .ok (.ishl, 1) := by decide +kernel
theorem dX6_walk_157 : decode cX6_walk 157 = .ok (.iconst (-1), 1) := by decide +kernel
theorem dX6_walk_158 : decode cX6_walk 158 = .ok (.ixor, 1) := by decide +kernel
theorem dX6_walk_159 : decode cX6_walk 159 = .ok (.iand, 1) := by decide +kernel
theorem dX6_walk_160 : decode cX6_walk 160 = .ok (.istore_n 1, 1) := by decide +kernel
theorem dX6_walk_161 : decode cX6_walk 161 = .ok (.aload_n 0, 1) := by decide +kernel
theorem dX6_walk_162 : decode cX6_walk 162 = .ok (.iload_n 3, 1) := by decide +kernel
theorem dX6_walk_163 : decode cX6_walk 163 = .ok (.invokevirtual 85, 3) := by decide +kernel
theorem dX6_walk_166 : decode cX6_walk 166 = .ok (.aload_n 0, 1) := by decide +kernel
theorem dX6_walk_167 : decode cX6_walk 167 = .ok (.getfield 18, 3) := by decide +kernel
theorem dX6_walk_170 : decode cX6_walk 170 = .ok (.iload_n 2, 1) := by decide +kernel
theorem dX6_walk_171 : decode cX6_walk 171 = .ok (.bipush (-9), 2) := by decide +kernel
theorem dX6_walk_173 : decode cX6_walk 173 = .ok (.iastore, 1) := by decide +kernel
theorem dX6_walk_174 : decode cX6_walk 174 = .ok (.aload_n 0, 1) := by decide +kernel
theorem dX6_walk_175 : decode cX6_walk 175 = .ok (.getfield 15, 3) := by decide +kernel
theorem dX6_walk_178 : decode cX6_walk 178 = .ok (.iload_n 2, 1) := by decide +kernel
theorem dX6_walk_179 : decode cX6_walk 179 = .ok (.iaload, 1) := by decide +kernel
theorem dX6_walk_180 : decode cX6_walk 180 = .ok (.iconst 3, 1) := by decide +kernel
theorem dX6_walk_181 : decode cX6_walk 181 = .ok (.if_icmp .ne 19, 3) := by decide +kernel
theorem dX6_walk_184 : decode cX6_walk 184 = .ok (.aload_n 0, 1) := by decide +kernel
theorem dX6_walk_185 : decode cX6_walk 185 = .ok (.invokevirtual 89, 3) := by decide +kernel
theorem dX6_walk_188 : decode cX6_walk 188 = .ok (.aload_n 0, 1) := by decide +kernel
theorem dX6_walk_189 : decode cX6_walk 189 = .ok (.getfield 18, 3) := by decide +kernel
theorem dX6_walk_192 : decode cX6_walk 192 = .ok (.iload_n 2, 1) := by decide +kernel
theorem dX6_walk_193 : decode cX6_walk 193 = .ok (.aload_n 0, 1) := by decide +kernel
theorem dX6_walk_194 : decode cX6_walk 194 = .ok (.iload 4, 2) := by decide +kernel
theorem dX6_walk_196 : decode cX6_walk 196 = .ok (.invokevirtual 92, 3) := by decide +kernel
theorem dX6_walk_199 : decode cX6_walk 199 = .ok (.iastore, 1) := by decide +kernel
theorem dX6_walk_200 : decode cX6_walk 200 = .ok (.iinc 2 1, 3) := by decide +kernel
theorem dX6_walk_203 : decode cX6_walk 203 = .ok (.goto (-93), 3) := by decide +kernel
theorem dX6_walk_206 : decode cX6_walk 206 = .ok (.return_, 1) := by decide +kernel
theorem dX6_countThrees_0 : decode cX6_countThrees 0 = .ok (.iconst 0, 1) := by decide +kernel
theorem dX6_countThrees_1 : decode cX6_countThrees 1 = .ok (.istore_n 1, 1) := by decide +kernel
theorem dX6_countThrees_2 : decode cX6_countThrees 2 = .ok (.iconst 0, 1) := by decide +kernel
theorem dX6_countThrees_3 : decode cX6_countThrees 3 = .ok (.istore_n 2, 1) := by decide +kernel
theorem dX6_countThrees_4 : decode cX6_countThrees 4 = .ok (.iload_n 2, 1) := by decide +kernel
theorem dX6_countThrees_5 : decode cX6_countThrees 5 = .ok (.aload_n 0, 1) := by decide +kernel
theorem dX6_countThrees_6 : decode cX6_countThrees 6 = .ok (.getfield 28, 3) := by decide +kernel
theorem dX6_countThrees_9 : decode cX6_countThrees 9 = .ok (.getfield 73, 3) := by decide +kernel
theorem dX6_countThrees_12 : decode cX6_countThrees 12 = .ok (.if_icmp .ge 22, 3) := by decide +kernel
theorem dX6_countThrees_15 : decode cX6_countThrees 15 = .ok (.aload_n 0, 1) := by decide +kernel
theorem dX6_countThrees_16 : decode cX6_countThrees 16 = .ok (.getfield 15, 3) := by decide +kernel
theorem dX6_countThrees_19 : decode cX6_countThrees 19 = .ok (.iload_n 2, 1) := by decide +kernel
theorem dX6_countThrees_20 : decode cX6_countThrees 20 = .ok (.iaload, 1) := by decide +kernel
theorem dX6_countThrees_21 : decode cX6_countThrees 21 = .ok (.iconst 3, 1) := by decide +kernel
theorem dX6_countThrees_22 : decode cX6_countThrees 22 = .ok (.if_icmp .ne 6, 3) := by decide +kernel
theorem dX6_countThrees_25 : decode cX6_countThrees 25 = .ok (.iinc 1 1, 3) := by decide +kernel
theorem dX6_countThrees_28 : decode cX6_countThrees 28 = .ok (.iinc 2 1, 3) := by decide +kernel
theorem dX6_countThrees_31 : decode cX6_countThrees 31 = .ok (.goto (-27), 3) := by decide +kernel
theorem dX6_countThrees_34 : decode cX6_countThrees 34 = .ok (.iload_n 1, 1) := by decide +kernel
theorem dX6_countThrees_35 : decode cX6_countThrees 35 = .ok (.ireturn, 1) := by decide +kernel
theorem dX6_tie_0 : decode cX6_tie 0 = .ok (.aload_n 0, 1) := by decide +kernel
theorem dX6_tie_1 : decode cX6_tie 1 = .ok (.getfield 21, 3) := by decide +kernel
theorem dX6_tie_4 : decode cX6_tie 4 = .ok (.iload_n 1, 1) := by decide +kernel
theorem dX6_tie_5 : decode cX6_tie 5 = .ok (.dup2, 1) := by decide +kernel
theorem dX6_tie_6 : decode cX6_tie 6 = .ok (.iaload, 1) := by decide +kernel
theorem dX6_tie_7 : decode cX6_tie 7 = .ok (.iconst 1, 1) := by decide +kernel
theorem dX6_tie_8 : decode cX6_tie 8 = .ok (.iload_n 2, 1) := by decide +kernel
theorem dX6_tie_9 : decode cX6_tie 9 = .ok (.ishl, 1) := by decide +kernel
theorem dX6_tie_10 : decode cX6_tie 10 = .ok (.ior, 1) := by decide +kernel
theorem dX6_tie_11 : decode cX6_tie 11 = .ok (.iastore, 1) := by decide +kernel
theorem dX6_tie_12 : decode cX6_tie 12 = .ok (.aload_n 0, 1) := by decide +kernel
theorem dX6_tie_13 : decode cX6_tie 13 = .ok (.getfield 21, 3) := by decide +kernel
theorem dX6_tie_16 : decode cX6_tie 16 = .ok (.iload_n 2, 1) := by decide +kernel
theorem dX6_tie_17 : decode cX6_tie 17 = .ok (.dup2, 1) := by decide +kernel
theorem dX6_tie_18 : decode cX6_tie 18 = .ok (.iaload, 1) := by decide +kernel
theorem dX6_tie_19 : decode cX6_tie 19 = .ok (.iconst 1, 1) := by decide +kernel
theorem dX6_tie_20 : decode cX6_tie 20 = .ok (.iload_n 1, 1) := by decide +kernel
theorem dX6_tie_21 : decode cX6_tie 21 = .ok (.ishl, 1) := by decide +kernel
theorem dX6_tie_22 : decode cX6_tie 22 = .ok (.ior, 1) := by decide +kernel
theorem dX6_tie_23 : decode cX6_tie 23 = .ok (.iastore, 1) := by decide +kernel
theorem dX6_tie_24 : decode cX6_tie 24 = .ok (.return_, 1) := by decide +kernel
theorem dX6_leastTied_0 : decode cX6_leastTied 0 = .ok (.iconst 0, 1) := by decide +kernel
theorem dX6_leastTied_1 : decode cX6_leastTied 1 = .ok (.istore_n 2, 1) := by decide +kernel
theorem dX6_leastTied_2 : decode cX6_leastTied 2 = .ok (.bipush 24, 2) := by decide +kernel
theorem dX6_leastTied_4 : decode cX6_leastTied 4 = .ok (.istore_n 3, 1) := by decide +kernel
theorem dX6_leastTied_5 : decode cX6_leastTied 5 = .ok (.iconst 0, 1) := by decide +kernel
theorem dX6_leastTied_6 : decode cX6_leastTied 6 = .ok (.istore 4, 2) := by decide +kernel
theorem dX6_leastTied_8 : decode cX6_leastTied 8 = .ok (.iload 4, 2) := by decide +kernel
theorem dX6_leastTied_10 : decode cX6_leastTied 10 = .ok (.aload_n 0, 1) := by decide +kernel
theorem dX6_leastTied_11 : decode cX6_leastTied 11 = .ok (.getfield 28, 3) := by decide +kernel
theorem dX6_leastTied_14 : decode cX6_leastTied 14 = .ok (.getfield 73, 3) := by decide +kernel
theorem dX6_leastTied_17 : decode cX6_leastTied 17 = .ok (.if_icmp .ge 42, 3) := by decide +kernel
theorem dX6_leastTied_20 : decode cX6_leastTied 20 = .ok (.aload_n 0, 1) := by decide +kernel
theorem dX6_leastTied_21 : decode cX6_leastTied 21 = .ok (.getfield 21, 3) := by decide +kernel
theorem dX6_leastTied_24 : decode cX6_leastTied 24 = .ok (.iload 4, 2) := by decide +kernel
theorem dX6_leastTied_26 : decode cX6_leastTied 26 = .ok (.iaload, 1) := by decide +kernel
theorem dX6_leastTied_27 : decode cX6_leastTied 27 = .ok (.invokestatic 80, 3) := by decide +kernel
theorem dX6_leastTied_30 : decode cX6_leastTied 30 = .ok (.istore 5, 2) := by decide +kernel
theorem dX6_leastTied_32 : decode cX6_leastTied 32 = .ok (.iload_n 1, 1) := by decide +kernel
theorem dX6_leastTied_33 : decode cX6_leastTied 33 = .ok (.iload 4, 2) := by decide +kernel
theorem dX6_leastTied_35 : decode cX6_leastTied 35 = .ok (.invokestatic 95, 3) := by decide +kernel
theorem dX6_leastTied_38 : decode cX6_leastTied 38 = .ok (.ifCond .eq 15, 3) := by decide +kernel
theorem dX6_leastTied_41 : decode cX6_leastTied 41 = .ok (.iload 5, 2) := by decide +kernel
theorem dX6_leastTied_43 : decode cX6_leastTied 43 = .ok (.iload_n 3, 1) := by decide +kernel
theorem dX6_leastTied_44 : decode cX6_leastTied 44 = .ok (.if_icmp .ge 9, 3) := by decide +kernel
theorem dX6_leastTied_47 : decode cX6_leastTied 47 = .ok (.iload 4, 2) := by decide +kernel
theorem dX6_leastTied_49 : decode cX6_leastTied 49 = .ok (.istore_n 2, 1) := by decide +kernel
theorem dX6_leastTied_50 : decode cX6_leastTied 50 = .ok (.iload 5, 2) := by decide +kernel
theorem dX6_leastTied_52 : decode cX6_leastTied 52 = .ok (.istore_n 3, 1) := by decide +kernel
theorem dX6_leastTied_53 : decode cX6_leastTied 53 = .ok (.iinc 4 1, 3) := by decide +kernel
theorem dX6_leastTied_56 : decode cX6_leastTied 56 = .ok (.goto (-48), 3) := by decide +kernel
theorem dX6_leastTied_59 : decode cX6_leastTied 59 = .ok (.iload_n 2, 1) := by decide +kernel
theorem dX6_leastTied_60 : decode cX6_leastTied 60 = .ok (.ireturn, 1) := by decide +kernel
theorem dX6_takeAway_0 : decode cX6_takeAway 0 = .ok (.aload_n 0, 1) := by decide +kernel
theorem dX6_takeAway_1 : decode cX6_takeAway 1 = .ok (.getfield 21, 3) := by decide +kernel
theorem dX6_takeAway_4 : decode cX6_takeAway 4 = .ok (.iload_n 1, 1) := by decide +kernel
theorem dX6_takeAway_5 : decode cX6_takeAway 5 = .ok (.iconst 0, 1) := by decide +kernel
theorem dX6_takeAway_6 : decode cX6_takeAway 6 = .ok (.iastore, 1) := by decide +kernel
theorem dX6_takeAway_7 : decode cX6_takeAway 7 = .ok (.iconst 0, 1) := by decide +kernel
theorem dX6_takeAway_8 : decode cX6_takeAway 8 = .ok (.istore_n 2, 1) := by decide +kernel
theorem dX6_takeAway_9 : decode cX6_takeAway 9 = .ok (.iload_n 2, 1) := by decide +kernel
theorem dX6_takeAway_10 : decode cX6_takeAway 10 = .ok (.bipush 24, 2) := by decide +kernel
theorem dX6_takeAway_12 : decode cX6_takeAway 12 = .ok (.if_icmp .ge 23, 3) := by decide +kernel
theorem dX6_takeAway_15 : decode cX6_takeAway 15 = .ok (.aload_n 0, 1) := by decide +kernel
theorem dX6_takeAway_16 : decode cX6_takeAway 16 = .ok (.getfield 21, 3) := by decide +kernel
theorem dX6_takeAway_19 : decode cX6_takeAway 19 = .ok (.iload_n 2, 1) := by decide +kernel
theorem dX6_takeAway_20 : decode cX6_takeAway 20 = .ok (.dup2, 1) := by decide +kernel
theorem dX6_takeAway_21 : decode cX6_takeAway 21 = .ok (.iaload, 1) := by decide +kernel
theorem dX6_takeAway_22 : decode cX6_takeAway 22 = .ok (.iconst 1, 1) := by decide +kernel
theorem dX6_takeAway_23 : decode cX6_takeAway 23 = .ok (.iload_n 1, 1) := by decide +kernel
theorem dX6_takeAway_24 : decode cX6_takeAway 24 = .ok (.ishl, 1) := by decide +kernel
theorem dX6_takeAway_25 : decode cX6_takeAway 25 = .ok (.iconst (-1), 1) := by decide +kernel
theorem dX6_takeAway_26 : decode cX6_takeAway 26 = .ok (.ixor, 1) := by decide +kernel
theorem dX6_takeAway_27 : decode cX6_takeAway 27 = .ok (.iand, 1) := by decide +kernel
theorem dX6_takeAway_28 : decode cX6_takeAway 28 = .ok (.iastore, 1) := by decide +kernel
theorem dX6_takeAway_29 : decode cX6_takeAway 29 = .ok (.iinc 2 1, 3) := by decide +kernel
theorem dX6_takeAway_32 : decode cX6_takeAway 32 = .ok (.goto (-23), 3) := by decide +kernel
theorem dX6_takeAway_35 : decode cX6_takeAway 35 = .ok (.return_, 1) := by decide +kernel
theorem dX6_bridge_0 : decode cX6_bridge 0 = .ok (.iconst 0, 1) := by decide +kernel
theorem dX6_bridge_1 : decode cX6_bridge 1 = .ok (.istore_n 2, 1) := by decide +kernel
theorem dX6_bridge_2 : decode cX6_bridge 2 = .ok (.iload_n 2, 1) := by decide +kernel
theorem dX6_bridge_3 : decode cX6_bridge 3 = .ok (.bipush 24, 2) := by decide +kernel
theorem dX6_bridge_5 : decode cX6_bridge 5 = .ok (.if_icmp .ge 66, 3) := by decide +kernel
theorem dX6_bridge_8 : decode cX6_bridge 8 = .ok (.iload_n 2, 1) := by decide +kernel
theorem dX6_bridge_9 : decode cX6_bridge 9 = .ok (.iconst 1, 1) := by decide +kernel
theorem dX6_bridge_10 : decode cX6_bridge 10 = .ok (.iadd, 1) := by decide +kernel
theorem dX6_bridge_11 : decode cX6_bridge 11 = .ok (.istore_n 3, 1) := by decide +kernel
theorem dX6_bridge_12 : decode cX6_bridge 12 = .ok (.iload_n 3, 1) := by decide +kernel
theorem dX6_bridge_13 : decode cX6_bridge 13 = .ok (.bipush 24, 2) := by decide +kernel
theorem dX6_bridge_15 : decode cX6_bridge 15 = .ok (.if_icmp .ge 50, 3) := by decide +kernel
theorem dX6_bridge_18 : decode cX6_bridge 18 = .ok (.iload_n 1, 1) := by decide +kernel
theorem dX6_bridge_19 : decode cX6_bridge 19 = .ok (.iload_n 2, 1) := by decide +kernel
theorem dX6_bridge_20 : decode cX6_bridge 20 = .ok (.invokestatic 95, 3) := by decide +kernel
theorem dX6_bridge_23 : decode cX6_bridge 23 = .ok (.ifCond .eq 36, 3) := by decide +kernel
theorem dX6_bridge_26 : decode cX6_bridge 26 = .ok (.iload_n 1, 1) := by decide +kernel
theorem dX6_bridge_27 : decode cX6_bridge 27 = .ok (.iload_n 3, 1) := by decide +kernel
theorem dX6_bridge_28 : decode cX6_bridge 28 = .ok (.invokestatic 95, 3) := by decide +kernel
theorem dX6_bridge_31 : decode cX6_bridge 31 = .ok (.ifCond .eq 28, 3) := by decide +kernel
theorem dX6_bridge_34 : decode cX6_bridge 34 = .ok (.aload_n 0, 1) := by decide +kernel
theorem dX6_bridge_35 : decode cX6_bridge 35 = .ok (.getfield 36, 3) := by decide +kernel
theorem dX6_bridge_38 : decode cX6_bridge 38 = .ok (.iload_n 2, 1) := by decide +kernel
theorem dX6_bridge_39 : decode cX6_bridge 39 = .ok (.iload_n 3, 1) := by decide +kernel
theorem dX6_bridge_40 : decode cX6_bridge 40 = .ok (.invokevirtual 99, 3) := by decide +kernel
theorem dX6_bridge_43 : decode cX6_bridge 43 = .ok (.ifCond .eq 16, 3) := by decide +kernel
theorem dX6_bridge_46 : decode cX6_bridge 46 = .ok (.aload_n 0, 1) := by decide +kernel
theorem dX6_bridge_47 : decode cX6_bridge 47 = .ok (.iload_n 2, 1) := by decide +kernel
theorem dX6_bridge_48 : decode cX6_bridge 48 = .ok (.iload_n 3, 1) := by decide +kernel
theorem dX6_bridge_49 : decode cX6_bridge 49 = .ok (.invokevirtual 70, 3) := by decide +kernel
theorem dX6_bridge_52 : decode cX6_bridge 52 = .ok (.bipush 100, 2) := by decide +kernel
theorem dX6_bridge_54 : decode cX6_bridge 54 = .ok (.iload_n 2, 1) := by decide +kernel
theorem dX6_bridge_55 : decode cX6_bridge 55 = .ok (.imul, 1) := by decide +kernel
theorem dX6_bridge_56 : decode cX6_bridge 56 = .ok (.iload_n 3, 1) := by decide +kernel
theorem dX6_bridge_57 : decode cX6_bridge 57 = .ok (.iadd, 1) := by decide +kernel
theorem dX6_bridge_58 : decode cX6_bridge 58 = .ok (.ireturn, 1) := by decide +kernel
theorem dX6_bridge_59 : decode cX6_bridge 59 = .ok (.iinc 3 1, 3) := by decide +kernel
theorem dX6_bridge_62 : decode cX6_bridge 62 = .ok (.goto (-50), 3) := by decide +kernel
theorem dX6_bridge_65 : decode cX6_bridge 65 = .ok (.iinc 2 1, 3) := by decide +kernel
theorem dX6_bridge_68 : decode cX6_bridge 68 = .ok (.goto (-66), 3) := by decide +kernel
theorem dX6_bridge_71 : decode cX6_bridge 71 = .ok (.bipush (-9), 2) := by decide +kernel
theorem dX6_bridge_73 : decode cX6_bridge 73 = .ok (.ireturn, 1) := by decide +kernel
theorem dX6_layBoard_0 : decode cX6_layBoard 0 = .ok (.aload_n 0, 1) := by decide +kernel
theorem dX6_layBoard_1 : decode cX6_layBoard 1 = .ok (.getfield 36, 3) := by decide +kernel
theorem dX6_layBoard_4 : decode cX6_layBoard 4 = .ok (.iconst 2, 1) := by decide +kernel
theorem dX6_layBoard_5 : decode cX6_layBoard 5 = .ok (.iconst 3, 1) := by decide +kernel
theorem dX6_layBoard_6 : decode cX6_layBoard 6 = .ok (.invokevirtual 104, 3) := by decide +kernel
theorem dX6_layBoard_9 : decode cX6_layBoard 9 = .ok (.iconst 0, 1) := by decide +kernel
theorem dX6_layBoard_10 : decode cX6_layBoard 10 = .ok (.istore_n 1, 1) := by decide +kernel
theorem dX6_layBoard_11 : decode cX6_layBoard 11 = .ok (.iload_n 1, 1) := by decide +kernel
theorem dX6_layBoard_12 : decode cX6_layBoard 12 = .ok (.bipush 24, 2) := by decide +kernel
theorem dX6_layBoard_14 : decode cX6_layBoard 14 = .ok (.if_icmp .ge 48, 3) := by decide +kernel
theorem dX6_layBoard_17 : decode cX6_layBoard 17 = .ok (.iload_n 1, 1) := by decide +kernel
theorem dX6_layBoard_18 : decode cX6_layBoard 18 = .ok (.iconst 1, 1) := by decide +kernel
theorem dX6_layBoard_19 : decode cX6_layBoard 19 = .ok (.iadd, 1) := by decide +kernel
theorem dX6_layBoard_20 : decode cX6_layBoard 20 = .ok (.istore_n 2, 1) := by decide +kernel
theorem dX6_layBoard_21 : decode cX6_layBoard 21 = .ok (.iload_n 2, 1) := by decide +kernel
theorem dX6_layBoard_22 : decode cX6_layBoard 22 = .ok (.bipush 24, 2) := by decide +kernel
theorem dX6_layBoard_24 : decode cX6_layBoard 24 = .ok (.if_icmp .ge 32, 3) := by decide +kernel
theorem dX6_layBoard_27 : decode cX6_layBoard 27 = .ok (.aload_n 0, 1) := by decide +kernel
theorem dX6_layBoard_28 : decode cX6_layBoard 28 = .ok (.getfield 21, 3) := by decide +kernel
theorem dX6_layBoard_31 : decode cX6_layBoard 31 = .ok (.iload_n 1, 1) := by decide +kernel
theorem dX6_layBoard_32 : decode cX6_layBoard 32 = .ok (.iaload, 1) := by decide +kernel
theorem dX6_layBoard_33 : decode cX6_layBoard 33 = .ok (.iload_n 2, 1) := by decide +kernel
theorem dX6_layBoard_34 : decode cX6_layBoard 34 = .ok (.invokestatic 95, 3) := by decide +kernel
theorem dX6_layBoard_37 : decode cX6_layBoard 37 = .ok (.ifCond .eq 13, 3) := by decide +kernel
theorem dX6_layBoard_40 : decode cX6_layBoard 40 = .ok (.aload_n 0, 1) := by decide +kernel
theorem dX6_layBoard_41 : decode cX6_layBoard 41 = .ok (.getfield 36, 3) := by decide +kernel
theorem dX6_layBoard_44 : decode cX6_layBoard 44 = .ok (.iload_n 1, 1) := by decide +kernel
theorem dX6_layBoard_45 : decode cX6_layBoard 45 = .ok (.iload_n 2, 1) := by decide +kernel
theorem dX6_layBoard_46 : decode cX6_layBoard 46 = .ok (.invokevirtual 107, 3) := by decide +kernel
theorem dX6_layBoard_49 : decode cX6_layBoard 49 = .ok (.pop, 1) := by decide +kernel
theorem dX6_layBoard_50 : decode cX6_layBoard 50 = .ok (.iinc 2 1, 3) := by decide +kernel
theorem dX6_layBoard_53 : decode cX6_layBoard 53 = .ok (.goto (-32), 3) := by decide +kernel
theorem dX6_layBoard_56 : decode cX6_layBoard 56 = .ok (.iinc 1 1, 3) := by decide +kernel
theorem dX6_layBoard_59 : decode cX6_layBoard 59 = .ok (.goto (-48), 3) := by decide +kernel
theorem dX6_layBoard_62 : decode cX6_layBoard 62 = .ok (.return_, 1) := by decide +kernel
theorem dX7_init_0 : decode cX7_init 0 = .ok (.aload_n 0, 1) := by decide +kernel
theorem dX7_init_1 : decode cX7_init 1 = .ok (.invokespecial 1, 3) := by decide +kernel
theorem dX7_init_4 : decode cX7_init 4 = .ok (.aload_n 0, 1) := by decide +kernel
theorem dX7_init_5 : decode cX7_init 5 = .ok (.new 7, 3) := by decide +kernel
theorem dX7_init_8 : decode cX7_init 8 = .ok (.dup, 1) := by decide +kernel
theorem dX7_init_9 : decode cX7_init 9 = .ok (.invokespecial 9, 3) := by decide +kernel
theorem dX7_init_12 : decode cX7_init 12 = .ok (.putfield 10, 3) := by decide +kernel
theorem dX7_init_15 : decode cX7_init 15 = .ok (.aload_n 0, 1) := by decide +kernel
theorem dX7_init_16 : decode cX7_init 16 = .ok (.new 16, 3) := by decide +kernel
theorem dX7_init_19 : decode cX7_init 19 = .ok (.dup, 1) := by decide +kernel
theorem dX7_init_20 : decode cX7_init 20 = .ok (.aload_n 0, 1) := by decide +kernel
theorem dX7_init_21 : decode cX7_init 21 = .ok (.getfield 10, 3) := by decide +kernel
theorem dX7_init_24 : decode cX7_init 24 = .ok (.iconst 0, 1) := by decide +kernel
theorem dX7_init_25 : decode cX7_init 25 = .ok (.invokespecial 18, 3) := by decide +kernel
theorem dX7_init_28 : decode cX7_init 28 = .ok (.putfield 21, 3) := by decide +kernel
theorem dX7_init_31 : decode cX7_init 31 = .ok (.aload_n 0, 1) := by decide +kernel
theorem dX7_init_32 : decode cX7_init 32 = .ok (.new 16, 3) := by decide +kernel
theorem dX7_init_35 : decode cX7_init 35 = .ok (.dup, 1) := by decide +kernel
theorem dX7_init_36 : decode cX7_init 36 = .ok (.aload_n 0, 1) := by decide +kernel
theorem dX7_init_37 : decode cX7_init 37 = .ok (.getfield 10, 3) := by decide +kernel
theorem dX7_init_40 : decode cX7_init 40 = .ok (.iconst 1, 1) := by decide +kernel
theorem dX7_init_41 : decode cX7_init 41 = .ok (.invokespecial 18, 3) := by decide +kernel
theorem dX7_init_44 : decode cX7_init 44 = .ok (.putfield 25, 3) := by decide +kernel
theorem dX7_init_47 : decode cX7_init 47 = .ok (.aload_n 0, 1) := by decide +kernel
theorem dX7_init_48 : decode cX7_init 48 = .ok (.new 16, 3) := by decide +kernel
theorem dX7_init_51 : decode cX7_init 51 = .ok (.dup, 1) := by decide +kernel
theorem dX7_init_52 : decode cX7_init 52 = .ok (.aload_n 0, 1) := by decide +kernel
theorem dX7_init_53 : decode cX7_init 53 = .ok (.getfield 10, 3) := by decide +kernel
theorem dX7_init_56 : decode cX7_init 56 = .ok (.iconst 0, 1) := by decide +kernel
theorem dX7_init_57 : decode cX7_init 57 = .ok (.invokespecial 18, 3) := by decide +kernel
theorem dX7_init_60 : decode cX7_init 60 = .ok (.putfield 28, 3) := by decide +kernel
theorem dX7_init_63 : decode cX7_init 63 = .ok (.aload_n 0, 1) := by decide +kernel
theorem dX7_init_64 : decode cX7_init 64 = .ok (.new 31, 3) := by decide +kernel
theorem dX7_init_67 : decode cX7_init 67 = .ok (.dup, 1) := by decide +kernel
theorem dX7_init_68 : decode cX7_init 68 = .ok (.aload_n 0, 1) := by decide +kernel
theorem dX7_init_69 : decode cX7_init 69 = .ok (.getfield 10, 3) := by decide +kernel
theorem dX7_init_72 : decode cX7_init 72 = .ok (.aload_n 0, 1) := by decide +kernel
theorem dX7_init_73 : decode cX7_init 73 = .ok (.getfield 21, 3) := by decide +kernel
theorem dX7_init_76 : decode cX7_init 76 = .ok (.invokespecial 33, 3) := by decide +kernel
theorem dX7_init_79 : decode cX7_init 79 = .ok (.putfield 36, 3) := by decide +kernel
theorem dX7_init_82 : decode cX7_init 82 = .ok (.aload_n 0, 1) := by decide +kernel
theorem dX7_init_83 : decode cX7_init 83 = .ok (.new 40, 3) := by decide +kernel
theorem dX7_init_86 : decode cX7_init 86 = .ok (.dup, 1) := by decide +kernel
theorem dX7_init_87 : decode cX7_init 87 = .ok (.aload_n 0, 1) := by decide +kernel
theorem dX7_init_88 : decode cX7_init 88 = .ok (.getfield 10, 3) := by decide +kernel
theorem dX7_init_91 : decode cX7_init 91 = .ok (.aload_n 0, 1) := by decide +kernel
theorem dX7_init_92 : decode cX7_init 92 = .ok (.getfield 21, 3) := by decide +kernel
theorem dX7_init_95 : decode cX7_init 95 = .ok (.invokespecial 42, 3) := by decide +kernel
theorem dX7_init_98 : decode cX7_init 98 = .ok (.putfield 43, 3) := by decide +kernel
theorem dX7_init_101 : decode cX7_init 101 = .ok (.new 47, 3) := by decide +kernel
theorem dX7_init_104 : decode cX7_init 104 = .ok (.dup, 1) := by decide +kernel
theorem dX7_init_105 : decode cX7_init 105 = .ok (.invokespecial 49, 3) := by decide +kernel
theorem dX7_init_108 : decode cX7_init 108 = .ok (.astore_n 1, 1) := by decide +kernel
theorem dX7_init_109 : decode cX7_init 109 = .ok (.aload_n 0, 1) := by decide +kernel
theorem dX7_init_110 : decode cX7_init 110 = .ok (.new 50, 3) := by decide +kernel
theorem dX7_init_113 : decode cX7_init 113 = .ok (.dup, 1) := by decide +kernel
theorem dX7_init_114 : decode cX7_init 114 = .ok (.aload_n 0, 1) := by decide +kernel
theorem dX7_init_115 : decode cX7_init 115 = .ok (.getfield 10, 3) := by decide +kernel
theorem dX7_init_118 : decode cX7_init 118 = .ok (.aload_n 0, 1) := by decide +kernel
theorem dX7_init_119 : decode cX7_init 119 = .ok (.getfield 21, 3) := by decide +kernel
theorem dX7_init_122 : decode cX7_init 122 = .ok (.aload_n 1, 1) := by decide +kernel
theorem dX7_init_123 : decode cX7_init 123 = .ok (.invokespecial 52, 3) := by decide +kernel
theorem dX7_init_126 : decode cX7_init 126 = .ok (.putfield 55, 3) := by decide +kernel
theorem dX7_init_129 : decode cX7_init 129 = .ok (.aload_n 0, 1) := by decide +kernel
theorem dX7_init_130 : decode cX7_init 130 = .ok (.new 59, 3) := by decide +kernel
theorem dX7_init_133 : decode cX7_init 133 = .ok (.dup, 1) := by decide +kernel
theorem dX7_init_134 : decode cX7_init 134 = .ok (.aload_n 0, 1) := by decide +kernel
theorem dX7_init_135 : decode cX7_init 135 = .ok (.getfield 10, 3) := by decide +kernel
theorem dX7_init_138 : decode cX7_init 138 = .ok (.aload_n 0, 1) := by decide +kernel
theorem dX7_init_139 : decode cX7_init 139 = .ok (.getfield 21, 3) := by decide +kernel
theorem dX7_init_142 : decode cX7_init 142 = .ok (.aload_n 1, 1) := by decide +kernel
theorem dX7_init_143 : decode cX7_init 143 = .ok (.invokespecial 61, 3) := by decide +kernel
theorem dX7_init_146 : decode cX7_init 146 = .ok (.putfield 62, 3) := by decide +kernel
theorem dX7_init_149 : decode cX7_init 149 = .ok (.aload_n 0, 1) := by decide +kernel
theorem dX7_init_150 : decode cX7_init 150 = .ok (.bipush 6, 2) := by decide +kernel
theorem dX7_init_152 : decode cX7_init 152 = .ok (.newarray .int, 2) := by decide +kernel
theorem dX7_init_154 : decode cX7_init 154 = .ok (.putfield 66, 3) := by decide +kernel
theorem dX7_init_157 : decode cX7_init 157 = .ok (.return_, 1) := by decide +kernel
theorem dX7_joint_0 : decode cX7_joint 0 = .ok (.aload_n 0, 1) := by decide +kernel
theorem dX7_joint_1 : decode cX7_joint 1 = .ok (.getfield 10, 3) := by decide +kernel
theorem dX7_joint_4 : decode cX7_joint 4 = .ok (.getfield 70, 3) := by decide +kernel
theorem dX7_joint_7 : decode cX7_joint 7 = .ok (.bipush 24, 2) := by decide +kernel
theorem dX7_joint_9 : decode cX7_joint 9 = .ok (.if_icmp .lt 12, 3) := by decide +kernel
theorem dX7_joint_12 : decode cX7_joint 12 = .ok (.aload_n 0, 1) := by decide +kernel
theorem dX7_joint_13 : decode cX7_joint 13 = .ok (.bipush (-6), 2) := by decide +kernel
theorem dX7_joint_15 : decode cX7_joint 15 = .ok (.invokevirtual 74, 3) := by decide +kernel
theorem dX7_joint_18 : decode cX7_joint 18 = .ok (.goto 10, 3) := by decide +kernel
theorem dX7_joint_21 : decode cX7_joint 21 = .ok (.aload_n 0, 1) := by decide +kernel
theorem dX7_joint_22 : decode cX7_joint 22 = .ok (.getfield 10, 3) := by decide +kernel
theorem dX7_joint_25 : decode cX7_joint 25 = .ok (.invokevirtual 78, 3) := by decide +kernel
theorem dX7_joint_28 : decode cX7_joint 28 = .ok (.ireturn, 1) := by decide +kernel
theorem dX7_bar_0 : decode cX7_bar 0 = .ok (.aload_n 0, 1) := by decide +kernel
theorem dX7_bar_1 : decode cX7_bar 1 = .ok (.iload_n 1, 1) := by decide +kernel
theorem dX7_bar_2 : decode cX7_bar 2 = .ok (.iload_n 2, 1) := by decide +kernel
theorem dX7_bar_3 : decode cX7_bar 3 = .ok (.invokevirtual 82, 3) := by decide +kernel
theorem dX7_bar_6 : decode cX7_bar 6 = .ok (.ifCond .eq 9, 3) := by decide +kernel
theorem dX7_bar_9 : decode cX7_bar 9 = .ok (.aload_n 0, 1) := by decide +kernel
theorem dX7_bar_10 : decode cX7_bar 10 = .ok (.iconst (-1), 1) := by decide +kernel
theorem dX7_bar_11 : decode cX7_bar 11 = .ok (.invokevirtual 74, 3) := by decide +kernel
theorem dX7_bar_14 : decode cX7_bar 14 = .ok (.ireturn, 1) := by decide +kernel
theorem dX7_bar_15 : decode cX7_bar 15 = .ok (.aload_n 0, 1) := by decide +kernel
theorem dX7_bar_16 : decode cX7_bar 16 = .ok (.getfield 10, 3) := by decide +kernel
theorem dX7_bar_19 : decode cX7_bar 19 = .ok (.iload_n 1, 1) := by decide +kernel
theorem dX7_bar_20 : decode cX7_bar 20 = .ok (.iload_n 2, 1) := by decide +kernel
theorem dX7_bar_21 : decode cX7_bar 21 = .ok (.invokevirtual 86, 3) := by decide +kernel
theorem dX7_bar_24 : decode cX7_bar 24 = .ok (.ifCond .eq 10, 3) := by decide +kernel
theorem dX7_bar_27 : decode cX7_bar 27 = .ok (.aload_n 0, 1) := by decide +kernel
theorem dX7_bar_28 : decode cX7_bar 28 = .ok (.bipush (-3), 2) := by decide +kernel
theorem dX7_bar_30 : decode cX7_bar 30 = .ok (.invokevirtual 74, 3) := by decide +kernel
theorem dX7_bar_33 : decode cX7_bar 33 = .ok (.ireturn, 1) := by decide +kernel
theorem dX7_bar_34 : decode cX7_bar 34 = .ok (.iload_n 3, 1) := by decide +kernel
theorem dX7_bar_35 : decode cX7_bar 35 = .ok (.ifCond .ge 10, 3) := by decide +kernel
theorem dX7_bar_38 : decode cX7_bar 38 = .ok (.aload_n 0, 1) := by decide +kernel
theorem dX7_bar_39 : decode cX7_bar 39 = .ok (.bipush (-4), 2) := by decide +kernel
theorem dX7_bar_41 : decode cX7_bar 41 = .ok (.invokevirtual 74, 3) := by decide +kernel
theorem dX7_bar_44 : decode cX7_bar 44 = .ok (.ireturn, 1) := by decide +kernel
theorem dX7_bar_45 : decode cX7_bar 45 = .ok (.iload_n 3, 1) := by decide +kernel
theorem dX7_bar_46 : decode cX7_bar 46 = .ok (.sipush 999, 3) := by decide +kernel
theorem dX7_bar_49 : decode cX7_bar 49 = .ok (.if_icmp .gt 15, 3) := by decide +kernel
theorem dX7_bar_52 : decode cX7_bar 52 = .ok (.aload_n 0, 1) := by decide +kernel
theorem dX7_bar_53 : decode cX7_bar 53 = .ok (.getfield 10, 3) := by decide +kernel
theorem dX7_bar_56 : decode cX7_bar 56 = .ok (.getfield 89, 3) := by decide +kernel
theorem dX7_bar_59 : decode cX7_bar 59 = .ok (.bipush 80, 2) := by decide +kernel
theorem dX7_bar_61 : decode cX7_bar 61 = .ok (.if_icmp .lt 10, 3) := by decide +kernel
theorem dX7_bar_64 : decode cX7_bar 64 = .ok (.aload_n 0, 1) := by decide +kernel
theorem dX7_bar_65 : decode cX7_bar 65 = .ok (.bipush (-6), 2) := by decide +kernel
theorem dX7_bar_67 : decode cX7_bar 67 = .ok (.invokevirtual 74, 3) := by decide +kernel
theorem dX7_bar_70 : decode cX7_bar 70 = .ok (.ireturn, 1) := by decide +kernel
theorem dX7_bar_71 : decode cX7_bar 71 = .ok (.aload_n 0, 1) := by decide +kernel
theorem dX7_bar_72 : decode cX7_bar 72 = .ok (.getfield 10, 3) := by decide +kernel
theorem dX7_bar_75 : decode cX7_bar 75 = .ok (.iload_n 1, 1) := by decide +kernel
theorem dX7_bar_76 : decode cX7_bar 76 = .ok (.iload_n 2, 1) := by decide +kernel
theorem dX7_bar_77 : decode cX7_bar 77 = .ok (.invokestatic 92, 3) := by decide +kernel
theorem dX7_bar_80 : decode cX7_bar 80 = .ok (.iload_n 1, 1) := by decide +kernel
theorem dX7_bar_81 : decode cX7_bar 81 = .ok (.iload_n 2, 1) := by decide +kernel
theorem dX7_bar_82 : decode cX7_bar 82 = .ok (.invokestatic 98, 3) := by decide +kernel
theorem dX7_bar_85 : decode cX7_bar 85 = .ok (.iload_n 3, 1) := by decide +kernel
theorem dX7_bar_86 : decode cX7_bar 86 = .ok (.invokevirtual 101, 3) := by decide +kernel
theorem dX7_bar_89 : decode cX7_bar 89 = .ok (.ireturn, 1) := by decide +kernel
theorem dX7_cut_0 : decode cX7_cut 0 = .ok (.aload_n 0, 1) := by decide +kernel
theorem dX7_cut_1 : decode cX7_cut 1 = .ok (.iload_n 1, 1) := by decide +kernel
theorem dX7_cut_2 : decode cX7_cut 2 = .ok (.invokevirtual 105, 3) := by decide +kernel
theorem dX7_cut_5 : decode cX7_cut 5 = .ok (.ifCond .eq 9, 3) := by decide +kernel
theorem dX7_cut_8 : decode cX7_cut 8 = .ok (.aload_n 0, 1) := by decide +kernel
theorem dX7_cut_9 : decode cX7_cut 9 = .ok (.iconst (-1), 1) := by decide +kernel
theorem dX7_cut_10 : decode cX7_cut 10 = .ok (.invokevirtual 74, 3) := by decide +kernel
theorem dX7_cut_13 : decode cX7_cut 13 = .ok (.ireturn, 1) := by decide +kernel
theorem dX7_cut_14 : decode cX7_cut 14 = .ok (.aload_n 0, 1) := by decide +kernel
theorem dX7_cut_15 : decode cX7_cut 15 = .ok (.getfield 10, 3) := by decide +kernel
theorem dX7_cut_18 : decode cX7_cut 18 = .ok (.iload_n 1, 1) := by decide +kernel
theorem dX7_cut_19 : decode cX7_cut 19 = .ok (.iload_n 2, 1) := by decide +kernel
theorem dX7_cut_20 : decode cX7_cut 20 = .ok (.ifCond .ne 7, 3) := by decide +kernel
theorem dX7_cut_23 : decode cX7_cut 23 = .ok (.iconst 1, 1) := by decide +kernel
theorem dX7_cut_24 : decode cX7_cut 24 = .ok (.goto 4, 3) := by decide +kernel
theorem dX7_cut_27 : decode cX7_cut 27 = .ok (.iconst 0, 1) := by decide +kernel
theorem dX7_cut_28 : decode cX7_cut 28 = .ok (.invokevirtual 109, 3) := by decide +kernel
theorem dX7_cut_31 : decode cX7_cut 31 = .ok (.ifCond .eq 7, 3) := by decide +kernel
theorem dX7_cut_34 : decode cX7_cut 34 = .ok (.iconst 1, 1) := by decide +kernel
theorem dX7_cut_35 : decode cX7_cut 35 = .ok (.goto 4, 3) := by decide +kernel
