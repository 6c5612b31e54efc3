theorem dX7_cut_38 : decode cX7_cut 38 = .ok (.iconst 0, 1) := by decide +kernel
theorem dX7_cut_39 : decode cX7_cut 39 = .ok (.ireturn, 1) := by decide +kernel
theorem dX7_cost_0 : decode cX7_cost 0 = .ok (.aload_n 0, 1) := by decide +kernel
theorem dX7_cost_1 : decode cX7_cost 1 = .ok (.iload_n 1, 1) := by decide +kernel
theorem dX7_cost_2 : decode cX7_cost 2 = .ok (.invokevirtual 105, 3) := by decide +kernel
theorem dX7_cost_5 : decode cX7_cost 5 = .ok (.ifCond .eq 9, 3) := by decide +kernel
theorem dX7_cost_8 : decode cX7_cost 8 = .ok (.aload_n 0, 1) := by decide +kernel
theorem dX7_cost_9 : decode cX7_cost 9 = .ok (.iconst (-1), 1) := by decide +kernel
theorem dX7_cost_10 : decode cX7_cost 10 = .ok (.invokevirtual 74, 3) := by decide +kernel
theorem dX7_cost_13 : decode cX7_cost 13 = .ok (.ireturn, 1) := by decide +kernel
theorem dX7_cost_14 : decode cX7_cost 14 = .ok (.iload_n 2, 1) := by decide +kernel
theorem dX7_cost_15 : decode cX7_cost 15 = .ok (.ifCond .ge 10, 3) := by decide +kernel
theorem dX7_cost_18 : decode cX7_cost 18 = .ok (.aload_n 0, 1) := by decide +kernel
theorem dX7_cost_19 : decode cX7_cost 19 = .ok (.bipush (-4), 2) := by decide +kernel
theorem dX7_cost_21 : decode cX7_cost 21 = .ok (.invokevirtual 74, 3) := by decide +kernel
theorem dX7_cost_24 : decode cX7_cost 24 = .ok (.ireturn, 1) := by decide +kernel
theorem dX7_cost_25 : decode cX7_cost 25 = .ok (.iload_n 2, 1) := by decide +kernel
theorem dX7_cost_26 : decode cX7_cost 26 = .ok (.sipush 999, 3) := by decide +kernel
theorem dX7_cost_29 : decode cX7_cost 29 = .ok (.if_icmp .le 10, 3) := by decide +kernel
theorem dX7_cost_32 : decode cX7_cost 32 = .ok (.aload_n 0, 1) := by decide +kernel
theorem dX7_cost_33 : decode cX7_cost 33 = .ok (.bipush (-6), 2) := by decide +kernel
theorem dX7_cost_35 : decode cX7_cost 35 = .ok (.invokevirtual 74, 3) := by decide +kernel
theorem dX7_cost_38 : decode cX7_cost 38 = .ok (.ireturn, 1) := by decide +kernel
theorem dX7_cost_39 : decode cX7_cost 39 = .ok (.aload_n 0, 1) := by decide +kernel
theorem dX7_cost_40 : decode cX7_cost 40 = .ok (.getfield 10, 3) := by decide +kernel
theorem dX7_cost_43 : decode cX7_cost 43 = .ok (.iload_n 1, 1) := by decide +kernel
theorem dX7_cost_44 : decode cX7_cost 44 = .ok (.iload_n 2, 1) := by decide +kernel
theorem dX7_cost_45 : decode cX7_cost 45 = .ok (.invokevirtual 113, 3) := by decide +kernel
theorem dX7_cost_48 : decode cX7_cost 48 = .ok (.ireturn, 1) := by decide +kernel
theorem dX7_rank_0 : decode cX7_rank 0 = .ok (.aload_n 0, 1) := by decide +kernel
theorem dX7_rank_1 : decode cX7_rank 1 = .ok (.getfield 21, 3) := by decide +kernel
theorem dX7_rank_4 : decode cX7_rank 4 = .ok (.iconst 2, 1) := by decide +kernel
theorem dX7_rank_5 : decode cX7_rank 5 = .ok (.iconst 3, 1) := by decide +kernel
theorem dX7_rank_6 : decode cX7_rank 6 = .ok (.invokevirtual 116, 3) := by decide +kernel
theorem dX7_rank_9 : decode cX7_rank 9 = .ok (.aload_n 0, 1) := by decide +kernel
theorem dX7_rank_10 : decode cX7_rank 10 = .ok (.getfield 21, 3) := by decide +kernel
theorem dX7_rank_13 : decode cX7_rank 13 = .ok (.getfield 120, 3) := by decide +kernel
theorem dX7_rank_16 : decode cX7_rank 16 = .ok (.ireturn, 1) := by decide +kernel
theorem dX7_freedom_0 : decode cX7_freedom 0 = .ok (.aload_n 0, 1) := by decide +kernel
theorem dX7_freedom_1 : decode cX7_freedom 1 = .ok (.getfield 21, 3) := by decide +kernel
theorem dX7_freedom_4 : decode cX7_freedom 4 = .ok (.iconst 2, 1) := by decide +kernel
theorem dX7_freedom_5 : decode cX7_freedom 5 = .ok (.iconst 3, 1) := by decide +kernel
theorem dX7_freedom_6 : decode cX7_freedom 6 = .ok (.invokevirtual 116, 3) := by decide +kernel
theorem dX7_freedom_9 : decode cX7_freedom 9 = .ok (.iconst 2, 1) := by decide +kernel
theorem dX7_freedom_10 : decode cX7_freedom 10 = .ok (.aload_n 0, 1) := by decide +kernel
theorem dX7_freedom_11 : decode cX7_freedom 11 = .ok (.getfield 10, 3) := by decide +kernel
theorem dX7_freedom_14 : decode cX7_freedom 14 = .ok (.getfield 70, 3) := by decide +kernel
theorem dX7_freedom_17 : decode cX7_freedom 17 = .ok (.imul, 1) := by decide +kernel
theorem dX7_freedom_18 : decode cX7_freedom 18 = .ok (.aload_n 0, 1) := by decide +kernel
theorem dX7_freedom_19 : decode cX7_freedom 19 = .ok (.getfield 21, 3) := by decide +kernel
theorem dX7_freedom_22 : decode cX7_freedom 22 = .ok (.getfield 120, 3) := by decide +kernel
theorem dX7_freedom_25 : decode cX7_freedom 25 = .ok (.isub, 1) := by decide +kernel
theorem dX7_freedom_26 : decode cX7_freedom 26 = .ok (.ireturn, 1) := by decide +kernel
theorem dX7_stiff_0 : decode cX7_stiff 0 = .ok (.aload_n 0, 1) := by decide +kernel
theorem dX7_stiff_1 : decode cX7_stiff 1 = .ok (.getfield 21, 3) := by decide +kernel
theorem dX7_stiff_4 : decode cX7_stiff 4 = .ok (.iconst 2, 1) := by decide +kernel
theorem dX7_stiff_5 : decode cX7_stiff 5 = .ok (.iconst 3, 1) := by decide +kernel
theorem dX7_stiff_6 : decode cX7_stiff 6 = .ok (.invokevirtual 116, 3) := by decide +kernel
theorem dX7_stiff_9 : decode cX7_stiff 9 = .ok (.aload_n 0, 1) := by decide +kernel
theorem dX7_stiff_10 : decode cX7_stiff 10 = .ok (.getfield 10, 3) := by decide +kernel
theorem dX7_stiff_13 : decode cX7_stiff 13 = .ok (.getfield 70, 3) := by decide +kernel
theorem dX7_stiff_16 : decode cX7_stiff 16 = .ok (.ifCond .eq 24, 3) := by decide +kernel
theorem dX7_stiff_19 : decode cX7_stiff 19 = .ok (.iconst 2, 1) := by decide +kernel
theorem dX7_stiff_20 : decode cX7_stiff 20 = .ok (.aload_n 0, 1) := by decide +kernel
theorem dX7_stiff_21 : decode cX7_stiff 21 = .ok (.getfield 10, 3) := by decide +kernel
theorem dX7_stiff_24 : decode cX7_stiff 24 = .ok (.getfield 70, 3) := by decide +kernel
theorem dX7_stiff_27 : decode cX7_stiff 27 = .ok (.imul, 1) := by decide +kernel
theorem dX7_stiff_28 : decode cX7_stiff 28 = .ok (.aload_n 0, 1) := by decide +kernel
theorem dX7_stiff_29 : decode cX7_stiff 29 = .ok (.getfield 21, 3) := by decide +kernel
theorem dX7_stiff_32 : decode cX7_stiff 32 = .ok (.getfield 120, 3) := by decide +kernel
theorem dX7_stiff_35 : decode cX7_stiff 35 = .ok (.isub, 1) := by decide +kernel
theorem dX7_stiff_36 : decode cX7_stiff 36 = .ok (.iconst 3, 1) := by decide +kernel
theorem dX7_stiff_37 : decode cX7_stiff 37 = .ok (.if_icmp .le 5, 3) := by decide +kernel
theorem dX7_stiff_40 : decode cX7_stiff 40 = .ok (.iconst 0, 1) := by decide +kernel
theorem dX7_stiff_41 : decode cX7_stiff 41 = .ok (.ireturn, 1) := by decide +kernel
theorem dX7_stiff_42 : decode cX7_stiff 42 = .ok (.aload_n 0, 1) := by decide +kernel
theorem dX7_stiff_43 : decode cX7_stiff 43 = .ok (.getfield 21, 3) := by decide +kernel
theorem dX7_stiff_46 : decode cX7_stiff 46 = .ok (.invokevirtual 123, 3) := by decide +kernel
theorem dX7_stiff_49 : decode cX7_stiff 49 = .ok (.aload_n 0, 1) := by decide +kernel
theorem dX7_stiff_50 : decode cX7_stiff 50 = .ok (.getfield 10, 3) := by decide +kernel
theorem dX7_stiff_53 : decode cX7_stiff 53 = .ok (.getfield 126, 3) := by decide +kernel
theorem dX7_stiff_56 : decode cX7_stiff 56 = .ok (.if_icmp .ne 7, 3) := by decide +kernel
theorem dX7_stiff_59 : decode cX7_stiff 59 = .ok (.iconst 2, 1) := by decide +kernel
theorem dX7_stiff_60 : decode cX7_stiff 60 = .ok (.goto 4, 3) := by decide +kernel
theorem dX7_stiff_63 : decode cX7_stiff 63 = .ok (.iconst 1, 1) := by decide +kernel
theorem dX7_stiff_64 : decode cX7_stiff 64 = .ok (.ireturn, 1) := by decide +kernel
theorem dX7_kept_0 : decode cX7_kept 0 = .ok (.aload_n 0, 1) := by decide +kernel
theorem dX7_kept_1 : decode cX7_kept 1 = .ok (.iload_n 1, 1) := by decide +kernel
theorem dX7_kept_2 : decode cX7_kept 2 = .ok (.invokevirtual 105, 3) := by decide +kernel
theorem dX7_kept_5 : decode cX7_kept 5 = .ok (.ifCond .eq 9, 3) := by decide +kernel
theorem dX7_kept_8 : decode cX7_kept 8 = .ok (.aload_n 0, 1) := by decide +kernel
theorem dX7_kept_9 : decode cX7_kept 9 = .ok (.iconst (-1), 1) := by decide +kernel
theorem dX7_kept_10 : decode cX7_kept 10 = .ok (.invokevirtual 74, 3) := by decide +kernel
theorem dX7_kept_13 : decode cX7_kept 13 = .ok (.ireturn, 1) := by decide +kernel
theorem dX7_kept_14 : decode cX7_kept 14 = .ok (.aload_n 0, 1) := by decide +kernel
theorem dX7_kept_15 : decode cX7_kept 15 = .ok (.getfield 21, 3) := by decide +kernel
theorem dX7_kept_18 : decode cX7_kept 18 = .ok (.iconst 2, 1) := by decide +kernel
theorem dX7_kept_19 : decode cX7_kept 19 = .ok (.iconst 3, 1) := by decide +kernel
theorem dX7_kept_20 : decode cX7_kept 20 = .ok (.invokevirtual 116, 3) := by decide +kernel
theorem dX7_kept_23 : decode cX7_kept 23 = .ok (.aload_n 0, 1) := by decide +kernel
theorem dX7_kept_24 : decode cX7_kept 24 = .ok (.aload_n 0, 1) := by decide +kernel
theorem dX7_kept_25 : decode cX7_kept 25 = .ok (.getfield 21, 3) := by decide +kernel
theorem dX7_kept_28 : decode cX7_kept 28 = .ok (.iload_n 1, 1) := by decide +kernel
theorem dX7_kept_29 : decode cX7_kept 29 = .ok (.invokevirtual 129, 3) := by decide +kernel
theorem dX7_kept_32 : decode cX7_kept 32 = .ok (.ireturn, 1) := by decide +kernel
theorem dX7_spare_0 : decode cX7_spare 0 = .ok (.aload_n 0, 1) := by decide +kernel
theorem dX7_spare_1 : decode cX7_spare 1 = .ok (.iload_n 1, 1) := by decide +kernel
theorem dX7_spare_2 : decode cX7_spare 2 = .ok (.invokevirtual 105, 3) := by decide +kernel
theorem dX7_spare_5 : decode cX7_spare 5 = .ok (.ifCond .eq 9, 3) := by decide +kernel
theorem dX7_spare_8 : decode cX7_spare 8 = .ok (.aload_n 0, 1) := by decide +kernel
theorem dX7_spare_9 : decode cX7_spare 9 = .ok (.iconst (-1), 1) := by decide +kernel
theorem dX7_spare_10 : decode cX7_spare 10 = .ok (.invokevirtual 74, 3) := by decide +kernel
theorem dX7_spare_13 : decode cX7_spare 13 = .ok (.ireturn, 1) := by decide +kernel
theorem dX7_spare_14 : decode cX7_spare 14 = .ok (.aload_n 0, 1) := by decide +kernel
theorem dX7_spare_15 : decode cX7_spare 15 = .ok (.getfield 10, 3) := by decide +kernel
theorem dX7_spare_18 : decode cX7_spare 18 = .ok (.getfield 133, 3) := by decide +kernel
theorem dX7_spare_21 : decode cX7_spare 21 = .ok (.iload_n 1, 1) := by decide +kernel
theorem dX7_spare_22 : decode cX7_spare 22 = .ok (.baload, 1) := by decide +kernel
theorem dX7_spare_23 : decode cX7_spare 23 = .ok (.ifCond .ne 6, 3) := by decide +kernel
theorem dX7_spare_26 : decode cX7_spare 26 = .ok (.bipush (-9), 2) := by decide +kernel
theorem dX7_spare_28 : decode cX7_spare 28 = .ok (.ireturn, 1) := by decide +kernel
theorem dX7_spare_29 : decode cX7_spare 29 = .ok (.aload_n 0, 1) := by decide +kernel
theorem dX7_spare_30 : decode cX7_spare 30 = .ok (.getfield 21, 3) := by decide +kernel
theorem dX7_spare_33 : decode cX7_spare 33 = .ok (.iconst 2, 1) := by decide +kernel
theorem dX7_spare_34 : decode cX7_spare 34 = .ok (.iconst 3, 1) := by decide +kernel
theorem dX7_spare_35 : decode cX7_spare 35 = .ok (.invokevirtual 116, 3) := by decide +kernel
theorem dX7_spare_38 : decode cX7_spare 38 = .ok (.aload_n 0, 1) := by decide +kernel
theorem dX7_spare_39 : decode cX7_spare 39 = .ok (.getfield 21, 3) := by decide +kernel
theorem dX7_spare_42 : decode cX7_spare 42 = .ok (.iload_n 1, 1) := by decide +kernel
theorem dX7_spare_43 : decode cX7_spare 43 = .ok (.invokevirtual 137, 3) := by decide +kernel
theorem dX7_spare_46 : decode cX7_spare 46 = .ok (.ifCond .eq 7, 3) := by decide +kernel
theorem dX7_spare_49 : decode cX7_spare 49 = .ok (.iconst 1, 1) := by decide +kernel
theorem dX7_spare_50 : decode cX7_spare 50 = .ok (.goto 4, 3) := by decide +kernel
theorem dX7_spare_53 : decode cX7_spare 53 = .ok (.iconst 0, 1) := by decide +kernel
theorem dX7_spare_54 : decode cX7_spare 54 = .ok (.ireturn, 1) := by decide +kernel
theorem dX7_circuit_0 : decode cX7_circuit 0 = .ok (.aload_n 0, 1) := by decide +kernel
theorem dX7_circuit_1 : decode cX7_circuit 1 = .ok (.iload_n 1, 1) := by decide +kernel
theorem dX7_circuit_2 : decode cX7_circuit 2 = .ok (.invokevirtual 105, 3) := by decide +kernel
theorem dX7_circuit_5 : decode cX7_circuit 5 = .ok (.ifCond .eq 9, 3) := by decide +kernel
theorem dX7_circuit_8 : decode cX7_circuit 8 = .ok (.aload_n 0, 1) := by decide +kernel
theorem dX7_circuit_9 : decode cX7_circuit 9 = .ok (.iconst (-1), 1) := by decide +kernel
theorem dX7_circuit_10 : decode cX7_circuit 10 = .ok (.invokevirtual 74, 3) := by decide +kernel
theorem dX7_circuit_13 : decode cX7_circuit 13 = .ok (.ireturn, 1) := by decide +kernel
theorem dX7_circuit_14 : decode cX7_circuit 14 = .ok (.aload_n 0, 1) := by decide +kernel
theorem dX7_circuit_15 : decode cX7_circuit 15 = .ok (.getfield 21, 3) := by decide +kernel
theorem dX7_circuit_18 : decode cX7_circuit 18 = .ok (.iconst 2, 1) := by decide +kernel
theorem dX7_circuit_19 : decode cX7_circuit 19 = .ok (.iconst 3, 1) := by decide +kernel
theorem dX7_circuit_20 : decode cX7_circuit 20 = .ok (.invokevirtual 116, 3) := by decide +kernel
theorem dX7_circuit_23 : decode cX7_circuit 23 = .ok (.aload_n 0, 1) := by decide +kernel
theorem dX7_circuit_24 : decode cX7_circuit 24 = .ok (.getfield 21, 3) := by decide +kernel
theorem dX7_circuit_27 : decode cX7_circuit 27 = .ok (.iload_n 1, 1) := by decide +kernel
theorem dX7_circuit_28 : decode cX7_circuit 28 = .ok (.invokevirtual 140, 3) := by decide +kernel
theorem dX7_circuit_31 : decode cX7_circuit 31 = .ok (.ifCond .eq 14, 3) := by decide +kernel
theorem dX7_circuit_34 : decode cX7_circuit 34 = .ok (.aload_n 0, 1) := by decide +kernel
theorem dX7_circuit_35 : decode cX7_circuit 35 = .ok (.getfield 21, 3) := by decide +kernel
theorem dX7_circuit_38 : decode cX7_circuit 38 = .ok (.iload_n 1, 1) := by decide +kernel
theorem dX7_circuit_39 : decode cX7_circuit 39 = .ok (.invokevirtual 143, 3) := by decide +kernel
theorem dX7_circuit_42 : decode cX7_circuit 42 = .ok (.goto 9, 3) := by decide +kernel
theorem dX7_circuit_45 : decode cX7_circuit 45 = .ok (.aload_n 0, 1) := by decide +kernel
theorem dX7_circuit_46 : decode cX7_circuit 46 = .ok (.bipush (-3), 2) := by decide +kernel
theorem dX7_circuit_48 : decode cX7_circuit 48 = .ok (.invokevirtual 74, 3) := by decide +kernel
theorem dX7_circuit_51 : decode cX7_circuit 51 = .ok (.ireturn, 1) := by decide +kernel
theorem dX7_circuitBar_0 : decode cX7_circuitBar 0 = .ok (.aload_n 0, 1) := by decide +kernel
theorem dX7_circuitBar_1 : decode cX7_circuitBar 1 = .ok (.iload_n 1, 1) := by decide +kernel
theorem dX7_circuitBar_2 : decode cX7_circuitBar 2 = .ok (.invokevirtual 105, 3) := by decide +kernel
theorem dX7_circuitBar_5 : decode cX7_circuitBar 5 = .ok (.ifCond .eq 9, 3) := by decide +kernel
theorem dX7_circuitBar_8 : decode cX7_circuitBar 8 = .ok (.aload_n 0, 1) := by decide +kernel
theorem dX7_circuitBar_9 : decode cX7_circuitBar 9 = .ok (.iconst (-1), 1) := by decide +kernel
theorem dX7_circuitBar_10 : decode cX7_circuitBar 10 = .ok (.invokevirtual 74, 3) := by decide +kernel
theorem dX7_circuitBar_13 : decode cX7_circuitBar 13 = .ok (.ireturn, 1) := by decide +kernel
theorem dX7_circuitBar_14 : decode cX7_circuitBar 14 = .ok (.aload_n 0, 1) := by decide +kernel
theorem dX7_circuitBar_15 : decode cX7_circuitBar 15 = .ok (.getfield 21, 3) := by decide +kernel
theorem dX7_circuitBar_18 : decode cX7_circuitBar 18 = .ok (.iconst 2, 1) := by decide +kernel
theorem dX7_circuitBar_19 : decode cX7_circuitBar 19 = .ok (.iconst 3, 1) := by decide +kernel
theorem dX7_circuitBar_20 : decode cX7_circuitBar 20 = .ok (.invokevirtual 116, 3) := by decide +kernel
theorem dX7_circuitBar_23 : decode cX7_circuitBar 23 = .ok (.aload_n 0, 1) := by decide +kernel
theorem dX7_circuitBar_24 : decode cX7_circuitBar 24 = .ok (.getfield 21, 3) := by decide +kernel
theorem dX7_circuitBar_27 : decode cX7_circuitBar 27 = .ok (.iload_n 1, 1) := by decide +kernel
theorem dX7_circuitBar_28 : decode cX7_circuitBar 28 = .ok (.invokevirtual 140, 3) := by decide +kernel
theorem dX7_circuitBar_31 : decode cX7_circuitBar 31 = .ok (.ifCond .eq 15, 3) := by decide +kernel
theorem dX7_circuitBar_34 : decode cX7_circuitBar 34 = .ok (.aload_n 0, 1) := by decide +kernel
theorem dX7_circuitBar_35 : decode cX7_circuitBar 35 = .ok (.getfield 21, 3) := by decide +kernel
theorem dX7_circuitBar_38 : decode cX7_circuitBar 38 = .ok (.iload_n 1, 1) := by decide +kernel
theorem dX7_circuitBar_39 : decode cX7_circuitBar 39 = .ok (.iload_n 2, 1) := by decide +kernel
theorem dX7_circuitBar_40 : decode cX7_circuitBar 40 = .ok (.invokevirtual 146, 3) := by decide +kernel
theorem dX7_circuitBar_43 : decode cX7_circuitBar 43 = .ok (.goto 9, 3) := by decide +kernel
theorem dX7_circuitBar_46 : decode cX7_circuitBar 46 = .ok (.aload_n 0, 1) := by decide +kernel
theorem dX7_circuitBar_47 : decode cX7_circuitBar 47 = .ok (.bipush (-3), 2) := by decide +kernel
theorem dX7_circuitBar_49 : decode cX7_circuitBar 49 = .ok (.invokevirtual 74, 3) := by decide +kernel
theorem dX7_circuitBar_52 : decode cX7_circuitBar 52 = .ok (.ireturn, 1) := by decide +kernel
theorem dX7_grows_0 : decode cX7_grows 0 = .ok (.aload_n 0, 1) := by decide +kernel
theorem dX7_grows_1 : decode cX7_grows 1 = .ok (.iload_n 1, 1) := by decide +kernel
theorem dX7_grows_2 : decode cX7_grows 2 = .ok (.iload_n 2, 1) := by decide +kernel
theorem dX7_grows_3 : decode cX7_grows 3 = .ok (.invokevirtual 82, 3) := by decide +kernel
theorem dX7_grows_6 : decode cX7_grows 6 = .ok (.ifCond .eq 9, 3) := by decide +kernel
theorem dX7_grows_9 : decode cX7_grows 9 = .ok (.aload_n 0, 1) := by decide +kernel
theorem dX7_grows_10 : decode cX7_grows 10 = .ok (.iconst (-1), 1) := by decide +kernel
theorem dX7_grows_11 : decode cX7_grows 11 = .ok (.invokevirtual 74, 3) := by decide +kernel
theorem dX7_grows_14 : decode cX7_grows 14 = .ok (.ireturn, 1) := by decide +kernel
theorem dX7_grows_15 : decode cX7_grows 15 = .ok (.aload_n 0, 1) := by decide +kernel
theorem dX7_grows_16 : decode cX7_grows 16 = .ok (.getfield 21, 3) := by decide +kernel
theorem dX7_grows_19 : decode cX7_grows 19 = .ok (.iconst 2, 1) := by decide +kernel
theorem dX7_grows_20 : decode cX7_grows 20 = .ok (.iconst 3, 1) := by decide +kernel
theorem dX7_grows_21 : decode cX7_grows 21 = .ok (.invokevirtual 116, 3) := by decide +kernel
theorem dX7_grows_24 : decode cX7_grows 24 = .ok (.aload_n 0, 1) := by decide +kernel
theorem dX7_grows_25 : decode cX7_grows 25 = .ok (.getfield 21, 3) := by decide +kernel
theorem dX7_grows_28 : decode cX7_grows 28 = .ok (.getfield 149, 3) := by decide +kernel
theorem dX7_grows_31 : decode cX7_grows 31 = .ok (.iload_n 1, 1) := by decide +kernel
theorem dX7_grows_32 : decode cX7_grows 32 = .ok (.iload_n 2, 1) := by decide +kernel
theorem dX7_grows_33 : decode cX7_grows 33 = .ok (.invokevirtual 153, 3) := by decide +kernel
theorem dX7_grows_36 : decode cX7_grows 36 = .ok (.ifCond .eq 7, 3) := by decide +kernel
theorem dX7_grows_39 : decode cX7_grows 39 = .ok (.iconst 1, 1) := by decide +kernel
theorem dX7_grows_40 : decode cX7_grows 40 = .ok (.goto 4, 3) := by decide +kernel
theorem dX7_grows_43 : decode cX7_grows 43 = .ok (.iconst 0, 1) := by decide +kernel
theorem dX7_grows_44 : decode cX7_grows 44 = .ok (.ireturn, 1) := by decide +kernel
theorem dX7_clusters_0 : decode cX7_clusters 0 = .ok (.aload_n 0, 1) := by decide +kernel
theorem dX7_clusters_1 : decode cX7_clusters 1 = .ok (.getfield 36, 3) := by decide +kernel
theorem dX7_clusters_4 : decode cX7_clusters 4 = .ok (.invokevirtual 156, 3) := by decide +kernel
theorem dX7_clusters_7 : decode cX7_clusters 7 = .ok (.aload_n 0, 1) := by decide +kernel
theorem dX7_clusters_8 : decode cX7_clusters 8 = .ok (.getfield 36, 3) := by decide +kernel
theorem dX7_clusters_11 : decode cX7_clusters 11 = .ok (.getfield 159, 3) := by decide +kernel
theorem dX7_clusters_14 : decode cX7_clusters 14 = .ok (.ireturn, 1) := by decide +kernel
theorem dX7_size_0 : decode cX7_size 0 = .ok (.aload_n 0, 1) := by decide +kernel
theorem dX7_size_1 : decode cX7_size 1 = .ok (.getfield 36, 3) := by decide +kernel
theorem dX7_size_4 : decode cX7_size 4 = .ok (.invokevirtual 156, 3) := by decide +kernel
theorem dX7_size_7 : decode cX7_size 7 = .ok (.aload_n 0, 1) := by decide +kernel
theorem dX7_size_8 : decode cX7_size 8 = .ok (.iload_n 1, 1) := by decide +kernel
theorem dX7_size_9 : decode cX7_size 9 = .ok (.invokevirtual 160, 3) := by decide +kernel
theorem dX7_size_12 : decode cX7_size 12 = .ok (.ifCond .eq 11, 3) := by decide +kernel
theorem dX7_size_15 : decode cX7_size 15 = .ok (.aload_n 0, 1) := by decide +kernel
theorem dX7_size_16 : decode cX7_size 16 = .ok (.iconst (-1), 1) := by decide +kernel
theorem dX7_size_17 : decode cX7_size 17 = .ok (.invokevirtual 74, 3) := by decide +kernel
theorem dX7_size_20 : decode cX7_size 20 = .ok (.goto 15, 3) := by decide +kernel
theorem dX7_size_23 : decode cX7_size 23 = .ok (.aload_n 0, 1) := by decide +kernel
theorem dX7_size_24 : decode cX7_size 24 = .ok (.getfield 36, 3) := by decide +kernel
theorem dX7_size_27 : decode cX7_size 27 = .ok (.getfield 163, 3) := by decide +kernel
theorem dX7_size_30 : decode cX7_size 30 = .ok (.iload_n 1, 1) := by decide +kernel
theorem dX7_size_31 : decode cX7_size 31 = .ok (.iaload, 1) := by decide +kernel
theorem dX7_size_32 : decode cX7_size 32 = .ok (.invokestatic 165, 3) := by decide +kernel
theorem dX7_size_35 : decode cX7_size 35 = .ok (.ireturn, 1) := by decide +kernel
theorem dX7_member_0 : decode cX7_member 0 = .ok (.aload_n 0, 1) := by decide +kernel
theorem dX7_member_1 : decode cX7_member 1 = .ok (.getfield 36, 3) := by decide +kernel
theorem dX7_member_4 : decode cX7_member 4 = .ok (.invokevirtual 156, 3) := by decide +kernel
theorem dX7_member_7 : decode cX7_member 7 = .ok (.aload_n 0, 1) := by decide +kernel
theorem dX7_member_8 : decode cX7_member 8 = .ok (.iload_n 1, 1) := by decide +kernel
theorem dX7_member_9 : decode cX7_member 9 = .ok (.invokevirtual 160, 3) := by decide +kernel
theorem dX7_member_12 : decode cX7_member 12 = .ok (.ifCond .eq 11, 3) := by decide +kernel
theorem dX7_member_15 : decode cX7_member 15 = .ok (.aload_n 0, 1) := by decide +kernel
theorem dX7_member_16 : decode cX7_member 16 = .ok (.iconst (-1), 1) := by decide +kernel
theorem dX7_member_17 : decode cX7_member 17 = .ok (.invokevirtual 74, 3) := by decide +kernel
theorem dX7_member_20 : decode cX7_member 20 = .ok (.goto 16, 3) := by decide +kernel
theorem dX7_member_23 : decode cX7_member 23 = .ok (.aload_n 0, 1) := by decide +kernel
theorem dX7_member_24 : decode cX7_member 24 = .ok (.getfield 36, 3) := by decide +kernel
theorem dX7_member_27 : decode cX7_member 27 = .ok (.getfield 163, 3) := by decide +kernel
theorem dX7_member_30 : decode cX7_member 30 = .ok (.iload_n 1, 1) := by decide +kernel
theorem dX7_member_31 : decode cX7_member 31 = .ok (.iaload, 1) := by decide +kernel
theorem dX7_member_32 : decode cX7_member 32 = .ok (.iload_n 2, 1) := by decide +kernel
theorem dX7_member_33 : decode cX7_member 33 = .ok (.invokestatic 170, 3) := by decide +kernel
theorem dX7_member_36 : decode cX7_member 36 = .ok (.ireturn, 1) := by decide +kernel
theorem dX7_together_0 : decode cX7_together 0 = .ok (.aload_n 0, 1) := by decide +kernel
theorem dX7_together_1 : decode cX7_together 1 = .ok (.iload_n 1, 1) := by decide +kernel
theorem dX7_together_2 : decode cX7_together 2 = .ok (.iload_n 2, 1) := by decide +kernel
theorem dX7_together_3 : decode cX7_together 3 = .ok (.invokevirtual 82, 3) := by decide +kernel
theorem dX7_together_6 : decode cX7_together 6 = .ok (.ifCond .eq 9, 3) := by decide +kernel
theorem dX7_together_9 : decode cX7_together 9 = .ok (.aload_n 0, 1) := by decide +kernel
theorem dX7_together_10 : decode cX7_together 10 = .ok (.iconst (-1), 1) := by decide +kernel
theorem dX7_together_11 : decode cX7_together 11 = .ok (.invokevirtual 74, 3) := by decide +kernel
theorem dX7_together_14 : decode cX7_together 14 = .ok (.ireturn, 1) := by decide +kernel
theorem dX7_together_15 : decode cX7_together 15 = .ok (.aload_n 0, 1) := by decide +kernel
theorem dX7_together_16 : decode cX7_together 16 = .ok (.getfield 36, 3) := by decide +kernel
theorem dX7_together_19 : decode cX7_together 19 = .ok (.invokevirtual 156, 3) := by decide +kernel
theorem dX7_together_22 : decode cX7_together 22 = .ok (.aload_n 0, 1) := by decide +kernel
theorem dX7_together_23 : decode cX7_together 23 = .ok (.getfield 36, 3) := by decide +kernel
theorem dX7_together_26 : decode cX7_together 26 = .ok (.iload_n 1, 1) := by decide +kernel
theorem dX7_together_27 : decode cX7_together 27 = .ok (.iload_n 2, 1) := by decide +kernel
theorem dX7_together_28 : decode cX7_together 28 = .ok (.invokevirtual 173, 3) := by decide +kernel
theorem dX7_together_31 : decode cX7_together 31 = .ok (.ireturn, 1) := by decide +kernel
theorem dX7_hinge_0 : decode cX7_hinge 0 = .ok (.aload_n 0, 1) := by decide +kernel
theorem dX7_hinge_1 : decode cX7_hinge 1 = .ok (.iload_n 1, 1) := by decide +kernel
theorem dX7_hinge_2 : decode cX7_hinge 2 = .ok (.invokevirtual 176, 3) := by decide +kernel
theorem dX7_hinge_5 : decode cX7_hinge 5 = .ok (.ifCond .eq 9, 3) := by decide +kernel
theorem dX7_hinge_8 : decode cX7_hinge 8 = .ok (.aload_n 0, 1) := by decide +kernel
theorem dX7_hinge_9 : decode cX7_hinge 9 = .ok (.iconst (-1), 1) := by decide +kernel
theorem dX7_hinge_10 : decode cX7_hinge 10 = .ok (.invokevirtual 74, 3) := by decide +kernel
theorem dX7_hinge_13 : decode cX7_hinge 13 = .ok (.ireturn, 1) := by decide +kernel
theorem dX7_hinge_14 : decode cX7_hinge 14 = .ok (.aload_n 0, 1) := by decide +kernel
theorem dX7_hinge_15 : decode cX7_hinge 15 = .ok (.getfield 36, 3) := by decide +kernel
theorem dX7_hinge_18 : decode cX7_hinge 18 = .ok (.invokevirtual 156, 3) := by decide +kernel
theorem dX7_hinge_21 : decode cX7_hinge 21 = .ok (.aload_n 0, 1) := by decide +kernel
theorem dX7_hinge_22 : decode cX7_hinge 22 = .ok (.getfield 36, 3) := by decide +kernel
theorem dX7_hinge_25 : decode cX7_hinge 25 = .ok (.iload_n 1, 1) := by decide +kernel
theorem dX7_hinge_26 : decode cX7_hinge 26 = .ok (.invokevirtual 179, 3) := by decide +kernel
theorem dX7_hinge_29 : decode cX7_hinge 29 = .ok (.ifCond .eq 7, 3) := by decide +kernel
theorem dX7_hinge_32 : decode cX7_hinge 32 = .ok (.iconst 1, 1) := by decide +kernel
theorem dX7_hinge_33 : decode cX7_hinge 33 = .ok (.goto 4, 3) := by decide +kernel
theorem dX7_hinge_36 : decode cX7_hinge 36 = .ok (.iconst 0, 1) := by decide +kernel
theorem dX7_hinge_37 : decode cX7_hinge 37 = .ok (.ireturn, 1) := by decide +kernel
theorem dX7_pieces_0 : decode cX7_pieces 0 = .ok (.aload_n 0, 1) := by decide +kernel
theorem dX7_pieces_1 : decode cX7_pieces 1 = .ok (.getfield 28, 3) := by decide +kernel
theorem dX7_pieces_4 : decode cX7_pieces 4 = .ok (.iconst 1, 1) := by decide +kernel
theorem dX7_pieces_5 : decode cX7_pieces 5 = .ok (.iconst 1, 1) := by decide +kernel
theorem dX7_pieces_6 : decode cX7_pieces 6 = .ok (.invokevirtual 116, 3) := by decide +kernel
theorem dX7_pieces_9 : decode cX7_pieces 9 = .ok (.aload_n 0, 1) := by decide +kernel
theorem dX7_pieces_10 : decode cX7_pieces 10 = .ok (.getfield 10, 3) := by decide +kernel
theorem dX7_pieces_13 : decode cX7_pieces 13 = .ok (.getfield 70, 3) := by decide +kernel
theorem dX7_pieces_16 : decode cX7_pieces 16 = .ok (.aload_n 0, 1) := by decide +kernel
theorem dX7_pieces_17 : decode cX7_pieces 17 = .ok (.getfield 28, 3) := by decide +kernel
theorem dX7_pieces_20 : decode cX7_pieces 20 = .ok (.getfield 120, 3) := by decide +kernel
theorem dX7_pieces_23 : decode cX7_pieces 23 = .ok (.isub, 1) := by decide +kernel
theorem dX7_pieces_24 : decode cX7_pieces 24 = .ok (.ireturn, 1) := by decide +kernel
theorem dX7_cheapest_0 : decode cX7_cheapest 0 = .ok (.aload_n 0, 1) := by decide +kernel
theorem dX7_cheapest_1 : decode cX7_cheapest 1 = .ok (.getfield 25, 3) := by decide +kernel
theorem dX7_cheapest_4 : decode cX7_cheapest 4 = .ok (.iconst 2, 1) := by decide +kernel
theorem dX7_cheapest_5 : decode cX7_cheapest 5 = .ok (.iconst 3, 1) := by decide +kernel
theorem dX7_cheapest_6 : decode cX7_cheapest 6 = .ok (.invokevirtual 116, 3) := by decide +kernel
theorem dX7_cheapest_9 : decode cX7_cheapest 9 = .ok (.aload_n 0, 1) := by decide +kernel
theorem dX7_cheapest_10 : decode cX7_cheapest 10 = .ok (.getfield 25, 3) := by decide +kernel
theorem dX7_cheapest_13 : decode cX7_cheapest 13 = .ok (.invokevirtual 182, 3) := by decide +kernel
theorem dX7_cheapest_16 : decode cX7_cheapest 16 = .ok (.ireturn, 1) := by decide +kernel
theorem dX7_cheap_0 : decode cX7_cheap 0 = .ok (.aload_n 0, 1) := by decide +kernel
theorem dX7_cheap_1 : decode cX7_cheap 1 = .ok (.iload_n 1, 1) := by decide +kernel
theorem dX7_cheap_2 : decode cX7_cheap 2 = .ok (.invokevirtual 105, 3) := by decide +kernel
theorem dX7_cheap_5 : decode cX7_cheap 5 = .ok (.ifCond .eq 9, 3) := by decide +kernel
theorem dX7_cheap_8 : decode cX7_cheap 8 = .ok (.aload_n 0, 1) := by decide +kernel
theorem dX7_cheap_9 : decode cX7_cheap 9 = .ok (.iconst (-1), 1) := by decide +kernel
theorem dX7_cheap_10 : decode cX7_cheap 10 = .ok (.invokevirtual 74, 3) := by decide +kernel
theorem dX7_cheap_13 : decode cX7_cheap 13 = .ok (.ireturn, 1) := by decide +kernel
theorem dX7_cheap_14 : decode cX7_cheap 14 = .ok (.aload_n 0, 1) := by decide +kernel
theorem dX7_cheap_15 : decode cX7_cheap 15 = .ok (.getfield 25, 3) := by decide +kernel
theorem dX7_cheap_18 : decode cX7_cheap 18 = .ok (.iconst 2, 1) := by decide +kernel
theorem dX7_cheap_19 : decode cX7_cheap 19 = .ok (.iconst 3, 1) := by decide +kernel
theorem dX7_cheap_20 : decode cX7_cheap 20 = .ok (.invokevirtual 116, 3) := by decide +kernel
theorem dX7_cheap_23 : decode cX7_cheap 23 = .ok (.aload_n 0, 1) := by decide +kernel
theorem dX7_cheap_24 : decode cX7_cheap 24 = .ok (.aload_n 0, 1) := by decide +kernel
theorem dX7_cheap_25 : decode cX7_cheap 25 = .ok (.getfield 25, 3) := by decide +kernel
theorem dX7_cheap_28 : decode cX7_cheap 28 = .ok (.iload_n 1, 1) := by decide +kernel
theorem dX7_cheap_29 : decode cX7_cheap 29 = .ok (.invokevirtual 129, 3) := by decide +kernel
theorem dX7_cheap_32 : decode cX7_cheap 32 = .ok (.ireturn, 1) := by decide +kernel
theorem dX7_fewest_0 : decode cX7_fewest 0 = .ok (.aload_n 0, 1) := by decide +kernel
theorem dX7_fewest_1 : decode cX7_fewest 1 = .ok (.getfield 55, 3) := by decide +kernel
theorem dX7_fewest_4 : decode cX7_fewest 4 = .ok (.invokevirtual 185, 3) := by decide +kernel
theorem dX7_fewest_7 : decode cX7_fewest 7 = .ok (.aload_n 0, 1) := by decide +kernel
theorem dX7_fewest_8 : decode cX7_fewest 8 = .ok (.getfield 55, 3) := by decide +kernel
theorem dX7_fewest_11 : decode cX7_fewest 11 = .ok (.getfield 186, 3) := by decide +kernel
theorem dX7_fewest_14 : decode cX7_fewest 14 = .ok (.ireturn, 1) := by decide +kernel
theorem dX7_fewestAt_0 : decode cX7_fewestAt 0 = .ok (.aload_n 0, 1) := by decide +kernel
theorem dX7_fewestAt_1 : decode cX7_fewestAt 1 = .ok (.getfield 55, 3) := by decide +kernel
theorem dX7_fewestAt_4 : decode cX7_fewestAt 4 = .ok (.invokevirtual 185, 3) := by decide +kernel
theorem dX7_fewestAt_7 : decode cX7_fewestAt 7 = .ok (.iload_n 1, 1) := by decide +kernel
theorem dX7_fewestAt_8 : decode cX7_fewestAt 8 = .ok (.ifCond .lt 14, 3) := by decide +kernel
theorem dX7_fewestAt_11 : decode cX7_fewestAt 11 = .ok (.iload_n 1, 1) := by decide +kernel
theorem dX7_fewestAt_12 : decode cX7_fewestAt 12 = .ok (.aload_n 0, 1) := by decide +kernel
theorem dX7_fewestAt_13 : decode cX7_fewestAt 13 = .ok (.getfield 55, 3) := by decide +kernel
theorem dX7_fewestAt_16 : decode cX7_fewestAt 16 = .ok (.getfield 186, 3) := by decide +kernel
theorem dX7_fewestAt_19 : decode cX7_fewestAt 19 = .ok (.if_icmp .lt 8, 3) := by decide +kernel
theorem dX7_fewestAt_22 : decode cX7_fewestAt 22 = .ok (.bipush (-9), 2) := by decide +kernel
theorem dX7_fewestAt_24 : decode cX7_fewestAt 24 = .ok (.goto 12, 3) := by decide +kernel
theorem dX7_fewestAt_27 : decode cX7_fewestAt 27 = .ok (.aload_n 0, 1) := by decide +kernel
theorem dX7_fewestAt_28 : decode cX7_fewestAt 28 = .ok (.getfield 55, 3) := by decide +kernel
theorem dX7_fewestAt_31 : decode cX7_fewestAt 31 = .ok (.getfield 187, 3) := by decide +kernel
theorem dX7_fewestAt_34 : decode cX7_fewestAt 34 = .ok (.iload_n 1, 1) := by decide +kernel
theorem dX7_fewestAt_35 : decode cX7_fewestAt 35 = .ok (.iaload, 1) := by decide +kernel
theorem dX7_fewestAt_36 : decode cX7_fewestAt 36 = .ok (.ireturn, 1) := by decide +kernel
theorem dX7_back_0 : decode cX7_back 0 = .ok (.iload_n 2, 1) := by decide +kernel
theorem dX7_back_1 : decode cX7_back 1 = .ok (.ifCond .lt 8, 3) := by decide +kernel
theorem dX7_back_4 : decode cX7_back 4 = .ok (.iload_n 2, 1) := by decide +kernel
theorem dX7_back_5 : decode cX7_back 5 = .ok (.iconst 2, 1) := by decide +kernel
theorem dX7_back_6 : decode cX7_back 6 = .ok (.if_icmp .le 10, 3) := by decide +kernel
theorem dX7_back_9 : decode cX7_back 9 = .ok (.aload_n 0, 1) := by decide +kernel
theorem dX7_back_10 : decode cX7_back 10 = .ok (.bipush (-2), 2) := by decide +kernel
theorem dX7_back_12 : decode cX7_back 12 = .ok (.invokevirtual 74, 3) := by decide +kernel
theorem dX7_back_15 : decode cX7_back 15 = .ok (.ireturn, 1) := by decide +kernel
theorem dX7_back_16 : decode cX7_back 16 = .ok (.aload_n 0, 1) := by decide +kernel
theorem dX7_back_17 : decode cX7_back 17 = .ok (.iload_n 1, 1) := by decide +kernel
theorem dX7_back_18 : decode cX7_back 18 = .ok (.invokevirtual 176, 3) := by decide +kernel
theorem dX7_back_21 : decode cX7_back 21 = .ok (.ifCond .eq 6, 3) := by decide +kernel
theorem dX7_back_24 : decode cX7_back 24 = .ok (.bipush (-9), 2) := by decide +kernel
theorem dX7_back_26 : decode cX7_back 26 = .ok (.ireturn, 1) := by decide +kernel
theorem dX7_back_27 : decode cX7_back 27 = .ok (.aload_n 0, 1) := by decide +kernel
theorem dX7_back_28 : decode cX7_back 28 = .ok (.getfield 62, 3) := by decide +kernel
theorem dX7_back_31 : decode cX7_back 31 = .ok (.invokevirtual 190, 3) := by decide +kernel
theorem dX7_back_34 : decode cX7_back 34 = .ok (.iload_n 2, 1) := by decide +kernel
theorem dX7_back_35 : decode cX7_back 35 = .ok (.ifCond .ne 13, 3) := by decide +kernel
theorem dX7_back_38 : decode cX7_back 38 = .ok (.aload_n 0, 1) := by decide +kernel
theorem dX7_back_39 : decode cX7_back 39 = .ok (.getfield 62, 3) := by decide +kernel
theorem dX7_back_42 : decode cX7_back 42 = .ok (.getfield 193, 3) := by decide +kernel
theorem dX7_back_45 : decode cX7_back 45 = .ok (.iload_n 1, 1) := by decide +kernel
theorem dX7_back_46 : decode cX7_back 46 = .ok (.iaload, 1) := by decide +kernel
theorem dX7_back_47 : decode cX7_back 47 = .ok (.ireturn, 1) := by decide +kernel
theorem dX7_back_48 : decode cX7_back 48 = .ok (.iload_n 2, 1) := by decide +kernel
theorem dX7_back_49 : decode cX7_back 49 = .ok (.iconst 1, 1) := by decide +kernel
theorem dX7_back_50 : decode cX7_back 50 = .ok (.if_icmp .ne 15, 3) := by decide +kernel
theorem dX7_back_53 : decode cX7_back 53 = .ok (.aload_n 0, 1) := by decide +kernel
theorem dX7_back_54 : decode cX7_back 54 = .ok (.getfield 62, 3) := by decide +kernel
theorem dX7_back_57 : decode cX7_back 57 = .ok (.getfield 196, 3) := by decide +kernel
theorem dX7_back_60 : decode cX7_back 60 = .ok (.iload_n 1, 1) := by decide +kernel
theorem dX7_back_61 : decode cX7_back 61 = .ok (.iaload, 1) := by decide +kernel
theorem dX7_back_62 : decode cX7_back 62 = .ok (.goto 12, 3) := by decide +kernel
theorem dX7_back_65 : decode cX7_back 65 = .ok (.aload_n 0, 1) := by decide +kernel
theorem dX7_back_66 : decode cX7_back 66 = .ok (.getfield 62, 3) := by decide +kernel
theorem dX7_back_69 : decode cX7_back 69 = .ok (.getfield 199, 3) := by decide +kernel
theorem dX7_back_72 : decode cX7_back 72 = .ok (.iload_n 1, 1) := by decide +kernel
theorem dX7_back_73 : decode cX7_back 73 = .ok (.iaload, 1) := by decide +kernel
theorem dX7_back_74 : decode cX7_back 74 = .ok (.ireturn, 1) := by decide +kernel
theorem dX7_threes_0 : decode cX7_threes 0 = .ok (.aload_n 0, 1) := by decide +kernel
theorem dX7_threes_1 : decode cX7_threes 1 = .ok (.getfield 62, 3) := by decide +kernel
theorem dX7_threes_4 : decode cX7_threes 4 = .ok (.invokevirtual 190, 3) := by decide +kernel
theorem dX7_threes_7 : decode cX7_threes 7 = .ok (.aload_n 0, 1) := by decide +kernel
theorem dX7_threes_8 : decode cX7_threes 8 = .ok (.getfield 62, 3) := by decide +kernel
theorem dX7_threes_11 : decode cX7_threes 11 = .ok (.invokevirtual 202, 3) := by decide +kernel
theorem dX7_threes_14 : decode cX7_threes 14 = .ok (.ireturn, 1) := by decide +kernel
theorem dX7_bundles_0 : decode cX7_bundles 0 = .ok (.aload_n 0, 1) := by decide +kernel
theorem dX7_bundles_1 : decode cX7_bundles 1 = .ok (.getfield 43, 3) := by decide +kernel
theorem dX7_bundles_4 : decode cX7_bundles 4 = .ok (.invokevirtual 205, 3) := by decide +kernel
theorem dX7_bundles_7 : decode cX7_bundles 7 = .ok (.aload_n 0, 1) := by decide +kernel
theorem dX7_bundles_8 : decode cX7_bundles 8 = .ok (.getfield 43, 3) := by decide +kernel
theorem dX7_bundles_11 : decode cX7_bundles 11 = .ok (.getfield 206, 3) := by decide +kernel
theorem dX7_bundles_14 : decode cX7_bundles 14 = .ok (.ireturn, 1) := by decide +kernel
theorem dX7_bundle_0 : decode cX7_bundle 0 = .ok (.aload_n 0, 1) := by decide +kernel
theorem dX7_bundle_1 : decode cX7_bundle 1 = .ok (.iload_n 1, 1) := by decide +kernel
theorem dX7_bundle_2 : decode cX7_bundle 2 = .ok (.invokevirtual 105, 3) := by decide +kernel
theorem dX7_bundle_5 : decode cX7_bundle 5 = .ok (.ifCond .eq 9, 3) := by decide +kernel
theorem dX7_bundle_8 : decode cX7_bundle 8 = .ok (.aload_n 0, 1) := by decide +kernel
theorem dX7_bundle_9 : decode cX7_bundle 9 = .ok (.iconst (-1), 1) := by decide +kernel
theorem dX7_bundle_10 : decode cX7_bundle 10 = .ok (.invokevirtual 74, 3) := by decide +kernel
theorem dX7_bundle_13 : decode cX7_bundle 13 = .ok (.ireturn, 1) := by decide +kernel
theorem dX7_bundle_14 : decode cX7_bundle 14 = .ok (.aload_n 0, 1) := by decide +kernel
theorem dX7_bundle_15 : decode cX7_bundle 15 = .ok (.getfield 10, 3) := by decide +kernel
theorem dX7_bundle_18 : decode cX7_bundle 18 = .ok (.getfield 133, 3) := by decide +kernel
theorem dX7_bundle_21 : decode cX7_bundle 21 = .ok (.iload_n 1, 1) := by decide +kernel
theorem dX7_bundle_22 : decode cX7_bundle 22 = .ok (.baload, 1) := by decide +kernel
theorem dX7_bundle_23 : decode cX7_bundle 23 = .ok (.ifCond .ne 6, 3) := by decide +kernel
theorem dX7_bundle_26 : decode cX7_bundle 26 = .ok (.bipush (-9), 2) := by decide +kernel
theorem dX7_bundle_28 : decode cX7_bundle 28 = .ok (.ireturn, 1) := by decide +kernel
theorem dX7_bundle_29 : decode cX7_bundle 29 = .ok (.aload_n 0, 1) := by decide +kernel
theorem dX7_bundle_30 : decode cX7_bundle 30 = .ok (.getfield 43, 3) := by decide +kernel
theorem dX7_bundle_33 : decode cX7_bundle 33 = .ok (.invokevirtual 205, 3) := by decide +kernel
theorem dX7_bundle_36 : decode cX7_bundle 36 = .ok (.aload_n 0, 1) := by decide +kernel
theorem dX7_bundle_37 : decode cX7_bundle 37 = .ok (.getfield 43, 3) := by decide +kernel
theorem dX7_bundle_40 : decode cX7_bundle 40 = .ok (.iload_n 1, 1) := by decide +kernel
theorem dX7_bundle_41 : decode cX7_bundle 41 = .ok (.invokevirtual 207, 3) := by decide +kernel
theorem dX7_bundle_44 : decode cX7_bundle 44 = .ok (.ireturn, 1) := by decide +kernel
theorem dX7_rankBy_0 : decode cX7_rankBy 0 = .ok (.iload_n 1, 1) := by decide +kernel
theorem dX7_rankBy_1 : decode cX7_rankBy 1 = .ok (.iload_n 2, 1) := by decide +kernel
theorem dX7_rankBy_2 : decode cX7_rankBy 2 = .ok (.invokestatic 210, 3) := by decide +kernel
theorem dX7_rankBy_5 : decode cX7_rankBy 5 = .ok (.istore_n 3, 1) := by decide +kernel
theorem dX7_rankBy_6 : decode cX7_rankBy 6 = .ok (.iload_n 3, 1) := by decide +kernel
theorem dX7_rankBy_7 : decode cX7_rankBy 7 = .ok (.ifCond .eq 9, 3) := by decide +kernel
theorem dX7_rankBy_10 : decode cX7_rankBy 10 = .ok (.aload_n 0, 1) := by decide +kernel
theorem dX7_rankBy_11 : decode cX7_rankBy 11 = .ok (.iload_n 3, 1) := by decide +kernel
theorem dX7_rankBy_12 : decode cX7_rankBy 12 = .ok (.invokevirtual 74, 3) := by decide +kernel
theorem dX7_rankBy_15 : decode cX7_rankBy 15 = .ok (.ireturn, 1) := by decide +kernel
theorem dX7_rankBy_16 : decode cX7_rankBy 16 = .ok (.aload_n 0, 1) := by decide +kernel
theorem dX7_rankBy_17 : decode cX7_rankBy 17 = .ok (.getfield 28, 3) := by decide +kernel
theorem dX7_rankBy_20 : decode cX7_rankBy 20 = .ok (.iload_n 1, 1) := by decide +kernel
theorem dX7_rankBy_21 : decode cX7_rankBy 21 = .ok (.iload_n 2, 1) := by decide +kernel
theorem dX7_rankBy_22 : decode cX7_rankBy 22 = .ok (.invokevirtual 116, 3) := by decide +kernel
theorem dX7_rankBy_25 : decode cX7_rankBy 25 = .ok (.aload_n 0, 1) := by decide +kernel
theorem dX7_rankBy_26 : decode cX7_rankBy 26 = .ok (.getfield 28, 3) := by decide +kernel
theorem dX7_rankBy_29 : decode cX7_rankBy 29 = .ok (.getfield 120, 3) := by decide +kernel
theorem dX7_rankBy_32 : decode cX7_rankBy 32 = .ok (.ireturn, 1) := by decide +kernel
theorem dX7_keptBy_0 : decode cX7_keptBy 0 = .ok (.aload_n 0, 1) := by decide +kernel
theorem dX7_keptBy_1 : decode cX7_keptBy 1 = .ok (.iload_n 1, 1) := by decide +kernel
theorem dX7_keptBy_2 : decode cX7_keptBy 2 = .ok (.invokevirtual 105, 3) := by decide +kernel
theorem dX7_keptBy_5 : decode cX7_keptBy 5 = .ok (.ifCond .eq 7, 3) := by decide +kernel
theorem dX7_keptBy_8 : decode cX7_keptBy 8 = .ok (.iconst (-1), 1) := by decide +kernel
theorem dX7_keptBy_9 : decode cX7_keptBy 9 = .ok (.goto 8, 3) := by decide +kernel
theorem dX7_keptBy_12 : decode cX7_keptBy 12 = .ok (.iload_n 2, 1) := by decide +kernel
theorem dX7_keptBy_13 : decode cX7_keptBy 13 = .ok (.iload_n 3, 1) := by decide +kernel
theorem dX7_keptBy_14 : decode cX7_keptBy 14 = .ok (.invokestatic 210, 3) := by decide +kernel
theorem dX7_keptBy_17 : decode cX7_keptBy 17 = .ok (.istore 4, 2) := by decide +kernel
theorem dX7_keptBy_19 : decode cX7_keptBy 19 = .ok (.iload 4, 2) := by decide +kernel
theorem dX7_keptBy_21 : decode cX7_keptBy 21 = .ok (.ifCond .eq 10, 3) := by decide +kernel
theorem dX7_keptBy_24 : decode cX7_keptBy 24 = .ok (.aload_n 0, 1) := by decide +kernel
theorem dX7_keptBy_25 : decode cX7_keptBy 25 = .ok (.iload 4, 2) := by decide +kernel
theorem dX7_keptBy_27 : decode cX7_keptBy 27 = .ok (.invokevirtual 74, 3) := by decide +kernel
theorem dX7_keptBy_30 : decode cX7_keptBy 30 = .ok (.ireturn, 1) := by decide +kernel
theorem dX7_keptBy_31 : decode cX7_keptBy 31 = .ok (.aload_n 0, 1) := by decide +kernel
theorem dX7_keptBy_32 : decode cX7_keptBy 32 = .ok (.getfield 28, 3) := by decide +kernel
theorem dX7_keptBy_35 : decode cX7_keptBy 35 = .ok (.iload_n 2, 1) := by decide +kernel
theorem dX7_keptBy_36 : decode cX7_keptBy 36 = .ok (.iload_n 3, 1) := by decide +kernel
theorem dX7_keptBy_37 : decode cX7_keptBy 37 = .ok (.invokevirtual 116, 3) := by decide +kernel
theorem dX7_keptBy_40 : decode cX7_keptBy 40 = .ok (.aload_n 0, 1) := by decide +kernel
theorem dX7_keptBy_41 : decode cX7_keptBy 41 = .ok (.aload_n 0, 1) := by decide +kernel
theorem dX7_keptBy_42 : decode cX7_keptBy 42 = .ok (.getfield 28, 3) := by decide +kernel
theorem dX7_keptBy_45 : decode cX7_keptBy 45 = .ok (.iload_n 1, 1) := by decide +kernel
theorem dX7_keptBy_46 : decode cX7_keptBy 46 = .ok (.invokevirtual 129, 3) := by decide +kernel
theorem dX7_keptBy_49 : decode cX7_keptBy 49 = .ok (.ireturn, 1) := by decide +kernel
theorem dX7_tight_0 : decode cX7_tight 0 = .ok (.iload_n 1, 1) := by decide +kernel
theorem dX7_tight_1 : decode cX7_tight 1 = .ok (.iload_n 2, 1) := by decide +kernel
theorem dX7_tight_2 : decode cX7_tight 2 = .ok (.invokestatic 210, 3) := by decide +kernel
theorem dX7_tight_5 : decode cX7_tight 5 = .ok (.istore_n 3, 1) := by decide +kernel
theorem dX7_tight_6 : decode cX7_tight 6 = .ok (.iload_n 3, 1) := by decide +kernel
theorem dX7_tight_7 : decode cX7_tight 7 = .ok (.ifCond .eq 9, 3) := by decide +kernel
theorem dX7_tight_10 : decode cX7_tight 10 = .ok (.aload_n 0, 1) := by decide +kernel
theorem dX7_tight_11 : decode cX7_tight 11 = .ok (.iload_n 3, 1) := by decide +kernel
theorem dX7_tight_12 : decode cX7_tight 12 = .ok (.invokevirtual 74, 3) := by decide +kernel
theorem dX7_tight_15 : decode cX7_tight 15 = .ok (.ireturn, 1) := by decide +kernel
theorem dX7_tight_16 : decode cX7_tight 16 = .ok (.aload_n 0, 1) := by decide +kernel
theorem dX7_tight_17 : decode cX7_tight 17 = .ok (.getfield 28, 3) := by decide +kernel
theorem dX7_tight_20 : decode cX7_tight 20 = .ok (.iload_n 1, 1) := by decide +kernel
theorem dX7_tight_21 : decode cX7_tight 21 = .ok (.iload_n 2, 1) := by decide +kernel
theorem dX7_tight_22 : decode cX7_tight 22 = .ok (.invokevirtual 116, 3) := by decide +kernel
theorem dX7_tight_25 : decode cX7_tight 25 = .ok (.aload_n 0, 1) := by decide +kernel
theorem dX7_tight_26 : decode cX7_tight 26 = .ok (.getfield 10, 3) := by decide +kernel
theorem dX7_tight_29 : decode cX7_tight 29 = .ok (.getfield 70, 3) := by decide +kernel
theorem dX7_tight_32 : decode cX7_tight 32 = .ok (.ifCond .le 28, 3) := by decide +kernel
theorem dX7_tight_35 : decode cX7_tight 35 = .ok (.aload_n 0, 1) := by decide +kernel
theorem dX7_tight_36 : decode cX7_tight 36 = .ok (.getfield 28, 3) := by decide +kernel
theorem dX7_tight_39 : decode cX7_tight 39 = .ok (.getfield 120, 3) := by decide +kernel
theorem dX7_tight_42 : decode cX7_tight 42 = .ok (.iload_n 1, 1) := by decide +kernel
theorem dX7_tight_43 : decode cX7_tight 43 = .ok (.aload_n 0, 1) := by decide +kernel
theorem dX7_tight_44 : decode cX7_tight 44 = .ok (.getfield 10, 3) := by decide +kernel
theorem dX7_tight_47 : decode cX7_tight 47 = .ok (.getfield 70, 3) := by decide +kernel
theorem dX7_tight_50 : decode cX7_tight 50 = .ok (.imul, 1) := by decide +kernel
theorem dX7_tight_51 : decode cX7_tight 51 = .ok (.iload_n 2, 1) := by decide +kernel
theorem dX7_tight_52 : decode cX7_tight 52 = .ok (.isub, 1) := by decide +kernel
theorem dX7_tight_53 : decode cX7_tight 53 = .ok (.if_icmp .ne 7, 3) := by decide +kernel
theorem dX7_tight_56 : decode cX7_tight 56 = .ok (.iconst 1, 1) := by decide +kernel
theorem dX7_tight_57 : decode cX7_tight 57 = .ok (.goto 4, 3) := by decide +kernel
theorem dX7_tight_60 : decode cX7_tight 60 = .ok (.iconst 0, 1) := by decide +kernel
theorem dX7_tight_61 : decode cX7_tight 61 = .ok (.istore 4, 2) := by decide +kernel
theorem dX7_tight_63 : decode cX7_tight 63 = .ok (.aload_n 0, 1) := by decide +kernel
theorem dX7_tight_64 : decode cX7_tight 64 = .ok (.getfield 28, 3) := by decide +kernel
theorem dX7_tight_67 : decode cX7_tight 67 = .ok (.getfield 120, 3) := by decide +kernel
theorem dX7_tight_70 : decode cX7_tight 70 = .ok (.aload_n 0, 1) := by decide +kernel
theorem dX7_tight_71 : decode cX7_tight 71 = .ok (.getfield 10, 3) := by decide +kernel
theorem dX7_tight_74 : decode cX7_tight 74 = .ok (.getfield 126, 3) := by decide +kernel
theorem dX7_tight_77 : decode cX7_tight 77 = .ok (.if_icmp .ne 7, 3) := by decide +kernel
theorem dX7_tight_80 : decode cX7_tight 80 = .ok (.iconst 1, 1) := by decide +kernel
theorem dX7_tight_81 : decode cX7_tight 81 = .ok (.goto 4, 3) := by decide +kernel
theorem dX7_tight_84 : decode cX7_tight 84 = .ok (.iconst 0, 1) := by decide +kernel
theorem dX7_tight_85 : decode cX7_tight 85 = .ok (.istore 5, 2) := by decide +kernel
theorem dX7_tight_87 : decode cX7_tight 87 = .ok (.iload 4, 2) := by decide +kernel
theorem dX7_tight_89 : decode cX7_tight 89 = .ok (.ifCond .eq 7, 3) := by decide +kernel
theorem dX7_tight_92 : decode cX7_tight 92 = .ok (.iconst 2, 1) := by decide +kernel
theorem dX7_tight_93 : decode cX7_tight 93 = .ok (.goto 4, 3) := by decide +kernel
theorem dX7_tight_96 : decode cX7_tight 96 = .ok (.iconst 0, 1) := by decide +kernel
theorem dX7_tight_97 : decode cX7_tight 97 = .ok (.iload 5, 2) := by decide +kernel
theorem dX7_tight_99 : decode cX7_tight 99 = .ok (.ifCond .eq 7, 3) := by decide +kernel
theorem dX7_tight_102 : decode cX7_tight 102 = .ok (.iconst 1, 1) := by decide +kernel
theorem dX7_tight_103 : decode cX7_tight 103 = .ok (.goto 4, 3) := by decide +kernel
theorem dX7_tight_106 : decode cX7_tight 106 = .ok (.iconst 0, 1) := by decide +kernel
theorem dX7_tight_107 : decode cX7_tight 107 = .ok (.iadd, 1) := by decide +kernel
theorem dX7_tight_108 : decode cX7_tight 108 = .ok (.ireturn, 1) := by decide +kernel
theorem dX7_forests_0 : decode cX7_forests 0 = .ok (.iconst 1, 1) := by decide +kernel
theorem dX7_forests_1 : decode cX7_forests 1 = .ok (.istore_n 1, 1) := by decide +kernel
theorem dX7_forests_2 : decode cX7_forests 2 = .ok (.iload_n 1, 1) := by decide +kernel
theorem dX7_forests_3 : decode cX7_forests 3 = .ok (.iconst 3, 1) := by decide +kernel
theorem dX7_forests_4 : decode cX7_forests 4 = .ok (.if_icmp .gt 37, 3) := by decide +kernel
theorem dX7_forests_7 : decode cX7_forests 7 = .ok (.aload_n 0, 1) := by decide +kernel
theorem dX7_forests_8 : decode cX7_forests 8 = .ok (.getfield 28, 3) := by decide +kernel
theorem dX7_forests_11 : decode cX7_forests 11 = .ok (.iload_n 1, 1) := by decide +kernel
theorem dX7_forests_12 : decode cX7_forests 12 = .ok (.iload_n 1, 1) := by decide +kernel
theorem dX7_forests_13 : decode cX7_forests 13 = .ok (.invokevirtual 116, 3) := by decide +kernel
theorem dX7_forests_16 : decode cX7_forests 16 = .ok (.aload_n 0, 1) := by decide +kernel
theorem dX7_forests_17 : decode cX7_forests 17 = .ok (.getfield 28, 3) := by decide +kernel
theorem dX7_forests_20 : decode cX7_forests 20 = .ok (.getfield 120, 3) := by decide +kernel
theorem dX7_forests_23 : decode cX7_forests 23 = .ok (.aload_n 0, 1) := by decide +kernel
theorem dX7_forests_24 : decode cX7_forests 24 = .ok (.getfield 10, 3) := by decide +kernel
theorem dX7_forests_27 : decode cX7_forests 27 = .ok (.getfield 126, 3) := by decide +kernel
theorem dX7_forests_30 : decode cX7_forests 30 = .ok (.if_icmp .ne 5, 3) := by decide +kernel
theorem dX7_forests_33 : decode cX7_forests 33 = .ok (.iload_n 1, 1) := by decide +kernel
theorem dX7_forests_34 : decode cX7_forests 34 = .ok (.ireturn, 1) := by decide +kernel
theorem dX7_forests_35 : decode cX7_forests 35 = .ok (.iinc 1 1, 3) := by decide +kernel
theorem dX7_forests_38 : decode cX7_forests 38 = .ok (.goto (-36), 3) := by decide +kernel
theorem dX7_forests_41 : decode cX7_forests 41 = .ok (.bipush (-9), 2) := by decide +kernel
theorem dX7_forests_43 : decode cX7_forests 43 = .ok (.ireturn, 1) := by decide +kernel
theorem dX7_barOf_0 : decode cX7_barOf 0 = .ok (.aload_n 0, 1) := by decide +kernel
theorem dX7_barOf_1 : decode cX7_barOf 1 = .ok (.iload_n 1, 1) := by decide +kernel
theorem dX7_barOf_2 : decode cX7_barOf 2 = .ok (.invokevirtual 105, 3) := by decide +kernel
theorem dX7_barOf_5 : decode cX7_barOf 5 = .ok (.ifCond .eq 9, 3) := by decide +kernel
theorem dX7_barOf_8 : decode cX7_barOf 8 = .ok (.aload_n 0, 1) := by decide +kernel
theorem dX7_barOf_9 : decode cX7_barOf 9 = .ok (.iconst (-1), 1) := by decide +kernel
theorem dX7_barOf_10 : decode cX7_barOf 10 = .ok (.invokevirtual 74, 3) := by decide +kernel
theorem dX7_barOf_13 : decode cX7_barOf 13 = .ok (.ireturn, 1) := by decide +kernel
theorem dX7_barOf_14 : decode cX7_barOf 14 = .ok (.iload_n 2, 1) := by decide +kernel
theorem dX7_barOf_15 : decode cX7_barOf 15 = .ok (.tableswitch 77 0 3 #[29, 39, 49, 59], 29) := by decide +kernel
theorem dX7_barOf_44 : decode cX7_barOf 44 = .ok (.aload_n 0, 1) := by decide +kernel
theorem dX7_barOf_45 : decode cX7_barOf 45 = .ok (.getfield 10, 3) := by decide +kernel
theorem dX7_barOf_48 : decode cX7_barOf 48 = .ok (.getfield 213, 3) := by decide +kernel
theorem dX7_barOf_51 : decode cX7_barOf 51 = .ok (.iload_n 1, 1) := by decide +kernel
theorem dX7_barOf_52 : decode cX7_barOf 52 = .ok (.iaload, 1) := by decide +kernel
theorem dX7_barOf_53 : decode cX7_barOf 53 = .ok (.ireturn, 1) := by decide +kernel
theorem dX7_barOf_54 : decode cX7_barOf 54 = .ok (.aload_n 0, 1) := by decide +kernel
theorem dX7_barOf_55 : decode cX7_barOf 55 = .ok (.getfield 10, 3) := by decide +kernel
theorem dX7_barOf_58 : decode cX7_barOf 58 = .ok (.getfield 216, 3) := by decide +kernel
theorem dX7_barOf_61 : decode cX7_barOf 61 = .ok (.iload_n 1, 1) := by decide +kernel
theorem dX7_barOf_62 : decode cX7_barOf 62 = .ok (.iaload, 1) := by decide +kernel
theorem dX7_barOf_63 : decode cX7_barOf 63 = .ok (.ireturn, 1) := by decide +kernel
theorem dX7_barOf_64 : decode cX7_barOf 64 = .ok (.aload_n 0, 1) := by decide +kernel
theorem dX7_barOf_65 : decode cX7_barOf 65 = .ok (.getfield 10, 3) := by decide +kernel
theorem dX7_barOf_68 : decode cX7_barOf 68 = .ok (.getfield 219, 3) := by decide +kernel
theorem dX7_barOf_71 : decode cX7_barOf 71 = .ok (.iload_n 1, 1) := by decide +kernel
theorem dX7_barOf_72 : decode cX7_barOf 72 = .ok (.iaload, 1) := by decide +kernel
theorem dX7_barOf_73 : decode cX7_barOf 73 = .ok (.ireturn, 1) := by decide +kernel
theorem dX7_barOf_74 : decode cX7_barOf 74 = .ok (.aload_n 0, 1) := by decide +kernel
theorem dX7_barOf_75 : decode cX7_barOf 75 = .ok (.getfield 10, 3) := by decide +kernel
theorem dX7_barOf_78 : decode cX7_barOf 78 = .ok (.getfield 133, 3) := by decide +kernel
theorem dX7_barOf_81 : decode cX7_barOf 81 = .ok (.iload_n 1, 1) := by decide +kernel
theorem dX7_barOf_82 : decode cX7_barOf 82 = .ok (.baload, 1) := by decide +kernel
theorem dX7_barOf_83 : decode cX7_barOf 83 = .ok (.ifCond .eq 7, 3) := by decide +kernel
theorem dX7_barOf_86 : decode cX7_barOf 86 = .ok (.iconst 1, 1) := by decide +kernel
theorem dX7_barOf_87 : decode cX7_barOf 87 = .ok (.goto 4, 3) := by decide +kernel
theorem dX7_barOf_90 : decode cX7_barOf 90 = .ok (.iconst 0, 1) := by decide +kernel
theorem dX7_barOf_91 : decode cX7_barOf 91 = .ok (.ireturn, 1) := by decide +kernel
theorem dX7_barOf_92 : decode cX7_barOf 92 = .ok (.aload_n 0, 1) := by decide +kernel
theorem dX7_barOf_93 : decode cX7_barOf 93 = .ok (.bipush (-2), 2) := by decide +kernel
theorem dX7_barOf_95 : decode cX7_barOf 95 = .ok (.invokevirtual 74, 3) := by decide +kernel
theorem dX7_barOf_98 : decode cX7_barOf 98 = .ok (.ireturn, 1) := by decide +kernel
theorem dX7_count_0 : decode cX7_count 0 = .ok (.iload_n 1, 1) := by decide +kernel
theorem dX7_count_1 : decode cX7_count 1 = .ok (.bipush 11, 2) := by decide +kernel
theorem dX7_count_3 : decode cX7_count 3 = .ok (.if_icmp .lt 19, 3) := by decide +kernel
theorem dX7_count_6 : decode cX7_count 6 = .ok (.iload_n 1, 1) := by decide +kernel
theorem dX7_count_7 : decode cX7_count 7 = .ok (.bipush 16, 2) := by decide +kernel
theorem dX7_count_9 : decode cX7_count 9 = .ok (.if_icmp .gt 13, 3) := by decide +kernel
theorem dX7_count_12 : decode cX7_count 12 = .ok (.aload_n 0, 1) := by decide +kernel
theorem dX7_count_13 : decode cX7_count 13 = .ok (.getfield 66, 3) := by decide +kernel
theorem dX7_count_16 : decode cX7_count 16 = .ok (.iload_n 1, 1) := by decide +kernel
theorem dX7_count_17 : decode cX7_count 17 = .ok (.bipush 11, 2) := by decide +kernel
theorem dX7_count_19 : decode cX7_count 19 = .ok (.isub, 1) := by decide +kernel
theorem dX7_count_20 : decode cX7_count 20 = .ok (.iaload, 1) := by decide +kernel
theorem dX7_count_21 : decode cX7_count 21 = .ok (.ireturn, 1) := by decide +kernel
theorem dX7_count_22 : decode cX7_count 22 = .ok (.iload_n 1, 1) := by decide +kernel
theorem dX7_count_23 : decode cX7_count 23 = .ok (.tableswitch 98 0 5 #[37, 45, 53, 61, 66, 83], 37) := by decide +kernel
theorem dX7_count_60 : decode cX7_count 60 = .ok (.aload_n 0, 1) := by decide +kernel
theorem dX7_count_61 : decode cX7_count 61 = .ok (.getfield 10, 3) := by decide +kernel
theorem dX7_count_64 : decode cX7_count 64 = .ok (.getfield 70, 3) := by decide +kernel
theorem dX7_count_67 : decode cX7_count 67 = .ok (.ireturn, 1) := by decide +kernel
theorem dX7_count_68 : decode cX7_count 68 = .ok (.aload_n 0, 1) := by decide +kernel
theorem dX7_count_69 : decode cX7_count 69 = .ok (.getfield 10, 3) := by decide +kernel
theorem dX7_count_72 : decode cX7_count 72 = .ok (.getfield 89, 3) := by decide +kernel
theorem dX7_count_75 : decode cX7_count 75 = .ok (.ireturn, 1) := by decide +kernel
theorem dX7_count_76 : decode cX7_count 76 = .ok (.aload_n 0, 1) := by decide +kernel
theorem dX7_count_77 : decode cX7_count 77 = .ok (.getfield 10, 3) := by decide +kernel
theorem dX7_count_80 : decode cX7_count 80 = .ok (.getfield 126, 3) := by decide +kernel
theorem dX7_count_83 : decode cX7_count 83 = .ok (.ireturn, 1) := by decide +kernel
theorem dX7_count_84 : decode cX7_count 84 = .ok (.aload_n 0, 1) := by decide +kernel
theorem dX7_count_85 : decode cX7_count 85 = .ok (.invokevirtual 222, 3) := by decide +kernel
theorem dX7_count_88 : decode cX7_count 88 = .ok (.ireturn, 1) := by decide +kernel
theorem dX7_count_89 : decode cX7_count 89 = .ok (.aload_n 0, 1) := by decide +kernel
theorem dX7_count_90 : decode cX7_count 90 = .ok (.getfield 21, 3) := by decide +kernel
theorem dX7_count_93 : decode cX7_count 93 = .ok (.iconst 2, 1) := by decide +kernel
theorem dX7_count_94 : decode cX7_count 94 = .ok (.iconst 3, 1) := by decide +kernel
theorem dX7_count_95 : decode cX7_count 95 = .ok (.invokevirtual 116, 3) := by decide +kernel
theorem dX7_count_98 : decode cX7_count 98 = .ok (.aload_n 0, 1) := by decide +kernel
theorem dX7_count_99 : decode cX7_count 99 = .ok (.getfield 21, 3) := by decide +kernel
theorem dX7_count_102 : decode cX7_count 102 = .ok (.invokevirtual 123, 3) := by decide +kernel
theorem dX7_count_105 : decode cX7_count 105 = .ok (.ireturn, 1) := by decide +kernel
theorem dX7_count_106 : decode cX7_count 106 = .ok (.aload_n 0, 1) := by decide +kernel
theorem dX7_count_107 : decode cX7_count 107 = .ok (.getfield 36, 3) := by decide +kernel
theorem dX7_count_110 : decode cX7_count 110 = .ok (.invokevirtual 156, 3) := by decide +kernel
theorem dX7_count_113 : decode cX7_count 113 = .ok (.aload_n 0, 1) := by decide +kernel
theorem dX7_count_114 : decode cX7_count 114 = .ok (.getfield 36, 3) := by decide +kernel
theorem dX7_count_117 : decode cX7_count 117 = .ok (.invokevirtual 225, 3) := by decide +kernel
theorem dX7_count_120 : decode cX7_count 120 = .ok (.ireturn, 1) := by decide +kernel
theorem dX7_count_121 : decode cX7_count 121 = .ok (.bipush (-9), 2) := by decide +kernel
theorem dX7_count_123 : decode cX7_count 123 = .ok (.ireturn, 1) := by decide +kernel
theorem dX7_refuse_0 : decode cX7_refuse 0 = .ok (.iload_n 1, 1) := by decide +kernel
theorem dX7_refuse_1 : decode cX7_refuse 1 = .ok (.ineg, 1) := by decide +kernel
theorem dX7_refuse_2 : decode cX7_refuse 2 = .ok (.iconst 1, 1) := by decide +kernel
theorem dX7_refuse_3 : decode cX7_refuse 3 = .ok (.isub, 1) := by decide +kernel
theorem dX7_refuse_4 : decode cX7_refuse 4 = .ok (.istore_n 2, 1) := by decide +kernel
theorem dX7_refuse_5 : decode cX7_refuse 5 = .ok (.iload_n 2, 1) := by decide +kernel
theorem dX7_refuse_6 : decode cX7_refuse 6 = .ok (.ifCond .lt 22, 3) := by decide +kernel
theorem dX7_refuse_9 : decode cX7_refuse 9 = .ok (.iload_n 2, 1) := by decide +kernel
theorem dX7_refuse_10 : decode cX7_refuse 10 = .ok (.aload_n 0, 1) := by decide +kernel
theorem dX7_refuse_11 : decode cX7_refuse 11 = .ok (.getfield 66, 3) := by decide +kernel
theorem dX7_refuse_14 : decode cX7_refuse 14 = .ok (.arraylength, 1) := by decide +kernel
theorem dX7_refuse_15 : decode cX7_refuse 15 = .ok (.if_icmp .ge 13, 3) := by decide +kernel
theorem dX7_refuse_18 : decode cX7_refuse 18 = .ok (.aload_n 0, 1) := by decide +kernel
theorem dX7_refuse_19 : decode cX7_refuse 19 = .ok (.getfield 66, 3) := by decide +kernel
theorem dX7_refuse_22 : decode cX7_refuse 22 = .ok (.iload_n 2, 1) := by decide +kernel
theorem dX7_refuse_23 : decode cX7_refuse 23 = .ok (.dup2, 1) := by decide +kernel
theorem dX7_refuse_24 : decode cX7_refuse 24 = .ok (.iaload, 1) := by decide +kernel
theorem dX7_refuse_25 : decode cX7_refuse 25 = .ok (.iconst 1, 1) := by decide +kernel
theorem dX7_refuse_26 : decode cX7_refuse 26 = .ok (.iadd, 1) := by decide +kernel
theorem dX7_refuse_27 : decode cX7_refuse 27 = .ok (.iastore, 1) := by decide +kernel
theorem dX7_refuse_28 : decode cX7_refuse 28 = .ok (.iload_n 1, 1) := by decide +kernel
theorem dX7_refuse_29 : decode cX7_refuse 29 = .ok (.ireturn, 1) := by decide +kernel
theorem dX7_noJoint_0 : decode cX7_noJoint 0 = .ok (.iload_n 1, 1) := by decide +kernel
theorem dX7_noJoint_1 : decode cX7_noJoint 1 = .ok (.ifCond .lt 14, 3) := by decide +kernel
theorem dX7_noJoint_4 : decode cX7_noJoint 4 = .ok (.iload_n 1, 1) := by decide +kernel
theorem dX7_noJoint_5 : decode cX7_noJoint 5 = .ok (.aload_n 0, 1) := by decide +kernel
theorem dX7_noJoint_6 : decode cX7_noJoint 6 = .ok (.getfield 10, 3) := by decide +kernel
theorem dX7_noJoint_9 : decode cX7_noJoint 9 = .ok (.getfield 70, 3) := by decide +kernel
theorem dX7_noJoint_12 : decode cX7_noJoint 12 = .ok (.if_icmp .lt 7, 3) := by decide +kernel
theorem dX7_noJoint_15 : decode cX7_noJoint 15 = .ok (.iconst 1, 1) := by decide +kernel
theorem dX7_noJoint_16 : decode cX7_noJoint 16 = .ok (.goto 4, 3) := by decide +kernel
theorem dX7_noJoint_19 : decode cX7_noJoint 19 = .ok (.iconst 0, 1) := by decide +kernel
theorem dX7_noJoint_20 : decode cX7_noJoint 20 = .ok (.ireturn, 1) := by decide +kernel
theorem dX7_noPair_0 : decode cX7_noPair 0 = .ok (.aload_n 0, 1) := by decide +kernel
theorem dX7_noPair_1 : decode cX7_noPair 1 = .ok (.iload_n 1, 1) := by decide +kernel
theorem dX7_noPair_2 : decode cX7_noPair 2 = .ok (.invokevirtual 176, 3) := by decide +kernel
theorem dX7_noPair_5 : decode cX7_noPair 5 = .ok (.ifCond .ne 16, 3) := by decide +kernel
theorem dX7_noPair_8 : decode cX7_noPair 8 = .ok (.aload_n 0, 1) := by decide +kernel
theorem dX7_noPair_9 : decode cX7_noPair 9 = .ok (.iload_n 2, 1) := by decide +kernel
theorem dX7_noPair_10 : decode cX7_noPair 10 = .ok (.invokevirtual 176, 3) := by decide +kernel
theorem dX7_noPair_13 : decode cX7_noPair 13 = .ok (.ifCond .ne 8, 3) := by decide +kernel
theorem dX7_noPair_16 : decode cX7_noPair 16 = .ok (.iload_n 1, 1) := by decide +kernel
theorem dX7_noPair_17 : decode cX7_noPair 17 = .ok (.iload_n 2, 1) := by decide +kernel
theorem dX7_noPair_18 : decode cX7_noPair 18 = .ok (.if_icmp .ne 7, 3) := by decide +kernel
theorem dX7_noPair_21 : decode cX7_noPair 21 = .ok (.iconst 1, 1) := by decide +kernel
theorem dX7_noPair_22 : decode cX7_noPair 22 = .ok (.goto 4, 3) := by decide +kernel
theorem dX7_noPair_25 : decode cX7_noPair 25 = .ok (.iconst 0, 1) := by decide +kernel
theorem dX7_noPair_26 : decode cX7_noPair 26 = .ok (.ireturn, 1) := by decide +kernel
theorem dX7_noBar_0 : decode cX7_noBar 0 = .ok (.iload_n 1, 1) := by decide +kernel
theorem dX7_noBar_1 : decode cX7_noBar 1 = .ok (.ifCond .lt 14, 3) := by decide +kernel
theorem dX7_noBar_4 : decode cX7_noBar 4 = .ok (.iload_n 1, 1) := by decide +kernel
theorem dX7_noBar_5 : decode cX7_noBar 5 = .ok (.aload_n 0, 1) := by decide +kernel
theorem dX7_noBar_6 : decode cX7_noBar 6 = .ok (.getfield 10, 3) := by decide +kernel
theorem dX7_noBar_9 : decode cX7_noBar 9 = .ok (.getfield 89, 3) := by decide +kernel
theorem dX7_noBar_12 : decode cX7_noBar 12 = .ok (.if_icmp .lt 7, 3) := by decide +kernel
theorem dX7_noBar_15 : decode cX7_noBar 15 = .ok (.iconst 1, 1) := by decide +kernel
theorem dX7_noBar_16 : decode cX7_noBar 16 = .ok (.goto 4, 3) := by decide +kernel
theorem dX7_noBar_19 : decode cX7_noBar 19 = .ok (.iconst 0, 1) := by decide +kernel
theorem dX7_noBar_20 : decode cX7_noBar 20 = .ok (.ireturn, 1) := by decide +kernel
theorem dX7_noCluster_0 : decode cX7_noCluster 0 = .ok (.iload_n 1, 1) := by decide +kernel
theorem dX7_noCluster_1 : decode cX7_noCluster 1 = .ok (.ifCond .lt 14, 3) := by decide +kernel
theorem dX7_noCluster_4 : decode cX7_noCluster 4 = .ok (.iload_n 1, 1) := by decide +kernel
theorem dX7_noCluster_5 : decode cX7_noCluster 5 = .ok (.aload_n 0, 1) := by decide +kernel
theorem dX7_noCluster_6 : decode cX7_noCluster 6 = .ok (.getfield 36, 3) := by decide +kernel
theorem dX7_noCluster_9 : decode cX7_noCluster 9 = .ok (.getfield 159, 3) := by decide +kernel
theorem dX7_noCluster_12 : decode cX7_noCluster 12 = .ok (.if_icmp .lt 7, 3) := by decide +kernel
theorem dX7_noCluster_15 : decode cX7_noCluster 15 = .ok (.iconst 1, 1) := by decide +kernel
theorem dX7_noCluster_16 : decode cX7_noCluster 16 = .ok (.goto 4, 3) := by decide +kernel
theorem dX7_noCluster_19 : decode cX7_noCluster 19 = .ok (.iconst 0, 1) := by decide +kernel
theorem dX7_noCluster_20 : decode cX7_noCluster 20 = .ok (.ireturn, 1) := by decide +kernel
theorem dX7_keptIn_0 : decode cX7_keptIn 0 = .ok (.aload_n 0, 1) := by decide +kernel
theorem dX7_keptIn_1 : decode cX7_keptIn 1 = .ok (.getfield 10, 3) := by decide +kernel
theorem dX7_keptIn_4 : decode cX7_keptIn 4 = .ok (.getfield 133, 3) := by decide +kernel
theorem dX7_keptIn_7 : decode cX7_keptIn 7 = .ok (.iload_n 2, 1) := by decide +kernel
theorem dX7_keptIn_8 : decode cX7_keptIn 8 = .ok (.baload, 1) := by decide +kernel
theorem dX7_keptIn_9 : decode cX7_keptIn 9 = .ok (.ifCond .ne 6, 3) := by decide +kernel
theorem dX7_keptIn_12 : decode cX7_keptIn 12 = .ok (.bipush (-9), 2) := by decide +kernel
theorem dX7_keptIn_14 : decode cX7_keptIn 14 = .ok (.ireturn, 1) := by decide +kernel
theorem dX7_keptIn_15 : decode cX7_keptIn 15 = .ok (.aload_n 1, 1) := by decide +kernel
theorem dX7_keptIn_16 : decode cX7_keptIn 16 = .ok (.getfield 228, 3) := by decide +kernel
theorem dX7_keptIn_19 : decode cX7_keptIn 19 = .ok (.iload_n 2, 1) := by decide +kernel
theorem dX7_keptIn_20 : decode cX7_keptIn 20 = .ok (.baload, 1) := by decide +kernel
theorem dX7_keptIn_21 : decode cX7_keptIn 21 = .ok (.ifCond .eq 7, 3) := by decide +kernel
theorem dX7_keptIn_24 : decode cX7_keptIn 24 = .ok (.iconst 1, 1) := by decide +kernel
theorem dX7_keptIn_25 : decode cX7_keptIn 25 = .ok (.goto 4, 3) := by decide +kernel
theorem dX7_keptIn_28 : decode cX7_keptIn 28 = .ok (.iconst 0, 1) := by decide +kernel
theorem dX7_keptIn_29 : decode cX7_keptIn 29 = .ok (.ireturn, 1) := by decide +kernel
theorem dX7_wrongCount_0 : decode cX7_wrongCount 0 = .ok (.iload_n 0, 1) := by decide +kernel
theorem dX7_wrongCount_1 : decode cX7_wrongCount 1 = .ok (.iconst 1, 1) := by decide +kernel
theorem dX7_wrongCount_2 : decode cX7_wrongCount 2 = .ok (.if_icmp .lt 7, 3) := by decide +kernel
theorem dX7_wrongCount_5 : decode cX7_wrongCount 5 = .ok (.iload_n 1, 1) := by decide +kernel
theorem dX7_wrongCount_6 : decode cX7_wrongCount 6 = .ok (.ifCond .ge 6, 3) := by decide +kernel
theorem dX7_wrongCount_9 : decode cX7_wrongCount 9 = .ok (.bipush (-4), 2) := by decide +kernel
theorem dX7_wrongCount_11 : decode cX7_wrongCount 11 = .ok (.ireturn, 1) := by decide +kernel
theorem dX7_wrongCount_12 : decode cX7_wrongCount 12 = .ok (.iload_n 0, 1) := by decide +kernel
theorem dX7_wrongCount_13 : decode cX7_wrongCount 13 = .ok (.iconst 3, 1) := by decide +kernel
theorem dX7_wrongCount_14 : decode cX7_wrongCount 14 = .ok (.if_icmp .gt 12, 3) := by decide +kernel
theorem dX7_wrongCount_17 : decode cX7_wrongCount 17 = .ok (.iload_n 1, 1) := by decide +kernel
theorem dX7_wrongCount_18 : decode cX7_wrongCount 18 = .ok (.iconst 2, 1) := by decide +kernel
theorem dX7_wrongCount_19 : decode cX7_wrongCount 19 = .ok (.iload_n 0, 1) := by decide +kernel
theorem dX7_wrongCount_20 : decode cX7_wrongCount 20 = .ok (.imul, 1) := by decide +kernel
theorem dX7_wrongCount_21 : decode cX7_wrongCount 21 = .ok (.iconst 1, 1) := by decide +kernel
theorem dX7_wrongCount_22 : decode cX7_wrongCount 22 = .ok (.isub, 1) := by decide +kernel
theorem dX7_wrongCount_23 : decode cX7_wrongCount 23 = .ok (.if_icmp .le 8, 3) := by decide +kernel
theorem dX7_wrongCount_26 : decode cX7_wrongCount 26 = .ok (.bipush (-6), 2) := by decide +kernel
theorem dX7_wrongCount_28 : decode cX7_wrongCount 28 = .ok (.goto 4, 3) := by decide +kernel
theorem dX7_wrongCount_31 : decode cX7_wrongCount 31 = .ok (.iconst 0, 1) := by decide +kernel
theorem dX7_wrongCount_32 : decode cX7_wrongCount 32 = .ok (.ireturn, 1) := by decide +kernel
theorem dX7_has_0 : decode cX7_has 0 = .ok (.iload_n 0, 1) := by decide +kernel
theorem dX7_has_1 : decode cX7_has 1 = .ok (.iload_n 1, 1) := by decide +kernel
theorem dX7_has_2 : decode cX7_has 2 = .ok (.ishr, 1) := by decide +kernel
theorem dX7_has_3 : decode cX7_has 3 = .ok (.iconst 1, 1) := by decide +kernel
theorem dX7_has_4 : decode cX7_has 4 = .ok (.iand, 1) := by decide +kernel
theorem dX7_has_5 : decode cX7_has 5 = .ok (.iconst 1, 1) := by decide +kernel
theorem dX7_has_6 : decode cX7_has 6 = .ok (.if_icmp .ne 7, 3) := by decide +kernel
theorem dX7_has_9 : decode cX7_has 9 = .ok (.iconst 1, 1) := by decide +kernel
theorem dX7_has_10 : decode cX7_has 10 = .ok (.goto 4, 3) := by decide +kernel
theorem dX7_has_13 : decode cX7_has 13 = .ok (.iconst 0, 1) := by decide +kernel
theorem dX7_has_14 : decode cX7_has 14 = .ok (.ireturn, 1) := by decide +kernel
theorem dX7_jointAt_0 : decode cX7_jointAt 0 = .ok (.iconst 0, 1) := by decide +kernel
theorem dX7_jointAt_1 : decode cX7_jointAt 1 = .ok (.istore_n 2, 1) := by decide +kernel
theorem dX7_jointAt_2 : decode cX7_jointAt 2 = .ok (.iconst 0, 1) := by decide +kernel
theorem dX7_jointAt_3 : decode cX7_jointAt 3 = .ok (.istore_n 3, 1) := by decide +kernel
theorem dX7_jointAt_4 : decode cX7_jointAt 4 = .ok (.iload_n 3, 1) := by decide +kernel
theorem dX7_jointAt_5 : decode cX7_jointAt 5 = .ok (.bipush 24, 2) := by decide +kernel
theorem dX7_jointAt_7 : decode cX7_jointAt 7 = .ok (.if_icmp .ge 27, 3) := by decide +kernel
theorem dX7_jointAt_10 : decode cX7_jointAt 10 = .ok (.iload_n 0, 1) := by decide +kernel
theorem dX7_jointAt_11 : decode cX7_jointAt 11 = .ok (.iload_n 3, 1) := by decide +kernel
theorem dX7_jointAt_12 : decode cX7_jointAt 12 = .ok (.invokestatic 231, 3) := by decide +kernel
theorem dX7_jointAt_15 : decode cX7_jointAt 15 = .ok (.ifCond .eq 13, 3) := by decide +kernel
theorem dX7_jointAt_18 : decode cX7_jointAt 18 = .ok (.iload_n 2, 1) := by decide +kernel
theorem dX7_jointAt_19 : decode cX7_jointAt 19 = .ok (.iload_n 1, 1) := by decide +kernel
theorem dX7_jointAt_20 : decode cX7_jointAt 20 = .ok (.if_icmp .ne 5, 3) := by decide +kernel
theorem dX7_jointAt_23 : decode cX7_jointAt 23 = .ok (.iload_n 3, 1) := by decide +kernel
theorem dX7_jointAt_24 : decode cX7_jointAt 24 = .ok (.ireturn, 1) := by decide +kernel
theorem dX7_jointAt_25 : decode cX7_jointAt 25 = .ok (.iinc 2 1, 3) := by decide +kernel
theorem dX7_jointAt_28 : decode cX7_jointAt 28 = .ok (.iinc 3 1, 3) := by decide +kernel
theorem dX7_jointAt_31 : decode cX7_jointAt 31 = .ok (.goto (-27), 3) := by decide +kernel
theorem dX7_jointAt_34 : decode cX7_jointAt 34 = .ok (.bipush (-9), 2) := by decide +kernel
theorem dX7_jointAt_36 : decode cX7_jointAt 36 = .ok (.ireturn, 1) := by decide +kernel
theorem dX8_init_0 : decode cX8_init 0 = .ok (.aload_n 0, 1) := by decide +kernel
theorem dX8_init_1 : decode cX8_init 1 = .ok (.invokespecial 3, 3) := by decide +kernel
theorem dX8_init_4 : decode cX8_init 4 = .ok (.aload_n 0, 1) := by decide +kernel
theorem dX8_init_5 : decode cX8_init 5 = .ok (.bipush 7, 2) := by decide +kernel
theorem dX8_init_7 : decode cX8_init 7 = .ok (.newarray .int, 2) := by decide +kernel
theorem dX8_init_9 : decode cX8_init 9 = .ok (.putfield 9, 3) := by decide +kernel
theorem dX8_init_12 : decode cX8_init 12 = .ok (.aload_n 0, 1) := by decide +kernel
theorem dX8_init_13 : decode cX8_init 13 = .ok (.bipush 80, 2) := by decide +kernel
theorem dX8_init_15 : decode cX8_init 15 = .ok (.newarray .int, 2) := by decide +kernel
theorem dX8_init_17 : decode cX8_init 17 = .ok (.putfield 13, 3) := by decide +kernel
theorem dX8_init_20 : decode cX8_init 20 = .ok (.aload_n 0, 1) := by decide +kernel
theorem dX8_init_21 : decode cX8_init 21 = .ok (.bipush 80, 2) := by decide +kernel
theorem dX8_init_23 : decode cX8_init 23 = .ok (.newarray .int, 2) := by decide +kernel
theorem dX8_init_25 : decode cX8_init 25 = .ok (.putfield 16, 3) := by decide +kernel
theorem dX8_init_28 : decode cX8_init 28 = .ok (.aload_n 0, 1) := by decide +kernel
theorem dX8_init_29 : decode cX8_init 29 = .ok (.bipush 80, 2) := by decide +kernel
theorem dX8_init_31 : decode cX8_init 31 = .ok (.newarray .int, 2) := by decide +kernel
theorem dX8_init_33 : decode cX8_init 33 = .ok (.putfield 19, 3) := by decide +kernel
theorem dX8_init_36 : decode cX8_init 36 = .ok (.aload_n 0, 1) := by decide +kernel
theorem dX8_init_37 : decode cX8_init 37 = .ok (.bipush 80, 2) := by decide +kernel
theorem dX8_init_39 : decode cX8_init 39 = .ok (.newarray .boolean, 2) := by decide +kernel
theorem dX8_init_41 : decode cX8_init 41 = .ok (.putfield 22, 3) := by decide +kernel
theorem dX8_init_44 : decode cX8_init 44 = .ok (.aload_n 0, 1) := by decide +kernel
theorem dX8_init_45 : decode cX8_init 45 = .ok (.bipush 88, 2) := by decide +kernel
theorem dX8_init_47 : decode cX8_init 47 = .ok (.newarray .int, 2) := by decide +kernel
theorem dX8_init_49 : decode cX8_init 49 = .ok (.putfield 26, 3) := by decide +kernel
theorem dX8_init_52 : decode cX8_init 52 = .ok (.aload_n 0, 1) := by decide +kernel
theorem dX8_init_53 : decode cX8_init 53 = .ok (.bipush 88, 2) := by decide +kernel
theorem dX8_init_55 : decode cX8_init 55 = .ok (.newarray .int, 2) := by decide +kernel
theorem dX8_init_57 : decode cX8_init 57 = .ok (.putfield 29, 3) := by decide +kernel
theorem dX8_init_60 : decode cX8_init 60 = .ok (.aload_n 0, 1) := by decide +kernel
theorem dX8_init_61 : decode cX8_init 61 = .ok (.bipush 88, 2) := by decide +kernel
theorem dX8_init_63 : decode cX8_init 63 = .ok (.newarray .int, 2) := by decide +kernel
theorem dX8_init_65 : decode cX8_init 65 = .ok (.putfield 32, 3) := by decide +kernel
theorem dX8_init_68 : decode cX8_init 68 = .ok (.aload_n 0, 1) := by decide +kernel
theorem dX8_init_69 : decode cX8_init 69 = .ok (.bipush 24, 2) := by decide +kernel
theorem dX8_init_71 : decode cX8_init 71 = .ok (.newarray .int, 2) := by decide +kernel
theorem dX8_init_73 : decode cX8_init 73 = .ok (.putfield 35, 3) := by decide +kernel
theorem dX8_init_76 : decode cX8_init 76 = .ok (.aload_n 0, 1) := by decide +kernel
theorem dX8_init_77 : decode cX8_init 77 = .ok (.bipush 24, 2) := by decide +kernel
theorem dX8_init_79 : decode cX8_init 79 = .ok (.newarray .boolean, 2) := by decide +kernel
theorem dX8_init_81 : decode cX8_init 81 = .ok (.putfield 38, 3) := by decide +kernel
theorem dX8_init_84 : decode cX8_init 84 = .ok (.aload_n 0, 1) := by decide +kernel
theorem dX8_init_85 : decode cX8_init 85 = .ok (.bipush 80, 2) := by decide +kernel
theorem dX8_init_87 : decode cX8_init 87 = .ok (.newarray .boolean, 2) := by decide +kernel
theorem dX8_init_89 : decode cX8_init 89 = .ok (.putfield 41, 3) := by decide +kernel
theorem dX8_init_92 : decode cX8_init 92 = .ok (.aload_n 0, 1) := by decide +kernel
theorem dX8_init_93 : decode cX8_init 93 = .ok (.bipush 80, 2) := by decide +kernel
theorem dX8_init_95 : decode cX8_init 95 = .ok (.newarray .boolean, 2) := by decide +kernel
theorem dX8_init_97 : decode cX8_init 97 = .ok (.putfield 44, 3) := by decide +kernel
theorem dX8_init_100 : decode cX8_init 100 = .ok (.aload_n 0, 1) := by decide +kernel
theorem dX8_init_101 : decode cX8_init 101 = .ok (.bipush 80, 2) := by decide +kernel
theorem dX8_init_103 : decode cX8_init 103 = .ok (.newarray .boolean, 2) := by decide +kernel
theorem dX8_init_105 : decode cX8_init 105 = .ok (.putfield 47, 3) := by decide +kernel
theorem dX8_init_108 : decode cX8_init 108 = .ok (.aload_n 0, 1) := by decide +kernel
theorem dX8_init_109 : decode cX8_init 109 = .ok (.bipush 80, 2) := by decide +kernel
theorem dX8_init_111 : decode cX8_init 111 = .ok (.newarray .boolean, 2) := by decide +kernel
theorem dX8_init_113 : decode cX8_init 113 = .ok (.putfield 50, 3) := by decide +kernel
theorem dX8_init_116 : decode cX8_init 116 = .ok (.aload_n 0, 1) := by decide +kernel
theorem dX8_init_117 : decode cX8_init 117 = .ok (.sipush 576, 3) := by decide +kernel
theorem dX8_init_120 : decode cX8_init 120 = .ok (.newarray .int, 2) := by decide +kernel
theorem dX8_init_122 : decode cX8_init 122 = .ok (.putfield 53, 3) := by decide +kernel
theorem dX8_init_125 : decode cX8_init 125 = .ok (.aload_n 0, 1) := by decide +kernel
theorem dX8_init_126 : decode cX8_init 126 = .ok (.sipush 576, 3) := by decide +kernel
theorem dX8_init_129 : decode cX8_init 129 = .ok (.newarray .boolean, 2) := by decide +kernel
theorem dX8_init_131 : decode cX8_init 131 = .ok (.putfield 56, 3) := by decide +kernel
theorem dX8_init_134 : decode cX8_init 134 = .ok (.aload_n 0, 1) := by decide +kernel
theorem dX8_init_135 : decode cX8_init 135 = .ok (.bipush 80, 2) := by decide +kernel
theorem dX8_init_137 : decode cX8_init 137 = .ok (.newarray .int, 2) := by decide +kernel
theorem dX8_init_139 : decode cX8_init 139 = .ok (.putfield 59, 3) := by decide +kernel
theorem dX8_init_142 : decode cX8_init 142 = .ok (.aload_n 0, 1) := by decide +kernel
theorem dX8_init_143 : decode cX8_init 143 = .ok (.bipush 48, 2) := by decide +kernel
theorem dX8_init_145 : decode cX8_init 145 = .ok (.newarray .int, 2) := by decide +kernel
theorem dX8_init_147 : decode cX8_init 147 = .ok (.putfield 62, 3) := by decide +kernel
theorem dX8_init_150 : decode cX8_init 150 = .ok (.aload_n 0, 1) := by decide +kernel
theorem dX8_init_151 : decode cX8_init 151 = .ok (.bipush 24, 2) := by decide +kernel
theorem dX8_init_153 : decode cX8_init 153 = .ok (.newarray .int, 2) := by decide +kernel
theorem dX8_init_155 : decode cX8_init 155 = .ok (.putfield 65, 3) := by decide +kernel
theorem dX8_init_158 : decode cX8_init 158 = .ok (.aload_n 0, 1) := by decide +kernel
theorem dX8_init_159 : decode cX8_init 159 = .ok (.bipush 24, 2) := by decide +kernel
theorem dX8_init_161 : decode cX8_init 161 = .ok (.newarray .int, 2) := by decide +kernel
theorem dX8_init_163 : decode cX8_init 163 = .ok (.putfield 68, 3) := by decide +kernel
theorem dX8_init_166 : decode cX8_init 166 = .ok (.aload_n 0, 1) := by decide +kernel
theorem dX8_init_167 : decode cX8_init 167 = .ok (.bipush 24, 2) := by decide +kernel
theorem dX8_init_169 : decode cX8_init 169 = .ok (.newarray .int, 2) := by decide +kernel
theorem dX8_init_171 : decode cX8_init 171 = .ok (.putfield 71, 3) := by decide +kernel
theorem dX8_init_174 : decode cX8_init 174 = .ok (.aload_n 0, 1) := by decide +kernel
theorem dX8_init_175 : decode cX8_init 175 = .ok (.bipush 24, 2) := by decide +kernel
theorem dX8_init_177 : decode cX8_init 177 = .ok (.newarray .int, 2) := by decide +kernel
theorem dX8_init_179 : decode cX8_init 179 = .ok (.putfield 74, 3) := by decide +kernel
theorem dX8_init_182 : decode cX8_init 182 = .ok (.aload_n 0, 1) := by decide +kernel
theorem dX8_init_183 : decode cX8_init 183 = .ok (.bipush 80, 2) := by decide +kernel
theorem dX8_init_185 : decode cX8_init 185 = .ok (.newarray .int, 2) := by decide +kernel
theorem dX8_init_187 : decode cX8_init 187 = .ok (.putfield 77, 3) := by decide +kernel
theorem dX8_init_190 : decode cX8_init 190 = .ok (.return_, 1) := by decide +kernel
theorem dX8_refuse_0 : decode cX8_refuse 0 = .ok (.aload_n 0, 1) := by decide +kernel
theorem dX8_refuse_1 : decode cX8_refuse 1 = .ok (.getfield 9, 3) := by decide +kernel
theorem dX8_refuse_4 : decode cX8_refuse 4 = .ok (.iload_n 1, 1) := by decide +kernel
theorem dX8_refuse_5 : decode cX8_refuse 5 = .ok (.ineg, 1) := by decide +kernel
theorem dX8_refuse_6 : decode cX8_refuse 6 = .ok (.dup2, 1) := by decide +kernel
theorem dX8_refuse_7 : decode cX8_refuse 7 = .ok (.iaload, 1) := by decide +kernel
theorem dX8_refuse_8 : decode cX8_refuse 8 = .ok (.iconst 1, 1) := by decide +kernel
theorem dX8_refuse_9 : decode cX8_refuse 9 = .ok (.iadd, 1) := by decide +kernel
theorem dX8_refuse_10 : decode cX8_refuse 10 = .ok (.iastore, 1) := by decide +kernel
theorem dX8_refuse_11 : decode cX8_refuse 11 = .ok (.iload_n 1, 1) := by decide +kernel
theorem dX8_refuse_12 : decode cX8_refuse 12 = .ok (.ireturn, 1) := by decide +kernel
theorem dX8_isIn_0 : decode cX8_isIn 0 = .ok (.iload_n 0, 1) := by decide +kernel
theorem dX8_isIn_1 : decode cX8_isIn 1 = .ok (.ifCond .lt 12, 3) := by decide +kernel
theorem dX8_isIn_4 : decode cX8_isIn 4 = .ok (.iload_n 0, 1) := by decide +kernel
theorem dX8_isIn_5 : decode cX8_isIn 5 = .ok (.iload_n 1, 1) := by decide +kernel
theorem dX8_isIn_6 : decode cX8_isIn 6 = .ok (.if_icmp .ge 7, 3) := by decide +kernel
theorem dX8_isIn_9 : decode cX8_isIn 9 = .ok (.iconst 1, 1) := by decide +kernel
theorem dX8_isIn_10 : decode cX8_isIn 10 = .ok (.goto 4, 3) := by decide +kernel
theorem dX8_isIn_13 : decode cX8_isIn 13 = .ok (.iconst 0, 1) := by decide +kernel
theorem dX8_isIn_14 : decode cX8_isIn 14 = .ok (.ireturn, 1) := by decide +kernel
theorem dX8_wrong_0 : decode cX8_wrong 0 = .ok (.iload_n 0, 1) := by decide +kernel
theorem dX8_wrong_1 : decode cX8_wrong 1 = .ok (.iload_n 1, 1) := by decide +kernel
theorem dX8_wrong_2 : decode cX8_wrong 2 = .ok (.if_icmp .ge 8, 3) := by decide +kernel
theorem dX8_wrong_5 : decode cX8_wrong 5 = .ok (.bipush (-4), 2) := by decide +kernel
theorem dX8_wrong_7 : decode cX8_wrong 7 = .ok (.goto 14, 3) := by decide +kernel
theorem dX8_wrong_10 : decode cX8_wrong 10 = .ok (.iload_n 0, 1) := by decide +kernel
theorem dX8_wrong_11 : decode cX8_wrong 11 = .ok (.iload_n 2, 1) := by decide +kernel
theorem dX8_wrong_12 : decode cX8_wrong 12 = .ok (.if_icmp .le 8, 3) := by decide +kernel
theorem dX8_wrong_15 : decode cX8_wrong 15 = .ok (.bipush (-6), 2) := by decide +kernel
theorem dX8_wrong_17 : decode cX8_wrong 17 = .ok (.goto 4, 3) := by decide +kernel
theorem dX8_wrong_20 : decode cX8_wrong 20 = .ok (.iconst 0, 1) := by decide +kernel
theorem dX8_wrong_21 : decode cX8_wrong 21 = .ok (.ireturn, 1) := by decide +kernel
theorem dX8_joint_0 : decode cX8_joint 0 = .ok (.aload_n 0, 1) := by decide +kernel
theorem dX8_joint_1 : decode cX8_joint 1 = .ok (.getfield 80, 3) := by decide +kernel
theorem dX8_joint_4 : decode cX8_joint 4 = .ok (.bipush 24, 2) := by decide +kernel
theorem dX8_joint_6 : decode cX8_joint 6 = .ok (.if_icmp .ne 10, 3) := by decide +kernel
theorem dX8_joint_9 : decode cX8_joint 9 = .ok (.aload_n 0, 1) := by decide +kernel
theorem dX8_joint_10 : decode cX8_joint 10 = .ok (.bipush (-6), 2) := by decide +kernel
theorem dX8_joint_12 : decode cX8_joint 12 = .ok (.invokevirtual 84, 3) := by decide +kernel
theorem dX8_joint_15 : decode cX8_joint 15 = .ok (.ireturn, 1) := by decide +kernel
theorem dX8_joint_16 : decode cX8_joint 16 = .ok (.aload_n 0, 1) := by decide +kernel
theorem dX8_joint_17 : decode cX8_joint 17 = .ok (.dup, 1) := by decide +kernel
theorem dX8_joint_18 : decode cX8_joint 18 = .ok (.getfield 80, 3) := by decide +kernel
theorem dX8_joint_21 : decode cX8_joint 21 = .ok (.iconst 1, 1) := by decide +kernel
theorem dX8_joint_22 : decode cX8_joint 22 = .ok (.iadd, 1) := by decide +kernel
theorem dX8_joint_23 : decode cX8_joint 23 = .ok (.putfield 80, 3) := by decide +kernel
theorem dX8_joint_26 : decode cX8_joint 26 = .ok (.aload_n 0, 1) := by decide +kernel
theorem dX8_joint_27 : decode cX8_joint 27 = .ok (.getfield 80, 3) := by decide +kernel
theorem dX8_joint_30 : decode cX8_joint 30 = .ok (.iconst 1, 1) := by decide +kernel
theorem dX8_joint_31 : decode cX8_joint 31 = .ok (.isub, 1) := by decide +kernel
theorem dX8_joint_32 : decode cX8_joint 32 = .ok (.ireturn, 1) := by decide +kernel
theorem dX8_areJoints_0 : decode cX8_areJoints 0 = .ok (.iload_n 1, 1) := by decide +kernel
theorem dX8_areJoints_1 : decode cX8_areJoints 1 = .ok (.aload_n 0, 1) := by decide +kernel
theorem dX8_areJoints_2 : decode cX8_areJoints 2 = .ok (.getfield 80, 3) := by decide +kernel
theorem dX8_areJoints_5 : decode cX8_areJoints 5 = .ok (.invokestatic 88, 3) := by decide +kernel
theorem dX8_areJoints_8 : decode cX8_areJoints 8 = .ok (.ifCond .eq 23, 3) := by decide +kernel
theorem dX8_areJoints_11 : decode cX8_areJoints 11 = .ok (.iload_n 2, 1) := by decide +kernel
theorem dX8_areJoints_12 : decode cX8_areJoints 12 = .ok (.aload_n 0, 1) := by decide +kernel
theorem dX8_areJoints_13 : decode cX8_areJoints 13 = .ok (.getfield 80, 3) := by decide +kernel
theorem dX8_areJoints_16 : decode cX8_areJoints 16 = .ok (.invokestatic 88, 3) := by decide +kernel
theorem dX8_areJoints_19 : decode cX8_areJoints 19 = .ok (.ifCond .eq 12, 3) := by decide +kernel
theorem dX8_areJoints_22 : decode cX8_areJoints 22 = .ok (.iload_n 1, 1) := by decide +kernel
theorem dX8_areJoints_23 : decode cX8_areJoints 23 = .ok (.iload_n 2, 1) := by decide +kernel
theorem dX8_areJoints_24 : decode cX8_areJoints 24 = .ok (.if_icmp .eq 7, 3) := by decide +kernel
