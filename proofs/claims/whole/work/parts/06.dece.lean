theorem dX9_runs_59 : decode cX9_runs 59 = .ok (.if_icmp .ne 8, 3) := by decide +kernel
theorem dX9_runs_62 : decode cX9_runs 62 = .ok (.iload 4, 2) := by decide +kernel
theorem dX9_runs_64 : decode cX9_runs 64 = .ok (.goto 4, 3) := by decide +kernel
theorem dX9_runs_67 : decode cX9_runs 67 = .ok (.iload_n 3, 1) := by decide +kernel
theorem dX9_runs_68 : decode cX9_runs 68 = .ok (.istore_n 3, 1) := by decide +kernel
theorem dX9_runs_69 : decode cX9_runs 69 = .ok (.iload 4, 2) := by decide +kernel
theorem dX9_runs_71 : decode cX9_runs 71 = .ok (.iload_n 1, 1) := by decide +kernel
theorem dX9_runs_72 : decode cX9_runs 72 = .ok (.if_icmp .ge 7, 3) := by decide +kernel
theorem dX9_runs_75 : decode cX9_runs 75 = .ok (.aload_n 0, 1) := by decide +kernel
theorem dX9_runs_76 : decode cX9_runs 76 = .ok (.invokevirtual 197, 3) := by decide +kernel
theorem dX9_runs_79 : decode cX9_runs 79 = .ok (.iinc 4 1, 3) := by decide +kernel
theorem dX9_runs_82 : decode cX9_runs 82 = .ok (.goto (-47), 3) := by decide +kernel
theorem dX9_runs_85 : decode cX9_runs 85 = .ok (.iload_n 2, 1) := by decide +kernel
theorem dX9_runs_86 : decode cX9_runs 86 = .ok (.ifCond .ne 10, 3) := by decide +kernel
theorem dX9_runs_89 : decode cX9_runs 89 = .ok (.aload_n 0, 1) := by decide +kernel
theorem dX9_runs_90 : decode cX9_runs 90 = .ok (.getfield 162, 3) := by decide +kernel
theorem dX9_runs_93 : decode cX9_runs 93 = .ok (.goto 28, 3) := by decide +kernel
theorem dX9_runs_96 : decode cX9_runs 96 = .ok (.iload_n 2, 1) := by decide +kernel
theorem dX9_runs_97 : decode cX9_runs 97 = .ok (.iconst 1, 1) := by decide +kernel
theorem dX9_runs_98 : decode cX9_runs 98 = .ok (.if_icmp .ne 10, 3) := by decide +kernel
theorem dX9_runs_101 : decode cX9_runs 101 = .ok (.aload_n 0, 1) := by decide +kernel
theorem dX9_runs_102 : decode cX9_runs 102 = .ok (.getfield 165, 3) := by decide +kernel
theorem dX9_runs_105 : decode cX9_runs 105 = .ok (.goto 16, 3) := by decide +kernel
theorem dX9_runs_108 : decode cX9_runs 108 = .ok (.iload_n 2, 1) := by decide +kernel
theorem dX9_runs_109 : decode cX9_runs 109 = .ok (.iconst 2, 1) := by decide +kernel
theorem dX9_runs_110 : decode cX9_runs 110 = .ok (.if_icmp .ne 10, 3) := by decide +kernel
theorem dX9_runs_113 : decode cX9_runs 113 = .ok (.aload_n 0, 1) := by decide +kernel
theorem dX9_runs_114 : decode cX9_runs 114 = .ok (.getfield 168, 3) := by decide +kernel
theorem dX9_runs_117 : decode cX9_runs 117 = .ok (.goto 4, 3) := by decide +kernel
theorem dX9_runs_120 : decode cX9_runs 120 = .ok (.iload_n 3, 1) := by decide +kernel
theorem dX9_runs_121 : decode cX9_runs 121 = .ok (.ireturn, 1) := by decide +kernel
theorem dX9_ahead_0 : decode cX9_ahead 0 = .ok (.aload_n 0, 1) := by decide +kernel
theorem dX9_ahead_1 : decode cX9_ahead 1 = .ok (.iload_n 1, 1) := by decide +kernel
theorem dX9_ahead_2 : decode cX9_ahead 2 = .ok (.invokevirtual 216, 3) := by decide +kernel
theorem dX9_ahead_5 : decode cX9_ahead 5 = .ok (.ifCond .eq 17, 3) := by decide +kernel
theorem dX9_ahead_8 : decode cX9_ahead 8 = .ok (.iload_n 2, 1) := by decide +kernel
theorem dX9_ahead_9 : decode cX9_ahead 9 = .ok (.invokestatic 250, 3) := by decide +kernel
theorem dX9_ahead_12 : decode cX9_ahead 12 = .ok (.ifCond .eq 10, 3) := by decide +kernel
theorem dX9_ahead_15 : decode cX9_ahead 15 = .ok (.iload_n 3, 1) := by decide +kernel
theorem dX9_ahead_16 : decode cX9_ahead 16 = .ok (.invokestatic 253, 3) := by decide +kernel
theorem dX9_ahead_19 : decode cX9_ahead 19 = .ok (.ifCond .ne 5, 3) := by decide +kernel
theorem dX9_ahead_22 : decode cX9_ahead 22 = .ok (.iconst (-1), 1) := by decide +kernel
theorem dX9_ahead_23 : decode cX9_ahead 23 = .ok (.ireturn, 1) := by decide +kernel
theorem dX9_ahead_24 : decode cX9_ahead 24 = .ok (.aload_n 0, 1) := by decide +kernel
theorem dX9_ahead_25 : decode cX9_ahead 25 = .ok (.invokevirtual 204, 3) := by decide +kernel
theorem dX9_ahead_28 : decode cX9_ahead 28 = .ok (.aload_n 0, 1) := by decide +kernel
theorem dX9_ahead_29 : decode cX9_ahead 29 = .ok (.iload_n 2, 1) := by decide +kernel
theorem dX9_ahead_30 : decode cX9_ahead 30 = .ok (.invokevirtual 245, 3) := by decide +kernel
theorem dX9_ahead_33 : decode cX9_ahead 33 = .ok (.iload_n 3, 1) := by decide +kernel
theorem dX9_ahead_34 : decode cX9_ahead 34 = .ok (.ifCond .ne 12, 3) := by decide +kernel
theorem dX9_ahead_37 : decode cX9_ahead 37 = .ok (.aload_n 0, 1) := by decide +kernel
theorem dX9_ahead_38 : decode cX9_ahead 38 = .ok (.iload_n 1, 1) := by decide +kernel
theorem dX9_ahead_39 : decode cX9_ahead 39 = .ok (.iconst 1, 1) := by decide +kernel
theorem dX9_ahead_40 : decode cX9_ahead 40 = .ok (.invokevirtual 153, 3) := by decide +kernel
theorem dX9_ahead_43 : decode cX9_ahead 43 = .ok (.goto 9, 3) := by decide +kernel
theorem dX9_ahead_46 : decode cX9_ahead 46 = .ok (.aload_n 0, 1) := by decide +kernel
theorem dX9_ahead_47 : decode cX9_ahead 47 = .ok (.iload_n 1, 1) := by decide +kernel
theorem dX9_ahead_48 : decode cX9_ahead 48 = .ok (.iconst 3, 1) := by decide +kernel
theorem dX9_ahead_49 : decode cX9_ahead 49 = .ok (.invokevirtual 153, 3) := by decide +kernel
theorem dX9_ahead_52 : decode cX9_ahead 52 = .ok (.ireturn, 1) := by decide +kernel
theorem dX9_daysTo_0 : decode cX9_daysTo 0 = .ok (.iconst 0, 1) := by decide +kernel
theorem dX9_daysTo_1 : decode cX9_daysTo 1 = .ok (.istore_n 2, 1) := by decide +kernel
theorem dX9_daysTo_2 : decode cX9_daysTo 2 = .ok (.iload_n 2, 1) := by decide +kernel
theorem dX9_daysTo_3 : decode cX9_daysTo 3 = .ok (.bipush 60, 2) := by decide +kernel
theorem dX9_daysTo_5 : decode cX9_daysTo 5 = .ok (.if_icmp .gt 26, 3) := by decide +kernel
theorem dX9_daysTo_8 : decode cX9_daysTo 8 = .ok (.aload_n 0, 1) := by decide +kernel
theorem dX9_daysTo_9 : decode cX9_daysTo 9 = .ok (.iload_n 1, 1) := by decide +kernel
theorem dX9_daysTo_10 : decode cX9_daysTo 10 = .ok (.iconst 1, 1) := by decide +kernel
theorem dX9_daysTo_11 : decode cX9_daysTo 11 = .ok (.invokevirtual 153, 3) := by decide +kernel
theorem dX9_daysTo_14 : decode cX9_daysTo 14 = .ok (.bipush (-4), 2) := by decide +kernel
theorem dX9_daysTo_16 : decode cX9_daysTo 16 = .ok (.if_icmp .ne 5, 3) := by decide +kernel
theorem dX9_daysTo_19 : decode cX9_daysTo 19 = .ok (.iload_n 2, 1) := by decide +kernel
theorem dX9_daysTo_20 : decode cX9_daysTo 20 = .ok (.ireturn, 1) := by decide +kernel
theorem dX9_daysTo_21 : decode cX9_daysTo 21 = .ok (.aload_n 0, 1) := by decide +kernel
theorem dX9_daysTo_22 : decode cX9_daysTo 22 = .ok (.invokevirtual 197, 3) := by decide +kernel
theorem dX9_daysTo_25 : decode cX9_daysTo 25 = .ok (.iinc 2 1, 3) := by decide +kernel
theorem dX9_daysTo_28 : decode cX9_daysTo 28 = .ok (.goto (-26), 3) := by decide +kernel
theorem dX9_daysTo_31 : decode cX9_daysTo 31 = .ok (.bipush (-4), 2) := by decide +kernel
theorem dX9_daysTo_33 : decode cX9_daysTo 33 = .ok (.ireturn, 1) := by decide +kernel
theorem dX9_done_0 : decode cX9_done 0 = .ok (.aload_n 0, 1) := by decide +kernel
theorem dX9_done_1 : decode cX9_done 1 = .ok (.iload_n 1, 1) := by decide +kernel
theorem dX9_done_2 : decode cX9_done 2 = .ok (.invokevirtual 216, 3) := by decide +kernel
theorem dX9_done_5 : decode cX9_done 5 = .ok (.ifCond .ne 5, 3) := by decide +kernel
theorem dX9_done_8 : decode cX9_done 8 = .ok (.iconst (-1), 1) := by decide +kernel
theorem dX9_done_9 : decode cX9_done 9 = .ok (.ireturn, 1) := by decide +kernel
theorem dX9_done_10 : decode cX9_done 10 = .ok (.aload_n 0, 1) := by decide +kernel
theorem dX9_done_11 : decode cX9_done 11 = .ok (.invokevirtual 204, 3) := by decide +kernel
theorem dX9_done_14 : decode cX9_done 14 = .ok (.aload_n 0, 1) := by decide +kernel
theorem dX9_done_15 : decode cX9_done 15 = .ok (.iload_n 1, 1) := by decide +kernel
theorem dX9_done_16 : decode cX9_done 16 = .ok (.invokevirtual 256, 3) := by decide +kernel
theorem dX9_done_19 : decode cX9_done 19 = .ok (.ireturn, 1) := by decide +kernel
theorem dX9_vertigo_0 : decode cX9_vertigo 0 = .ok (.aload_n 0, 1) := by decide +kernel
theorem dX9_vertigo_1 : decode cX9_vertigo 1 = .ok (.iload_n 1, 1) := by decide +kernel
theorem dX9_vertigo_2 : decode cX9_vertigo 2 = .ok (.invokevirtual 216, 3) := by decide +kernel
theorem dX9_vertigo_5 : decode cX9_vertigo 5 = .ok (.ifCond .ne 5, 3) := by decide +kernel
theorem dX9_vertigo_8 : decode cX9_vertigo 8 = .ok (.iconst (-1), 1) := by decide +kernel
theorem dX9_vertigo_9 : decode cX9_vertigo 9 = .ok (.ireturn, 1) := by decide +kernel
theorem dX9_vertigo_10 : decode cX9_vertigo 10 = .ok (.aload_n 0, 1) := by decide +kernel
theorem dX9_vertigo_11 : decode cX9_vertigo 11 = .ok (.invokevirtual 204, 3) := by decide +kernel
theorem dX9_vertigo_14 : decode cX9_vertigo 14 = .ok (.aload_n 0, 1) := by decide +kernel
theorem dX9_vertigo_15 : decode cX9_vertigo 15 = .ok (.iload_n 1, 1) := by decide +kernel
theorem dX9_vertigo_16 : decode cX9_vertigo 16 = .ok (.invokevirtual 191, 3) := by decide +kernel
theorem dX9_vertigo_19 : decode cX9_vertigo 19 = .ok (.aload_n 0, 1) := by decide +kernel
theorem dX9_vertigo_20 : decode cX9_vertigo 20 = .ok (.getfield 178, 3) := by decide +kernel
theorem dX9_vertigo_23 : decode cX9_vertigo 23 = .ok (.ireturn, 1) := by decide +kernel
theorem dX9_isRow_0 : decode cX9_isRow 0 = .ok (.iload_n 1, 1) := by decide +kernel
theorem dX9_isRow_1 : decode cX9_isRow 1 = .ok (.istore_n 2, 1) := by decide +kernel
theorem dX9_isRow_2 : decode cX9_isRow 2 = .ok (.iconst 0, 1) := by decide +kernel
theorem dX9_isRow_3 : decode cX9_isRow 3 = .ok (.istore_n 3, 1) := by decide +kernel
theorem dX9_isRow_4 : decode cX9_isRow 4 = .ok (.aload_n 0, 1) := by decide +kernel
theorem dX9_isRow_5 : decode cX9_isRow 5 = .ok (.getfield 73, 3) := by decide +kernel
theorem dX9_isRow_8 : decode cX9_isRow 8 = .ok (.iconst 1, 1) := by decide +kernel
theorem dX9_isRow_9 : decode cX9_isRow 9 = .ok (.isub, 1) := by decide +kernel
theorem dX9_isRow_10 : decode cX9_isRow 10 = .ok (.istore 4, 2) := by decide +kernel
theorem dX9_isRow_12 : decode cX9_isRow 12 = .ok (.iload 4, 2) := by decide +kernel
theorem dX9_isRow_14 : decode cX9_isRow 14 = .ok (.ifCond .lt 35, 3) := by decide +kernel
theorem dX9_isRow_17 : decode cX9_isRow 17 = .ok (.aload_n 0, 1) := by decide +kernel
theorem dX9_isRow_18 : decode cX9_isRow 18 = .ok (.getfield 26, 3) := by decide +kernel
theorem dX9_isRow_21 : decode cX9_isRow 21 = .ok (.iload 4, 2) := by decide +kernel
theorem dX9_isRow_23 : decode cX9_isRow 23 = .ok (.iload_n 2, 1) := by decide +kernel
theorem dX9_isRow_24 : decode cX9_isRow 24 = .ok (.iconst 4, 1) := by decide +kernel
theorem dX9_isRow_25 : decode cX9_isRow 25 = .ok (.irem, 1) := by decide +kernel
theorem dX9_isRow_26 : decode cX9_isRow 26 = .ok (.iastore, 1) := by decide +kernel
theorem dX9_isRow_27 : decode cX9_isRow 27 = .ok (.iload_n 2, 1) := by decide +kernel
theorem dX9_isRow_28 : decode cX9_isRow 28 = .ok (.iconst 4, 1) := by decide +kernel
theorem dX9_isRow_29 : decode cX9_isRow 29 = .ok (.idiv, 1) := by decide +kernel
theorem dX9_isRow_30 : decode cX9_isRow 30 = .ok (.istore_n 2, 1) := by decide +kernel
theorem dX9_isRow_31 : decode cX9_isRow 31 = .ok (.iload_n 3, 1) := by decide +kernel
theorem dX9_isRow_32 : decode cX9_isRow 32 = .ok (.iconst 1, 1) := by decide +kernel
theorem dX9_isRow_33 : decode cX9_isRow 33 = .ok (.aload_n 0, 1) := by decide +kernel
theorem dX9_isRow_34 : decode cX9_isRow 34 = .ok (.getfield 26, 3) := by decide +kernel
theorem dX9_isRow_37 : decode cX9_isRow 37 = .ok (.iload 4, 2) := by decide +kernel
theorem dX9_isRow_39 : decode cX9_isRow 39 = .ok (.iaload, 1) := by decide +kernel
theorem dX9_isRow_40 : decode cX9_isRow 40 = .ok (.ishl, 1) := by decide +kernel
theorem dX9_isRow_41 : decode cX9_isRow 41 = .ok (.ior, 1) := by decide +kernel
theorem dX9_isRow_42 : decode cX9_isRow 42 = .ok (.istore_n 3, 1) := by decide +kernel
theorem dX9_isRow_43 : decode cX9_isRow 43 = .ok (.iinc 4 (-1), 3) := by decide +kernel
theorem dX9_isRow_46 : decode cX9_isRow 46 = .ok (.goto (-34), 3) := by decide +kernel
theorem dX9_isRow_49 : decode cX9_isRow 49 = .ok (.iload_n 3, 1) := by decide +kernel
theorem dX9_isRow_50 : decode cX9_isRow 50 = .ok (.iconst 1, 1) := by decide +kernel
theorem dX9_isRow_51 : decode cX9_isRow 51 = .ok (.aload_n 0, 1) := by decide +kernel
theorem dX9_isRow_52 : decode cX9_isRow 52 = .ok (.getfield 73, 3) := by decide +kernel
theorem dX9_isRow_55 : decode cX9_isRow 55 = .ok (.ishl, 1) := by decide +kernel
theorem dX9_isRow_56 : decode cX9_isRow 56 = .ok (.iconst 1, 1) := by decide +kernel
theorem dX9_isRow_57 : decode cX9_isRow 57 = .ok (.isub, 1) := by decide +kernel
theorem dX9_isRow_58 : decode cX9_isRow 58 = .ok (.if_icmp .ne 7, 3) := by decide +kernel
theorem dX9_isRow_61 : decode cX9_isRow 61 = .ok (.iconst 1, 1) := by decide +kernel
theorem dX9_isRow_62 : decode cX9_isRow 62 = .ok (.goto 4, 3) := by decide +kernel
theorem dX9_isRow_65 : decode cX9_isRow 65 = .ok (.iconst 0, 1) := by decide +kernel
theorem dX9_isRow_66 : decode cX9_isRow 66 = .ok (.ireturn, 1) := by decide +kernel
theorem dX9_minutesByRow_0 : decode cX9_minutesByRow 0 = .ok (.aload_n 0, 1) := by decide +kernel
theorem dX9_minutesByRow_1 : decode cX9_minutesByRow 1 = .ok (.invokevirtual 204, 3) := by decide +kernel
theorem dX9_minutesByRow_4 : decode cX9_minutesByRow 4 = .ok (.aload_n 0, 1) := by decide +kernel
theorem dX9_minutesByRow_5 : decode cX9_minutesByRow 5 = .ok (.invokevirtual 194, 3) := by decide +kernel
theorem dX9_minutesByRow_8 : decode cX9_minutesByRow 8 = .ok (.iconst 0, 1) := by decide +kernel
theorem dX9_minutesByRow_9 : decode cX9_minutesByRow 9 = .ok (.istore_n 1, 1) := by decide +kernel
theorem dX9_minutesByRow_10 : decode cX9_minutesByRow 10 = .ok (.iload_n 1, 1) := by decide +kernel
theorem dX9_minutesByRow_11 : decode cX9_minutesByRow 11 = .ok (.aload_n 0, 1) := by decide +kernel
theorem dX9_minutesByRow_12 : decode cX9_minutesByRow 12 = .ok (.getfield 73, 3) := by decide +kernel
theorem dX9_minutesByRow_15 : decode cX9_minutesByRow 15 = .ok (.if_icmp .ge 19, 3) := by decide +kernel
theorem dX9_minutesByRow_18 : decode cX9_minutesByRow 18 = .ok (.aload_n 0, 1) := by decide +kernel
theorem dX9_minutesByRow_19 : decode cX9_minutesByRow 19 = .ok (.aload_n 0, 1) := by decide +kernel
theorem dX9_minutesByRow_20 : decode cX9_minutesByRow 20 = .ok (.getfield 26, 3) := by decide +kernel
theorem dX9_minutesByRow_23 : decode cX9_minutesByRow 23 = .ok (.iload_n 1, 1) := by decide +kernel
theorem dX9_minutesByRow_24 : decode cX9_minutesByRow 24 = .ok (.iaload, 1) := by decide +kernel
theorem dX9_minutesByRow_25 : decode cX9_minutesByRow 25 = .ok (.invokevirtual 191, 3) := by decide +kernel
theorem dX9_minutesByRow_28 : decode cX9_minutesByRow 28 = .ok (.iinc 1 1, 3) := by decide +kernel
theorem dX9_minutesByRow_31 : decode cX9_minutesByRow 31 = .ok (.goto (-21), 3) := by decide +kernel
theorem dX9_minutesByRow_34 : decode cX9_minutesByRow 34 = .ok (.aload_n 0, 1) := by decide +kernel
theorem dX9_minutesByRow_35 : decode cX9_minutesByRow 35 = .ok (.getfield 165, 3) := by decide +kernel
theorem dX9_minutesByRow_38 : decode cX9_minutesByRow 38 = .ok (.ireturn, 1) := by decide +kernel
theorem dX9_findOrder_0 : decode cX9_findOrder 0 = .ok (.iconst 1, 1) := by decide +kernel
theorem dX9_findOrder_1 : decode cX9_findOrder 1 = .ok (.istore_n 1, 1) := by decide +kernel
theorem dX9_findOrder_2 : decode cX9_findOrder 2 = .ok (.ldc_w 259, 3) := by decide +kernel
theorem dX9_findOrder_5 : decode cX9_findOrder 5 = .ok (.istore_n 2, 1) := by decide +kernel
theorem dX9_findOrder_6 : decode cX9_findOrder 6 = .ok (.iconst 0, 1) := by decide +kernel
theorem dX9_findOrder_7 : decode cX9_findOrder 7 = .ok (.istore_n 3, 1) := by decide +kernel
theorem dX9_findOrder_8 : decode cX9_findOrder 8 = .ok (.iload_n 3, 1) := by decide +kernel
theorem dX9_findOrder_9 : decode cX9_findOrder 9 = .ok (.aload_n 0, 1) := by decide +kernel
theorem dX9_findOrder_10 : decode cX9_findOrder 10 = .ok (.getfield 73, 3) := by decide +kernel
theorem dX9_findOrder_13 : decode cX9_findOrder 13 = .ok (.if_icmp .ge 13, 3) := by decide +kernel
theorem dX9_findOrder_16 : decode cX9_findOrder 16 = .ok (.iload_n 1, 1) := by decide +kernel
theorem dX9_findOrder_17 : decode cX9_findOrder 17 = .ok (.iconst 4, 1) := by decide +kernel
theorem dX9_findOrder_18 : decode cX9_findOrder 18 = .ok (.imul, 1) := by decide +kernel
theorem dX9_findOrder_19 : decode cX9_findOrder 19 = .ok (.istore_n 1, 1) := by decide +kernel
theorem dX9_findOrder_20 : decode cX9_findOrder 20 = .ok (.iinc 3 1, 3) := by decide +kernel
theorem dX9_findOrder_23 : decode cX9_findOrder 23 = .ok (.goto (-15), 3) := by decide +kernel
theorem dX9_findOrder_26 : decode cX9_findOrder 26 = .ok (.iconst 0, 1) := by decide +kernel
theorem dX9_findOrder_27 : decode cX9_findOrder 27 = .ok (.istore_n 3, 1) := by decide +kernel
theorem dX9_findOrder_28 : decode cX9_findOrder 28 = .ok (.iload_n 3, 1) := by decide +kernel
theorem dX9_findOrder_29 : decode cX9_findOrder 29 = .ok (.iload_n 1, 1) := by decide +kernel
theorem dX9_findOrder_30 : decode cX9_findOrder 30 = .ok (.if_icmp .ge 70, 3) := by decide +kernel
theorem dX9_findOrder_33 : decode cX9_findOrder 33 = .ok (.aload_n 0, 1) := by decide +kernel
theorem dX9_findOrder_34 : decode cX9_findOrder 34 = .ok (.iload_n 3, 1) := by decide +kernel
theorem dX9_findOrder_35 : decode cX9_findOrder 35 = .ok (.invokevirtual 260, 3) := by decide +kernel
theorem dX9_findOrder_38 : decode cX9_findOrder 38 = .ok (.ifCond .eq 10, 3) := by decide +kernel
theorem dX9_findOrder_41 : decode cX9_findOrder 41 = .ok (.aload_n 0, 1) := by decide +kernel
theorem dX9_findOrder_42 : decode cX9_findOrder 42 = .ok (.invokevirtual 263, 3) := by decide +kernel
theorem dX9_findOrder_45 : decode cX9_findOrder 45 = .ok (.goto 6, 3) := by decide +kernel
theorem dX9_findOrder_48 : decode cX9_findOrder 48 = .ok (.ldc_w 259, 3) := by decide +kernel
theorem dX9_findOrder_51 : decode cX9_findOrder 51 = .ok (.istore 4, 2) := by decide +kernel
theorem dX9_findOrder_53 : decode cX9_findOrder 53 = .ok (.iload 4, 2) := by decide +kernel
theorem dX9_findOrder_55 : decode cX9_findOrder 55 = .ok (.iload_n 2, 1) := by decide +kernel
theorem dX9_findOrder_56 : decode cX9_findOrder 56 = .ok (.if_icmp .ge 38, 3) := by decide +kernel
theorem dX9_findOrder_59 : decode cX9_findOrder 59 = .ok (.iload 4, 2) := by decide +kernel
theorem dX9_findOrder_61 : decode cX9_findOrder 61 = .ok (.istore_n 2, 1) := by decide +kernel
theorem dX9_findOrder_62 : decode cX9_findOrder 62 = .ok (.iconst 0, 1) := by decide +kernel
theorem dX9_findOrder_63 : decode cX9_findOrder 63 = .ok (.istore 5, 2) := by decide +kernel
theorem dX9_findOrder_65 : decode cX9_findOrder 65 = .ok (.iload 5, 2) := by decide +kernel
theorem dX9_findOrder_67 : decode cX9_findOrder 67 = .ok (.aload_n 0, 1) := by decide +kernel
theorem dX9_findOrder_68 : decode cX9_findOrder 68 = .ok (.getfield 73, 3) := by decide +kernel
theorem dX9_findOrder_71 : decode cX9_findOrder 71 = .ok (.if_icmp .ge 23, 3) := by decide +kernel
theorem dX9_findOrder_74 : decode cX9_findOrder 74 = .ok (.aload_n 0, 1) := by decide +kernel
theorem dX9_findOrder_75 : decode cX9_findOrder 75 = .ok (.getfield 29, 3) := by decide +kernel
theorem dX9_findOrder_78 : decode cX9_findOrder 78 = .ok (.iload 5, 2) := by decide +kernel
theorem dX9_findOrder_80 : decode cX9_findOrder 80 = .ok (.aload_n 0, 1) := by decide +kernel
theorem dX9_findOrder_81 : decode cX9_findOrder 81 = .ok (.getfield 26, 3) := by decide +kernel
theorem dX9_findOrder_84 : decode cX9_findOrder 84 = .ok (.iload 5, 2) := by decide +kernel
theorem dX9_findOrder_86 : decode cX9_findOrder 86 = .ok (.iaload, 1) := by decide +kernel
theorem dX9_findOrder_87 : decode cX9_findOrder 87 = .ok (.iastore, 1) := by decide +kernel
theorem dX9_findOrder_88 : decode cX9_findOrder 88 = .ok (.iinc 5 1, 3) := by decide +kernel
theorem dX9_findOrder_91 : decode cX9_findOrder 91 = .ok (.goto (-26), 3) := by decide +kernel
theorem dX9_findOrder_94 : decode cX9_findOrder 94 = .ok (.iinc 3 1, 3) := by decide +kernel
theorem dX9_findOrder_97 : decode cX9_findOrder 97 = .ok (.goto (-69), 3) := by decide +kernel
theorem dX9_findOrder_100 : decode cX9_findOrder 100 = .ok (.iload_n 2, 1) := by decide +kernel
theorem dX9_findOrder_101 : decode cX9_findOrder 101 = .ok (.ireturn, 1) := by decide +kernel
theorem dX9_order_0 : decode cX9_order 0 = .ok (.iload_n 1, 1) := by decide +kernel
theorem dX9_order_1 : decode cX9_order 1 = .ok (.ifCond .eq 16, 3) := by decide +kernel
theorem dX9_order_4 : decode cX9_order 4 = .ok (.aload_n 0, 1) := by decide +kernel
theorem dX9_order_5 : decode cX9_order 5 = .ok (.iload_n 1, 1) := by decide +kernel
theorem dX9_order_6 : decode cX9_order 6 = .ok (.bipush 10, 2) := by decide +kernel
theorem dX9_order_8 : decode cX9_order 8 = .ok (.isub, 1) := by decide +kernel
theorem dX9_order_9 : decode cX9_order 9 = .ok (.invokevirtual 216, 3) := by decide +kernel
theorem dX9_order_12 : decode cX9_order 12 = .ok (.ifCond .ne 5, 3) := by decide +kernel
theorem dX9_order_15 : decode cX9_order 15 = .ok (.iconst (-1), 1) := by decide +kernel
theorem dX9_order_16 : decode cX9_order 16 = .ok (.ireturn, 1) := by decide +kernel
theorem dX9_order_17 : decode cX9_order 17 = .ok (.aload_n 0, 1) := by decide +kernel
theorem dX9_order_18 : decode cX9_order 18 = .ok (.invokevirtual 266, 3) := by decide +kernel
theorem dX9_order_21 : decode cX9_order 21 = .ok (.istore_n 2, 1) := by decide +kernel
theorem dX9_order_22 : decode cX9_order 22 = .ok (.iload_n 1, 1) := by decide +kernel
theorem dX9_order_23 : decode cX9_order 23 = .ok (.ifCond .ne 7, 3) := by decide +kernel
theorem dX9_order_26 : decode cX9_order 26 = .ok (.iload_n 2, 1) := by decide +kernel
theorem dX9_order_27 : decode cX9_order 27 = .ok (.goto 12, 3) := by decide +kernel
theorem dX9_order_30 : decode cX9_order 30 = .ok (.aload_n 0, 1) := by decide +kernel
theorem dX9_order_31 : decode cX9_order 31 = .ok (.getfield 29, 3) := by decide +kernel
theorem dX9_order_34 : decode cX9_order 34 = .ok (.iload_n 1, 1) := by decide +kernel
theorem dX9_order_35 : decode cX9_order 35 = .ok (.bipush 10, 2) := by decide +kernel
theorem dX9_order_37 : decode cX9_order 37 = .ok (.isub, 1) := by decide +kernel
theorem dX9_order_38 : decode cX9_order 38 = .ok (.iaload, 1) := by decide +kernel
theorem dX9_order_39 : decode cX9_order 39 = .ok (.ireturn, 1) := by decide +kernel
theorem dX9_start_0 : decode cX9_start 0 = .ok (.iload_n 1, 1) := by decide +kernel
theorem dX9_start_1 : decode cX9_start 1 = .ok (.invokestatic 250, 3) := by decide +kernel
theorem dX9_start_4 : decode cX9_start 4 = .ok (.ifCond .eq 10, 3) := by decide +kernel
theorem dX9_start_7 : decode cX9_start 7 = .ok (.iload_n 2, 1) := by decide +kernel
theorem dX9_start_8 : decode cX9_start 8 = .ok (.invokestatic 253, 3) := by decide +kernel
theorem dX9_start_11 : decode cX9_start 11 = .ok (.ifCond .ne 5, 3) := by decide +kernel
theorem dX9_start_14 : decode cX9_start 14 = .ok (.iconst (-1), 1) := by decide +kernel
theorem dX9_start_15 : decode cX9_start 15 = .ok (.ireturn, 1) := by decide +kernel
theorem dX9_start_16 : decode cX9_start 16 = .ok (.ldc_w 259, 3) := by decide +kernel
theorem dX9_start_19 : decode cX9_start 19 = .ok (.istore_n 3, 1) := by decide +kernel
theorem dX9_start_20 : decode cX9_start 20 = .ok (.iconst 0, 1) := by decide +kernel
theorem dX9_start_21 : decode cX9_start 21 = .ok (.istore 4, 2) := by decide +kernel
theorem dX9_start_23 : decode cX9_start 23 = .ok (.iconst 0, 1) := by decide +kernel
theorem dX9_start_24 : decode cX9_start 24 = .ok (.istore 5, 2) := by decide +kernel
theorem dX9_start_26 : decode cX9_start 26 = .ok (.iload 5, 2) := by decide +kernel
theorem dX9_start_28 : decode cX9_start 28 = .ok (.bipush 8, 2) := by decide +kernel
theorem dX9_start_30 : decode cX9_start 30 = .ok (.if_icmp .ge 53, 3) := by decide +kernel
theorem dX9_start_33 : decode cX9_start 33 = .ok (.aload_n 0, 1) := by decide +kernel
theorem dX9_start_34 : decode cX9_start 34 = .ok (.invokevirtual 204, 3) := by decide +kernel
theorem dX9_start_37 : decode cX9_start 37 = .ok (.aload_n 0, 1) := by decide +kernel
theorem dX9_start_38 : decode cX9_start 38 = .ok (.getfield 13, 3) := by decide +kernel
theorem dX9_start_41 : decode cX9_start 41 = .ok (.bipush 40, 2) := by decide +kernel
theorem dX9_start_43 : decode cX9_start 43 = .ok (.iload 5, 2) := by decide +kernel
theorem dX9_start_45 : decode cX9_start 45 = .ok (.iastore, 1) := by decide +kernel
theorem dX9_start_46 : decode cX9_start 46 = .ok (.aload_n 0, 1) := by decide +kernel
theorem dX9_start_47 : decode cX9_start 47 = .ok (.iload_n 1, 1) := by decide +kernel
theorem dX9_start_48 : decode cX9_start 48 = .ok (.invokevirtual 245, 3) := by decide +kernel
theorem dX9_start_51 : decode cX9_start 51 = .ok (.aload_n 0, 1) := by decide +kernel
theorem dX9_start_52 : decode cX9_start 52 = .ok (.getfield 165, 3) := by decide +kernel
theorem dX9_start_55 : decode cX9_start 55 = .ok (.iload_n 3, 1) := by decide +kernel
theorem dX9_start_56 : decode cX9_start 56 = .ok (.if_icmp .ge 8, 3) := by decide +kernel
theorem dX9_start_59 : decode cX9_start 59 = .ok (.iload 5, 2) := by decide +kernel
theorem dX9_start_61 : decode cX9_start 61 = .ok (.goto 5, 3) := by decide +kernel
theorem dX9_start_64 : decode cX9_start 64 = .ok (.iload 4, 2) := by decide +kernel
theorem dX9_start_66 : decode cX9_start 66 = .ok (.istore 4, 2) := by decide +kernel
theorem dX9_start_68 : decode cX9_start 68 = .ok (.aload_n 0, 1) := by decide +kernel
theorem dX9_start_69 : decode cX9_start 69 = .ok (.getfield 165, 3) := by decide +kernel
theorem dX9_start_72 : decode cX9_start 72 = .ok (.iload_n 3, 1) := by decide +kernel
theorem dX9_start_73 : decode cX9_start 73 = .ok (.invokestatic 269, 3) := by decide +kernel
theorem dX9_start_76 : decode cX9_start 76 = .ok (.istore_n 3, 1) := by decide +kernel
theorem dX9_start_77 : decode cX9_start 77 = .ok (.iinc 5 1, 3) := by decide +kernel
theorem dX9_start_80 : decode cX9_start 80 = .ok (.goto (-54), 3) := by decide +kernel
theorem dX9_start_83 : decode cX9_start 83 = .ok (.iload_n 2, 1) := by decide +kernel
theorem dX9_start_84 : decode cX9_start 84 = .ok (.ifCond .ne 8, 3) := by decide +kernel
theorem dX9_start_87 : decode cX9_start 87 = .ok (.iload 4, 2) := by decide +kernel
theorem dX9_start_89 : decode cX9_start 89 = .ok (.goto 4, 3) := by decide +kernel
theorem dX9_start_92 : decode cX9_start 92 = .ok (.iload_n 3, 1) := by decide +kernel
theorem dX9_start_93 : decode cX9_start 93 = .ok (.ireturn, 1) := by decide +kernel
theorem dX9_swap_0 : decode cX9_swap 0 = .ok (.iload_n 1, 1) := by decide +kernel
theorem dX9_swap_1 : decode cX9_swap 1 = .ok (.invokestatic 250, 3) := by decide +kernel
theorem dX9_swap_4 : decode cX9_swap 4 = .ok (.ifCond .eq 10, 3) := by decide +kernel
theorem dX9_swap_7 : decode cX9_swap 7 = .ok (.iload_n 2, 1) := by decide +kernel
theorem dX9_swap_8 : decode cX9_swap 8 = .ok (.invokestatic 253, 3) := by decide +kernel
theorem dX9_swap_11 : decode cX9_swap 11 = .ok (.ifCond .ne 5, 3) := by decide +kernel
theorem dX9_swap_14 : decode cX9_swap 14 = .ok (.iconst (-1), 1) := by decide +kernel
theorem dX9_swap_15 : decode cX9_swap 15 = .ok (.ireturn, 1) := by decide +kernel
theorem dX9_swap_16 : decode cX9_swap 16 = .ok (.aload_n 0, 1) := by decide +kernel
theorem dX9_swap_17 : decode cX9_swap 17 = .ok (.invokevirtual 204, 3) := by decide +kernel
theorem dX9_swap_20 : decode cX9_swap 20 = .ok (.aload_n 0, 1) := by decide +kernel
theorem dX9_swap_21 : decode cX9_swap 21 = .ok (.iload_n 1, 1) := by decide +kernel
theorem dX9_swap_22 : decode cX9_swap 22 = .ok (.invokevirtual 245, 3) := by decide +kernel
theorem dX9_swap_25 : decode cX9_swap 25 = .ok (.aload_n 0, 1) := by decide +kernel
theorem dX9_swap_26 : decode cX9_swap 26 = .ok (.getfield 162, 3) := by decide +kernel
theorem dX9_swap_29 : decode cX9_swap 29 = .ok (.istore_n 3, 1) := by decide +kernel
theorem dX9_swap_30 : decode cX9_swap 30 = .ok (.bipush (-4), 2) := by decide +kernel
theorem dX9_swap_32 : decode cX9_swap 32 = .ok (.istore 4, 2) := by decide +kernel
theorem dX9_swap_34 : decode cX9_swap 34 = .ok (.iconst 0, 1) := by decide +kernel
theorem dX9_swap_35 : decode cX9_swap 35 = .ok (.istore 5, 2) := by decide +kernel
theorem dX9_swap_37 : decode cX9_swap 37 = .ok (.iload 5, 2) := by decide +kernel
theorem dX9_swap_39 : decode cX9_swap 39 = .ok (.aload_n 0, 1) := by decide +kernel
theorem dX9_swap_40 : decode cX9_swap 40 = .ok (.getfield 70, 3) := by decide +kernel
theorem dX9_swap_43 : decode cX9_swap 43 = .ok (.if_icmp .ge 142, 3) := by decide +kernel
theorem dX9_swap_46 : decode cX9_swap 46 = .ok (.iload 5, 2) := by decide +kernel
theorem dX9_swap_48 : decode cX9_swap 48 = .ok (.iconst 1, 1) := by decide +kernel
theorem dX9_swap_49 : decode cX9_swap 49 = .ok (.iadd, 1) := by decide +kernel
theorem dX9_swap_50 : decode cX9_swap 50 = .ok (.istore 6, 2) := by decide +kernel
theorem dX9_swap_52 : decode cX9_swap 52 = .ok (.iload 6, 2) := by decide +kernel
theorem dX9_swap_54 : decode cX9_swap 54 = .ok (.aload_n 0, 1) := by decide +kernel
theorem dX9_swap_55 : decode cX9_swap 55 = .ok (.getfield 70, 3) := by decide +kernel
theorem dX9_swap_58 : decode cX9_swap 58 = .ok (.if_icmp .ge 121, 3) := by decide +kernel
theorem dX9_swap_61 : decode cX9_swap 61 = .ok (.aload_n 0, 1) := by decide +kernel
theorem dX9_swap_62 : decode cX9_swap 62 = .ok (.invokevirtual 204, 3) := by decide +kernel
theorem dX9_swap_65 : decode cX9_swap 65 = .ok (.iconst 0, 1) := by decide +kernel
theorem dX9_swap_66 : decode cX9_swap 66 = .ok (.istore 7, 2) := by decide +kernel
theorem dX9_swap_68 : decode cX9_swap 68 = .ok (.iload 7, 2) := by decide +kernel
theorem dX9_swap_70 : decode cX9_swap 70 = .ok (.iconst 1, 1) := by decide +kernel
theorem dX9_swap_71 : decode cX9_swap 71 = .ok (.if_icmp .gt 57, 3) := by decide +kernel
theorem dX9_swap_74 : decode cX9_swap 74 = .ok (.aload_n 0, 1) := by decide +kernel
theorem dX9_swap_75 : decode cX9_swap 75 = .ok (.getfield 13, 3) := by decide +kernel
theorem dX9_swap_78 : decode cX9_swap 78 = .ok (.iconst 3, 1) := by decide +kernel
theorem dX9_swap_79 : decode cX9_swap 79 = .ok (.iload 5, 2) := by decide +kernel
theorem dX9_swap_81 : decode cX9_swap 81 = .ok (.imul, 1) := by decide +kernel
theorem dX9_swap_82 : decode cX9_swap 82 = .ok (.iload 7, 2) := by decide +kernel
theorem dX9_swap_84 : decode cX9_swap 84 = .ok (.iadd, 1) := by decide +kernel
theorem dX9_swap_85 : decode cX9_swap 85 = .ok (.aload_n 0, 1) := by decide +kernel
theorem dX9_swap_86 : decode cX9_swap 86 = .ok (.getfield 7, 3) := by decide +kernel
theorem dX9_swap_89 : decode cX9_swap 89 = .ok (.iconst 3, 1) := by decide +kernel
theorem dX9_swap_90 : decode cX9_swap 90 = .ok (.iload 6, 2) := by decide +kernel
theorem dX9_swap_92 : decode cX9_swap 92 = .ok (.imul, 1) := by decide +kernel
theorem dX9_swap_93 : decode cX9_swap 93 = .ok (.iload 7, 2) := by decide +kernel
theorem dX9_swap_95 : decode cX9_swap 95 = .ok (.iadd, 1) := by decide +kernel
theorem dX9_swap_96 : decode cX9_swap 96 = .ok (.iaload, 1) := by decide +kernel
theorem dX9_swap_97 : decode cX9_swap 97 = .ok (.iastore, 1) := by decide +kernel
theorem dX9_swap_98 : decode cX9_swap 98 = .ok (.aload_n 0, 1) := by decide +kernel
theorem dX9_swap_99 : decode cX9_swap 99 = .ok (.getfield 13, 3) := by decide +kernel
theorem dX9_swap_102 : decode cX9_swap 102 = .ok (.iconst 3, 1) := by decide +kernel
theorem dX9_swap_103 : decode cX9_swap 103 = .ok (.iload 6, 2) := by decide +kernel
theorem dX9_swap_105 : decode cX9_swap 105 = .ok (.imul, 1) := by decide +kernel
theorem dX9_swap_106 : decode cX9_swap 106 = .ok (.iload 7, 2) := by decide +kernel
theorem dX9_swap_108 : decode cX9_swap 108 = .ok (.iadd, 1) := by decide +kernel
theorem dX9_swap_109 : decode cX9_swap 109 = .ok (.aload_n 0, 1) := by decide +kernel
theorem dX9_swap_110 : decode cX9_swap 110 = .ok (.getfield 7, 3) := by decide +kernel
theorem dX9_swap_113 : decode cX9_swap 113 = .ok (.iconst 3, 1) := by decide +kernel
theorem dX9_swap_114 : decode cX9_swap 114 = .ok (.iload 5, 2) := by decide +kernel
theorem dX9_swap_116 : decode cX9_swap 116 = .ok (.imul, 1) := by decide +kernel
theorem dX9_swap_117 : decode cX9_swap 117 = .ok (.iload 7, 2) := by decide +kernel
theorem dX9_swap_119 : decode cX9_swap 119 = .ok (.iadd, 1) := by decide +kernel
theorem dX9_swap_120 : decode cX9_swap 120 = .ok (.iaload, 1) := by decide +kernel
theorem dX9_swap_121 : decode cX9_swap 121 = .ok (.iastore, 1) := by decide +kernel
theorem dX9_swap_122 : decode cX9_swap 122 = .ok (.iinc 7 1, 3) := by decide +kernel
theorem dX9_swap_125 : decode cX9_swap 125 = .ok (.goto (-57), 3) := by decide +kernel
theorem dX9_swap_128 : decode cX9_swap 128 = .ok (.aload_n 0, 1) := by decide +kernel
theorem dX9_swap_129 : decode cX9_swap 129 = .ok (.iload_n 1, 1) := by decide +kernel
theorem dX9_swap_130 : decode cX9_swap 130 = .ok (.invokevirtual 245, 3) := by decide +kernel
theorem dX9_swap_133 : decode cX9_swap 133 = .ok (.aload_n 0, 1) := by decide +kernel
theorem dX9_swap_134 : decode cX9_swap 134 = .ok (.getfield 162, 3) := by decide +kernel
theorem dX9_swap_137 : decode cX9_swap 137 = .ok (.iload_n 3, 1) := by decide +kernel
theorem dX9_swap_138 : decode cX9_swap 138 = .ok (.if_icmp .le 14, 3) := by decide +kernel
theorem dX9_swap_141 : decode cX9_swap 141 = .ok (.bipush 10, 2) := by decide +kernel
theorem dX9_swap_143 : decode cX9_swap 143 = .ok (.iload 5, 2) := by decide +kernel
theorem dX9_swap_145 : decode cX9_swap 145 = .ok (.imul, 1) := by decide +kernel
theorem dX9_swap_146 : decode cX9_swap 146 = .ok (.iload 6, 2) := by decide +kernel
theorem dX9_swap_148 : decode cX9_swap 148 = .ok (.iadd, 1) := by decide +kernel
theorem dX9_swap_149 : decode cX9_swap 149 = .ok (.goto 5, 3) := by decide +kernel
theorem dX9_swap_152 : decode cX9_swap 152 = .ok (.iload 4, 2) := by decide +kernel
theorem dX9_swap_154 : decode cX9_swap 154 = .ok (.istore 4, 2) := by decide +kernel
theorem dX9_swap_156 : decode cX9_swap 156 = .ok (.aload_n 0, 1) := by decide +kernel
theorem dX9_swap_157 : decode cX9_swap 157 = .ok (.getfield 162, 3) := by decide +kernel
theorem dX9_swap_160 : decode cX9_swap 160 = .ok (.iload_n 3, 1) := by decide +kernel
theorem dX9_swap_161 : decode cX9_swap 161 = .ok (.if_icmp .le 10, 3) := by decide +kernel
theorem dX9_swap_164 : decode cX9_swap 164 = .ok (.aload_n 0, 1) := by decide +kernel
theorem dX9_swap_165 : decode cX9_swap 165 = .ok (.getfield 162, 3) := by decide +kernel
theorem dX9_swap_168 : decode cX9_swap 168 = .ok (.goto 4, 3) := by decide +kernel
theorem dX9_swap_171 : decode cX9_swap 171 = .ok (.iload_n 3, 1) := by decide +kernel
theorem dX9_swap_172 : decode cX9_swap 172 = .ok (.istore_n 3, 1) := by decide +kernel
theorem dX9_swap_173 : decode cX9_swap 173 = .ok (.iinc 6 1, 3) := by decide +kernel
theorem dX9_swap_176 : decode cX9_swap 176 = .ok (.goto (-124), 3) := by decide +kernel
theorem dX9_swap_179 : decode cX9_swap 179 = .ok (.iinc 5 1, 3) := by decide +kernel
theorem dX9_swap_182 : decode cX9_swap 182 = .ok (.goto (-145), 3) := by decide +kernel
theorem dX9_swap_185 : decode cX9_swap 185 = .ok (.iload 4, 2) := by decide +kernel
theorem dX9_swap_187 : decode cX9_swap 187 = .ok (.bipush (-4), 2) := by decide +kernel
theorem dX9_swap_189 : decode cX9_swap 189 = .ok (.if_icmp .ne 8, 3) := by decide +kernel
theorem dX9_swap_192 : decode cX9_swap 192 = .ok (.bipush (-4), 2) := by decide +kernel
theorem dX9_swap_194 : decode cX9_swap 194 = .ok (.goto 13, 3) := by decide +kernel
theorem dX9_swap_197 : decode cX9_swap 197 = .ok (.iload_n 2, 1) := by decide +kernel
theorem dX9_swap_198 : decode cX9_swap 198 = .ok (.ifCond .ne 8, 3) := by decide +kernel
theorem dX9_swap_201 : decode cX9_swap 201 = .ok (.iload 4, 2) := by decide +kernel
theorem dX9_swap_203 : decode cX9_swap 203 = .ok (.goto 4, 3) := by decide +kernel
theorem dX9_swap_206 : decode cX9_swap 206 = .ok (.iload_n 3, 1) := by decide +kernel
theorem dX9_swap_207 : decode cX9_swap 207 = .ok (.ireturn, 1) := by decide +kernel
theorem dX9_knee_0 : decode cX9_knee 0 = .ok (.aload_n 0, 1) := by decide +kernel
theorem dX9_knee_1 : decode cX9_knee 1 = .ok (.iload_n 1, 1) := by decide +kernel
theorem dX9_knee_2 : decode cX9_knee 2 = .ok (.invokevirtual 216, 3) := by decide +kernel
theorem dX9_knee_5 : decode cX9_knee 5 = .ok (.ifCond .eq 10, 3) := by decide +kernel
theorem dX9_knee_8 : decode cX9_knee 8 = .ok (.iload_n 2, 1) := by decide +kernel
theorem dX9_knee_9 : decode cX9_knee 9 = .ok (.invokestatic 253, 3) := by decide +kernel
theorem dX9_knee_12 : decode cX9_knee 12 = .ok (.ifCond .ne 5, 3) := by decide +kernel
theorem dX9_knee_15 : decode cX9_knee 15 = .ok (.iconst (-1), 1) := by decide +kernel
theorem dX9_knee_16 : decode cX9_knee 16 = .ok (.ireturn, 1) := by decide +kernel
theorem dX9_knee_17 : decode cX9_knee 17 = .ok (.ldc_w 259, 3) := by decide +kernel
theorem dX9_knee_20 : decode cX9_knee 20 = .ok (.istore_n 3, 1) := by decide +kernel
theorem dX9_knee_21 : decode cX9_knee 21 = .ok (.bipush (-4), 2) := by decide +kernel
theorem dX9_knee_23 : decode cX9_knee 23 = .ok (.istore 4, 2) := by decide +kernel
theorem dX9_knee_25 : decode cX9_knee 25 = .ok (.iconst 0, 1) := by decide +kernel
theorem dX9_knee_26 : decode cX9_knee 26 = .ok (.istore 5, 2) := by decide +kernel
theorem dX9_knee_28 : decode cX9_knee 28 = .ok (.iload 5, 2) := by decide +kernel
theorem dX9_knee_30 : decode cX9_knee 30 = .ok (.aload_n 0, 1) := by decide +kernel
theorem dX9_knee_31 : decode cX9_knee 31 = .ok (.getfield 70, 3) := by decide +kernel
theorem dX9_knee_34 : decode cX9_knee 34 = .ok (.if_icmp .ge 78, 3) := by decide +kernel
theorem dX9_knee_37 : decode cX9_knee 37 = .ok (.aload_n 0, 1) := by decide +kernel
theorem dX9_knee_38 : decode cX9_knee 38 = .ok (.invokevirtual 204, 3) := by decide +kernel
theorem dX9_knee_41 : decode cX9_knee 41 = .ok (.aload_n 0, 1) := by decide +kernel
theorem dX9_knee_42 : decode cX9_knee 42 = .ok (.getfield 13, 3) := by decide +kernel
theorem dX9_knee_45 : decode cX9_knee 45 = .ok (.iconst 3, 1) := by decide +kernel
theorem dX9_knee_46 : decode cX9_knee 46 = .ok (.iload 5, 2) := by decide +kernel
theorem dX9_knee_48 : decode cX9_knee 48 = .ok (.imul, 1) := by decide +kernel
theorem dX9_knee_49 : decode cX9_knee 49 = .ok (.iconst 1, 1) := by decide +kernel
theorem dX9_knee_50 : decode cX9_knee 50 = .ok (.iadd, 1) := by decide +kernel
theorem dX9_knee_51 : decode cX9_knee 51 = .ok (.iconst 0, 1) := by decide +kernel
theorem dX9_knee_52 : decode cX9_knee 52 = .ok (.iastore, 1) := by decide +kernel
theorem dX9_knee_53 : decode cX9_knee 53 = .ok (.aload_n 0, 1) := by decide +kernel
theorem dX9_knee_54 : decode cX9_knee 54 = .ok (.iload_n 1, 1) := by decide +kernel
theorem dX9_knee_55 : decode cX9_knee 55 = .ok (.invokevirtual 256, 3) := by decide +kernel
theorem dX9_knee_58 : decode cX9_knee 58 = .ok (.istore 6, 2) := by decide +kernel
theorem dX9_knee_60 : decode cX9_knee 60 = .ok (.iload 6, 2) := by decide +kernel
theorem dX9_knee_62 : decode cX9_knee 62 = .ok (.bipush (-4), 2) := by decide +kernel
theorem dX9_knee_64 : decode cX9_knee 64 = .ok (.if_icmp .eq 13, 3) := by decide +kernel
theorem dX9_knee_67 : decode cX9_knee 67 = .ok (.iload 6, 2) := by decide +kernel
theorem dX9_knee_69 : decode cX9_knee 69 = .ok (.iload_n 3, 1) := by decide +kernel
theorem dX9_knee_70 : decode cX9_knee 70 = .ok (.if_icmp .ge 7, 3) := by decide +kernel
theorem dX9_knee_73 : decode cX9_knee 73 = .ok (.iconst 1, 1) := by decide +kernel
theorem dX9_knee_74 : decode cX9_knee 74 = .ok (.goto 4, 3) := by decide +kernel
theorem dX9_knee_77 : decode cX9_knee 77 = .ok (.iconst 0, 1) := by decide +kernel
theorem dX9_knee_78 : decode cX9_knee 78 = .ok (.istore 7, 2) := by decide +kernel
theorem dX9_knee_80 : decode cX9_knee 80 = .ok (.iload 7, 2) := by decide +kernel
theorem dX9_knee_82 : decode cX9_knee 82 = .ok (.ifCond .eq 8, 3) := by decide +kernel
theorem dX9_knee_85 : decode cX9_knee 85 = .ok (.iload 5, 2) := by decide +kernel
theorem dX9_knee_87 : decode cX9_knee 87 = .ok (.goto 5, 3) := by decide +kernel
theorem dX9_knee_90 : decode cX9_knee 90 = .ok (.iload 4, 2) := by decide +kernel
theorem dX9_knee_92 : decode cX9_knee 92 = .ok (.istore 4, 2) := by decide +kernel
theorem dX9_knee_94 : decode cX9_knee 94 = .ok (.iload 7, 2) := by decide +kernel
theorem dX9_knee_96 : decode cX9_knee 96 = .ok (.ifCond .eq 8, 3) := by decide +kernel
theorem dX9_knee_99 : decode cX9_knee 99 = .ok (.iload 6, 2) := by decide +kernel
theorem dX9_knee_101 : decode cX9_knee 101 = .ok (.goto 4, 3) := by decide +kernel
theorem dX9_knee_104 : decode cX9_knee 104 = .ok (.iload_n 3, 1) := by decide +kernel
theorem dX9_knee_105 : decode cX9_knee 105 = .ok (.istore_n 3, 1) := by decide +kernel
theorem dX9_knee_106 : decode cX9_knee 106 = .ok (.iinc 5 1, 3) := by decide +kernel
theorem dX9_knee_109 : decode cX9_knee 109 = .ok (.goto (-81), 3) := by decide +kernel
theorem dX9_knee_112 : decode cX9_knee 112 = .ok (.iload 4, 2) := by decide +kernel
theorem dX9_knee_114 : decode cX9_knee 114 = .ok (.bipush (-4), 2) := by decide +kernel
theorem dX9_knee_116 : decode cX9_knee 116 = .ok (.if_icmp .ne 8, 3) := by decide +kernel
theorem dX9_knee_119 : decode cX9_knee 119 = .ok (.bipush (-4), 2) := by decide +kernel
theorem dX9_knee_121 : decode cX9_knee 121 = .ok (.goto 13, 3) := by decide +kernel
theorem dX9_knee_124 : decode cX9_knee 124 = .ok (.iload_n 2, 1) := by decide +kernel
theorem dX9_knee_125 : decode cX9_knee 125 = .ok (.ifCond .ne 8, 3) := by decide +kernel
theorem dX9_knee_128 : decode cX9_knee 128 = .ok (.iload 4, 2) := by decide +kernel
theorem dX9_knee_130 : decode cX9_knee 130 = .ok (.goto 4, 3) := by decide +kernel
theorem dX9_knee_133 : decode cX9_knee 133 = .ok (.iload_n 3, 1) := by decide +kernel
theorem dX9_knee_134 : decode cX9_knee 134 = .ok (.ireturn, 1) := by decide +kernel
theorem dX9_need_0 : decode cX9_need 0 = .ok (.aload_n 0, 1) := by decide +kernel
theorem dX9_need_1 : decode cX9_need 1 = .ok (.iload_n 1, 1) := by decide +kernel
theorem dX9_need_2 : decode cX9_need 2 = .ok (.invokevirtual 216, 3) := by decide +kernel
theorem dX9_need_5 : decode cX9_need 5 = .ok (.ifCond .eq 10, 3) := by decide +kernel
theorem dX9_need_8 : decode cX9_need 8 = .ok (.iload_n 2, 1) := by decide +kernel
theorem dX9_need_9 : decode cX9_need 9 = .ok (.invokestatic 250, 3) := by decide +kernel
theorem dX9_need_12 : decode cX9_need 12 = .ok (.ifCond .ne 5, 3) := by decide +kernel
theorem dX9_need_15 : decode cX9_need 15 = .ok (.iconst (-1), 1) := by decide +kernel
theorem dX9_need_16 : decode cX9_need 16 = .ok (.ireturn, 1) := by decide +kernel
theorem dX9_need_17 : decode cX9_need 17 = .ok (.iconst 1, 1) := by decide +kernel
theorem dX9_need_18 : decode cX9_need 18 = .ok (.istore_n 3, 1) := by decide +kernel
theorem dX9_need_19 : decode cX9_need 19 = .ok (.iload_n 3, 1) := by decide +kernel
theorem dX9_need_20 : decode cX9_need 20 = .ok (.bipush 99, 2) := by decide +kernel
theorem dX9_need_22 : decode cX9_need 22 = .ok (.if_icmp .gt 38, 3) := by decide +kernel
theorem dX9_need_25 : decode cX9_need 25 = .ok (.aload_n 0, 1) := by decide +kernel
theorem dX9_need_26 : decode cX9_need 26 = .ok (.invokevirtual 204, 3) := by decide +kernel
theorem dX9_need_29 : decode cX9_need 29 = .ok (.aload_n 0, 1) := by decide +kernel
theorem dX9_need_30 : decode cX9_need 30 = .ok (.iload_n 1, 1) := by decide +kernel
theorem dX9_need_31 : decode cX9_need 31 = .ok (.iconst 2, 1) := by decide +kernel
theorem dX9_need_32 : decode cX9_need 32 = .ok (.iload_n 3, 1) := by decide +kernel
theorem dX9_need_33 : decode cX9_need 33 = .ok (.invokevirtual 174, 3) := by decide +kernel
theorem dX9_need_36 : decode cX9_need 36 = .ok (.aload_n 0, 1) := by decide +kernel
theorem dX9_need_37 : decode cX9_need 37 = .ok (.iload_n 2, 1) := by decide +kernel
theorem dX9_need_38 : decode cX9_need 38 = .ok (.invokevirtual 245, 3) := by decide +kernel
theorem dX9_need_41 : decode cX9_need 41 = .ok (.aload_n 0, 1) := by decide +kernel
theorem dX9_need_42 : decode cX9_need 42 = .ok (.iload_n 1, 1) := by decide +kernel
theorem dX9_need_43 : decode cX9_need 43 = .ok (.iconst 1, 1) := by decide +kernel
theorem dX9_need_44 : decode cX9_need 44 = .ok (.invokevirtual 153, 3) := by decide +kernel
theorem dX9_need_47 : decode cX9_need 47 = .ok (.bipush (-4), 2) := by decide +kernel
theorem dX9_need_49 : decode cX9_need 49 = .ok (.if_icmp .ne 5, 3) := by decide +kernel
theorem dX9_need_52 : decode cX9_need 52 = .ok (.iload_n 3, 1) := by decide +kernel
theorem dX9_need_53 : decode cX9_need 53 = .ok (.ireturn, 1) := by decide +kernel
theorem dX9_need_54 : decode cX9_need 54 = .ok (.iinc 3 1, 3) := by decide +kernel
theorem dX9_need_57 : decode cX9_need 57 = .ok (.goto (-38), 3) := by decide +kernel
theorem dX9_need_60 : decode cX9_need 60 = .ok (.bipush (-4), 2) := by decide +kernel
theorem dX9_need_62 : decode cX9_need 62 = .ok (.ireturn, 1) := by decide +kernel
theorem dX9_high_0 : decode cX9_high 0 = .ok (.aload_n 0, 1) := by decide +kernel
theorem dX9_high_1 : decode cX9_high 1 = .ok (.iload_n 1, 1) := by decide +kernel
theorem dX9_high_2 : decode cX9_high 2 = .ok (.invokevirtual 210, 3) := by decide +kernel
theorem dX9_high_5 : decode cX9_high 5 = .ok (.ifCond .eq 18, 3) := by decide +kernel
theorem dX9_high_8 : decode cX9_high 8 = .ok (.aload_n 0, 1) := by decide +kernel
theorem dX9_high_9 : decode cX9_high 9 = .ok (.iload_n 2, 1) := by decide +kernel
theorem dX9_high_10 : decode cX9_high 10 = .ok (.invokevirtual 216, 3) := by decide +kernel
theorem dX9_high_13 : decode cX9_high 13 = .ok (.ifCond .eq 10, 3) := by decide +kernel
theorem dX9_high_16 : decode cX9_high 16 = .ok (.iload_n 3, 1) := by decide +kernel
theorem dX9_high_17 : decode cX9_high 17 = .ok (.invokestatic 250, 3) := by decide +kernel
theorem dX9_high_20 : decode cX9_high 20 = .ok (.ifCond .ne 5, 3) := by decide +kernel
theorem dX9_high_23 : decode cX9_high 23 = .ok (.iconst (-1), 1) := by decide +kernel
theorem dX9_high_24 : decode cX9_high 24 = .ok (.ireturn, 1) := by decide +kernel
theorem dX9_high_25 : decode cX9_high 25 = .ok (.bipush 9, 2) := by decide +kernel
theorem dX9_high_27 : decode cX9_high 27 = .ok (.istore 4, 2) := by decide +kernel
theorem dX9_high_29 : decode cX9_high 29 = .ok (.iload 4, 2) := by decide +kernel
theorem dX9_high_31 : decode cX9_high 31 = .ok (.ifCond .lt 42, 3) := by decide +kernel
theorem dX9_high_34 : decode cX9_high 34 = .ok (.aload_n 0, 1) := by decide +kernel
theorem dX9_high_35 : decode cX9_high 35 = .ok (.invokevirtual 204, 3) := by decide +kernel
theorem dX9_high_38 : decode cX9_high 38 = .ok (.aload_n 0, 1) := by decide +kernel
theorem dX9_high_39 : decode cX9_high 39 = .ok (.getfield 13, 3) := by decide +kernel
theorem dX9_high_42 : decode cX9_high 42 = .ok (.iconst 3, 1) := by decide +kernel
theorem dX9_high_43 : decode cX9_high 43 = .ok (.iload_n 1, 1) := by decide +kernel
theorem dX9_high_44 : decode cX9_high 44 = .ok (.imul, 1) := by decide +kernel
theorem dX9_high_45 : decode cX9_high 45 = .ok (.iconst 1, 1) := by decide +kernel
theorem dX9_high_46 : decode cX9_high 46 = .ok (.iadd, 1) := by decide +kernel
theorem dX9_high_47 : decode cX9_high 47 = .ok (.iload 4, 2) := by decide +kernel
theorem dX9_high_49 : decode cX9_high 49 = .ok (.iastore, 1) := by decide +kernel
theorem dX9_high_50 : decode cX9_high 50 = .ok (.aload_n 0, 1) := by decide +kernel
theorem dX9_high_51 : decode cX9_high 51 = .ok (.iload_n 3, 1) := by decide +kernel
theorem dX9_high_52 : decode cX9_high 52 = .ok (.invokevirtual 245, 3) := by decide +kernel
theorem dX9_high_55 : decode cX9_high 55 = .ok (.aload_n 0, 1) := by decide +kernel
theorem dX9_high_56 : decode cX9_high 56 = .ok (.iload_n 2, 1) := by decide +kernel
theorem dX9_high_57 : decode cX9_high 57 = .ok (.iload_n 1, 1) := by decide +kernel
theorem dX9_high_58 : decode cX9_high 58 = .ok (.invokevirtual 181, 3) := by decide +kernel
theorem dX9_high_61 : decode cX9_high 61 = .ok (.ifCond .eq 6, 3) := by decide +kernel
theorem dX9_high_64 : decode cX9_high 64 = .ok (.iload 4, 2) := by decide +kernel
theorem dX9_high_66 : decode cX9_high 66 = .ok (.ireturn, 1) := by decide +kernel
theorem dX9_high_67 : decode cX9_high 67 = .ok (.iinc 4 (-1), 3) := by decide +kernel
theorem dX9_high_70 : decode cX9_high 70 = .ok (.goto (-41), 3) := by decide +kernel
theorem dX9_high_73 : decode cX9_high 73 = .ok (.bipush (-4), 2) := by decide +kernel
theorem dX9_high_75 : decode cX9_high 75 = .ok (.ireturn, 1) := by decide +kernel
theorem dX9_common_0 : decode cX9_common 0 = .ok (.lload_n 0, 1) := by decide +kernel
theorem dX9_common_1 : decode cX9_common 1 = .ok (.lstore 4, 2) := by decide +kernel
theorem dX9_common_3 : decode cX9_common 3 = .ok (.lload_n 2, 1) := by decide +kernel
theorem dX9_common_4 : decode cX9_common 4 = .ok (.lstore 6, 2) := by decide +kernel
theorem dX9_common_6 : decode cX9_common 6 = .ok (.lload 6, 2) := by decide +kernel
theorem dX9_common_8 : decode cX9_common 8 = .ok (.lconst 0, 1) := by decide +kernel
theorem dX9_common_9 : decode cX9_common 9 = .ok (.lcmp, 1) := by decide +kernel
theorem dX9_common_10 : decode cX9_common 10 = .ok (.ifCond .eq 21, 3) := by decide +kernel
theorem dX9_common_13 : decode cX9_common 13 = .ok (.lload 4, 2) := by decide +kernel
theorem dX9_common_15 : decode cX9_common 15 = .ok (.lload 6, 2) := by decide +kernel
theorem dX9_common_17 : decode cX9_common 17 = .ok (.lrem, 1) := by decide +kernel
theorem dX9_common_18 : decode cX9_common 18 = .ok (.lstore 8, 2) := by decide +kernel
theorem dX9_common_20 : decode cX9_common 20 = .ok (.lload 6, 2) := by decide +kernel
theorem dX9_common_22 : decode cX9_common 22 = .ok (.lstore 4, 2) := by decide +kernel
theorem dX9_common_24 : decode cX9_common 24 = .ok (.lload 8, 2) := by decide +kernel
theorem dX9_common_26 : decode cX9_common 26 = .ok (.lstore 6, 2) := by decide +kernel
theorem dX9_common_28 : decode cX9_common 28 = .ok (.goto (-22), 3) := by decide +kernel
theorem dX9_common_31 : decode cX9_common 31 = .ok (.lload 4, 2) := by decide +kernel
theorem dX9_common_33 : decode cX9_common 33 = .ok (.lreturn, 1) := by decide +kernel
theorem dX9_told_0 : decode cX9_told 0 = .ok (.lload_n 2, 1) := by decide +kernel
theorem dX9_told_1 : decode cX9_told 1 = .ok (.lload_n 0, 1) := by decide +kernel
theorem dX9_told_2 : decode cX9_told 2 = .ok (.invokestatic 272, 3) := by decide +kernel
theorem dX9_told_5 : decode cX9_told 5 = .ok (.lstore 5, 2) := by decide +kernel
theorem dX9_told_7 : decode cX9_told 7 = .ok (.iload 4, 2) := by decide +kernel
theorem dX9_told_9 : decode cX9_told 9 = .ok (.ifCond .ne 10, 3) := by decide +kernel
theorem dX9_told_12 : decode cX9_told 12 = .ok (.lload_n 0, 1) := by decide +kernel
theorem dX9_told_13 : decode cX9_told 13 = .ok (.lload 5, 2) := by decide +kernel
theorem dX9_told_15 : decode cX9_told 15 = .ok (.ldiv, 1) := by decide +kernel
theorem dX9_told_16 : decode cX9_told 16 = .ok (.goto 7, 3) := by decide +kernel
theorem dX9_told_19 : decode cX9_told 19 = .ok (.lload_n 2, 1) := by decide +kernel
theorem dX9_told_20 : decode cX9_told 20 = .ok (.lload 5, 2) := by decide +kernel
theorem dX9_told_22 : decode cX9_told 22 = .ok (.ldiv, 1) := by decide +kernel
theorem dX9_told_23 : decode cX9_told 23 = .ok (.lreturn, 1) := by decide +kernel
theorem dX9_findOdds_0 : decode cX9_findOdds 0 = .ok (.aload_n 0, 1) := by decide +kernel
theorem dX9_findOdds_1 : decode cX9_findOdds 1 = .ok (.lconst 0, 1) := by decide +kernel
theorem dX9_findOdds_2 : decode cX9_findOdds 2 = .ok (.putfield 276, 3) := by decide +kernel
theorem dX9_findOdds_5 : decode cX9_findOdds 5 = .ok (.aload_n 0, 1) := by decide +kernel
theorem dX9_findOdds_6 : decode cX9_findOdds 6 = .ok (.lconst 0, 1) := by decide +kernel
theorem dX9_findOdds_7 : decode cX9_findOdds 7 = .ok (.putfield 280, 3) := by decide +kernel
theorem dX9_findOdds_10 : decode cX9_findOdds 10 = .ok (.aload_n 0, 1) := by decide +kernel
theorem dX9_findOdds_11 : decode cX9_findOdds 11 = .ok (.lconst 1, 1) := by decide +kernel
theorem dX9_findOdds_12 : decode cX9_findOdds 12 = .ok (.putfield 283, 3) := by decide +kernel
theorem dX9_findOdds_15 : decode cX9_findOdds 15 = .ok (.iconst 0, 1) := by decide +kernel
theorem dX9_findOdds_16 : decode cX9_findOdds 16 = .ok (.istore 4, 2) := by decide +kernel
theorem dX9_findOdds_18 : decode cX9_findOdds 18 = .ok (.iload 4, 2) := by decide +kernel
theorem dX9_findOdds_20 : decode cX9_findOdds 20 = .ok (.iload_n 2, 1) := by decide +kernel
theorem dX9_findOdds_21 : decode cX9_findOdds 21 = .ok (.if_icmp .ge 21, 3) := by decide +kernel
theorem dX9_findOdds_24 : decode cX9_findOdds 24 = .ok (.aload_n 0, 1) := by decide +kernel
theorem dX9_findOdds_25 : decode cX9_findOdds 25 = .ok (.dup, 1) := by decide +kernel
theorem dX9_findOdds_26 : decode cX9_findOdds 26 = .ok (.getfield 283, 3) := by decide +kernel
theorem dX9_findOdds_29 : decode cX9_findOdds 29 = .ok (.ldc2_w 286, 3) := by decide +kernel
theorem dX9_findOdds_32 : decode cX9_findOdds 32 = .ok (.lmul, 1) := by decide +kernel
theorem dX9_findOdds_33 : decode cX9_findOdds 33 = .ok (.putfield 283, 3) := by decide +kernel
theorem dX9_findOdds_36 : decode cX9_findOdds 36 = .ok (.iinc 4 1, 3) := by decide +kernel
theorem dX9_findOdds_39 : decode cX9_findOdds 39 = .ok (.goto (-21), 3) := by decide +kernel
theorem dX9_findOdds_42 : decode cX9_findOdds 42 = .ok (.iconst 0, 1) := by decide +kernel
theorem dX9_findOdds_43 : decode cX9_findOdds 43 = .ok (.istore 4, 2) := by decide +kernel
theorem dX9_findOdds_45 : decode cX9_findOdds 45 = .ok (.iload 4, 2) := by decide +kernel
theorem dX9_findOdds_47 : decode cX9_findOdds 47 = .ok (.iconst 1, 1) := by decide +kernel
theorem dX9_findOdds_48 : decode cX9_findOdds 48 = .ok (.iload_n 2, 1) := by decide +kernel
theorem dX9_findOdds_49 : decode cX9_findOdds 49 = .ok (.ishl, 1) := by decide +kernel
theorem dX9_findOdds_50 : decode cX9_findOdds 50 = .ok (.if_icmp .ge 141, 3) := by decide +kernel
theorem dX9_findOdds_53 : decode cX9_findOdds 53 = .ok (.lconst 1, 1) := by decide +kernel
theorem dX9_findOdds_54 : decode cX9_findOdds 54 = .ok (.lstore 5, 2) := by decide +kernel
theorem dX9_findOdds_56 : decode cX9_findOdds 56 = .ok (.aload_n 0, 1) := by decide +kernel
theorem dX9_findOdds_57 : decode cX9_findOdds 57 = .ok (.invokevirtual 204, 3) := by decide +kernel
theorem dX9_findOdds_60 : decode cX9_findOdds 60 = .ok (.aload_n 0, 1) := by decide +kernel
theorem dX9_findOdds_61 : decode cX9_findOdds 61 = .ok (.invokevirtual 194, 3) := by decide +kernel
theorem dX9_findOdds_64 : decode cX9_findOdds 64 = .ok (.iconst 0, 1) := by decide +kernel
theorem dX9_findOdds_65 : decode cX9_findOdds 65 = .ok (.istore 7, 2) := by decide +kernel
theorem dX9_findOdds_67 : decode cX9_findOdds 67 = .ok (.iload 7, 2) := by decide +kernel
theorem dX9_findOdds_69 : decode cX9_findOdds 69 = .ok (.iload_n 2, 1) := by decide +kernel
theorem dX9_findOdds_70 : decode cX9_findOdds 70 = .ok (.if_icmp .ge 75, 3) := by decide +kernel
theorem dX9_findOdds_73 : decode cX9_findOdds 73 = .ok (.iload 4, 2) := by decide +kernel
theorem dX9_findOdds_75 : decode cX9_findOdds 75 = .ok (.iload 7, 2) := by decide +kernel
theorem dX9_findOdds_77 : decode cX9_findOdds 77 = .ok (.ishr, 1) := by decide +kernel
theorem dX9_findOdds_78 : decode cX9_findOdds 78 = .ok (.iconst 1, 1) := by decide +kernel
theorem dX9_findOdds_79 : decode cX9_findOdds 79 = .ok (.iand, 1) := by decide +kernel
theorem dX9_findOdds_80 : decode cX9_findOdds 80 = .ok (.iconst 1, 1) := by decide +kernel
theorem dX9_findOdds_81 : decode cX9_findOdds 81 = .ok (.if_icmp .ne 7, 3) := by decide +kernel
theorem dX9_findOdds_84 : decode cX9_findOdds 84 = .ok (.iconst 1, 1) := by decide +kernel
theorem dX9_findOdds_85 : decode cX9_findOdds 85 = .ok (.goto 4, 3) := by decide +kernel
theorem dX9_findOdds_88 : decode cX9_findOdds 88 = .ok (.iconst 0, 1) := by decide +kernel
theorem dX9_findOdds_89 : decode cX9_findOdds 89 = .ok (.istore 8, 2) := by decide +kernel
theorem dX9_findOdds_91 : decode cX9_findOdds 91 = .ok (.lload 5, 2) := by decide +kernel
theorem dX9_findOdds_93 : decode cX9_findOdds 93 = .ok (.iload 8, 2) := by decide +kernel
theorem dX9_findOdds_95 : decode cX9_findOdds 95 = .ok (.ifCond .eq 8, 3) := by decide +kernel
theorem dX9_findOdds_98 : decode cX9_findOdds 98 = .ok (.iload_n 1, 1) := by decide +kernel
theorem dX9_findOdds_99 : decode cX9_findOdds 99 = .ok (.i2l, 1) := by decide +kernel
theorem dX9_findOdds_100 : decode cX9_findOdds 100 = .ok (.goto 8, 3) := by decide +kernel
theorem dX9_findOdds_103 : decode cX9_findOdds 103 = .ok (.bipush 10, 2) := by decide +kernel
theorem dX9_findOdds_105 : decode cX9_findOdds 105 = .ok (.iload_n 1, 1) := by decide +kernel
theorem dX9_findOdds_106 : decode cX9_findOdds 106 = .ok (.isub, 1) := by decide +kernel
theorem dX9_findOdds_107 : decode cX9_findOdds 107 = .ok (.i2l, 1) := by decide +kernel
theorem dX9_findOdds_108 : decode cX9_findOdds 108 = .ok (.lmul, 1) := by decide +kernel
theorem dX9_findOdds_109 : decode cX9_findOdds 109 = .ok (.lstore 5, 2) := by decide +kernel
theorem dX9_findOdds_111 : decode cX9_findOdds 111 = .ok (.aload_n 0, 1) := by decide +kernel
theorem dX9_findOdds_112 : decode cX9_findOdds 112 = .ok (.getfield 13, 3) := by decide +kernel
theorem dX9_findOdds_115 : decode cX9_findOdds 115 = .ok (.bipush 40, 2) := by decide +kernel
theorem dX9_findOdds_117 : decode cX9_findOdds 117 = .ok (.iload 8, 2) := by decide +kernel
theorem dX9_findOdds_119 : decode cX9_findOdds 119 = .ok (.ifCond .eq 8, 3) := by decide +kernel
theorem dX9_findOdds_122 : decode cX9_findOdds 122 = .ok (.bipush 7, 2) := by decide +kernel
theorem dX9_findOdds_124 : decode cX9_findOdds 124 = .ok (.goto 10, 3) := by decide +kernel
theorem dX9_findOdds_127 : decode cX9_findOdds 127 = .ok (.aload_n 0, 1) := by decide +kernel
theorem dX9_findOdds_128 : decode cX9_findOdds 128 = .ok (.getfield 13, 3) := by decide +kernel
theorem dX9_findOdds_131 : decode cX9_findOdds 131 = .ok (.bipush 40, 2) := by decide +kernel
theorem dX9_findOdds_133 : decode cX9_findOdds 133 = .ok (.iaload, 1) := by decide +kernel
theorem dX9_findOdds_134 : decode cX9_findOdds 134 = .ok (.iastore, 1) := by decide +kernel
theorem dX9_findOdds_135 : decode cX9_findOdds 135 = .ok (.aload_n 0, 1) := by decide +kernel
theorem dX9_findOdds_136 : decode cX9_findOdds 136 = .ok (.invokevirtual 197, 3) := by decide +kernel
theorem dX9_findOdds_139 : decode cX9_findOdds 139 = .ok (.iinc 7 1, 3) := by decide +kernel
theorem dX9_findOdds_142 : decode cX9_findOdds 142 = .ok (.goto (-75), 3) := by decide +kernel
theorem dX9_findOdds_145 : decode cX9_findOdds 145 = .ok (.aload_n 0, 1) := by decide +kernel
theorem dX9_findOdds_146 : decode cX9_findOdds 146 = .ok (.dup, 1) := by decide +kernel
theorem dX9_findOdds_147 : decode cX9_findOdds 147 = .ok (.getfield 276, 3) := by decide +kernel
theorem dX9_findOdds_150 : decode cX9_findOdds 150 = .ok (.aload_n 0, 1) := by decide +kernel
theorem dX9_findOdds_151 : decode cX9_findOdds 151 = .ok (.getfield 165, 3) := by decide +kernel
theorem dX9_findOdds_154 : decode cX9_findOdds 154 = .ok (.iload_n 3, 1) := by decide +kernel
theorem dX9_findOdds_155 : decode cX9_findOdds 155 = .ok (.if_icmp .gt 8, 3) := by decide +kernel
theorem dX9_findOdds_158 : decode cX9_findOdds 158 = .ok (.lload 5, 2) := by decide +kernel
theorem dX9_findOdds_160 : decode cX9_findOdds 160 = .ok (.goto 4, 3) := by decide +kernel
theorem dX9_findOdds_163 : decode cX9_findOdds 163 = .ok (.lconst 0, 1) := by decide +kernel
theorem dX9_findOdds_164 : decode cX9_findOdds 164 = .ok (.ladd, 1) := by decide +kernel
theorem dX9_findOdds_165 : decode cX9_findOdds 165 = .ok (.putfield 276, 3) := by decide +kernel
theorem dX9_findOdds_168 : decode cX9_findOdds 168 = .ok (.aload_n 0, 1) := by decide +kernel
theorem dX9_findOdds_169 : decode cX9_findOdds 169 = .ok (.dup, 1) := by decide +kernel
theorem dX9_findOdds_170 : decode cX9_findOdds 170 = .ok (.getfield 280, 3) := by decide +kernel
theorem dX9_findOdds_173 : decode cX9_findOdds 173 = .ok (.lload 5, 2) := by decide +kernel
theorem dX9_findOdds_175 : decode cX9_findOdds 175 = .ok (.aload_n 0, 1) := by decide +kernel
theorem dX9_findOdds_176 : decode cX9_findOdds 176 = .ok (.getfield 165, 3) := by decide +kernel
theorem dX9_findOdds_179 : decode cX9_findOdds 179 = .ok (.i2l, 1) := by decide +kernel
theorem dX9_findOdds_180 : decode cX9_findOdds 180 = .ok (.lmul, 1) := by decide +kernel
theorem dX9_findOdds_181 : decode cX9_findOdds 181 = .ok (.ladd, 1) := by decide +kernel
theorem dX9_findOdds_182 : decode cX9_findOdds 182 = .ok (.putfield 280, 3) := by decide +kernel
theorem dX9_findOdds_185 : decode cX9_findOdds 185 = .ok (.iinc 4 1, 3) := by decide +kernel
theorem dX9_findOdds_188 : decode cX9_findOdds 188 = .ok (.goto (-143), 3) := by decide +kernel
theorem dX9_findOdds_191 : decode cX9_findOdds 191 = .ok (.return_, 1) := by decide +kernel
theorem dX9_luck_0 : decode cX9_luck 0 = .ok (.iload_n 1, 1) := by decide +kernel
theorem dX9_luck_1 : decode cX9_luck 1 = .ok (.i2l, 1) := by decide +kernel
theorem dX9_luck_2 : decode cX9_luck 2 = .ok (.lconst 0, 1) := by decide +kernel
theorem dX9_luck_3 : decode cX9_luck 3 = .ok (.ldc2_w 286, 3) := by decide +kernel
theorem dX9_luck_6 : decode cX9_luck 6 = .ok (.invokestatic 78, 3) := by decide +kernel
theorem dX9_luck_9 : decode cX9_luck 9 = .ok (.ifCond .eq 35, 3) := by decide +kernel
theorem dX9_luck_12 : decode cX9_luck 12 = .ok (.iload_n 2, 1) := by decide +kernel
theorem dX9_luck_13 : decode cX9_luck 13 = .ok (.i2l, 1) := by decide +kernel
theorem dX9_luck_14 : decode cX9_luck 14 = .ok (.lconst 0, 1) := by decide +kernel
theorem dX9_luck_15 : decode cX9_luck 15 = .ok (.ldc2_w 288, 3) := by decide +kernel
theorem dX9_luck_18 : decode cX9_luck 18 = .ok (.invokestatic 78, 3) := by decide +kernel
theorem dX9_luck_21 : decode cX9_luck 21 = .ok (.ifCond .eq 23, 3) := by decide +kernel
theorem dX9_luck_24 : decode cX9_luck 24 = .ok (.iload_n 3, 1) := by decide +kernel
theorem dX9_luck_25 : decode cX9_luck 25 = .ok (.i2l, 1) := by decide +kernel
theorem dX9_luck_26 : decode cX9_luck 26 = .ok (.lconst 0, 1) := by decide +kernel
theorem dX9_luck_27 : decode cX9_luck 27 = .ok (.ldc2_w 290, 3) := by decide +kernel
theorem dX9_luck_30 : decode cX9_luck 30 = .ok (.invokestatic 78, 3) := by decide +kernel
theorem dX9_luck_33 : decode cX9_luck 33 = .ok (.ifCond .eq 11, 3) := by decide +kernel
theorem dX9_luck_36 : decode cX9_luck 36 = .ok (.iload 4, 2) := by decide +kernel
theorem dX9_luck_38 : decode cX9_luck 38 = .ok (.invokestatic 253, 3) := by decide +kernel
theorem dX9_luck_41 : decode cX9_luck 41 = .ok (.ifCond .ne 7, 3) := by decide +kernel
theorem dX9_luck_44 : decode cX9_luck 44 = .ok (.ldc2_w 292, 3) := by decide +kernel
theorem dX9_luck_47 : decode cX9_luck 47 = .ok (.lreturn, 1) := by decide +kernel
theorem dX9_luck_48 : decode cX9_luck 48 = .ok (.aload_n 0, 1) := by decide +kernel
theorem dX9_luck_49 : decode cX9_luck 49 = .ok (.iload_n 1, 1) := by decide +kernel
theorem dX9_luck_50 : decode cX9_luck 50 = .ok (.iload_n 2, 1) := by decide +kernel
theorem dX9_luck_51 : decode cX9_luck 51 = .ok (.iload_n 3, 1) := by decide +kernel
theorem dX9_luck_52 : decode cX9_luck 52 = .ok (.invokevirtual 294, 3) := by decide +kernel
theorem dX9_luck_55 : decode cX9_luck 55 = .ok (.aload_n 0, 1) := by decide +kernel
theorem dX9_luck_56 : decode cX9_luck 56 = .ok (.getfield 276, 3) := by decide +kernel
theorem dX9_luck_59 : decode cX9_luck 59 = .ok (.aload_n 0, 1) := by decide +kernel
theorem dX9_luck_60 : decode cX9_luck 60 = .ok (.getfield 283, 3) := by decide +kernel
theorem dX9_luck_63 : decode cX9_luck 63 = .ok (.iload 4, 2) := by decide +kernel
theorem dX9_luck_65 : decode cX9_luck 65 = .ok (.invokestatic 297, 3) := by decide +kernel
theorem dX9_luck_68 : decode cX9_luck 68 = .ok (.lreturn, 1) := by decide +kernel
theorem dX9_mean_0 : decode cX9_mean 0 = .ok (.iload_n 1, 1) := by decide +kernel
theorem dX9_mean_1 : decode cX9_mean 1 = .ok (.i2l, 1) := by decide +kernel
theorem dX9_mean_2 : decode cX9_mean 2 = .ok (.lconst 0, 1) := by decide +kernel
theorem dX9_mean_3 : decode cX9_mean 3 = .ok (.ldc2_w 286, 3) := by decide +kernel
theorem dX9_mean_6 : decode cX9_mean 6 = .ok (.invokestatic 78, 3) := by decide +kernel
theorem dX9_mean_9 : decode cX9_mean 9 = .ok (.ifCond .eq 22, 3) := by decide +kernel
theorem dX9_mean_12 : decode cX9_mean 12 = .ok (.iload_n 2, 1) := by decide +kernel
theorem dX9_mean_13 : decode cX9_mean 13 = .ok (.i2l, 1) := by decide +kernel
theorem dX9_mean_14 : decode cX9_mean 14 = .ok (.lconst 0, 1) := by decide +kernel
theorem dX9_mean_15 : decode cX9_mean 15 = .ok (.ldc2_w 288, 3) := by decide +kernel
theorem dX9_mean_18 : decode cX9_mean 18 = .ok (.invokestatic 78, 3) := by decide +kernel
theorem dX9_mean_21 : decode cX9_mean 21 = .ok (.ifCond .eq 10, 3) := by decide +kernel
theorem dX9_mean_24 : decode cX9_mean 24 = .ok (.iload_n 3, 1) := by decide +kernel
theorem dX9_mean_25 : decode cX9_mean 25 = .ok (.invokestatic 253, 3) := by decide +kernel
theorem dX9_mean_28 : decode cX9_mean 28 = .ok (.ifCond .ne 7, 3) := by decide +kernel
theorem dX9_mean_31 : decode cX9_mean 31 = .ok (.ldc2_w 292, 3) := by decide +kernel
theorem dX9_mean_34 : decode cX9_mean 34 = .ok (.lreturn, 1) := by decide +kernel
theorem dX9_mean_35 : decode cX9_mean 35 = .ok (.aload_n 0, 1) := by decide +kernel
theorem dX9_mean_36 : decode cX9_mean 36 = .ok (.iload_n 1, 1) := by decide +kernel
theorem dX9_mean_37 : decode cX9_mean 37 = .ok (.iload_n 2, 1) := by decide +kernel
theorem dX9_mean_38 : decode cX9_mean 38 = .ok (.iconst 0, 1) := by decide +kernel
theorem dX9_mean_39 : decode cX9_mean 39 = .ok (.invokevirtual 294, 3) := by decide +kernel
theorem dX9_mean_42 : decode cX9_mean 42 = .ok (.aload_n 0, 1) := by decide +kernel
theorem dX9_mean_43 : decode cX9_mean 43 = .ok (.getfield 280, 3) := by decide +kernel
theorem dX9_mean_46 : decode cX9_mean 46 = .ok (.aload_n 0, 1) := by decide +kernel
theorem dX9_mean_47 : decode cX9_mean 47 = .ok (.getfield 283, 3) := by decide +kernel
theorem dX9_mean_50 : decode cX9_mean 50 = .ok (.iload_n 3, 1) := by decide +kernel
theorem dX9_mean_51 : decode cX9_mean 51 = .ok (.invokestatic 297, 3) := by decide +kernel
theorem dX9_mean_54 : decode cX9_mean 54 = .ok (.lreturn, 1) := by decide +kernel
theorem dX9_see_0 : decode cX9_see 0 = .ok (.iload_n 1, 1) := by decide +kernel
theorem dX9_see_1 : decode cX9_see 1 = .ok (.i2l, 1) := by decide +kernel
theorem dX9_see_2 : decode cX9_see 2 = .ok (.lconst 0, 1) := by decide +kernel
theorem dX9_see_3 : decode cX9_see 3 = .ok (.ldc2_w 301, 3) := by decide +kernel
theorem dX9_see_6 : decode cX9_see 6 = .ok (.invokestatic 78, 3) := by decide +kernel
theorem dX9_see_9 : decode cX9_see 9 = .ok (.ifCond .eq 29, 3) := by decide +kernel
theorem dX9_see_12 : decode cX9_see 12 = .ok (.aload_n 0, 1) := by decide +kernel
theorem dX9_see_13 : decode cX9_see 13 = .ok (.iload_n 2, 1) := by decide +kernel
theorem dX9_see_14 : decode cX9_see 14 = .ok (.invokevirtual 216, 3) := by decide +kernel
theorem dX9_see_17 : decode cX9_see 17 = .ok (.ifCond .eq 21, 3) := by decide +kernel
theorem dX9_see_20 : decode cX9_see 20 = .ok (.iload_n 3, 1) := by decide +kernel
theorem dX9_see_21 : decode cX9_see 21 = .ok (.i2l, 1) := by decide +kernel
theorem dX9_see_22 : decode cX9_see 22 = .ok (.lconst 0, 1) := by decide +kernel
theorem dX9_see_23 : decode cX9_see 23 = .ok (.ldc2_w 224, 3) := by decide +kernel
theorem dX9_see_26 : decode cX9_see 26 = .ok (.invokestatic 78, 3) := by decide +kernel
theorem dX9_see_29 : decode cX9_see 29 = .ok (.ifCond .eq 9, 3) := by decide +kernel
theorem dX9_see_32 : decode cX9_see 32 = .ok (.iload_n 3, 1) := by decide +kernel
theorem dX9_see_33 : decode cX9_see 33 = .ok (.bipush 8, 2) := by decide +kernel
theorem dX9_see_35 : decode cX9_see 35 = .ok (.if_icmp .ne 5, 3) := by decide +kernel
theorem dX9_see_38 : decode cX9_see 38 = .ok (.iconst (-1), 1) := by decide +kernel
theorem dX9_see_39 : decode cX9_see 39 = .ok (.ireturn, 1) := by decide +kernel
theorem dX9_see_40 : decode cX9_see 40 = .ok (.aload_n 0, 1) := by decide +kernel
theorem dX9_see_41 : decode cX9_see 41 = .ok (.getfield 7, 3) := by decide +kernel
theorem dX9_see_44 : decode cX9_see 44 = .ok (.bipush 43, 2) := by decide +kernel
theorem dX9_see_46 : decode cX9_see 46 = .ok (.iaload, 1) := by decide +kernel
theorem dX9_see_47 : decode cX9_see 47 = .ok (.bipush 6, 2) := by decide +kernel
theorem dX9_see_49 : decode cX9_see 49 = .ok (.if_icmp .ne 6, 3) := by decide +kernel
theorem dX9_see_52 : decode cX9_see 52 = .ok (.bipush (-3), 2) := by decide +kernel
theorem dX9_see_54 : decode cX9_see 54 = .ok (.ireturn, 1) := by decide +kernel
theorem dX9_see_55 : decode cX9_see 55 = .ok (.bipush 44, 2) := by decide +kernel
theorem dX9_see_57 : decode cX9_see 57 = .ok (.iconst 3, 1) := by decide +kernel
theorem dX9_see_58 : decode cX9_see 58 = .ok (.aload_n 0, 1) := by decide +kernel
theorem dX9_see_59 : decode cX9_see 59 = .ok (.getfield 7, 3) := by decide +kernel
theorem dX9_see_62 : decode cX9_see 62 = .ok (.bipush 43, 2) := by decide +kernel
theorem dX9_see_64 : decode cX9_see 64 = .ok (.iaload, 1) := by decide +kernel
theorem dX9_see_65 : decode cX9_see 65 = .ok (.imul, 1) := by decide +kernel
theorem dX9_see_66 : decode cX9_see 66 = .ok (.iadd, 1) := by decide +kernel
theorem dX9_see_67 : decode cX9_see 67 = .ok (.istore 4, 2) := by decide +kernel
theorem dX9_see_69 : decode cX9_see 69 = .ok (.aload_n 0, 1) := by decide +kernel
theorem dX9_see_70 : decode cX9_see 70 = .ok (.getfield 7, 3) := by decide +kernel
theorem dX9_see_73 : decode cX9_see 73 = .ok (.iload 4, 2) := by decide +kernel
theorem dX9_see_75 : decode cX9_see 75 = .ok (.iload_n 1, 1) := by decide +kernel
theorem dX9_see_76 : decode cX9_see 76 = .ok (.iastore, 1) := by decide +kernel
theorem dX9_see_77 : decode cX9_see 77 = .ok (.aload_n 0, 1) := by decide +kernel
theorem dX9_see_78 : decode cX9_see 78 = .ok (.getfield 7, 3) := by decide +kernel
theorem dX9_see_81 : decode cX9_see 81 = .ok (.iload 4, 2) := by decide +kernel
theorem dX9_see_83 : decode cX9_see 83 = .ok (.iconst 1, 1) := by decide +kernel
theorem dX9_see_84 : decode cX9_see 84 = .ok (.iadd, 1) := by decide +kernel
theorem dX9_see_85 : decode cX9_see 85 = .ok (.iload_n 2, 1) := by decide +kernel
theorem dX9_see_86 : decode cX9_see 86 = .ok (.iastore, 1) := by decide +kernel
theorem dX9_see_87 : decode cX9_see 87 = .ok (.aload_n 0, 1) := by decide +kernel
theorem dX9_see_88 : decode cX9_see 88 = .ok (.getfield 7, 3) := by decide +kernel
theorem dX9_see_91 : decode cX9_see 91 = .ok (.iload 4, 2) := by decide +kernel
theorem dX9_see_93 : decode cX9_see 93 = .ok (.iconst 2, 1) := by decide +kernel
theorem dX9_see_94 : decode cX9_see 94 = .ok (.iadd, 1) := by decide +kernel
theorem dX9_see_95 : decode cX9_see 95 = .ok (.iload_n 3, 1) := by decide +kernel
theorem dX9_see_96 : decode cX9_see 96 = .ok (.invokestatic 229, 3) := by decide +kernel
theorem dX9_see_99 : decode cX9_see 99 = .ok (.iastore, 1) := by decide +kernel
theorem dX9_see_100 : decode cX9_see 100 = .ok (.aload_n 0, 1) := by decide +kernel
theorem dX9_see_101 : decode cX9_see 101 = .ok (.getfield 7, 3) := by decide +kernel
theorem dX9_see_104 : decode cX9_see 104 = .ok (.bipush 43, 2) := by decide +kernel
theorem dX9_see_106 : decode cX9_see 106 = .ok (.dup2, 1) := by decide +kernel
theorem dX9_see_107 : decode cX9_see 107 = .ok (.iaload, 1) := by decide +kernel
theorem dX9_see_108 : decode cX9_see 108 = .ok (.iconst 1, 1) := by decide +kernel
theorem dX9_see_109 : decode cX9_see 109 = .ok (.iadd, 1) := by decide +kernel
theorem dX9_see_110 : decode cX9_see 110 = .ok (.iastore, 1) := by decide +kernel
theorem dX9_see_111 : decode cX9_see 111 = .ok (.aload_n 0, 1) := by decide +kernel
theorem dX9_see_112 : decode cX9_see 112 = .ok (.getfield 7, 3) := by decide +kernel
theorem dX9_see_115 : decode cX9_see 115 = .ok (.bipush 43, 2) := by decide +kernel
theorem dX9_see_117 : decode cX9_see 117 = .ok (.iaload, 1) := by decide +kernel
theorem dX9_see_118 : decode cX9_see 118 = .ok (.ireturn, 1) := by decide +kernel
theorem dX9_forget_0 : decode cX9_forget 0 = .ok (.iload_n 1, 1) := by decide +kernel
theorem dX9_forget_1 : decode cX9_forget 1 = .ok (.i2l, 1) := by decide +kernel
theorem dX9_forget_2 : decode cX9_forget 2 = .ok (.lconst 0, 1) := by decide +kernel
theorem dX9_forget_3 : decode cX9_forget 3 = .ok (.aload_n 0, 1) := by decide +kernel
theorem dX9_forget_4 : decode cX9_forget 4 = .ok (.getfield 7, 3) := by decide +kernel
theorem dX9_forget_7 : decode cX9_forget 7 = .ok (.bipush 43, 2) := by decide +kernel
theorem dX9_forget_9 : decode cX9_forget 9 = .ok (.iaload, 1) := by decide +kernel
theorem dX9_forget_10 : decode cX9_forget 10 = .ok (.i2l, 1) := by decide +kernel
theorem dX9_forget_11 : decode cX9_forget 11 = .ok (.invokestatic 78, 3) := by decide +kernel
theorem dX9_forget_14 : decode cX9_forget 14 = .ok (.ifCond .eq 13, 3) := by decide +kernel
theorem dX9_forget_17 : decode cX9_forget 17 = .ok (.aload_n 0, 1) := by decide +kernel
theorem dX9_forget_18 : decode cX9_forget 18 = .ok (.bipush 43, 2) := by decide +kernel
theorem dX9_forget_20 : decode cX9_forget 20 = .ok (.iload_n 1, 1) := by decide +kernel
theorem dX9_forget_21 : decode cX9_forget 21 = .ok (.invokevirtual 232, 3) := by decide +kernel
theorem dX9_forget_24 : decode cX9_forget 24 = .ok (.goto 4, 3) := by decide +kernel
theorem dX9_forget_27 : decode cX9_forget 27 = .ok (.iconst (-1), 1) := by decide +kernel
theorem dX9_forget_28 : decode cX9_forget 28 = .ok (.ireturn, 1) := by decide +kernel
theorem dX9_isSoWith_0 : decode cX9_isSoWith 0 = .ok (.aload_n 0, 1) := by decide +kernel
theorem dX9_isSoWith_1 : decode cX9_isSoWith 1 = .ok (.invokevirtual 204, 3) := by decide +kernel
theorem dX9_isSoWith_4 : decode cX9_isSoWith 4 = .ok (.aload_n 0, 1) := by decide +kernel
theorem dX9_isSoWith_5 : decode cX9_isSoWith 5 = .ok (.getfield 13, 3) := by decide +kernel
theorem dX9_isSoWith_8 : decode cX9_isSoWith 8 = .ok (.iload_n 1, 1) := by decide +kernel
theorem dX9_isSoWith_9 : decode cX9_isSoWith 9 = .ok (.iload_n 2, 1) := by decide +kernel
theorem dX9_isSoWith_10 : decode cX9_isSoWith 10 = .ok (.iastore, 1) := by decide +kernel
theorem dX9_isSoWith_11 : decode cX9_isSoWith 11 = .ok (.iconst 0, 1) := by decide +kernel
theorem dX9_isSoWith_12 : decode cX9_isSoWith 12 = .ok (.istore_n 3, 1) := by decide +kernel
theorem dX9_isSoWith_13 : decode cX9_isSoWith 13 = .ok (.iload_n 3, 1) := by decide +kernel
theorem dX9_isSoWith_14 : decode cX9_isSoWith 14 = .ok (.bipush 20, 2) := by decide +kernel
theorem dX9_isSoWith_16 : decode cX9_isSoWith 16 = .ok (.if_icmp .gt 49, 3) := by decide +kernel
theorem dX9_isSoWith_19 : decode cX9_isSoWith 19 = .ok (.iconst 0, 1) := by decide +kernel
theorem dX9_isSoWith_20 : decode cX9_isSoWith 20 = .ok (.istore 4, 2) := by decide +kernel
theorem dX9_isSoWith_22 : decode cX9_isSoWith 22 = .ok (.iload 4, 2) := by decide +kernel
theorem dX9_isSoWith_24 : decode cX9_isSoWith 24 = .ok (.aload_n 0, 1) := by decide +kernel
theorem dX9_isSoWith_25 : decode cX9_isSoWith 25 = .ok (.getfield 73, 3) := by decide +kernel
theorem dX9_isSoWith_28 : decode cX9_isSoWith 28 = .ok (.if_icmp .ge 27, 3) := by decide +kernel
theorem dX9_isSoWith_31 : decode cX9_isSoWith 31 = .ok (.aload_n 0, 1) := by decide +kernel
theorem dX9_isSoWith_32 : decode cX9_isSoWith 32 = .ok (.getfield 32, 3) := by decide +kernel
theorem dX9_isSoWith_35 : decode cX9_isSoWith 35 = .ok (.iconst 4, 1) := by decide +kernel
theorem dX9_isSoWith_36 : decode cX9_isSoWith 36 = .ok (.iload_n 3, 1) := by decide +kernel
theorem dX9_isSoWith_37 : decode cX9_isSoWith 37 = .ok (.imul, 1) := by decide +kernel
theorem dX9_isSoWith_38 : decode cX9_isSoWith 38 = .ok (.iload 4, 2) := by decide +kernel
theorem dX9_isSoWith_40 : decode cX9_isSoWith 40 = .ok (.iadd, 1) := by decide +kernel
theorem dX9_isSoWith_41 : decode cX9_isSoWith 41 = .ok (.aload_n 0, 1) := by decide +kernel
theorem dX9_isSoWith_42 : decode cX9_isSoWith 42 = .ok (.iload 4, 2) := by decide +kernel
theorem dX9_isSoWith_44 : decode cX9_isSoWith 44 = .ok (.iconst 1, 1) := by decide +kernel
theorem dX9_isSoWith_45 : decode cX9_isSoWith 45 = .ok (.invokevirtual 153, 3) := by decide +kernel
theorem dX9_isSoWith_48 : decode cX9_isSoWith 48 = .ok (.iastore, 1) := by decide +kernel
theorem dX9_isSoWith_49 : decode cX9_isSoWith 49 = .ok (.iinc 4 1, 3) := by decide +kernel
theorem dX9_isSoWith_52 : decode cX9_isSoWith 52 = .ok (.goto (-30), 3) := by decide +kernel
theorem dX9_isSoWith_55 : decode cX9_isSoWith 55 = .ok (.aload_n 0, 1) := by decide +kernel
theorem dX9_isSoWith_56 : decode cX9_isSoWith 56 = .ok (.invokevirtual 197, 3) := by decide +kernel
theorem dX9_isSoWith_59 : decode cX9_isSoWith 59 = .ok (.iinc 3 1, 3) := by decide +kernel
theorem dX9_isSoWith_62 : decode cX9_isSoWith 62 = .ok (.goto (-49), 3) := by decide +kernel
theorem dX9_isSoWith_65 : decode cX9_isSoWith 65 = .ok (.iconst 1, 1) := by decide +kernel
theorem dX9_isSoWith_66 : decode cX9_isSoWith 66 = .ok (.istore_n 3, 1) := by decide +kernel
theorem dX9_isSoWith_67 : decode cX9_isSoWith 67 = .ok (.iconst 0, 1) := by decide +kernel
theorem dX9_isSoWith_68 : decode cX9_isSoWith 68 = .ok (.istore 4, 2) := by decide +kernel
theorem dX9_isSoWith_70 : decode cX9_isSoWith 70 = .ok (.iload 4, 2) := by decide +kernel
theorem dX9_isSoWith_72 : decode cX9_isSoWith 72 = .ok (.aload_n 0, 1) := by decide +kernel
theorem dX9_isSoWith_73 : decode cX9_isSoWith 73 = .ok (.getfield 7, 3) := by decide +kernel
theorem dX9_isSoWith_76 : decode cX9_isSoWith 76 = .ok (.bipush 43, 2) := by decide +kernel
theorem dX9_isSoWith_78 : decode cX9_isSoWith 78 = .ok (.iaload, 1) := by decide +kernel
theorem dX9_isSoWith_79 : decode cX9_isSoWith 79 = .ok (.if_icmp .ge 64, 3) := by decide +kernel
theorem dX9_isSoWith_82 : decode cX9_isSoWith 82 = .ok (.bipush 44, 2) := by decide +kernel
theorem dX9_isSoWith_84 : decode cX9_isSoWith 84 = .ok (.iconst 3, 1) := by decide +kernel
theorem dX9_isSoWith_85 : decode cX9_isSoWith 85 = .ok (.iload 4, 2) := by decide +kernel
theorem dX9_isSoWith_87 : decode cX9_isSoWith 87 = .ok (.imul, 1) := by decide +kernel
theorem dX9_isSoWith_88 : decode cX9_isSoWith 88 = .ok (.iadd, 1) := by decide +kernel
theorem dX9_isSoWith_89 : decode cX9_isSoWith 89 = .ok (.istore 5, 2) := by decide +kernel
theorem dX9_isSoWith_91 : decode cX9_isSoWith 91 = .ok (.iload_n 3, 1) := by decide +kernel
theorem dX9_isSoWith_92 : decode cX9_isSoWith 92 = .ok (.ifCond .eq 43, 3) := by decide +kernel
theorem dX9_isSoWith_95 : decode cX9_isSoWith 95 = .ok (.aload_n 0, 1) := by decide +kernel
theorem dX9_isSoWith_96 : decode cX9_isSoWith 96 = .ok (.getfield 32, 3) := by decide +kernel
theorem dX9_isSoWith_99 : decode cX9_isSoWith 99 = .ok (.iconst 4, 1) := by decide +kernel
theorem dX9_isSoWith_100 : decode cX9_isSoWith 100 = .ok (.aload_n 0, 1) := by decide +kernel
theorem dX9_isSoWith_101 : decode cX9_isSoWith 101 = .ok (.getfield 7, 3) := by decide +kernel
theorem dX9_isSoWith_104 : decode cX9_isSoWith 104 = .ok (.iload 5, 2) := by decide +kernel
theorem dX9_isSoWith_106 : decode cX9_isSoWith 106 = .ok (.iaload, 1) := by decide +kernel
theorem dX9_isSoWith_107 : decode cX9_isSoWith 107 = .ok (.imul, 1) := by decide +kernel
theorem dX9_isSoWith_108 : decode cX9_isSoWith 108 = .ok (.aload_n 0, 1) := by decide +kernel
theorem dX9_isSoWith_109 : decode cX9_isSoWith 109 = .ok (.getfield 7, 3) := by decide +kernel
theorem dX9_isSoWith_112 : decode cX9_isSoWith 112 = .ok (.iload 5, 2) := by decide +kernel
theorem dX9_isSoWith_114 : decode cX9_isSoWith 114 = .ok (.iconst 1, 1) := by decide +kernel
theorem dX9_isSoWith_115 : decode cX9_isSoWith 115 = .ok (.iadd, 1) := by decide +kernel
theorem dX9_isSoWith_116 : decode cX9_isSoWith 116 = .ok (.iaload, 1) := by decide +kernel
theorem dX9_isSoWith_117 : decode cX9_isSoWith 117 = .ok (.iadd, 1) := by decide +kernel
theorem dX9_isSoWith_118 : decode cX9_isSoWith 118 = .ok (.iaload, 1) := by decide +kernel
theorem dX9_isSoWith_119 : decode cX9_isSoWith 119 = .ok (.aload_n 0, 1) := by decide +kernel
theorem dX9_isSoWith_120 : decode cX9_isSoWith 120 = .ok (.getfield 7, 3) := by decide +kernel
theorem dX9_isSoWith_123 : decode cX9_isSoWith 123 = .ok (.iload 5, 2) := by decide +kernel
theorem dX9_isSoWith_125 : decode cX9_isSoWith 125 = .ok (.iconst 2, 1) := by decide +kernel
theorem dX9_isSoWith_126 : decode cX9_isSoWith 126 = .ok (.iadd, 1) := by decide +kernel
theorem dX9_isSoWith_127 : decode cX9_isSoWith 127 = .ok (.iaload, 1) := by decide +kernel
theorem dX9_isSoWith_128 : decode cX9_isSoWith 128 = .ok (.if_icmp .ne 7, 3) := by decide +kernel
theorem dX9_isSoWith_131 : decode cX9_isSoWith 131 = .ok (.iconst 1, 1) := by decide +kernel
theorem dX9_isSoWith_132 : decode cX9_isSoWith 132 = .ok (.goto 4, 3) := by decide +kernel
theorem dX9_isSoWith_135 : decode cX9_isSoWith 135 = .ok (.iconst 0, 1) := by decide +kernel
theorem dX9_isSoWith_136 : decode cX9_isSoWith 136 = .ok (.istore_n 3, 1) := by decide +kernel
theorem dX9_isSoWith_137 : decode cX9_isSoWith 137 = .ok (.iinc 4 1, 3) := by decide +kernel
theorem dX9_isSoWith_140 : decode cX9_isSoWith 140 = .ok (.goto (-70), 3) := by decide +kernel
theorem dX9_isSoWith_143 : decode cX9_isSoWith 143 = .ok (.iload_n 3, 1) := by decide +kernel
theorem dX9_isSoWith_144 : decode cX9_isSoWith 144 = .ok (.ireturn, 1) := by decide +kernel
theorem dX9_kinds_0 : decode cX9_kinds 0 = .ok (.aload_n 0, 1) := by decide +kernel
theorem dX9_kinds_1 : decode cX9_kinds 1 = .ok (.iload_n 1, 1) := by decide +kernel
theorem dX9_kinds_2 : decode cX9_kinds 2 = .ok (.invokevirtual 216, 3) := by decide +kernel
theorem dX9_kinds_5 : decode cX9_kinds 5 = .ok (.ifCond .ne 5, 3) := by decide +kernel
theorem dX9_kinds_8 : decode cX9_kinds 8 = .ok (.iconst (-1), 1) := by decide +kernel
theorem dX9_kinds_9 : decode cX9_kinds 9 = .ok (.ireturn, 1) := by decide +kernel
theorem dX9_kinds_10 : decode cX9_kinds 10 = .ok (.iconst 0, 1) := by decide +kernel
theorem dX9_kinds_11 : decode cX9_kinds 11 = .ok (.istore_n 2, 1) := by decide +kernel
theorem dX9_kinds_12 : decode cX9_kinds 12 = .ok (.iconst 0, 1) := by decide +kernel
theorem dX9_kinds_13 : decode cX9_kinds 13 = .ok (.istore_n 3, 1) := by decide +kernel
theorem dX9_kinds_14 : decode cX9_kinds 14 = .ok (.iload_n 3, 1) := by decide +kernel
theorem dX9_kinds_15 : decode cX9_kinds 15 = .ok (.iconst 4, 1) := by decide +kernel
theorem dX9_kinds_16 : decode cX9_kinds 16 = .ok (.if_icmp .ge 30, 3) := by decide +kernel
theorem dX9_kinds_19 : decode cX9_kinds 19 = .ok (.iload_n 2, 1) := by decide +kernel
theorem dX9_kinds_20 : decode cX9_kinds 20 = .ok (.aload_n 0, 1) := by decide +kernel
theorem dX9_kinds_21 : decode cX9_kinds 21 = .ok (.bipush 24, 2) := by decide +kernel
theorem dX9_kinds_23 : decode cX9_kinds 23 = .ok (.iconst 4, 1) := by decide +kernel
theorem dX9_kinds_24 : decode cX9_kinds 24 = .ok (.iload_n 1, 1) := by decide +kernel
theorem dX9_kinds_25 : decode cX9_kinds 25 = .ok (.imul, 1) := by decide +kernel
theorem dX9_kinds_26 : decode cX9_kinds 26 = .ok (.iadd, 1) := by decide +kernel
theorem dX9_kinds_27 : decode cX9_kinds 27 = .ok (.iconst 0, 1) := by decide +kernel
theorem dX9_kinds_28 : decode cX9_kinds 28 = .ok (.iadd, 1) := by decide +kernel
theorem dX9_kinds_29 : decode cX9_kinds 29 = .ok (.iload_n 3, 1) := by decide +kernel
theorem dX9_kinds_30 : decode cX9_kinds 30 = .ok (.invokevirtual 303, 3) := by decide +kernel
theorem dX9_kinds_33 : decode cX9_kinds 33 = .ok (.invokestatic 200, 3) := by decide +kernel
theorem dX9_kinds_36 : decode cX9_kinds 36 = .ok (.iload_n 3, 1) := by decide +kernel
theorem dX9_kinds_37 : decode cX9_kinds 37 = .ok (.ishl, 1) := by decide +kernel
theorem dX9_kinds_38 : decode cX9_kinds 38 = .ok (.ior, 1) := by decide +kernel
theorem dX9_kinds_39 : decode cX9_kinds 39 = .ok (.istore_n 2, 1) := by decide +kernel
theorem dX9_kinds_40 : decode cX9_kinds 40 = .ok (.iinc 3 1, 3) := by decide +kernel
theorem dX9_kinds_43 : decode cX9_kinds 43 = .ok (.goto (-29), 3) := by decide +kernel
theorem dX9_kinds_46 : decode cX9_kinds 46 = .ok (.iload_n 2, 1) := by decide +kernel
theorem dX9_kinds_47 : decode cX9_kinds 47 = .ok (.ireturn, 1) := by decide +kernel
theorem dX9_heights_0 : decode cX9_heights 0 = .ok (.aload_n 0, 1) := by decide +kernel
theorem dX9_heights_1 : decode cX9_heights 1 = .ok (.iload_n 1, 1) := by decide +kernel
theorem dX9_heights_2 : decode cX9_heights 2 = .ok (.invokevirtual 210, 3) := by decide +kernel
theorem dX9_heights_5 : decode cX9_heights 5 = .ok (.ifCond .ne 5, 3) := by decide +kernel
theorem dX9_heights_8 : decode cX9_heights 8 = .ok (.iconst (-1), 1) := by decide +kernel
theorem dX9_heights_9 : decode cX9_heights 9 = .ok (.ireturn, 1) := by decide +kernel
theorem dX9_heights_10 : decode cX9_heights 10 = .ok (.iconst 0, 1) := by decide +kernel
theorem dX9_heights_11 : decode cX9_heights 11 = .ok (.istore_n 2, 1) := by decide +kernel
theorem dX9_heights_12 : decode cX9_heights 12 = .ok (.iconst 0, 1) := by decide +kernel
theorem dX9_heights_13 : decode cX9_heights 13 = .ok (.istore_n 3, 1) := by decide +kernel
theorem dX9_heights_14 : decode cX9_heights 14 = .ok (.iload_n 3, 1) := by decide +kernel
theorem dX9_heights_15 : decode cX9_heights 15 = .ok (.bipush 9, 2) := by decide +kernel
theorem dX9_heights_17 : decode cX9_heights 17 = .ok (.if_icmp .gt 27, 3) := by decide +kernel
theorem dX9_heights_20 : decode cX9_heights 20 = .ok (.iload_n 2, 1) := by decide +kernel
theorem dX9_heights_21 : decode cX9_heights 21 = .ok (.aload_n 0, 1) := by decide +kernel
theorem dX9_heights_22 : decode cX9_heights 22 = .ok (.iconst 3, 1) := by decide +kernel
theorem dX9_heights_23 : decode cX9_heights 23 = .ok (.iload_n 1, 1) := by decide +kernel
theorem dX9_heights_24 : decode cX9_heights 24 = .ok (.imul, 1) := by decide +kernel
theorem dX9_heights_25 : decode cX9_heights 25 = .ok (.iconst 1, 1) := by decide +kernel
theorem dX9_heights_26 : decode cX9_heights 26 = .ok (.iadd, 1) := by decide +kernel
theorem dX9_heights_27 : decode cX9_heights 27 = .ok (.iload_n 3, 1) := by decide +kernel
theorem dX9_heights_28 : decode cX9_heights 28 = .ok (.invokevirtual 303, 3) := by decide +kernel
theorem dX9_heights_31 : decode cX9_heights 31 = .ok (.invokestatic 200, 3) := by decide +kernel
theorem dX9_heights_34 : decode cX9_heights 34 = .ok (.iload_n 3, 1) := by decide +kernel
theorem dX9_heights_35 : decode cX9_heights 35 = .ok (.ishl, 1) := by decide +kernel
theorem dX9_heights_36 : decode cX9_heights 36 = .ok (.ior, 1) := by decide +kernel
theorem dX9_heights_37 : decode cX9_heights 37 = .ok (.istore_n 2, 1) := by decide +kernel
theorem dX9_heights_38 : decode cX9_heights 38 = .ok (.iinc 3 1, 3) := by decide +kernel
theorem dX9_heights_41 : decode cX9_heights 41 = .ok (.goto (-27), 3) := by decide +kernel
theorem dX9_heights_44 : decode cX9_heights 44 = .ok (.iload_n 2, 1) := by decide +kernel
theorem dX9_heights_45 : decode cX9_heights 45 = .ok (.ireturn, 1) := by decide +kernel
theorem dX9_ask_0 : decode cX9_ask 0 = .ok (.aload_n 0, 1) := by decide +kernel
theorem dX9_ask_1 : decode cX9_ask 1 = .ok (.iload_n 1, 1) := by decide +kernel
theorem dX9_ask_2 : decode cX9_ask 2 = .ok (.invokevirtual 210, 3) := by decide +kernel
theorem dX9_ask_5 : decode cX9_ask 5 = .ok (.ifCond .eq 10, 3) := by decide +kernel
theorem dX9_ask_8 : decode cX9_ask 8 = .ok (.iload_n 2, 1) := by decide +kernel
theorem dX9_ask_9 : decode cX9_ask 9 = .ok (.invokestatic 253, 3) := by decide +kernel
theorem dX9_ask_12 : decode cX9_ask 12 = .ok (.ifCond .ne 5, 3) := by decide +kernel
theorem dX9_ask_15 : decode cX9_ask 15 = .ok (.iconst (-1), 1) := by decide +kernel
theorem dX9_ask_16 : decode cX9_ask 16 = .ok (.ireturn, 1) := by decide +kernel
theorem dX9_ask_17 : decode cX9_ask 17 = .ok (.iconst 0, 1) := by decide +kernel
theorem dX9_ask_18 : decode cX9_ask 18 = .ok (.istore_n 3, 1) := by decide +kernel
theorem dX9_ask_19 : decode cX9_ask 19 = .ok (.iconst 0, 1) := by decide +kernel
theorem dX9_ask_20 : decode cX9_ask 20 = .ok (.istore 4, 2) := by decide +kernel
theorem dX9_ask_22 : decode cX9_ask 22 = .ok (.iload 4, 2) := by decide +kernel
theorem dX9_ask_24 : decode cX9_ask 24 = .ok (.bipush 9, 2) := by decide +kernel
theorem dX9_ask_26 : decode cX9_ask 26 = .ok (.if_icmp .gt 61, 3) := by decide +kernel
theorem dX9_ask_29 : decode cX9_ask 29 = .ok (.aload_n 0, 1) := by decide +kernel
theorem dX9_ask_30 : decode cX9_ask 30 = .ok (.iconst 3, 1) := by decide +kernel
theorem dX9_ask_31 : decode cX9_ask 31 = .ok (.iload_n 1, 1) := by decide +kernel
theorem dX9_ask_32 : decode cX9_ask 32 = .ok (.imul, 1) := by decide +kernel
theorem dX9_ask_33 : decode cX9_ask 33 = .ok (.iconst 1, 1) := by decide +kernel
theorem dX9_ask_34 : decode cX9_ask 34 = .ok (.iadd, 1) := by decide +kernel
theorem dX9_ask_35 : decode cX9_ask 35 = .ok (.iload 4, 2) := by decide +kernel
theorem dX9_ask_37 : decode cX9_ask 37 = .ok (.invokevirtual 303, 3) := by decide +kernel
theorem dX9_ask_40 : decode cX9_ask 40 = .ok (.ifCond .eq 41, 3) := by decide +kernel
theorem dX9_ask_43 : decode cX9_ask 43 = .ok (.iconst 0, 1) := by decide +kernel
theorem dX9_ask_44 : decode cX9_ask 44 = .ok (.istore 5, 2) := by decide +kernel
theorem dX9_ask_46 : decode cX9_ask 46 = .ok (.iload 5, 2) := by decide +kernel
theorem dX9_ask_48 : decode cX9_ask 48 = .ok (.bipush 84, 2) := by decide +kernel
theorem dX9_ask_50 : decode cX9_ask 50 = .ok (.if_icmp .ge 28, 3) := by decide +kernel
theorem dX9_ask_53 : decode cX9_ask 53 = .ok (.aload_n 0, 1) := by decide +kernel
theorem dX9_ask_54 : decode cX9_ask 54 = .ok (.getfield 35, 3) := by decide +kernel
theorem dX9_ask_57 : decode cX9_ask 57 = .ok (.bipush 84, 2) := by decide +kernel
theorem dX9_ask_59 : decode cX9_ask 59 = .ok (.iload_n 3, 1) := by decide +kernel
theorem dX9_ask_60 : decode cX9_ask 60 = .ok (.imul, 1) := by decide +kernel
theorem dX9_ask_61 : decode cX9_ask 61 = .ok (.iload 5, 2) := by decide +kernel
theorem dX9_ask_63 : decode cX9_ask 63 = .ok (.iadd, 1) := by decide +kernel
theorem dX9_ask_64 : decode cX9_ask 64 = .ok (.aload_n 0, 1) := by decide +kernel
theorem dX9_ask_65 : decode cX9_ask 65 = .ok (.getfield 32, 3) := by decide +kernel
theorem dX9_ask_68 : decode cX9_ask 68 = .ok (.iload 5, 2) := by decide +kernel
theorem dX9_ask_70 : decode cX9_ask 70 = .ok (.iaload, 1) := by decide +kernel
theorem dX9_ask_71 : decode cX9_ask 71 = .ok (.iastore, 1) := by decide +kernel
theorem dX9_ask_72 : decode cX9_ask 72 = .ok (.iinc 5 1, 3) := by decide +kernel
theorem dX9_ask_75 : decode cX9_ask 75 = .ok (.goto (-29), 3) := by decide +kernel
theorem dX9_ask_78 : decode cX9_ask 78 = .ok (.iinc 3 1, 3) := by decide +kernel
theorem dX9_ask_81 : decode cX9_ask 81 = .ok (.iinc 4 1, 3) := by decide +kernel
theorem dX9_ask_84 : decode cX9_ask 84 = .ok (.goto (-62), 3) := by decide +kernel
theorem dX9_ask_87 : decode cX9_ask 87 = .ok (.iload_n 3, 1) := by decide +kernel
theorem dX9_ask_88 : decode cX9_ask 88 = .ok (.istore 4, 2) := by decide +kernel
theorem dX9_ask_90 : decode cX9_ask 90 = .ok (.bipush (-4), 2) := by decide +kernel
theorem dX9_ask_92 : decode cX9_ask 92 = .ok (.istore 5, 2) := by decide +kernel
theorem dX9_ask_94 : decode cX9_ask 94 = .ok (.iconst 0, 1) := by decide +kernel
theorem dX9_ask_95 : decode cX9_ask 95 = .ok (.istore 6, 2) := by decide +kernel
theorem dX9_ask_97 : decode cX9_ask 97 = .ok (.iload 6, 2) := by decide +kernel
theorem dX9_ask_99 : decode cX9_ask 99 = .ok (.bipush 84, 2) := by decide +kernel
theorem dX9_ask_101 : decode cX9_ask 101 = .ok (.if_icmp .ge 129, 3) := by decide +kernel
theorem dX9_ask_104 : decode cX9_ask 104 = .ok (.iconst 0, 1) := by decide +kernel
theorem dX9_ask_105 : decode cX9_ask 105 = .ok (.istore 7, 2) := by decide +kernel
theorem dX9_ask_107 : decode cX9_ask 107 = .ok (.iconst 0, 1) := by decide +kernel
theorem dX9_ask_108 : decode cX9_ask 108 = .ok (.istore 8, 2) := by decide +kernel
theorem dX9_ask_110 : decode cX9_ask 110 = .ok (.iload 8, 2) := by decide +kernel
theorem dX9_ask_112 : decode cX9_ask 112 = .ok (.iload_n 3, 1) := by decide +kernel
theorem dX9_ask_113 : decode cX9_ask 113 = .ok (.if_icmp .ge 85, 3) := by decide +kernel
theorem dX9_ask_116 : decode cX9_ask 116 = .ok (.iconst 0, 1) := by decide +kernel
theorem dX9_ask_117 : decode cX9_ask 117 = .ok (.istore 9, 2) := by decide +kernel
theorem dX9_ask_119 : decode cX9_ask 119 = .ok (.iconst 0, 1) := by decide +kernel
theorem dX9_ask_120 : decode cX9_ask 120 = .ok (.istore 10, 2) := by decide +kernel
theorem dX9_ask_122 : decode cX9_ask 122 = .ok (.iload 10, 2) := by decide +kernel
theorem dX9_ask_124 : decode cX9_ask 124 = .ok (.iload_n 3, 1) := by decide +kernel
theorem dX9_ask_125 : decode cX9_ask 125 = .ok (.if_icmp .ge 51, 3) := by decide +kernel
theorem dX9_ask_128 : decode cX9_ask 128 = .ok (.iload 9, 2) := by decide +kernel
theorem dX9_ask_130 : decode cX9_ask 130 = .ok (.aload_n 0, 1) := by decide +kernel
theorem dX9_ask_131 : decode cX9_ask 131 = .ok (.getfield 35, 3) := by decide +kernel
theorem dX9_ask_134 : decode cX9_ask 134 = .ok (.bipush 84, 2) := by decide +kernel
theorem dX9_ask_136 : decode cX9_ask 136 = .ok (.iload 8, 2) := by decide +kernel
theorem dX9_ask_138 : decode cX9_ask 138 = .ok (.imul, 1) := by decide +kernel
theorem dX9_ask_139 : decode cX9_ask 139 = .ok (.iload 6, 2) := by decide +kernel
theorem dX9_ask_141 : decode cX9_ask 141 = .ok (.iadd, 1) := by decide +kernel
theorem dX9_ask_142 : decode cX9_ask 142 = .ok (.iaload, 1) := by decide +kernel
theorem dX9_ask_143 : decode cX9_ask 143 = .ok (.aload_n 0, 1) := by decide +kernel
theorem dX9_ask_144 : decode cX9_ask 144 = .ok (.getfield 35, 3) := by decide +kernel
theorem dX9_ask_147 : decode cX9_ask 147 = .ok (.bipush 84, 2) := by decide +kernel
theorem dX9_ask_149 : decode cX9_ask 149 = .ok (.iload 10, 2) := by decide +kernel
theorem dX9_ask_151 : decode cX9_ask 151 = .ok (.imul, 1) := by decide +kernel
theorem dX9_ask_152 : decode cX9_ask 152 = .ok (.iload 6, 2) := by decide +kernel
theorem dX9_ask_154 : decode cX9_ask 154 = .ok (.iadd, 1) := by decide +kernel
theorem dX9_ask_155 : decode cX9_ask 155 = .ok (.iaload, 1) := by decide +kernel
theorem dX9_ask_156 : decode cX9_ask 156 = .ok (.if_icmp .ne 7, 3) := by decide +kernel
theorem dX9_ask_159 : decode cX9_ask 159 = .ok (.iconst 1, 1) := by decide +kernel
theorem dX9_ask_160 : decode cX9_ask 160 = .ok (.goto 4, 3) := by decide +kernel
theorem dX9_ask_163 : decode cX9_ask 163 = .ok (.iconst 0, 1) := by decide +kernel
theorem dX9_ask_164 : decode cX9_ask 164 = .ok (.invokestatic 200, 3) := by decide +kernel
theorem dX9_ask_167 : decode cX9_ask 167 = .ok (.iadd, 1) := by decide +kernel
theorem dX9_ask_168 : decode cX9_ask 168 = .ok (.istore 9, 2) := by decide +kernel
theorem dX9_ask_170 : decode cX9_ask 170 = .ok (.iinc 10 1, 3) := by decide +kernel
theorem dX9_ask_173 : decode cX9_ask 173 = .ok (.goto (-51), 3) := by decide +kernel
theorem dX9_ask_176 : decode cX9_ask 176 = .ok (.iload 9, 2) := by decide +kernel
theorem dX9_ask_178 : decode cX9_ask 178 = .ok (.iload 7, 2) := by decide +kernel
theorem dX9_ask_180 : decode cX9_ask 180 = .ok (.if_icmp .le 8, 3) := by decide +kernel
theorem dX9_ask_183 : decode cX9_ask 183 = .ok (.iload 9, 2) := by decide +kernel
theorem dX9_ask_185 : decode cX9_ask 185 = .ok (.goto 5, 3) := by decide +kernel
theorem dX9_ask_188 : decode cX9_ask 188 = .ok (.iload 7, 2) := by decide +kernel
theorem dX9_ask_190 : decode cX9_ask 190 = .ok (.istore 7, 2) := by decide +kernel
theorem dX9_ask_192 : decode cX9_ask 192 = .ok (.iinc 8 1, 3) := by decide +kernel
theorem dX9_ask_195 : decode cX9_ask 195 = .ok (.goto (-85), 3) := by decide +kernel
theorem dX9_ask_198 : decode cX9_ask 198 = .ok (.iload 6, 2) := by decide +kernel
theorem dX9_ask_200 : decode cX9_ask 200 = .ok (.iconst 4, 1) := by decide +kernel
theorem dX9_ask_201 : decode cX9_ask 201 = .ok (.irem, 1) := by decide +kernel
theorem dX9_ask_202 : decode cX9_ask 202 = .ok (.aload_n 0, 1) := by decide +kernel
theorem dX9_ask_203 : decode cX9_ask 203 = .ok (.getfield 73, 3) := by decide +kernel
theorem dX9_ask_206 : decode cX9_ask 206 = .ok (.if_icmp .ge 18, 3) := by decide +kernel
theorem dX9_ask_209 : decode cX9_ask 209 = .ok (.iload 7, 2) := by decide +kernel
theorem dX9_ask_211 : decode cX9_ask 211 = .ok (.iload 4, 2) := by decide +kernel
theorem dX9_ask_213 : decode cX9_ask 213 = .ok (.if_icmp .ge 11, 3) := by decide +kernel
theorem dX9_ask_216 : decode cX9_ask 216 = .ok (.iload 7, 2) := by decide +kernel
theorem dX9_ask_218 : decode cX9_ask 218 = .ok (.istore 4, 2) := by decide +kernel
theorem dX9_ask_220 : decode cX9_ask 220 = .ok (.iload 6, 2) := by decide +kernel
theorem dX9_ask_222 : decode cX9_ask 222 = .ok (.istore 5, 2) := by decide +kernel
theorem dX9_ask_224 : decode cX9_ask 224 = .ok (.iinc 6 1, 3) := by decide +kernel
theorem dX9_ask_227 : decode cX9_ask 227 = .ok (.goto (-130), 3) := by decide +kernel
theorem dX9_ask_230 : decode cX9_ask 230 = .ok (.iload 5, 2) := by decide +kernel
theorem dX9_ask_232 : decode cX9_ask 232 = .ok (.bipush (-4), 2) := by decide +kernel
theorem dX9_ask_234 : decode cX9_ask 234 = .ok (.if_icmp .ne 8, 3) := by decide +kernel
theorem dX9_ask_237 : decode cX9_ask 237 = .ok (.bipush (-4), 2) := by decide +kernel
theorem dX9_ask_239 : decode cX9_ask 239 = .ok (.goto 24, 3) := by decide +kernel
theorem dX9_ask_242 : decode cX9_ask 242 = .ok (.iload_n 2, 1) := by decide +kernel
theorem dX9_ask_243 : decode cX9_ask 243 = .ok (.ifCond .ne 18, 3) := by decide +kernel
theorem dX9_ask_246 : decode cX9_ask 246 = .ok (.bipush 10, 2) := by decide +kernel
theorem dX9_ask_248 : decode cX9_ask 248 = .ok (.iload 5, 2) := by decide +kernel
theorem dX9_ask_250 : decode cX9_ask 250 = .ok (.iconst 4, 1) := by decide +kernel
theorem dX9_ask_251 : decode cX9_ask 251 = .ok (.idiv, 1) := by decide +kernel
theorem dX9_ask_252 : decode cX9_ask 252 = .ok (.imul, 1) := by decide +kernel
theorem dX9_ask_253 : decode cX9_ask 253 = .ok (.iload 5, 2) := by decide +kernel
theorem dX9_ask_255 : decode cX9_ask 255 = .ok (.iconst 4, 1) := by decide +kernel
theorem dX9_ask_256 : decode cX9_ask 256 = .ok (.irem, 1) := by decide +kernel
theorem dX9_ask_257 : decode cX9_ask 257 = .ok (.iadd, 1) := by decide +kernel
theorem dX9_ask_258 : decode cX9_ask 258 = .ok (.goto 5, 3) := by decide +kernel
theorem dX9_ask_261 : decode cX9_ask 261 = .ok (.iload 4, 2) := by decide +kernel
theorem dX9_ask_263 : decode cX9_ask 263 = .ok (.ireturn, 1) := by decide +kernel
theorem dX9_drift_0 : decode cX9_drift 0 = .ok (.iload_n 2, 1) := by decide +kernel
theorem dX9_drift_1 : decode cX9_drift 1 = .ok (.i2l, 1) := by decide +kernel
theorem dX9_drift_2 : decode cX9_drift 2 = .ok (.lconst 1, 1) := by decide +kernel
theorem dX9_drift_3 : decode cX9_drift 3 = .ok (.ldc2_w 248, 3) := by decide +kernel
theorem dX9_drift_6 : decode cX9_drift 6 = .ok (.invokestatic 78, 3) := by decide +kernel
theorem dX9_drift_9 : decode cX9_drift 9 = .ok (.ifCond .eq 10, 3) := by decide +kernel
theorem dX9_drift_12 : decode cX9_drift 12 = .ok (.iload_n 3, 1) := by decide +kernel
theorem dX9_drift_13 : decode cX9_drift 13 = .ok (.invokestatic 253, 3) := by decide +kernel
theorem dX9_drift_16 : decode cX9_drift 16 = .ok (.ifCond .ne 5, 3) := by decide +kernel
theorem dX9_drift_19 : decode cX9_drift 19 = .ok (.iconst (-1), 1) := by decide +kernel
theorem dX9_drift_20 : decode cX9_drift 20 = .ok (.ireturn, 1) := by decide +kernel
theorem dX9_drift_21 : decode cX9_drift 21 = .ok (.aload_n 0, 1) := by decide +kernel
theorem dX9_drift_22 : decode cX9_drift 22 = .ok (.getfield 70, 3) := by decide +kernel
theorem dX9_drift_25 : decode cX9_drift 25 = .ok (.ifCond .eq 10, 3) := by decide +kernel
theorem dX9_drift_28 : decode cX9_drift 28 = .ok (.aload_n 0, 1) := by decide +kernel
theorem dX9_drift_29 : decode cX9_drift 29 = .ok (.getfield 73, 3) := by decide +kernel
theorem dX9_drift_32 : decode cX9_drift 32 = .ok (.ifCond .ne 6, 3) := by decide +kernel
theorem dX9_drift_35 : decode cX9_drift 35 = .ok (.bipush (-2), 2) := by decide +kernel
theorem dX9_drift_37 : decode cX9_drift 37 = .ok (.ireturn, 1) := by decide +kernel
theorem dX9_drift_38 : decode cX9_drift 38 = .ok (.iload_n 1, 1) := by decide +kernel
theorem dX9_drift_39 : decode cX9_drift 39 = .ok (.istore 4, 2) := by decide +kernel
theorem dX9_drift_41 : decode cX9_drift 41 = .ok (.aload_n 0, 1) := by decide +kernel
theorem dX9_drift_42 : decode cX9_drift 42 = .ok (.invokevirtual 204, 3) := by decide +kernel
theorem dX9_drift_45 : decode cX9_drift 45 = .ok (.aload_n 0, 1) := by decide +kernel
theorem dX9_drift_46 : decode cX9_drift 46 = .ok (.invokevirtual 194, 3) := by decide +kernel
theorem dX9_drift_49 : decode cX9_drift 49 = .ok (.iconst 0, 1) := by decide +kernel
theorem dX9_drift_50 : decode cX9_drift 50 = .ok (.istore 5, 2) := by decide +kernel
theorem dX9_drift_52 : decode cX9_drift 52 = .ok (.iload 5, 2) := by decide +kernel
theorem dX9_drift_54 : decode cX9_drift 54 = .ok (.iload_n 2, 1) := by decide +kernel
theorem dX9_drift_55 : decode cX9_drift 55 = .ok (.if_icmp .ge 85, 3) := by decide +kernel
theorem dX9_drift_58 : decode cX9_drift 58 = .ok (.iload 4, 2) := by decide +kernel
theorem dX9_drift_60 : decode cX9_drift 60 = .ok (.ldc_w 306, 3) := by decide +kernel
theorem dX9_drift_63 : decode cX9_drift 63 = .ok (.imul, 1) := by decide +kernel
theorem dX9_drift_64 : decode cX9_drift 64 = .ok (.sipush 12345, 3) := by decide +kernel
theorem dX9_drift_67 : decode cX9_drift 67 = .ok (.iadd, 1) := by decide +kernel
theorem dX9_drift_68 : decode cX9_drift 68 = .ok (.istore 4, 2) := by decide +kernel
theorem dX9_drift_70 : decode cX9_drift 70 = .ok (.iload 4, 2) := by decide +kernel
theorem dX9_drift_72 : decode cX9_drift 72 = .ok (.bipush 16, 2) := by decide +kernel
theorem dX9_drift_74 : decode cX9_drift 74 = .ok (.ishr, 1) := by decide +kernel
theorem dX9_drift_75 : decode cX9_drift 75 = .ok (.sipush 32767, 3) := by decide +kernel
theorem dX9_drift_78 : decode cX9_drift 78 = .ok (.iand, 1) := by decide +kernel
theorem dX9_drift_79 : decode cX9_drift 79 = .ok (.istore 6, 2) := by decide +kernel
theorem dX9_drift_81 : decode cX9_drift 81 = .ok (.iload 6, 2) := by decide +kernel
theorem dX9_drift_83 : decode cX9_drift 83 = .ok (.aload_n 0, 1) := by decide +kernel
theorem dX9_drift_84 : decode cX9_drift 84 = .ok (.getfield 73, 3) := by decide +kernel
theorem dX9_drift_87 : decode cX9_drift 87 = .ok (.irem, 1) := by decide +kernel
theorem dX9_drift_88 : decode cX9_drift 88 = .ok (.istore 7, 2) := by decide +kernel
theorem dX9_drift_90 : decode cX9_drift 90 = .ok (.aload_n 0, 1) := by decide +kernel
theorem dX9_drift_91 : decode cX9_drift 91 = .ok (.iload 7, 2) := by decide +kernel
theorem dX9_drift_93 : decode cX9_drift 93 = .ok (.iconst 1, 1) := by decide +kernel
theorem dX9_drift_94 : decode cX9_drift 94 = .ok (.iload 6, 2) := by decide +kernel
theorem dX9_drift_96 : decode cX9_drift 96 = .ok (.bipush 8, 2) := by decide +kernel
theorem dX9_drift_98 : decode cX9_drift 98 = .ok (.idiv, 1) := by decide +kernel
theorem dX9_drift_99 : decode cX9_drift 99 = .ok (.aload_n 0, 1) := by decide +kernel
theorem dX9_drift_100 : decode cX9_drift 100 = .ok (.getfield 70, 3) := by decide +kernel
theorem dX9_drift_103 : decode cX9_drift 103 = .ok (.irem, 1) := by decide +kernel
theorem dX9_drift_104 : decode cX9_drift 104 = .ok (.invokevirtual 174, 3) := by decide +kernel
theorem dX9_drift_107 : decode cX9_drift 107 = .ok (.aload_n 0, 1) := by decide +kernel
theorem dX9_drift_108 : decode cX9_drift 108 = .ok (.iload 7, 2) := by decide +kernel
theorem dX9_drift_110 : decode cX9_drift 110 = .ok (.iconst 3, 1) := by decide +kernel
theorem dX9_drift_111 : decode cX9_drift 111 = .ok (.iconst 0, 1) := by decide +kernel
theorem dX9_drift_112 : decode cX9_drift 112 = .ok (.invokevirtual 174, 3) := by decide +kernel
theorem dX9_drift_115 : decode cX9_drift 115 = .ok (.aload_n 0, 1) := by decide +kernel
theorem dX9_drift_116 : decode cX9_drift 116 = .ok (.getfield 13, 3) := by decide +kernel
theorem dX9_drift_119 : decode cX9_drift 119 = .ok (.bipush 40, 2) := by decide +kernel
theorem dX9_drift_121 : decode cX9_drift 121 = .ok (.iload 6, 2) := by decide +kernel
theorem dX9_drift_123 : decode cX9_drift 123 = .ok (.bipush 64, 2) := by decide +kernel
theorem dX9_drift_125 : decode cX9_drift 125 = .ok (.idiv, 1) := by decide +kernel
theorem dX9_drift_126 : decode cX9_drift 126 = .ok (.bipush 8, 2) := by decide +kernel
theorem dX9_drift_128 : decode cX9_drift 128 = .ok (.irem, 1) := by decide +kernel
theorem dX9_drift_129 : decode cX9_drift 129 = .ok (.iastore, 1) := by decide +kernel
theorem dX9_drift_130 : decode cX9_drift 130 = .ok (.aload_n 0, 1) := by decide +kernel
theorem dX9_drift_131 : decode cX9_drift 131 = .ok (.invokevirtual 197, 3) := by decide +kernel
theorem dX9_drift_134 : decode cX9_drift 134 = .ok (.iinc 5 1, 3) := by decide +kernel
theorem dX9_drift_137 : decode cX9_drift 137 = .ok (.goto (-85), 3) := by decide +kernel
theorem dX9_drift_140 : decode cX9_drift 140 = .ok (.iload_n 3, 1) := by decide +kernel
theorem dX9_drift_141 : decode cX9_drift 141 = .ok (.ifCond .ne 10, 3) := by decide +kernel
theorem dX9_drift_144 : decode cX9_drift 144 = .ok (.aload_n 0, 1) := by decide +kernel
theorem dX9_drift_145 : decode cX9_drift 145 = .ok (.getfield 162, 3) := by decide +kernel
theorem dX9_drift_148 : decode cX9_drift 148 = .ok (.goto 7, 3) := by decide +kernel
theorem dX9_drift_151 : decode cX9_drift 151 = .ok (.aload_n 0, 1) := by decide +kernel
theorem dX9_drift_152 : decode cX9_drift 152 = .ok (.getfield 165, 3) := by decide +kernel
theorem dX9_drift_155 : decode cX9_drift 155 = .ok (.ireturn, 1) := by decide +kernel
theorem dX9_copies_0 : decode cX9_copies 0 = .ok (.iconst 0, 1) := by decide +kernel
theorem dX9_copies_1 : decode cX9_copies 1 = .ok (.istore_n 3, 1) := by decide +kernel
theorem dX9_copies_2 : decode cX9_copies 2 = .ok (.iload_n 3, 1) := by decide +kernel
theorem dX9_copies_3 : decode cX9_copies 3 = .ok (.bipush 62, 2) := by decide +kernel
theorem dX9_copies_5 : decode cX9_copies 5 = .ok (.if_icmp .ge 25, 3) := by decide +kernel
theorem dX9_copies_8 : decode cX9_copies 8 = .ok (.aload_n 0, 1) := by decide +kernel
theorem dX9_copies_9 : decode cX9_copies 9 = .ok (.getfield 7, 3) := by decide +kernel
theorem dX9_copies_12 : decode cX9_copies 12 = .ok (.iload_n 1, 1) := by decide +kernel
theorem dX9_copies_13 : decode cX9_copies 13 = .ok (.iload_n 3, 1) := by decide +kernel
theorem dX9_copies_14 : decode cX9_copies 14 = .ok (.iadd, 1) := by decide +kernel
theorem dX9_copies_15 : decode cX9_copies 15 = .ok (.aload_n 0, 1) := by decide +kernel
theorem dX9_copies_16 : decode cX9_copies 16 = .ok (.getfield 7, 3) := by decide +kernel
theorem dX9_copies_19 : decode cX9_copies 19 = .ok (.iload_n 2, 1) := by decide +kernel
theorem dX9_copies_20 : decode cX9_copies 20 = .ok (.iload_n 3, 1) := by decide +kernel
theorem dX9_copies_21 : decode cX9_copies 21 = .ok (.iadd, 1) := by decide +kernel
theorem dX9_copies_22 : decode cX9_copies 22 = .ok (.iaload, 1) := by decide +kernel
theorem dX9_copies_23 : decode cX9_copies 23 = .ok (.iastore, 1) := by decide +kernel
theorem dX9_copies_24 : decode cX9_copies 24 = .ok (.iinc 3 1, 3) := by decide +kernel
theorem dX9_copies_27 : decode cX9_copies 27 = .ok (.goto (-25), 3) := by decide +kernel
theorem dX9_copies_30 : decode cX9_copies 30 = .ok (.return_, 1) := by decide +kernel
theorem dX9_keep_0 : decode cX9_keep 0 = .ok (.iload_n 1, 1) := by decide +kernel
theorem dX9_keep_1 : decode cX9_keep 1 = .ok (.i2l, 1) := by decide +kernel
theorem dX9_keep_2 : decode cX9_keep 2 = .ok (.lconst 0, 1) := by decide +kernel
theorem dX9_keep_3 : decode cX9_keep 3 = .ok (.lconst 1, 1) := by decide +kernel
theorem dX9_keep_4 : decode cX9_keep 4 = .ok (.invokestatic 78, 3) := by decide +kernel
theorem dX9_keep_7 : decode cX9_keep 7 = .ok (.ifCond .ne 5, 3) := by decide +kernel
theorem dX9_keep_10 : decode cX9_keep 10 = .ok (.iconst (-1), 1) := by decide +kernel
theorem dX9_keep_11 : decode cX9_keep 11 = .ok (.ireturn, 1) := by decide +kernel
theorem dX9_keep_12 : decode cX9_keep 12 = .ok (.aload_n 0, 1) := by decide +kernel
theorem dX9_keep_13 : decode cX9_keep 13 = .ok (.getfield 16, 3) := by decide +kernel
theorem dX9_keep_16 : decode cX9_keep 16 = .ok (.iload_n 1, 1) := by decide +kernel
theorem dX9_keep_17 : decode cX9_keep 17 = .ok (.baload, 1) := by decide +kernel
theorem dX9_keep_18 : decode cX9_keep 18 = .ok (.invokestatic 200, 3) := by decide +kernel
theorem dX9_keep_21 : decode cX9_keep 21 = .ok (.istore_n 2, 1) := by decide +kernel
theorem dX9_keep_22 : decode cX9_keep 22 = .ok (.aload_n 0, 1) := by decide +kernel
theorem dX9_keep_23 : decode cX9_keep 23 = .ok (.getfield 16, 3) := by decide +kernel
theorem dX9_keep_26 : decode cX9_keep 26 = .ok (.iload_n 1, 1) := by decide +kernel
theorem dX9_keep_27 : decode cX9_keep 27 = .ok (.iconst 1, 1) := by decide +kernel
theorem dX9_keep_28 : decode cX9_keep 28 = .ok (.bastore, 1) := by decide +kernel
theorem dX9_keep_29 : decode cX9_keep 29 = .ok (.aload_n 0, 1) := by decide +kernel
theorem dX9_keep_30 : decode cX9_keep 30 = .ok (.bipush 62, 2) := by decide +kernel
theorem dX9_keep_32 : decode cX9_keep 32 = .ok (.iload_n 1, 1) := by decide +kernel
theorem dX9_keep_33 : decode cX9_keep 33 = .ok (.iconst 1, 1) := by decide +kernel
theorem dX9_keep_34 : decode cX9_keep 34 = .ok (.iadd, 1) := by decide +kernel
theorem dX9_keep_35 : decode cX9_keep 35 = .ok (.imul, 1) := by decide +kernel
theorem dX9_keep_36 : decode cX9_keep 36 = .ok (.iconst 0, 1) := by decide +kernel
theorem dX9_keep_37 : decode cX9_keep 37 = .ok (.invokevirtual 307, 3) := by decide +kernel
theorem dX9_keep_40 : decode cX9_keep 40 = .ok (.iload_n 2, 1) := by decide +kernel
theorem dX9_keep_41 : decode cX9_keep 41 = .ok (.ireturn, 1) := by decide +kernel
theorem dX9_back_0 : decode cX9_back 0 = .ok (.iload_n 1, 1) := by decide +kernel
theorem dX9_back_1 : decode cX9_back 1 = .ok (.i2l, 1) := by decide +kernel
theorem dX9_back_2 : decode cX9_back 2 = .ok (.lconst 0, 1) := by decide +kernel
theorem dX9_back_3 : decode cX9_back 3 = .ok (.lconst 1, 1) := by decide +kernel
theorem dX9_back_4 : decode cX9_back 4 = .ok (.invokestatic 78, 3) := by decide +kernel
theorem dX9_back_7 : decode cX9_back 7 = .ok (.ifCond .ne 5, 3) := by decide +kernel
theorem dX9_back_10 : decode cX9_back 10 = .ok (.iconst (-1), 1) := by decide +kernel
theorem dX9_back_11 : decode cX9_back 11 = .ok (.ireturn, 1) := by decide +kernel
theorem dX9_back_12 : decode cX9_back 12 = .ok (.aload_n 0, 1) := by decide +kernel
theorem dX9_back_13 : decode cX9_back 13 = .ok (.getfield 16, 3) := by decide +kernel
theorem dX9_back_16 : decode cX9_back 16 = .ok (.iload_n 1, 1) := by decide +kernel
theorem dX9_back_17 : decode cX9_back 17 = .ok (.baload, 1) := by decide +kernel
theorem dX9_back_18 : decode cX9_back 18 = .ok (.ifCond .ne 6, 3) := by decide +kernel
theorem dX9_back_21 : decode cX9_back 21 = .ok (.bipush (-2), 2) := by decide +kernel
theorem dX9_back_23 : decode cX9_back 23 = .ok (.ireturn, 1) := by decide +kernel
theorem dX9_back_24 : decode cX9_back 24 = .ok (.aload_n 0, 1) := by decide +kernel
theorem dX9_back_25 : decode cX9_back 25 = .ok (.iconst 0, 1) := by decide +kernel
theorem dX9_back_26 : decode cX9_back 26 = .ok (.bipush 62, 2) := by decide +kernel
theorem dX9_back_28 : decode cX9_back 28 = .ok (.iload_n 1, 1) := by decide +kernel
theorem dX9_back_29 : decode cX9_back 29 = .ok (.iconst 1, 1) := by decide +kernel
theorem dX9_back_30 : decode cX9_back 30 = .ok (.iadd, 1) := by decide +kernel
theorem dX9_back_31 : decode cX9_back 31 = .ok (.imul, 1) := by decide +kernel
theorem dX9_back_32 : decode cX9_back 32 = .ok (.invokevirtual 307, 3) := by decide +kernel
theorem dX9_back_35 : decode cX9_back 35 = .ok (.aload_n 0, 1) := by decide +kernel
theorem dX9_back_36 : decode cX9_back 36 = .ok (.getfield 7, 3) := by decide +kernel
theorem dX9_back_39 : decode cX9_back 39 = .ok (.bipush 41, 2) := by decide +kernel
theorem dX9_back_41 : decode cX9_back 41 = .ok (.iaload, 1) := by decide +kernel
theorem dX9_back_42 : decode cX9_back 42 = .ok (.ireturn, 1) := by decide +kernel
theorem dX9_isSheet_0 : decode cX9_isSheet 0 = .ok (.iload_n 0, 1) := by decide +kernel
theorem dX9_isSheet_1 : decode cX9_isSheet 1 = .ok (.i2l, 1) := by decide +kernel
theorem dX9_isSheet_2 : decode cX9_isSheet 2 = .ok (.lconst 0, 1) := by decide +kernel
theorem dX9_isSheet_3 : decode cX9_isSheet 3 = .ok (.ldc2_w 214, 3) := by decide +kernel
theorem dX9_isSheet_6 : decode cX9_isSheet 6 = .ok (.invokestatic 78, 3) := by decide +kernel
theorem dX9_isSheet_9 : decode cX9_isSheet 9 = .ok (.ifCond .eq 19, 3) := by decide +kernel
theorem dX9_isSheet_12 : decode cX9_isSheet 12 = .ok (.iload_n 1, 1) := by decide +kernel
theorem dX9_isSheet_13 : decode cX9_isSheet 13 = .ok (.i2l, 1) := by decide +kernel
theorem dX9_isSheet_14 : decode cX9_isSheet 14 = .ok (.lconst 0, 1) := by decide +kernel
theorem dX9_isSheet_15 : decode cX9_isSheet 15 = .ok (.ldc2_w 310, 3) := by decide +kernel
theorem dX9_isSheet_18 : decode cX9_isSheet 18 = .ok (.invokestatic 78, 3) := by decide +kernel
theorem dX9_isSheet_21 : decode cX9_isSheet 21 = .ok (.ifCond .eq 7, 3) := by decide +kernel
theorem dX9_isSheet_24 : decode cX9_isSheet 24 = .ok (.iconst 1, 1) := by decide +kernel
theorem dX9_isSheet_25 : decode cX9_isSheet 25 = .ok (.goto 4, 3) := by decide +kernel
theorem dX9_isSheet_28 : decode cX9_isSheet 28 = .ok (.iconst 0, 1) := by decide +kernel
theorem dX9_isSheet_29 : decode cX9_isSheet 29 = .ok (.ireturn, 1) := by decide +kernel
theorem dX9_sheet_0 : decode cX9_sheet 0 = .ok (.iload_n 1, 1) := by decide +kernel
theorem dX9_sheet_1 : decode cX9_sheet 1 = .ok (.iload_n 2, 1) := by decide +kernel
theorem dX9_sheet_2 : decode cX9_sheet 2 = .ok (.invokestatic 312, 3) := by decide +kernel
theorem dX9_sheet_5 : decode cX9_sheet 5 = .ok (.ifCond .eq 9, 3) := by decide +kernel
theorem dX9_sheet_8 : decode cX9_sheet 8 = .ok (.iload_n 3, 1) := by decide +kernel
theorem dX9_sheet_9 : decode cX9_sheet 9 = .ok (.bipush 40, 2) := by decide +kernel
theorem dX9_sheet_11 : decode cX9_sheet 11 = .ok (.if_icmp .le 5, 3) := by decide +kernel
theorem dX9_sheet_14 : decode cX9_sheet 14 = .ok (.iconst (-1), 1) := by decide +kernel
theorem dX9_sheet_15 : decode cX9_sheet 15 = .ok (.ireturn, 1) := by decide +kernel
theorem dX9_sheet_16 : decode cX9_sheet 16 = .ok (.iload_n 3, 1) := by decide +kernel
theorem dX9_sheet_17 : decode cX9_sheet 17 = .ok (.ifCond .ge 6, 3) := by decide +kernel
theorem dX9_sheet_20 : decode cX9_sheet 20 = .ok (.bipush (-14), 2) := by decide +kernel
theorem dX9_sheet_22 : decode cX9_sheet 22 = .ok (.ireturn, 1) := by decide +kernel
theorem dX9_sheet_23 : decode cX9_sheet 23 = .ok (.aload_n 0, 1) := by decide +kernel
theorem dX9_sheet_24 : decode cX9_sheet 24 = .ok (.getfield 38, 3) := by decide +kernel
theorem dX9_sheet_27 : decode cX9_sheet 27 = .ok (.iload_n 1, 1) := by decide +kernel
theorem dX9_sheet_28 : decode cX9_sheet 28 = .ok (.iload_n 2, 1) := by decide +kernel
theorem dX9_sheet_29 : decode cX9_sheet 29 = .ok (.iastore, 1) := by decide +kernel
theorem dX9_sheet_30 : decode cX9_sheet 30 = .ok (.aload_n 0, 1) := by decide +kernel
theorem dX9_sheet_31 : decode cX9_sheet 31 = .ok (.getfield 41, 3) := by decide +kernel
theorem dX9_sheet_34 : decode cX9_sheet 34 = .ok (.iload_n 1, 1) := by decide +kernel
theorem dX9_sheet_35 : decode cX9_sheet 35 = .ok (.iload_n 3, 1) := by decide +kernel
theorem dX9_sheet_36 : decode cX9_sheet 36 = .ok (.iastore, 1) := by decide +kernel
theorem dX9_sheet_37 : decode cX9_sheet 37 = .ok (.iconst 0, 1) := by decide +kernel
theorem dX9_sheet_38 : decode cX9_sheet 38 = .ok (.istore 4, 2) := by decide +kernel
theorem dX9_sheet_40 : decode cX9_sheet 40 = .ok (.iload 4, 2) := by decide +kernel
theorem dX9_sheet_42 : decode cX9_sheet 42 = .ok (.bipush 40, 2) := by decide +kernel
theorem dX9_sheet_44 : decode cX9_sheet 44 = .ok (.if_icmp .ge 22, 3) := by decide +kernel
theorem dX9_sheet_47 : decode cX9_sheet 47 = .ok (.aload_n 0, 1) := by decide +kernel
theorem dX9_sheet_48 : decode cX9_sheet 48 = .ok (.getfield 44, 3) := by decide +kernel
theorem dX9_sheet_51 : decode cX9_sheet 51 = .ok (.bipush 40, 2) := by decide +kernel
theorem dX9_sheet_53 : decode cX9_sheet 53 = .ok (.iload_n 1, 1) := by decide +kernel
theorem dX9_sheet_54 : decode cX9_sheet 54 = .ok (.imul, 1) := by decide +kernel
theorem dX9_sheet_55 : decode cX9_sheet 55 = .ok (.iload 4, 2) := by decide +kernel
theorem dX9_sheet_57 : decode cX9_sheet 57 = .ok (.iadd, 1) := by decide +kernel
theorem dX9_sheet_58 : decode cX9_sheet 58 = .ok (.iconst 0, 1) := by decide +kernel
theorem dX9_sheet_59 : decode cX9_sheet 59 = .ok (.iastore, 1) := by decide +kernel
theorem dX9_sheet_60 : decode cX9_sheet 60 = .ok (.iinc 4 1, 3) := by decide +kernel
theorem dX9_sheet_63 : decode cX9_sheet 63 = .ok (.goto (-23), 3) := by decide +kernel
theorem dX9_sheet_66 : decode cX9_sheet 66 = .ok (.iconst 1, 1) := by decide +kernel
theorem dX9_sheet_67 : decode cX9_sheet 67 = .ok (.ireturn, 1) := by decide +kernel
theorem dX9_lay_0 : decode cX9_lay 0 = .ok (.iload_n 1, 1) := by decide +kernel
theorem dX9_lay_1 : decode cX9_lay 1 = .ok (.iconst 0, 1) := by decide +kernel
theorem dX9_lay_2 : decode cX9_lay 2 = .ok (.invokestatic 312, 3) := by decide +kernel
theorem dX9_lay_5 : decode cX9_lay 5 = .ok (.ifCond .ne 5, 3) := by decide +kernel
theorem dX9_lay_8 : decode cX9_lay 8 = .ok (.iconst (-1), 1) := by decide +kernel
theorem dX9_lay_9 : decode cX9_lay 9 = .ok (.ireturn, 1) := by decide +kernel
theorem dX9_lay_10 : decode cX9_lay 10 = .ok (.aload_n 0, 1) := by decide +kernel
theorem dX9_lay_11 : decode cX9_lay 11 = .ok (.getfield 38, 3) := by decide +kernel
theorem dX9_lay_14 : decode cX9_lay 14 = .ok (.iload_n 1, 1) := by decide +kernel
theorem dX9_lay_15 : decode cX9_lay 15 = .ok (.iaload, 1) := by decide +kernel
theorem dX9_lay_16 : decode cX9_lay 16 = .ok (.bipush (-4), 2) := by decide +kernel
theorem dX9_lay_18 : decode cX9_lay 18 = .ok (.if_icmp .ne 6, 3) := by decide +kernel
theorem dX9_lay_21 : decode cX9_lay 21 = .ok (.bipush (-11), 2) := by decide +kernel
theorem dX9_lay_23 : decode cX9_lay 23 = .ok (.ireturn, 1) := by decide +kernel
theorem dX9_lay_24 : decode cX9_lay 24 = .ok (.iload_n 2, 1) := by decide +kernel
theorem dX9_lay_25 : decode cX9_lay 25 = .ok (.i2l, 1) := by decide +kernel
theorem dX9_lay_26 : decode cX9_lay 26 = .ok (.lconst 0, 1) := by decide +kernel
theorem dX9_lay_27 : decode cX9_lay 27 = .ok (.aload_n 0, 1) := by decide +kernel
theorem dX9_lay_28 : decode cX9_lay 28 = .ok (.getfield 41, 3) := by decide +kernel
theorem dX9_lay_31 : decode cX9_lay 31 = .ok (.iload_n 1, 1) := by decide +kernel
theorem dX9_lay_32 : decode cX9_lay 32 = .ok (.iaload, 1) := by decide +kernel
theorem dX9_lay_33 : decode cX9_lay 33 = .ok (.iconst 1, 1) := by decide +kernel
theorem dX9_lay_34 : decode cX9_lay 34 = .ok (.isub, 1) := by decide +kernel
theorem dX9_lay_35 : decode cX9_lay 35 = .ok (.i2l, 1) := by decide +kernel
theorem dX9_lay_36 : decode cX9_lay 36 = .ok (.invokestatic 78, 3) := by decide +kernel
theorem dX9_lay_39 : decode cX9_lay 39 = .ok (.ifCond .ne 6, 3) := by decide +kernel
theorem dX9_lay_42 : decode cX9_lay 42 = .ok (.bipush (-12), 2) := by decide +kernel
theorem dX9_lay_44 : decode cX9_lay 44 = .ok (.ireturn, 1) := by decide +kernel
theorem dX9_lay_45 : decode cX9_lay 45 = .ok (.aload_n 0, 1) := by decide +kernel
theorem dX9_lay_46 : decode cX9_lay 46 = .ok (.getfield 44, 3) := by decide +kernel
theorem dX9_lay_49 : decode cX9_lay 49 = .ok (.bipush 40, 2) := by decide +kernel
theorem dX9_lay_51 : decode cX9_lay 51 = .ok (.iload_n 1, 1) := by decide +kernel
theorem dX9_lay_52 : decode cX9_lay 52 = .ok (.imul, 1) := by decide +kernel
theorem dX9_lay_53 : decode cX9_lay 53 = .ok (.iload_n 2, 1) := by decide +kernel
theorem dX9_lay_54 : decode cX9_lay 54 = .ok (.iadd, 1) := by decide +kernel
theorem dX9_lay_55 : decode cX9_lay 55 = .ok (.aload_n 0, 1) := by decide +kernel
theorem dX9_lay_56 : decode cX9_lay 56 = .ok (.getfield 38, 3) := by decide +kernel
theorem dX9_lay_59 : decode cX9_lay 59 = .ok (.iload_n 1, 1) := by decide +kernel
theorem dX9_lay_60 : decode cX9_lay 60 = .ok (.iaload, 1) := by decide +kernel
theorem dX9_lay_61 : decode cX9_lay 61 = .ok (.ifCond .ne 8, 3) := by decide +kernel
theorem dX9_lay_64 : decode cX9_lay 64 = .ok (.iload_n 3, 1) := by decide +kernel
theorem dX9_lay_65 : decode cX9_lay 65 = .ok (.i2b, 1) := by decide +kernel
theorem dX9_lay_66 : decode cX9_lay 66 = .ok (.goto 19, 3) := by decide +kernel
theorem dX9_lay_69 : decode cX9_lay 69 = .ok (.aload_n 0, 1) := by decide +kernel
theorem dX9_lay_70 : decode cX9_lay 70 = .ok (.getfield 38, 3) := by decide +kernel
theorem dX9_lay_73 : decode cX9_lay 73 = .ok (.iload_n 1, 1) := by decide +kernel
theorem dX9_lay_74 : decode cX9_lay 74 = .ok (.iaload, 1) := by decide +kernel
theorem dX9_lay_75 : decode cX9_lay 75 = .ok (.iconst 1, 1) := by decide +kernel
theorem dX9_lay_76 : decode cX9_lay 76 = .ok (.if_icmp .ne 8, 3) := by decide +kernel
theorem dX9_lay_79 : decode cX9_lay 79 = .ok (.iload_n 3, 1) := by decide +kernel
theorem dX9_lay_80 : decode cX9_lay 80 = .ok (.i2s, 1) := by decide +kernel
theorem dX9_lay_81 : decode cX9_lay 81 = .ok (.goto 4, 3) := by decide +kernel
theorem dX9_lay_84 : decode cX9_lay 84 = .ok (.iload_n 3, 1) := by decide +kernel
theorem dX9_lay_85 : decode cX9_lay 85 = .ok (.iastore, 1) := by decide +kernel
theorem dX9_lay_86 : decode cX9_lay 86 = .ok (.iconst 1, 1) := by decide +kernel
theorem dX9_lay_87 : decode cX9_lay 87 = .ok (.ireturn, 1) := by decide +kernel
theorem dX9_read_0 : decode cX9_read 0 = .ok (.iload_n 1, 1) := by decide +kernel
theorem dX9_read_1 : decode cX9_read 1 = .ok (.iload_n 2, 1) := by decide +kernel
theorem dX9_read_2 : decode cX9_read 2 = .ok (.invokestatic 312, 3) := by decide +kernel
theorem dX9_read_5 : decode cX9_read 5 = .ok (.ifCond .eq 16, 3) := by decide +kernel
theorem dX9_read_8 : decode cX9_read 8 = .ok (.iload 4, 2) := by decide +kernel
theorem dX9_read_10 : decode cX9_read 10 = .ok (.i2l, 1) := by decide +kernel
theorem dX9_read_11 : decode cX9_read 11 = .ok (.lconst 0, 1) := by decide +kernel
theorem dX9_read_12 : decode cX9_read 12 = .ok (.ldc2_w 301, 3) := by decide +kernel
theorem dX9_read_15 : decode cX9_read 15 = .ok (.invokestatic 78, 3) := by decide +kernel
theorem dX9_read_18 : decode cX9_read 18 = .ok (.ifCond .ne 5, 3) := by decide +kernel
theorem dX9_read_21 : decode cX9_read 21 = .ok (.iconst (-1), 1) := by decide +kernel
theorem dX9_read_22 : decode cX9_read 22 = .ok (.ireturn, 1) := by decide +kernel
theorem dX9_read_23 : decode cX9_read 23 = .ok (.iconst 0, 1) := by decide +kernel
theorem dX9_read_24 : decode cX9_read 24 = .ok (.istore 5, 2) := by decide +kernel
theorem dX9_read_26 : decode cX9_read 26 = .ok (.iload 5, 2) := by decide +kernel
theorem dX9_read_28 : decode cX9_read 28 = .ok (.bipush 62, 2) := by decide +kernel
theorem dX9_read_30 : decode cX9_read 30 = .ok (.if_icmp .ge 23, 3) := by decide +kernel
theorem dX9_read_33 : decode cX9_read 33 = .ok (.aload_n 0, 1) := by decide +kernel
theorem dX9_read_34 : decode cX9_read 34 = .ok (.getfield 47, 3) := by decide +kernel
theorem dX9_read_37 : decode cX9_read 37 = .ok (.iload 5, 2) := by decide +kernel
theorem dX9_read_39 : decode cX9_read 39 = .ok (.aload_n 0, 1) := by decide +kernel
theorem dX9_read_40 : decode cX9_read 40 = .ok (.getfield 7, 3) := by decide +kernel
theorem dX9_read_43 : decode cX9_read 43 = .ok (.iload 5, 2) := by decide +kernel
theorem dX9_read_45 : decode cX9_read 45 = .ok (.iaload, 1) := by decide +kernel
theorem dX9_read_46 : decode cX9_read 46 = .ok (.iastore, 1) := by decide +kernel
theorem dX9_read_47 : decode cX9_read 47 = .ok (.iinc 5 1, 3) := by decide +kernel
theorem dX9_read_50 : decode cX9_read 50 = .ok (.goto (-24), 3) := by decide +kernel
theorem dX9_read_53 : decode cX9_read 53 = .ok (.iconst 0, 1) := by decide +kernel
theorem dX9_read_54 : decode cX9_read 54 = .ok (.istore 5, 2) := by decide +kernel
theorem dX9_read_56 : decode cX9_read 56 = .ok (.iconst 0, 1) := by decide +kernel
theorem dX9_read_57 : decode cX9_read 57 = .ok (.istore 6, 2) := by decide +kernel
theorem dX9_read_59 : decode cX9_read 59 = .ok (.iconst 0, 1) := by decide +kernel
theorem dX9_read_60 : decode cX9_read 60 = .ok (.istore 7, 2) := by decide +kernel
theorem dX9_read_62 : decode cX9_read 62 = .ok (.iload 7, 2) := by decide +kernel
theorem dX9_read_64 : decode cX9_read 64 = .ok (.iload 4, 2) := by decide +kernel
theorem dX9_read_66 : decode cX9_read 66 = .ok (.if_icmp .ge 184, 3) := by decide +kernel
theorem dX9_read_69 : decode cX9_read 69 = .ok (.iload 5, 2) := by decide +kernel
theorem dX9_read_71 : decode cX9_read 71 = .ok (.ifCond .ne 179, 3) := by decide +kernel
theorem dX9_read_74 : decode cX9_read 74 = .ok (.iconst 0, 1) := by decide +kernel
theorem dX9_read_75 : decode cX9_read 75 = .ok (.istore 8, 2) := by decide +kernel
theorem dX9_read_77 : decode cX9_read 77 = .ok (.iload 8, 2) := by decide +kernel
theorem dX9_read_79 : decode cX9_read 79 = .ok (.iconst 2, 1) := by decide +kernel
theorem dX9_read_80 : decode cX9_read 80 = .ok (.if_icmp .ge 84, 3) := by decide +kernel
theorem dX9_read_83 : decode cX9_read 83 = .ok (.iload 5, 2) := by decide +kernel
theorem dX9_read_85 : decode cX9_read 85 = .ok (.ifCond .ne 79, 3) := by decide +kernel
theorem dX9_read_88 : decode cX9_read 88 = .ok (.iload_n 3, 1) := by decide +kernel
theorem dX9_read_89 : decode cX9_read 89 = .ok (.i2l, 1) := by decide +kernel
theorem dX9_read_90 : decode cX9_read 90 = .ok (.iconst 2, 1) := by decide +kernel
theorem dX9_read_91 : decode cX9_read 91 = .ok (.iload 7, 2) := by decide +kernel
theorem dX9_read_93 : decode cX9_read 93 = .ok (.imul, 1) := by decide +kernel
theorem dX9_read_94 : decode cX9_read 94 = .ok (.i2l, 1) := by decide +kernel
theorem dX9_read_95 : decode cX9_read 95 = .ok (.ladd, 1) := by decide +kernel
theorem dX9_read_96 : decode cX9_read 96 = .ok (.iload 8, 2) := by decide +kernel
theorem dX9_read_98 : decode cX9_read 98 = .ok (.i2l, 1) := by decide +kernel
theorem dX9_read_99 : decode cX9_read 99 = .ok (.ladd, 1) := by decide +kernel
theorem dX9_read_100 : decode cX9_read 100 = .ok (.lstore 9, 2) := by decide +kernel
theorem dX9_read_102 : decode cX9_read 102 = .ok (.aload_n 0, 1) := by decide +kernel
theorem dX9_read_103 : decode cX9_read 103 = .ok (.getfield 38, 3) := by decide +kernel
theorem dX9_read_106 : decode cX9_read 106 = .ok (.iload_n 1, 1) := by decide +kernel
theorem dX9_read_107 : decode cX9_read 107 = .ok (.iaload, 1) := by decide +kernel
theorem dX9_read_108 : decode cX9_read 108 = .ok (.bipush (-4), 2) := by decide +kernel
theorem dX9_read_110 : decode cX9_read 110 = .ok (.if_icmp .ne 7, 3) := by decide +kernel
theorem dX9_read_113 : decode cX9_read 113 = .ok (.iconst 1, 1) := by decide +kernel
theorem dX9_read_114 : decode cX9_read 114 = .ok (.goto 42, 3) := by decide +kernel
theorem dX9_read_117 : decode cX9_read 117 = .ok (.aload_n 0, 1) := by decide +kernel
theorem dX9_read_118 : decode cX9_read 118 = .ok (.getfield 38, 3) := by decide +kernel
theorem dX9_read_121 : decode cX9_read 121 = .ok (.iload_n 1, 1) := by decide +kernel
theorem dX9_read_122 : decode cX9_read 122 = .ok (.iaload, 1) := by decide +kernel
theorem dX9_read_123 : decode cX9_read 123 = .ok (.iload_n 2, 1) := by decide +kernel
theorem dX9_read_124 : decode cX9_read 124 = .ok (.if_icmp .eq 7, 3) := by decide +kernel
theorem dX9_read_127 : decode cX9_read 127 = .ok (.iconst 3, 1) := by decide +kernel
theorem dX9_read_128 : decode cX9_read 128 = .ok (.goto 28, 3) := by decide +kernel
theorem dX9_read_131 : decode cX9_read 131 = .ok (.lload 9, 2) := by decide +kernel
theorem dX9_read_133 : decode cX9_read 133 = .ok (.lconst 0, 1) := by decide +kernel
theorem dX9_read_134 : decode cX9_read 134 = .ok (.lcmp, 1) := by decide +kernel
theorem dX9_read_135 : decode cX9_read 135 = .ok (.ifCond .lt 16, 3) := by decide +kernel
theorem dX9_read_138 : decode cX9_read 138 = .ok (.lload 9, 2) := by decide +kernel
theorem dX9_read_140 : decode cX9_read 140 = .ok (.aload_n 0, 1) := by decide +kernel
theorem dX9_read_141 : decode cX9_read 141 = .ok (.getfield 41, 3) := by decide +kernel
theorem dX9_read_144 : decode cX9_read 144 = .ok (.iload_n 1, 1) := by decide +kernel
theorem dX9_read_145 : decode cX9_read 145 = .ok (.iaload, 1) := by decide +kernel
theorem dX9_read_146 : decode cX9_read 146 = .ok (.i2l, 1) := by decide +kernel
theorem dX9_read_147 : decode cX9_read 147 = .ok (.lcmp, 1) := by decide +kernel
theorem dX9_read_148 : decode cX9_read 148 = .ok (.ifCond .lt 7, 3) := by decide +kernel
theorem dX9_read_151 : decode cX9_read 151 = .ok (.iconst 2, 1) := by decide +kernel
theorem dX9_read_152 : decode cX9_read 152 = .ok (.goto 4, 3) := by decide +kernel
theorem dX9_read_155 : decode cX9_read 155 = .ok (.iconst 0, 1) := by decide +kernel
theorem dX9_read_156 : decode cX9_read 156 = .ok (.istore 5, 2) := by decide +kernel
theorem dX9_read_158 : decode cX9_read 158 = .ok (.iinc 8 1, 3) := by decide +kernel
theorem dX9_read_161 : decode cX9_read 161 = .ok (.goto (-84), 3) := by decide +kernel
theorem dX9_read_164 : decode cX9_read 164 = .ok (.iload 5, 2) := by decide +kernel
theorem dX9_read_166 : decode cX9_read 166 = .ok (.ifCond .ne 78, 3) := by decide +kernel
theorem dX9_read_169 : decode cX9_read 169 = .ok (.bipush 40, 2) := by decide +kernel
theorem dX9_read_171 : decode cX9_read 171 = .ok (.iload_n 1, 1) := by decide +kernel
theorem dX9_read_172 : decode cX9_read 172 = .ok (.imul, 1) := by decide +kernel
theorem dX9_read_173 : decode cX9_read 173 = .ok (.iload_n 3, 1) := by decide +kernel
theorem dX9_read_174 : decode cX9_read 174 = .ok (.iadd, 1) := by decide +kernel
theorem dX9_read_175 : decode cX9_read 175 = .ok (.iconst 2, 1) := by decide +kernel
theorem dX9_read_176 : decode cX9_read 176 = .ok (.iload 7, 2) := by decide +kernel
theorem dX9_read_178 : decode cX9_read 178 = .ok (.imul, 1) := by decide +kernel
theorem dX9_read_179 : decode cX9_read 179 = .ok (.iadd, 1) := by decide +kernel
theorem dX9_read_180 : decode cX9_read 180 = .ok (.istore 8, 2) := by decide +kernel
theorem dX9_read_182 : decode cX9_read 182 = .ok (.aload_n 0, 1) := by decide +kernel
theorem dX9_read_183 : decode cX9_read 183 = .ok (.aload_n 0, 1) := by decide +kernel
theorem dX9_read_184 : decode cX9_read 184 = .ok (.getfield 44, 3) := by decide +kernel
theorem dX9_read_187 : decode cX9_read 187 = .ok (.iload 8, 2) := by decide +kernel
theorem dX9_read_189 : decode cX9_read 189 = .ok (.iaload, 1) := by decide +kernel
theorem dX9_read_190 : decode cX9_read 190 = .ok (.aload_n 0, 1) := by decide +kernel
theorem dX9_read_191 : decode cX9_read 191 = .ok (.getfield 44, 3) := by decide +kernel
theorem dX9_read_194 : decode cX9_read 194 = .ok (.iload 8, 2) := by decide +kernel
theorem dX9_read_196 : decode cX9_read 196 = .ok (.iconst 1, 1) := by decide +kernel
theorem dX9_read_197 : decode cX9_read 197 = .ok (.iadd, 1) := by decide +kernel
theorem dX9_read_198 : decode cX9_read 198 = .ok (.iaload, 1) := by decide +kernel
theorem dX9_read_199 : decode cX9_read 199 = .ok (.invokevirtual 315, 3) := by decide +kernel
theorem dX9_read_202 : decode cX9_read 202 = .ok (.ifCond .ge 39, 3) := by decide +kernel
theorem dX9_read_205 : decode cX9_read 205 = .ok (.iconst 0, 1) := by decide +kernel
theorem dX9_read_206 : decode cX9_read 206 = .ok (.istore 9, 2) := by decide +kernel
theorem dX9_read_208 : decode cX9_read 208 = .ok (.iload 9, 2) := by decide +kernel
theorem dX9_read_210 : decode cX9_read 210 = .ok (.bipush 62, 2) := by decide +kernel
theorem dX9_read_212 : decode cX9_read 212 = .ok (.if_icmp .ge 23, 3) := by decide +kernel
theorem dX9_read_215 : decode cX9_read 215 = .ok (.aload_n 0, 1) := by decide +kernel
theorem dX9_read_216 : decode cX9_read 216 = .ok (.getfield 7, 3) := by decide +kernel
theorem dX9_read_219 : decode cX9_read 219 = .ok (.iload 9, 2) := by decide +kernel
theorem dX9_read_221 : decode cX9_read 221 = .ok (.aload_n 0, 1) := by decide +kernel
theorem dX9_read_222 : decode cX9_read 222 = .ok (.getfield 47, 3) := by decide +kernel
theorem dX9_read_225 : decode cX9_read 225 = .ok (.iload 9, 2) := by decide +kernel
theorem dX9_read_227 : decode cX9_read 227 = .ok (.iaload, 1) := by decide +kernel
theorem dX9_read_228 : decode cX9_read 228 = .ok (.iastore, 1) := by decide +kernel
theorem dX9_read_229 : decode cX9_read 229 = .ok (.iinc 9 1, 3) := by decide +kernel
theorem dX9_read_232 : decode cX9_read 232 = .ok (.goto (-24), 3) := by decide +kernel
theorem dX9_read_235 : decode cX9_read 235 = .ok (.bipush (-20), 2) := by decide +kernel
theorem dX9_read_237 : decode cX9_read 237 = .ok (.iload 7, 2) := by decide +kernel
theorem dX9_read_239 : decode cX9_read 239 = .ok (.isub, 1) := by decide +kernel
theorem dX9_read_240 : decode cX9_read 240 = .ok (.ireturn, 1) := by decide +kernel
theorem dX9_read_241 : decode cX9_read 241 = .ok (.iinc 6 1, 3) := by decide +kernel
theorem dX9_read_244 : decode cX9_read 244 = .ok (.iinc 7 1, 3) := by decide +kernel
theorem dX9_read_247 : decode cX9_read 247 = .ok (.goto (-185), 3) := by decide +kernel
theorem dX9_read_250 : decode cX9_read 250 = .ok (.aload_n 0, 1) := by decide +kernel
theorem dX9_read_251 : decode cX9_read 251 = .ok (.iload 5, 2) := by decide +kernel
theorem dX9_read_253 : decode cX9_read 253 = .ok (.putfield 318, 3) := by decide +kernel
theorem dX9_read_256 : decode cX9_read 256 = .ok (.iload 6, 2) := by decide +kernel
theorem dX9_read_258 : decode cX9_read 258 = .ok (.ireturn, 1) := by decide +kernel
theorem dX9_torn_0 : decode cX9_torn 0 = .ok (.aload_n 0, 1) := by decide +kernel
theorem dX9_torn_1 : decode cX9_torn 1 = .ok (.getfield 318, 3) := by decide +kernel
theorem dX9_torn_4 : decode cX9_torn 4 = .ok (.ireturn, 1) := by decide +kernel
theorem dX9_count_0 : decode cX9_count 0 = .ok (.aload_n 0, 1) := by decide +kernel
theorem dX9_count_1 : decode cX9_count 1 = .ok (.invokevirtual 204, 3) := by decide +kernel
theorem dX9_count_4 : decode cX9_count 4 = .ok (.iconst 0, 1) := by decide +kernel
theorem dX9_count_5 : decode cX9_count 5 = .ok (.istore_n 2, 1) := by decide +kernel
theorem dX9_count_6 : decode cX9_count 6 = .ok (.iconst 0, 1) := by decide +kernel
theorem dX9_count_7 : decode cX9_count 7 = .ok (.istore_n 3, 1) := by decide +kernel
theorem dX9_count_8 : decode cX9_count 8 = .ok (.iconst 0, 1) := by decide +kernel
theorem dX9_count_9 : decode cX9_count 9 = .ok (.istore 4, 2) := by decide +kernel
theorem dX9_count_11 : decode cX9_count 11 = .ok (.iload 4, 2) := by decide +kernel
theorem dX9_count_13 : decode cX9_count 13 = .ok (.aload_n 0, 1) := by decide +kernel
theorem dX9_count_14 : decode cX9_count 14 = .ok (.getfield 70, 3) := by decide +kernel
theorem dX9_count_17 : decode cX9_count 17 = .ok (.if_icmp .ge 19, 3) := by decide +kernel
theorem dX9_count_20 : decode cX9_count 20 = .ok (.iload_n 2, 1) := by decide +kernel
theorem dX9_count_21 : decode cX9_count 21 = .ok (.aload_n 0, 1) := by decide +kernel
theorem dX9_count_22 : decode cX9_count 22 = .ok (.iload 4, 2) := by decide +kernel
theorem dX9_count_24 : decode cX9_count 24 = .ok (.iconst 1, 1) := by decide +kernel
theorem dX9_count_25 : decode cX9_count 25 = .ok (.invokevirtual 156, 3) := by decide +kernel
theorem dX9_count_28 : decode cX9_count 28 = .ok (.iadd, 1) := by decide +kernel
theorem dX9_count_29 : decode cX9_count 29 = .ok (.istore_n 2, 1) := by decide +kernel
theorem dX9_count_30 : decode cX9_count 30 = .ok (.iinc 4 1, 3) := by decide +kernel
theorem dX9_count_33 : decode cX9_count 33 = .ok (.goto (-22), 3) := by decide +kernel
theorem dX9_count_36 : decode cX9_count 36 = .ok (.iconst 0, 1) := by decide +kernel
theorem dX9_count_37 : decode cX9_count 37 = .ok (.istore 4, 2) := by decide +kernel
theorem dX9_count_39 : decode cX9_count 39 = .ok (.iload 4, 2) := by decide +kernel
theorem dX9_count_41 : decode cX9_count 41 = .ok (.aload_n 0, 1) := by decide +kernel
theorem dX9_count_42 : decode cX9_count 42 = .ok (.getfield 73, 3) := by decide +kernel
theorem dX9_count_45 : decode cX9_count 45 = .ok (.if_icmp .ge 19, 3) := by decide +kernel
theorem dX9_count_48 : decode cX9_count 48 = .ok (.iload_n 3, 1) := by decide +kernel
theorem dX9_count_49 : decode cX9_count 49 = .ok (.aload_n 0, 1) := by decide +kernel
theorem dX9_count_50 : decode cX9_count 50 = .ok (.iload 4, 2) := by decide +kernel
theorem dX9_count_52 : decode cX9_count 52 = .ok (.iconst 2, 1) := by decide +kernel
theorem dX9_count_53 : decode cX9_count 53 = .ok (.invokevirtual 153, 3) := by decide +kernel
theorem dX9_count_56 : decode cX9_count 56 = .ok (.iadd, 1) := by decide +kernel
theorem dX9_count_57 : decode cX9_count 57 = .ok (.istore_n 3, 1) := by decide +kernel
theorem dX9_count_58 : decode cX9_count 58 = .ok (.iinc 4 1, 3) := by decide +kernel
theorem dX9_count_61 : decode cX9_count 61 = .ok (.goto (-22), 3) := by decide +kernel
theorem dX9_count_64 : decode cX9_count 64 = .ok (.iload_n 1, 1) := by decide +kernel
theorem dX9_count_65 : decode cX9_count 65 = .ok (.tableswitch 99 0 5 #[39, 47, 67, 72, 95, 97], 39) := by decide +kernel
theorem dX9_count_104 : decode cX9_count 104 = .ok (.aload_n 0, 1) := by decide +kernel
theorem dX9_count_105 : decode cX9_count 105 = .ok (.getfield 7, 3) := by decide +kernel
theorem dX9_count_108 : decode cX9_count 108 = .ok (.bipush 43, 2) := by decide +kernel
theorem dX9_count_110 : decode cX9_count 110 = .ok (.iaload, 1) := by decide +kernel
theorem dX9_count_111 : decode cX9_count 111 = .ok (.ireturn, 1) := by decide +kernel
theorem dX9_count_112 : decode cX9_count 112 = .ok (.aload_n 0, 1) := by decide +kernel
theorem dX9_count_113 : decode cX9_count 113 = .ok (.getfield 16, 3) := by decide +kernel
theorem dX9_count_116 : decode cX9_count 116 = .ok (.iconst 0, 1) := by decide +kernel
theorem dX9_count_117 : decode cX9_count 117 = .ok (.baload, 1) := by decide +kernel
theorem dX9_count_118 : decode cX9_count 118 = .ok (.invokestatic 200, 3) := by decide +kernel
theorem dX9_count_121 : decode cX9_count 121 = .ok (.aload_n 0, 1) := by decide +kernel
theorem dX9_count_122 : decode cX9_count 122 = .ok (.getfield 16, 3) := by decide +kernel
theorem dX9_count_125 : decode cX9_count 125 = .ok (.iconst 1, 1) := by decide +kernel
theorem dX9_count_126 : decode cX9_count 126 = .ok (.baload, 1) := by decide +kernel
theorem dX9_count_127 : decode cX9_count 127 = .ok (.invokestatic 200, 3) := by decide +kernel
theorem dX9_count_130 : decode cX9_count 130 = .ok (.iadd, 1) := by decide +kernel
theorem dX9_count_131 : decode cX9_count 131 = .ok (.ireturn, 1) := by decide +kernel
theorem dX9_count_132 : decode cX9_count 132 = .ok (.aload_n 0, 1) := by decide +kernel
theorem dX9_count_133 : decode cX9_count 133 = .ok (.getfield 82, 3) := by decide +kernel
theorem dX9_count_136 : decode cX9_count 136 = .ok (.ireturn, 1) := by decide +kernel
theorem dX9_count_137 : decode cX9_count 137 = .ok (.aload_n 0, 1) := by decide +kernel
theorem dX9_count_138 : decode cX9_count 138 = .ok (.getfield 38, 3) := by decide +kernel
theorem dX9_count_141 : decode cX9_count 141 = .ok (.iconst 0, 1) := by decide +kernel
theorem dX9_count_142 : decode cX9_count 142 = .ok (.iaload, 1) := by decide +kernel
theorem dX9_count_143 : decode cX9_count 143 = .ok (.bipush (-4), 2) := by decide +kernel
theorem dX9_count_145 : decode cX9_count 145 = .ok (.if_icmp .ne 8, 3) := by decide +kernel
theorem dX9_count_148 : decode cX9_count 148 = .ok (.bipush (-4), 2) := by decide +kernel
theorem dX9_count_150 : decode cX9_count 150 = .ok (.goto 9, 3) := by decide +kernel
theorem dX9_count_153 : decode cX9_count 153 = .ok (.aload_n 0, 1) := by decide +kernel
theorem dX9_count_154 : decode cX9_count 154 = .ok (.getfield 41, 3) := by decide +kernel
theorem dX9_count_157 : decode cX9_count 157 = .ok (.iconst 0, 1) := by decide +kernel
theorem dX9_count_158 : decode cX9_count 158 = .ok (.iaload, 1) := by decide +kernel
theorem dX9_count_159 : decode cX9_count 159 = .ok (.ireturn, 1) := by decide +kernel
theorem dX9_count_160 : decode cX9_count 160 = .ok (.iload_n 2, 1) := by decide +kernel
theorem dX9_count_161 : decode cX9_count 161 = .ok (.ireturn, 1) := by decide +kernel
theorem dX9_count_162 : decode cX9_count 162 = .ok (.iload_n 3, 1) := by decide +kernel
theorem dX9_count_163 : decode cX9_count 163 = .ok (.ireturn, 1) := by decide +kernel
theorem dX9_count_164 : decode cX9_count 164 = .ok (.iconst (-1), 1) := by decide +kernel
theorem dX9_count_165 : decode cX9_count 165 = .ok (.ireturn, 1) := by decide +kernel
