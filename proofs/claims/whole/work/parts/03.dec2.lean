theorem dX10_candle_109 : decode cX10_candle 109 = .ok (.aaload, 1) := by decide +kernel
theorem dX10_candle_110 : decode cX10_candle 110 = .ok (.aload_n 0, 1) := by decide +kernel
theorem dX10_candle_111 : decode cX10_candle 111 = .ok (.getfield 40, 3) := by decide +kernel
theorem dX10_candle_114 : decode cX10_candle 114 = .ok (.getfield 170, 3) := by decide +kernel
theorem dX10_candle_117 : decode cX10_candle 117 = .ok (.aload_n 0, 1) := by decide +kernel
theorem dX10_candle_118 : decode cX10_candle 118 = .ok (.getfield 40, 3) := by decide +kernel
theorem dX10_candle_121 : decode cX10_candle 121 = .ok (.getfield 176, 3) := by decide +kernel
theorem dX10_candle_124 : decode cX10_candle 124 = .ok (.invokevirtual 185, 3) := by decide +kernel
theorem dX10_candle_127 : decode cX10_candle 127 = .ok (.aload_n 0, 1) := by decide +kernel
theorem dX10_candle_128 : decode cX10_candle 128 = .ok (.getfield 40, 3) := by decide +kernel
theorem dX10_candle_131 : decode cX10_candle 131 = .ok (.getfield 176, 3) := by decide +kernel
theorem dX10_candle_134 : decode cX10_candle 134 = .ok (.ireturn, 1) := by decide +kernel
theorem dX10_wins_0 : decode cX10_wins 0 = .ok (.iload_n 1, 1) := by decide +kernel
theorem dX10_wins_1 : decode cX10_wins 1 = .ok (.invokestatic 77, 3) := by decide +kernel
theorem dX10_wins_4 : decode cX10_wins 4 = .ok (.ifCond .eq 19, 3) := by decide +kernel
theorem dX10_wins_7 : decode cX10_wins 7 = .ok (.aload_n 0, 1) := by decide +kernel
theorem dX10_wins_8 : decode cX10_wins 8 = .ok (.iload_n 2, 1) := by decide +kernel
theorem dX10_wins_9 : decode cX10_wins 9 = .ok (.invokevirtual 112, 3) := by decide +kernel
theorem dX10_wins_12 : decode cX10_wins 12 = .ok (.ifCond .eq 11, 3) := by decide +kernel
theorem dX10_wins_15 : decode cX10_wins 15 = .ok (.aload_n 0, 1) := by decide +kernel
theorem dX10_wins_16 : decode cX10_wins 16 = .ok (.iload_n 3, 1) := by decide +kernel
theorem dX10_wins_17 : decode cX10_wins 17 = .ok (.invokevirtual 112, 3) := by decide +kernel
theorem dX10_wins_20 : decode cX10_wins 20 = .ok (.ifCond .ne 5, 3) := by decide +kernel
theorem dX10_wins_23 : decode cX10_wins 23 = .ok (.iconst (-1), 1) := by decide +kernel
theorem dX10_wins_24 : decode cX10_wins 24 = .ok (.ireturn, 1) := by decide +kernel
theorem dX10_wins_25 : decode cX10_wins 25 = .ok (.aload_n 0, 1) := by decide +kernel
theorem dX10_wins_26 : decode cX10_wins 26 = .ok (.getfield 17, 3) := by decide +kernel
theorem dX10_wins_29 : decode cX10_wins 29 = .ok (.iload_n 1, 1) := by decide +kernel
theorem dX10_wins_30 : decode cX10_wins 30 = .ok (.aaload, 1) := by decide +kernel
theorem dX10_wins_31 : decode cX10_wins 31 = .ok (.invokevirtual 85, 3) := by decide +kernel
theorem dX10_wins_34 : decode cX10_wins 34 = .ok (.ifCond .eq 6, 3) := by decide +kernel
theorem dX10_wins_37 : decode cX10_wins 37 = .ok (.bipush (-3), 2) := by decide +kernel
theorem dX10_wins_39 : decode cX10_wins 39 = .ok (.ireturn, 1) := by decide +kernel
theorem dX10_wins_40 : decode cX10_wins 40 = .ok (.aload_n 0, 1) := by decide +kernel
theorem dX10_wins_41 : decode cX10_wins 41 = .ok (.iload_n 1, 1) := by decide +kernel
theorem dX10_wins_42 : decode cX10_wins 42 = .ok (.invokevirtual 162, 3) := by decide +kernel
theorem dX10_wins_45 : decode cX10_wins 45 = .ok (.iconst 0, 1) := by decide +kernel
theorem dX10_wins_46 : decode cX10_wins 46 = .ok (.istore 4, 2) := by decide +kernel
theorem dX10_wins_48 : decode cX10_wins 48 = .ok (.iconst 1, 1) := by decide +kernel
theorem dX10_wins_49 : decode cX10_wins 49 = .ok (.istore 5, 2) := by decide +kernel
theorem dX10_wins_51 : decode cX10_wins 51 = .ok (.iload 5, 2) := by decide +kernel
theorem dX10_wins_53 : decode cX10_wins 53 = .ok (.bipush 60, 2) := by decide +kernel
theorem dX10_wins_55 : decode cX10_wins 55 = .ok (.if_icmp .gt 33, 3) := by decide +kernel
theorem dX10_wins_58 : decode cX10_wins 58 = .ok (.aload_n 0, 1) := by decide +kernel
theorem dX10_wins_59 : decode cX10_wins 59 = .ok (.getfield 40, 3) := by decide +kernel
theorem dX10_wins_62 : decode cX10_wins 62 = .ok (.iload 5, 2) := by decide +kernel
theorem dX10_wins_64 : decode cX10_wins 64 = .ok (.iload_n 2, 1) := by decide +kernel
theorem dX10_wins_65 : decode cX10_wins 65 = .ok (.invokevirtual 166, 3) := by decide +kernel
theorem dX10_wins_68 : decode cX10_wins 68 = .ok (.aload_n 0, 1) := by decide +kernel
theorem dX10_wins_69 : decode cX10_wins 69 = .ok (.getfield 40, 3) := by decide +kernel
theorem dX10_wins_72 : decode cX10_wins 72 = .ok (.getfield 170, 3) := by decide +kernel
theorem dX10_wins_75 : decode cX10_wins 75 = .ok (.iload_n 3, 1) := by decide +kernel
theorem dX10_wins_76 : decode cX10_wins 76 = .ok (.if_icmp .ne 6, 3) := by decide +kernel
theorem dX10_wins_79 : decode cX10_wins 79 = .ok (.iinc 4 1, 3) := by decide +kernel
theorem dX10_wins_82 : decode cX10_wins 82 = .ok (.iinc 5 1, 3) := by decide +kernel
theorem dX10_wins_85 : decode cX10_wins 85 = .ok (.goto (-34), 3) := by decide +kernel
theorem dX10_wins_88 : decode cX10_wins 88 = .ok (.iload 4, 2) := by decide +kernel
theorem dX10_wins_90 : decode cX10_wins 90 = .ok (.ireturn, 1) := by decide +kernel
theorem dX10_lots_0 : decode cX10_lots 0 = .ok (.aload_n 0, 1) := by decide +kernel
theorem dX10_lots_1 : decode cX10_lots 1 = .ok (.iload_n 1, 1) := by decide +kernel
theorem dX10_lots_2 : decode cX10_lots 2 = .ok (.invokevirtual 189, 3) := by decide +kernel
theorem dX10_lots_5 : decode cX10_lots 5 = .ok (.istore_n 2, 1) := by decide +kernel
theorem dX10_lots_6 : decode cX10_lots 6 = .ok (.iload_n 2, 1) := by decide +kernel
theorem dX10_lots_7 : decode cX10_lots 7 = .ok (.ifCond .ge 7, 3) := by decide +kernel
theorem dX10_lots_10 : decode cX10_lots 10 = .ok (.iload_n 2, 1) := by decide +kernel
theorem dX10_lots_11 : decode cX10_lots 11 = .ok (.goto 11, 3) := by decide +kernel
theorem dX10_lots_14 : decode cX10_lots 14 = .ok (.aload_n 0, 1) := by decide +kernel
theorem dX10_lots_15 : decode cX10_lots 15 = .ok (.getfield 40, 3) := by decide +kernel
theorem dX10_lots_18 : decode cX10_lots 18 = .ok (.iload_n 2, 1) := by decide +kernel
theorem dX10_lots_19 : decode cX10_lots 19 = .ok (.invokevirtual 182, 3) := by decide +kernel
theorem dX10_lots_22 : decode cX10_lots 22 = .ok (.ireturn, 1) := by decide +kernel
theorem dX10_lotter_0 : decode cX10_lotter 0 = .ok (.iload_n 1, 1) := by decide +kernel
theorem dX10_lotter_1 : decode cX10_lotter 1 = .ok (.invokestatic 77, 3) := by decide +kernel
theorem dX10_lotter_4 : decode cX10_lotter 4 = .ok (.ifCond .ne 5, 3) := by decide +kernel
theorem dX10_lotter_7 : decode cX10_lotter 7 = .ok (.iconst (-1), 1) := by decide +kernel
theorem dX10_lotter_8 : decode cX10_lotter 8 = .ok (.ireturn, 1) := by decide +kernel
theorem dX10_lotter_9 : decode cX10_lotter 9 = .ok (.aload_n 0, 1) := by decide +kernel
theorem dX10_lotter_10 : decode cX10_lotter 10 = .ok (.getfield 17, 3) := by decide +kernel
theorem dX10_lotter_13 : decode cX10_lotter 13 = .ok (.iload_n 1, 1) := by decide +kernel
theorem dX10_lotter_14 : decode cX10_lotter 14 = .ok (.aaload, 1) := by decide +kernel
theorem dX10_lotter_15 : decode cX10_lotter 15 = .ok (.invokevirtual 85, 3) := by decide +kernel
theorem dX10_lotter_18 : decode cX10_lotter 18 = .ok (.ifCond .eq 6, 3) := by decide +kernel
theorem dX10_lotter_21 : decode cX10_lotter 21 = .ok (.bipush (-3), 2) := by decide +kernel
theorem dX10_lotter_23 : decode cX10_lotter 23 = .ok (.ireturn, 1) := by decide +kernel
theorem dX10_lotter_24 : decode cX10_lotter 24 = .ok (.aload_n 0, 1) := by decide +kernel
theorem dX10_lotter_25 : decode cX10_lotter 25 = .ok (.iload_n 1, 1) := by decide +kernel
theorem dX10_lotter_26 : decode cX10_lotter 26 = .ok (.invokevirtual 162, 3) := by decide +kernel
theorem dX10_lotter_29 : decode cX10_lotter 29 = .ok (.aload_n 0, 1) := by decide +kernel
theorem dX10_lotter_30 : decode cX10_lotter 30 = .ok (.getfield 40, 3) := by decide +kernel
theorem dX10_lotter_33 : decode cX10_lotter 33 = .ok (.invokevirtual 179, 3) := by decide +kernel
theorem dX10_lotter_36 : decode cX10_lotter 36 = .ok (.istore_n 2, 1) := by decide +kernel
theorem dX10_lotter_37 : decode cX10_lotter 37 = .ok (.iload_n 2, 1) := by decide +kernel
theorem dX10_lotter_38 : decode cX10_lotter 38 = .ok (.bipush (-2), 2) := by decide +kernel
theorem dX10_lotter_40 : decode cX10_lotter 40 = .ok (.if_icmp .ne 8, 3) := by decide +kernel
theorem dX10_lotter_43 : decode cX10_lotter 43 = .ok (.bipush (-4), 2) := by decide +kernel
theorem dX10_lotter_45 : decode cX10_lotter 45 = .ok (.goto 4, 3) := by decide +kernel
theorem dX10_lotter_48 : decode cX10_lotter 48 = .ok (.iload_n 2, 1) := by decide +kernel
theorem dX10_lotter_49 : decode cX10_lotter 49 = .ok (.ireturn, 1) := by decide +kernel
theorem dX10_ring_0 : decode cX10_ring 0 = .ok (.aload_n 0, 1) := by decide +kernel
theorem dX10_ring_1 : decode cX10_ring 1 = .ok (.getfield 173, 3) := by decide +kernel
theorem dX10_ring_4 : decode cX10_ring 4 = .ok (.ireturn, 1) := by decide +kernel
theorem dX10_day_0 : decode cX10_day 0 = .ok (.iload_n 1, 1) := by decide +kernel
theorem dX10_day_1 : decode cX10_day 1 = .ok (.aload_n 0, 1) := by decide +kernel
theorem dX10_day_2 : decode cX10_day 2 = .ok (.getfield 192, 3) := by decide +kernel
theorem dX10_day_5 : decode cX10_day 5 = .ok (.if_icmp .lt 9, 3) := by decide +kernel
theorem dX10_day_8 : decode cX10_day 8 = .ok (.iload_n 1, 1) := by decide +kernel
theorem dX10_day_9 : decode cX10_day 9 = .ok (.bipush 30, 2) := by decide +kernel
theorem dX10_day_11 : decode cX10_day 11 = .ok (.if_icmp .le 5, 3) := by decide +kernel
theorem dX10_day_14 : decode cX10_day 14 = .ok (.iconst (-1), 1) := by decide +kernel
theorem dX10_day_15 : decode cX10_day 15 = .ok (.ireturn, 1) := by decide +kernel
theorem dX10_day_16 : decode cX10_day 16 = .ok (.aload_n 0, 1) := by decide +kernel
theorem dX10_day_17 : decode cX10_day 17 = .ok (.getfield 192, 3) := by decide +kernel
theorem dX10_day_20 : decode cX10_day 20 = .ok (.istore_n 2, 1) := by decide +kernel
theorem dX10_day_21 : decode cX10_day 21 = .ok (.aload_n 0, 1) := by decide +kernel
theorem dX10_day_22 : decode cX10_day 22 = .ok (.iload_n 1, 1) := by decide +kernel
theorem dX10_day_23 : decode cX10_day 23 = .ok (.putfield 192, 3) := by decide +kernel
theorem dX10_day_26 : decode cX10_day 26 = .ok (.iload_n 2, 1) := by decide +kernel
theorem dX10_day_27 : decode cX10_day 27 = .ok (.ireturn, 1) := by decide +kernel
theorem dX10_rain_0 : decode cX10_rain 0 = .ok (.iload_n 1, 1) := by decide +kernel
theorem dX10_rain_1 : decode cX10_rain 1 = .ok (.bipush 30, 2) := by decide +kernel
theorem dX10_rain_3 : decode cX10_rain 3 = .ok (.invokestatic 81, 3) := by decide +kernel
theorem dX10_rain_6 : decode cX10_rain 6 = .ok (.ifCond .ne 5, 3) := by decide +kernel
theorem dX10_rain_9 : decode cX10_rain 9 = .ok (.iconst (-1), 1) := by decide +kernel
theorem dX10_rain_10 : decode cX10_rain 10 = .ok (.ireturn, 1) := by decide +kernel
theorem dX10_rain_11 : decode cX10_rain 11 = .ok (.aload_n 0, 1) := by decide +kernel
theorem dX10_rain_12 : decode cX10_rain 12 = .ok (.getfield 33, 3) := by decide +kernel
theorem dX10_rain_15 : decode cX10_rain 15 = .ok (.iload_n 1, 1) := by decide +kernel
theorem dX10_rain_16 : decode cX10_rain 16 = .ok (.baload, 1) := by decide +kernel
theorem dX10_rain_17 : decode cX10_rain 17 = .ok (.istore_n 3, 1) := by decide +kernel
theorem dX10_rain_18 : decode cX10_rain 18 = .ok (.aload_n 0, 1) := by decide +kernel
theorem dX10_rain_19 : decode cX10_rain 19 = .ok (.getfield 33, 3) := by decide +kernel
theorem dX10_rain_22 : decode cX10_rain 22 = .ok (.iload_n 1, 1) := by decide +kernel
theorem dX10_rain_23 : decode cX10_rain 23 = .ok (.iload_n 2, 1) := by decide +kernel
theorem dX10_rain_24 : decode cX10_rain 24 = .ok (.bastore, 1) := by decide +kernel
theorem dX10_rain_25 : decode cX10_rain 25 = .ok (.iload_n 3, 1) := by decide +kernel
theorem dX10_rain_26 : decode cX10_rain 26 = .ok (.iload_n 2, 1) := by decide +kernel
theorem dX10_rain_27 : decode cX10_rain 27 = .ok (.if_icmp .eq 7, 3) := by decide +kernel
theorem dX10_rain_30 : decode cX10_rain 30 = .ok (.iconst 1, 1) := by decide +kernel
theorem dX10_rain_31 : decode cX10_rain 31 = .ok (.goto 4, 3) := by decide +kernel
theorem dX10_rain_34 : decode cX10_rain 34 = .ok (.iconst 0, 1) := by decide +kernel
theorem dX10_rain_35 : decode cX10_rain 35 = .ok (.invokestatic 119, 3) := by decide +kernel
theorem dX10_rain_38 : decode cX10_rain 38 = .ok (.ireturn, 1) := by decide +kernel
theorem dX10_way_0 : decode cX10_way 0 = .ok (.iload_n 1, 1) := by decide +kernel
theorem dX10_way_1 : decode cX10_way 1 = .ok (.invokestatic 77, 3) := by decide +kernel
theorem dX10_way_4 : decode cX10_way 4 = .ok (.ifCond .ne 5, 3) := by decide +kernel
theorem dX10_way_7 : decode cX10_way 7 = .ok (.iconst (-1), 1) := by decide +kernel
theorem dX10_way_8 : decode cX10_way 8 = .ok (.ireturn, 1) := by decide +kernel
theorem dX10_way_9 : decode cX10_way 9 = .ok (.aload_n 0, 1) := by decide +kernel
theorem dX10_way_10 : decode cX10_way 10 = .ok (.getfield 47, 3) := by decide +kernel
theorem dX10_way_13 : decode cX10_way 13 = .ok (.aload_n 0, 1) := by decide +kernel
theorem dX10_way_14 : decode cX10_way 14 = .ok (.getfield 17, 3) := by decide +kernel
theorem dX10_way_17 : decode cX10_way 17 = .ok (.iload_n 1, 1) := by decide +kernel
theorem dX10_way_18 : decode cX10_way 18 = .ok (.invokevirtual 195, 3) := by decide +kernel
theorem dX10_way_21 : decode cX10_way 21 = .ok (.ireturn, 1) := by decide +kernel
theorem dX10_cut_0 : decode cX10_cut 0 = .ok (.iload_n 1, 1) := by decide +kernel
theorem dX10_cut_1 : decode cX10_cut 1 = .ok (.invokestatic 77, 3) := by decide +kernel
theorem dX10_cut_4 : decode cX10_cut 4 = .ok (.ifCond .ne 5, 3) := by decide +kernel
theorem dX10_cut_7 : decode cX10_cut 7 = .ok (.iconst (-1), 1) := by decide +kernel
theorem dX10_cut_8 : decode cX10_cut 8 = .ok (.ireturn, 1) := by decide +kernel
theorem dX10_cut_9 : decode cX10_cut 9 = .ok (.aload_n 0, 1) := by decide +kernel
theorem dX10_cut_10 : decode cX10_cut 10 = .ok (.getfield 17, 3) := by decide +kernel
theorem dX10_cut_13 : decode cX10_cut 13 = .ok (.iload_n 1, 1) := by decide +kernel
theorem dX10_cut_14 : decode cX10_cut 14 = .ok (.aaload, 1) := by decide +kernel
theorem dX10_cut_15 : decode cX10_cut 15 = .ok (.astore_n 2, 1) := by decide +kernel
theorem dX10_cut_16 : decode cX10_cut 16 = .ok (.aload_n 2, 1) := by decide +kernel
theorem dX10_cut_17 : decode cX10_cut 17 = .ok (.invokevirtual 142, 3) := by decide +kernel
theorem dX10_cut_20 : decode cX10_cut 20 = .ok (.ifCond .eq 14, 3) := by decide +kernel
theorem dX10_cut_23 : decode cX10_cut 23 = .ok (.aload_n 0, 1) := by decide +kernel
theorem dX10_cut_24 : decode cX10_cut 24 = .ok (.aload_n 2, 1) := by decide +kernel
theorem dX10_cut_25 : decode cX10_cut 25 = .ok (.getfield 133, 3) := by decide +kernel
theorem dX10_cut_28 : decode cX10_cut 28 = .ok (.invokevirtual 112, 3) := by decide +kernel
theorem dX10_cut_31 : decode cX10_cut 31 = .ok (.ifCond .ne 6, 3) := by decide +kernel
theorem dX10_cut_34 : decode cX10_cut 34 = .ok (.bipush (-3), 2) := by decide +kernel
theorem dX10_cut_36 : decode cX10_cut 36 = .ok (.ireturn, 1) := by decide +kernel
theorem dX10_cut_37 : decode cX10_cut 37 = .ok (.aload_n 0, 1) := by decide +kernel
theorem dX10_cut_38 : decode cX10_cut 38 = .ok (.getfield 47, 3) := by decide +kernel
theorem dX10_cut_41 : decode cX10_cut 41 = .ok (.aload_n 0, 1) := by decide +kernel
theorem dX10_cut_42 : decode cX10_cut 42 = .ok (.getfield 17, 3) := by decide +kernel
theorem dX10_cut_45 : decode cX10_cut 45 = .ok (.iload_n 1, 1) := by decide +kernel
theorem dX10_cut_46 : decode cX10_cut 46 = .ok (.invokevirtual 195, 3) := by decide +kernel
theorem dX10_cut_49 : decode cX10_cut 49 = .ok (.istore_n 3, 1) := by decide +kernel
theorem dX10_cut_50 : decode cX10_cut 50 = .ok (.aload_n 0, 1) := by decide +kernel
theorem dX10_cut_51 : decode cX10_cut 51 = .ok (.getfield 23, 3) := by decide +kernel
theorem dX10_cut_54 : decode cX10_cut 54 = .ok (.aload_n 2, 1) := by decide +kernel
theorem dX10_cut_55 : decode cX10_cut 55 = .ok (.getfield 133, 3) := by decide +kernel
theorem dX10_cut_58 : decode cX10_cut 58 = .ok (.aaload, 1) := by decide +kernel
theorem dX10_cut_59 : decode cX10_cut 59 = .ok (.dup, 1) := by decide +kernel
theorem dX10_cut_60 : decode cX10_cut 60 = .ok (.getfield 155, 3) := by decide +kernel
theorem dX10_cut_63 : decode cX10_cut 63 = .ok (.iload_n 3, 1) := by decide +kernel
theorem dX10_cut_64 : decode cX10_cut 64 = .ok (.iadd, 1) := by decide +kernel
theorem dX10_cut_65 : decode cX10_cut 65 = .ok (.putfield 155, 3) := by decide +kernel
theorem dX10_cut_68 : decode cX10_cut 68 = .ok (.aload_n 2, 1) := by decide +kernel
theorem dX10_cut_69 : decode cX10_cut 69 = .ok (.aload_n 0, 1) := by decide +kernel
theorem dX10_cut_70 : decode cX10_cut 70 = .ok (.getfield 192, 3) := by decide +kernel
theorem dX10_cut_73 : decode cX10_cut 73 = .ok (.putfield 139, 3) := by decide +kernel
theorem dX10_cut_76 : decode cX10_cut 76 = .ok (.iload_n 3, 1) := by decide +kernel
theorem dX10_cut_77 : decode cX10_cut 77 = .ok (.ireturn, 1) := by decide +kernel
theorem dX10_best_0 : decode cX10_best 0 = .ok (.aload_n 0, 1) := by decide +kernel
theorem dX10_best_1 : decode cX10_best 1 = .ok (.invokevirtual 198, 3) := by decide +kernel
theorem dX10_best_4 : decode cX10_best 4 = .ok (.bipush 6, 2) := by decide +kernel
theorem dX10_best_6 : decode cX10_best 6 = .ok (.if_icmp .le 8, 3) := by decide +kernel
theorem dX10_best_9 : decode cX10_best 9 = .ok (.bipush (-5), 2) := by decide +kernel
theorem dX10_best_11 : decode cX10_best 11 = .ok (.goto 4, 3) := by decide +kernel
theorem dX10_best_14 : decode cX10_best 14 = .ok (.iconst 0, 1) := by decide +kernel
theorem dX10_best_15 : decode cX10_best 15 = .ok (.ireturn, 1) := by decide +kernel
theorem dX10_order_0 : decode cX10_order 0 = .ok (.iload_n 1, 1) := by decide +kernel
theorem dX10_order_1 : decode cX10_order 1 = .ok (.ifCond .ge 5, 3) := by decide +kernel
theorem dX10_order_4 : decode cX10_order 4 = .ok (.iconst (-1), 1) := by decide +kernel
theorem dX10_order_5 : decode cX10_order 5 = .ok (.ireturn, 1) := by decide +kernel
theorem dX10_order_6 : decode cX10_order 6 = .ok (.aload_n 0, 1) := by decide +kernel
theorem dX10_order_7 : decode cX10_order 7 = .ok (.invokevirtual 198, 3) := by decide +kernel
theorem dX10_order_10 : decode cX10_order 10 = .ok (.istore_n 2, 1) := by decide +kernel
theorem dX10_order_11 : decode cX10_order 11 = .ok (.iload_n 2, 1) := by decide +kernel
theorem dX10_order_12 : decode cX10_order 12 = .ok (.bipush 6, 2) := by decide +kernel
theorem dX10_order_14 : decode cX10_order 14 = .ok (.if_icmp .le 6, 3) := by decide +kernel
theorem dX10_order_17 : decode cX10_order 17 = .ok (.bipush (-5), 2) := by decide +kernel
theorem dX10_order_19 : decode cX10_order 19 = .ok (.ireturn, 1) := by decide +kernel
theorem dX10_order_20 : decode cX10_order 20 = .ok (.iload_n 1, 1) := by decide +kernel
theorem dX10_order_21 : decode cX10_order 21 = .ok (.iload_n 2, 1) := by decide +kernel
theorem dX10_order_22 : decode cX10_order 22 = .ok (.if_icmp .ge 11, 3) := by decide +kernel
theorem dX10_order_25 : decode cX10_order 25 = .ok (.aload_n 0, 1) := by decide +kernel
theorem dX10_order_26 : decode cX10_order 26 = .ok (.iload_n 1, 1) := by decide +kernel
theorem dX10_order_27 : decode cX10_order 27 = .ok (.invokevirtual 201, 3) := by decide +kernel
theorem dX10_order_30 : decode cX10_order 30 = .ok (.goto 5, 3) := by decide +kernel
theorem dX10_order_33 : decode cX10_order 33 = .ok (.bipush (-3), 2) := by decide +kernel
theorem dX10_order_35 : decode cX10_order 35 = .ok (.ireturn, 1) := by decide +kernel
theorem dX10_dry_0 : decode cX10_dry 0 = .ok (.iload_n 1, 1) := by decide +kernel
theorem dX10_dry_1 : decode cX10_dry 1 = .ok (.invokestatic 77, 3) := by decide +kernel
theorem dX10_dry_4 : decode cX10_dry 4 = .ok (.ifCond .ne 5, 3) := by decide +kernel
theorem dX10_dry_7 : decode cX10_dry 7 = .ok (.iconst (-1), 1) := by decide +kernel
theorem dX10_dry_8 : decode cX10_dry 8 = .ok (.ireturn, 1) := by decide +kernel
theorem dX10_dry_9 : decode cX10_dry 9 = .ok (.aload_n 0, 1) := by decide +kernel
theorem dX10_dry_10 : decode cX10_dry 10 = .ok (.getfield 17, 3) := by decide +kernel
theorem dX10_dry_13 : decode cX10_dry 13 = .ok (.iload_n 1, 1) := by decide +kernel
theorem dX10_dry_14 : decode cX10_dry 14 = .ok (.aaload, 1) := by decide +kernel
theorem dX10_dry_15 : decode cX10_dry 15 = .ok (.invokevirtual 204, 3) := by decide +kernel
theorem dX10_dry_18 : decode cX10_dry 18 = .ok (.ifCond .ne 6, 3) := by decide +kernel
theorem dX10_dry_21 : decode cX10_dry 21 = .ok (.bipush (-3), 2) := by decide +kernel
theorem dX10_dry_23 : decode cX10_dry 23 = .ok (.ireturn, 1) := by decide +kernel
theorem dX10_dry_24 : decode cX10_dry 24 = .ok (.aload_n 0, 1) := by decide +kernel
theorem dX10_dry_25 : decode cX10_dry 25 = .ok (.aload_n 0, 1) := by decide +kernel
theorem dX10_dry_26 : decode cX10_dry 26 = .ok (.getfield 17, 3) := by decide +kernel
theorem dX10_dry_29 : decode cX10_dry 29 = .ok (.iload_n 1, 1) := by decide +kernel
theorem dX10_dry_30 : decode cX10_dry 30 = .ok (.aaload, 1) := by decide +kernel
theorem dX10_dry_31 : decode cX10_dry 31 = .ok (.invokevirtual 207, 3) := by decide +kernel
theorem dX10_dry_34 : decode cX10_dry 34 = .ok (.ireturn, 1) := by decide +kernel
theorem dX10_barn_0 : decode cX10_barn 0 = .ok (.iload_n 1, 1) := by decide +kernel
theorem dX10_barn_1 : decode cX10_barn 1 = .ok (.invokestatic 77, 3) := by decide +kernel
theorem dX10_barn_4 : decode cX10_barn 4 = .ok (.ifCond .ne 5, 3) := by decide +kernel
theorem dX10_barn_7 : decode cX10_barn 7 = .ok (.iconst (-1), 1) := by decide +kernel
theorem dX10_barn_8 : decode cX10_barn 8 = .ok (.ireturn, 1) := by decide +kernel
theorem dX10_barn_9 : decode cX10_barn 9 = .ok (.aload_n 0, 1) := by decide +kernel
theorem dX10_barn_10 : decode cX10_barn 10 = .ok (.getfield 17, 3) := by decide +kernel
theorem dX10_barn_13 : decode cX10_barn 13 = .ok (.iload_n 1, 1) := by decide +kernel
theorem dX10_barn_14 : decode cX10_barn 14 = .ok (.aaload, 1) := by decide +kernel
theorem dX10_barn_15 : decode cX10_barn 15 = .ok (.invokevirtual 204, 3) := by decide +kernel
theorem dX10_barn_18 : decode cX10_barn 18 = .ok (.ifCond .ne 6, 3) := by decide +kernel
theorem dX10_barn_21 : decode cX10_barn 21 = .ok (.bipush (-3), 2) := by decide +kernel
theorem dX10_barn_23 : decode cX10_barn 23 = .ok (.ireturn, 1) := by decide +kernel
theorem dX10_barn_24 : decode cX10_barn 24 = .ok (.aload_n 0, 1) := by decide +kernel
theorem dX10_barn_25 : decode cX10_barn 25 = .ok (.aload_n 0, 1) := by decide +kernel
theorem dX10_barn_26 : decode cX10_barn 26 = .ok (.getfield 17, 3) := by decide +kernel
theorem dX10_barn_29 : decode cX10_barn 29 = .ok (.iload_n 1, 1) := by decide +kernel
theorem dX10_barn_30 : decode cX10_barn 30 = .ok (.aaload, 1) := by decide +kernel
theorem dX10_barn_31 : decode cX10_barn 31 = .ok (.invokevirtual 211, 3) := by decide +kernel
theorem dX10_barn_34 : decode cX10_barn 34 = .ok (.ireturn, 1) := by decide +kernel
theorem dX10_tithe_0 : decode cX10_tithe 0 = .ok (.aload_n 0, 1) := by decide +kernel
theorem dX10_tithe_1 : decode cX10_tithe 1 = .ok (.iload_n 1, 1) := by decide +kernel
theorem dX10_tithe_2 : decode cX10_tithe 2 = .ok (.invokevirtual 112, 3) := by decide +kernel
theorem dX10_tithe_5 : decode cX10_tithe 5 = .ok (.ifCond .ne 5, 3) := by decide +kernel
theorem dX10_tithe_8 : decode cX10_tithe 8 = .ok (.iconst (-1), 1) := by decide +kernel
theorem dX10_tithe_9 : decode cX10_tithe 9 = .ok (.ireturn, 1) := by decide +kernel
theorem dX10_tithe_10 : decode cX10_tithe 10 = .ok (.iconst 0, 1) := by decide +kernel
theorem dX10_tithe_11 : decode cX10_tithe 11 = .ok (.istore_n 2, 1) := by decide +kernel
theorem dX10_tithe_12 : decode cX10_tithe 12 = .ok (.iconst 0, 1) := by decide +kernel
theorem dX10_tithe_13 : decode cX10_tithe 13 = .ok (.istore_n 3, 1) := by decide +kernel
theorem dX10_tithe_14 : decode cX10_tithe 14 = .ok (.iload_n 3, 1) := by decide +kernel
theorem dX10_tithe_15 : decode cX10_tithe 15 = .ok (.bipush 24, 2) := by decide +kernel
theorem dX10_tithe_17 : decode cX10_tithe 17 = .ok (.if_icmp .ge 47, 3) := by decide +kernel
theorem dX10_tithe_20 : decode cX10_tithe 20 = .ok (.aload_n 0, 1) := by decide +kernel
theorem dX10_tithe_21 : decode cX10_tithe 21 = .ok (.getfield 17, 3) := by decide +kernel
theorem dX10_tithe_24 : decode cX10_tithe 24 = .ok (.iload_n 3, 1) := by decide +kernel
theorem dX10_tithe_25 : decode cX10_tithe 25 = .ok (.aaload, 1) := by decide +kernel
theorem dX10_tithe_26 : decode cX10_tithe 26 = .ok (.getfield 133, 3) := by decide +kernel
theorem dX10_tithe_29 : decode cX10_tithe 29 = .ok (.iload_n 1, 1) := by decide +kernel
theorem dX10_tithe_30 : decode cX10_tithe 30 = .ok (.if_icmp .ne 28, 3) := by decide +kernel
theorem dX10_tithe_33 : decode cX10_tithe 33 = .ok (.aload_n 0, 1) := by decide +kernel
theorem dX10_tithe_34 : decode cX10_tithe 34 = .ok (.getfield 17, 3) := by decide +kernel
theorem dX10_tithe_37 : decode cX10_tithe 37 = .ok (.iload_n 3, 1) := by decide +kernel
theorem dX10_tithe_38 : decode cX10_tithe 38 = .ok (.aaload, 1) := by decide +kernel
theorem dX10_tithe_39 : decode cX10_tithe 39 = .ok (.invokevirtual 204, 3) := by decide +kernel
theorem dX10_tithe_42 : decode cX10_tithe 42 = .ok (.ifCond .eq 16, 3) := by decide +kernel
theorem dX10_tithe_45 : decode cX10_tithe 45 = .ok (.iload_n 2, 1) := by decide +kernel
theorem dX10_tithe_46 : decode cX10_tithe 46 = .ok (.aload_n 0, 1) := by decide +kernel
theorem dX10_tithe_47 : decode cX10_tithe 47 = .ok (.aload_n 0, 1) := by decide +kernel
theorem dX10_tithe_48 : decode cX10_tithe 48 = .ok (.getfield 17, 3) := by decide +kernel
theorem dX10_tithe_51 : decode cX10_tithe 51 = .ok (.iload_n 3, 1) := by decide +kernel
theorem dX10_tithe_52 : decode cX10_tithe 52 = .ok (.aaload, 1) := by decide +kernel
theorem dX10_tithe_53 : decode cX10_tithe 53 = .ok (.invokevirtual 211, 3) := by decide +kernel
theorem dX10_tithe_56 : decode cX10_tithe 56 = .ok (.iadd, 1) := by decide +kernel
theorem dX10_tithe_57 : decode cX10_tithe 57 = .ok (.istore_n 2, 1) := by decide +kernel
theorem dX10_tithe_58 : decode cX10_tithe 58 = .ok (.iinc 3 1, 3) := by decide +kernel
theorem dX10_tithe_61 : decode cX10_tithe 61 = .ok (.goto (-47), 3) := by decide +kernel
theorem dX10_tithe_64 : decode cX10_tithe 64 = .ok (.iload_n 2, 1) := by decide +kernel
theorem dX10_tithe_65 : decode cX10_tithe 65 = .ok (.bipush 10, 2) := by decide +kernel
theorem dX10_tithe_67 : decode cX10_tithe 67 = .ok (.idiv, 1) := by decide +kernel
theorem dX10_tithe_68 : decode cX10_tithe 68 = .ok (.ireturn, 1) := by decide +kernel
theorem dX10_pays_0 : decode cX10_pays 0 = .ok (.aload_n 0, 1) := by decide +kernel
theorem dX10_pays_1 : decode cX10_pays 1 = .ok (.iload_n 1, 1) := by decide +kernel
theorem dX10_pays_2 : decode cX10_pays 2 = .ok (.invokevirtual 112, 3) := by decide +kernel
theorem dX10_pays_5 : decode cX10_pays 5 = .ok (.ifCond .ne 5, 3) := by decide +kernel
theorem dX10_pays_8 : decode cX10_pays 8 = .ok (.iconst (-1), 1) := by decide +kernel
theorem dX10_pays_9 : decode cX10_pays 9 = .ok (.ireturn, 1) := by decide +kernel
theorem dX10_pays_10 : decode cX10_pays 10 = .ok (.aload_n 0, 1) := by decide +kernel
theorem dX10_pays_11 : decode cX10_pays 11 = .ok (.getfield 54, 3) := by decide +kernel
theorem dX10_pays_14 : decode cX10_pays 14 = .ok (.aload_n 0, 1) := by decide +kernel
theorem dX10_pays_15 : decode cX10_pays 15 = .ok (.getfield 23, 3) := by decide +kernel
theorem dX10_pays_18 : decode cX10_pays 18 = .ok (.aload_n 0, 1) := by decide +kernel
theorem dX10_pays_19 : decode cX10_pays 19 = .ok (.getfield 100, 3) := by decide +kernel
theorem dX10_pays_22 : decode cX10_pays 22 = .ok (.invokevirtual 214, 3) := by decide +kernel
theorem dX10_pays_25 : decode cX10_pays 25 = .ok (.aload_n 0, 1) := by decide +kernel
theorem dX10_pays_26 : decode cX10_pays 26 = .ok (.getfield 23, 3) := by decide +kernel
theorem dX10_pays_29 : decode cX10_pays 29 = .ok (.iload_n 1, 1) := by decide +kernel
theorem dX10_pays_30 : decode cX10_pays 30 = .ok (.aaload, 1) := by decide +kernel
theorem dX10_pays_31 : decode cX10_pays 31 = .ok (.invokevirtual 218, 3) := by decide +kernel
theorem dX10_pays_34 : decode cX10_pays 34 = .ok (.istore_n 3, 1) := by decide +kernel
theorem dX10_pays_35 : decode cX10_pays 35 = .ok (.aload_n 0, 1) := by decide +kernel
theorem dX10_pays_36 : decode cX10_pays 36 = .ok (.getfield 54, 3) := by decide +kernel
theorem dX10_pays_39 : decode cX10_pays 39 = .ok (.getfield 221, 3) := by decide +kernel
theorem dX10_pays_42 : decode cX10_pays 42 = .ok (.iload_n 1, 1) := by decide +kernel
theorem dX10_pays_43 : decode cX10_pays 43 = .ok (.iaload, 1) := by decide +kernel
theorem dX10_pays_44 : decode cX10_pays 44 = .ok (.istore 4, 2) := by decide +kernel
theorem dX10_pays_46 : decode cX10_pays 46 = .ok (.aload_n 0, 1) := by decide +kernel
theorem dX10_pays_47 : decode cX10_pays 47 = .ok (.getfield 54, 3) := by decide +kernel
theorem dX10_pays_50 : decode cX10_pays 50 = .ok (.getfield 225, 3) := by decide +kernel
theorem dX10_pays_53 : decode cX10_pays 53 = .ok (.iload_n 1, 1) := by decide +kernel
theorem dX10_pays_54 : decode cX10_pays 54 = .ok (.iaload, 1) := by decide +kernel
theorem dX10_pays_55 : decode cX10_pays 55 = .ok (.istore 5, 2) := by decide +kernel
theorem dX10_pays_57 : decode cX10_pays 57 = .ok (.iload_n 2, 1) := by decide +kernel
theorem dX10_pays_58 : decode cX10_pays 58 = .ok (.tableswitch 46 0 3 #[30, 32, 35, 38], 30) := by decide +kernel
theorem dX10_pays_88 : decode cX10_pays 88 = .ok (.iload_n 3, 1) := by decide +kernel
theorem dX10_pays_89 : decode cX10_pays 89 = .ok (.ireturn, 1) := by decide +kernel
theorem dX10_pays_90 : decode cX10_pays 90 = .ok (.iload 4, 2) := by decide +kernel
theorem dX10_pays_92 : decode cX10_pays 92 = .ok (.ireturn, 1) := by decide +kernel
theorem dX10_pays_93 : decode cX10_pays 93 = .ok (.iload 5, 2) := by decide +kernel
theorem dX10_pays_95 : decode cX10_pays 95 = .ok (.ireturn, 1) := by decide +kernel
theorem dX10_pays_96 : decode cX10_pays 96 = .ok (.iload_n 3, 1) := by decide +kernel
theorem dX10_pays_97 : decode cX10_pays 97 = .ok (.iload 4, 2) := by decide +kernel
theorem dX10_pays_99 : decode cX10_pays 99 = .ok (.isub, 1) := by decide +kernel
theorem dX10_pays_100 : decode cX10_pays 100 = .ok (.iload 5, 2) := by decide +kernel
theorem dX10_pays_102 : decode cX10_pays 102 = .ok (.isub, 1) := by decide +kernel
theorem dX10_pays_103 : decode cX10_pays 103 = .ok (.ireturn, 1) := by decide +kernel
theorem dX10_pays_104 : decode cX10_pays 104 = .ok (.iconst (-1), 1) := by decide +kernel
theorem dX10_pays_105 : decode cX10_pays 105 = .ok (.ireturn, 1) := by decide +kernel
theorem dX10_count_0 : decode cX10_count 0 = .ok (.iload_n 1, 1) := by decide +kernel
theorem dX10_count_1 : decode cX10_count 1 = .ok (.tableswitch 78 0 6 #[43, 48, 53, 58, 63, 68, 73], 43) := by decide +kernel
theorem dX10_count_44 : decode cX10_count 44 = .ok (.aload_n 0, 1) := by decide +kernel
theorem dX10_count_45 : decode cX10_count 45 = .ok (.getfield 100, 3) := by decide +kernel
theorem dX10_count_48 : decode cX10_count 48 = .ok (.ireturn, 1) := by decide +kernel
theorem dX10_count_49 : decode cX10_count 49 = .ok (.aload_n 0, 1) := by decide +kernel
theorem dX10_count_50 : decode cX10_count 50 = .ok (.invokevirtual 228, 3) := by decide +kernel
theorem dX10_count_53 : decode cX10_count 53 = .ok (.ireturn, 1) := by decide +kernel
theorem dX10_count_54 : decode cX10_count 54 = .ok (.aload_n 0, 1) := by decide +kernel
theorem dX10_count_55 : decode cX10_count 55 = .ok (.invokevirtual 198, 3) := by decide +kernel
theorem dX10_count_58 : decode cX10_count 58 = .ok (.ireturn, 1) := by decide +kernel
theorem dX10_count_59 : decode cX10_count 59 = .ok (.aload_n 0, 1) := by decide +kernel
theorem dX10_count_60 : decode cX10_count 60 = .ok (.getfield 192, 3) := by decide +kernel
theorem dX10_count_63 : decode cX10_count 63 = .ok (.ireturn, 1) := by decide +kernel
theorem dX10_count_64 : decode cX10_count 64 = .ok (.aload_n 0, 1) := by decide +kernel
theorem dX10_count_65 : decode cX10_count 65 = .ok (.getfield 58, 3) := by decide +kernel
theorem dX10_count_68 : decode cX10_count 68 = .ok (.ireturn, 1) := by decide +kernel
theorem dX10_count_69 : decode cX10_count 69 = .ok (.aload_n 0, 1) := by decide +kernel
theorem dX10_count_70 : decode cX10_count 70 = .ok (.invokevirtual 231, 3) := by decide +kernel
theorem dX10_count_73 : decode cX10_count 73 = .ok (.ireturn, 1) := by decide +kernel
theorem dX10_count_74 : decode cX10_count 74 = .ok (.aload_n 0, 1) := by decide +kernel
theorem dX10_count_75 : decode cX10_count 75 = .ok (.invokevirtual 234, 3) := by decide +kernel
theorem dX10_count_78 : decode cX10_count 78 = .ok (.ireturn, 1) := by decide +kernel
theorem dX10_count_79 : decode cX10_count 79 = .ok (.iconst (-1), 1) := by decide +kernel
theorem dX10_count_80 : decode cX10_count 80 = .ok (.ireturn, 1) := by decide +kernel
theorem dX10_keep_0 : decode cX10_keep 0 = .ok (.iload_n 1, 1) := by decide +kernel
theorem dX10_keep_1 : decode cX10_keep 1 = .ok (.invokestatic 237, 3) := by decide +kernel
theorem dX10_keep_4 : decode cX10_keep 4 = .ok (.ifCond .ne 5, 3) := by decide +kernel
theorem dX10_keep_7 : decode cX10_keep 7 = .ok (.iconst (-1), 1) := by decide +kernel
theorem dX10_keep_8 : decode cX10_keep 8 = .ok (.ireturn, 1) := by decide +kernel
theorem dX10_keep_9 : decode cX10_keep 9 = .ok (.iload_n 2, 1) := by decide +kernel
theorem dX10_keep_10 : decode cX10_keep 10 = .ok (.tableswitch 81 0 4 #[34, 46, 81, 58, 70], 34) := by decide +kernel
theorem dX10_keep_44 : decode cX10_keep 44 = .ok (.aload_n 0, 1) := by decide +kernel
theorem dX10_keep_45 : decode cX10_keep 45 = .ok (.getfield 29, 3) := by decide +kernel
theorem dX10_keep_48 : decode cX10_keep 48 = .ok (.iload_n 1, 1) := by decide +kernel
theorem dX10_keep_49 : decode cX10_keep 49 = .ok (.aaload, 1) := by decide +kernel
theorem dX10_keep_50 : decode cX10_keep 50 = .ok (.iconst 0, 1) := by decide +kernel
theorem dX10_keep_51 : decode cX10_keep 51 = .ok (.putfield 240, 3) := by decide +kernel
theorem dX10_keep_54 : decode cX10_keep 54 = .ok (.iconst 0, 1) := by decide +kernel
theorem dX10_keep_55 : decode cX10_keep 55 = .ok (.ireturn, 1) := by decide +kernel
theorem dX10_keep_56 : decode cX10_keep 56 = .ok (.aload_n 0, 1) := by decide +kernel
theorem dX10_keep_57 : decode cX10_keep 57 = .ok (.aload_n 0, 1) := by decide +kernel
theorem dX10_keep_58 : decode cX10_keep 58 = .ok (.getfield 29, 3) := by decide +kernel
theorem dX10_keep_61 : decode cX10_keep 61 = .ok (.iload_n 1, 1) := by decide +kernel
theorem dX10_keep_62 : decode cX10_keep 62 = .ok (.aaload, 1) := by decide +kernel
theorem dX10_keep_63 : decode cX10_keep 63 = .ok (.iload_n 3, 1) := by decide +kernel
theorem dX10_keep_64 : decode cX10_keep 64 = .ok (.invokevirtual 243, 3) := by decide +kernel
theorem dX10_keep_67 : decode cX10_keep 67 = .ok (.ireturn, 1) := by decide +kernel
theorem dX10_keep_68 : decode cX10_keep 68 = .ok (.aload_n 0, 1) := by decide +kernel
theorem dX10_keep_69 : decode cX10_keep 69 = .ok (.aload_n 0, 1) := by decide +kernel
theorem dX10_keep_70 : decode cX10_keep 70 = .ok (.getfield 29, 3) := by decide +kernel
theorem dX10_keep_73 : decode cX10_keep 73 = .ok (.iload_n 1, 1) := by decide +kernel
theorem dX10_keep_74 : decode cX10_keep 74 = .ok (.aaload, 1) := by decide +kernel
theorem dX10_keep_75 : decode cX10_keep 75 = .ok (.iload_n 3, 1) := by decide +kernel
theorem dX10_keep_76 : decode cX10_keep 76 = .ok (.invokevirtual 247, 3) := by decide +kernel
theorem dX10_keep_79 : decode cX10_keep 79 = .ok (.ireturn, 1) := by decide +kernel
theorem dX10_keep_80 : decode cX10_keep 80 = .ok (.aload_n 0, 1) := by decide +kernel
theorem dX10_keep_81 : decode cX10_keep 81 = .ok (.aload_n 0, 1) := by decide +kernel
theorem dX10_keep_82 : decode cX10_keep 82 = .ok (.getfield 29, 3) := by decide +kernel
theorem dX10_keep_85 : decode cX10_keep 85 = .ok (.iload_n 1, 1) := by decide +kernel
theorem dX10_keep_86 : decode cX10_keep 86 = .ok (.aaload, 1) := by decide +kernel
theorem dX10_keep_87 : decode cX10_keep 87 = .ok (.invokevirtual 250, 3) := by decide +kernel
theorem dX10_keep_90 : decode cX10_keep 90 = .ok (.ireturn, 1) := by decide +kernel
theorem dX10_keep_91 : decode cX10_keep 91 = .ok (.iconst (-1), 1) := by decide +kernel
theorem dX10_keep_92 : decode cX10_keep 92 = .ok (.ireturn, 1) := by decide +kernel
theorem dX10_make_0 : decode cX10_make 0 = .ok (.iload_n 1, 1) := by decide +kernel
theorem dX10_make_1 : decode cX10_make 1 = .ok (.invokestatic 237, 3) := by decide +kernel
theorem dX10_make_4 : decode cX10_make 4 = .ok (.ifCond .eq 19, 3) := by decide +kernel
theorem dX10_make_7 : decode cX10_make 7 = .ok (.iload_n 2, 1) := by decide +kernel
theorem dX10_make_8 : decode cX10_make 8 = .ok (.iconst 3, 1) := by decide +kernel
theorem dX10_make_9 : decode cX10_make 9 = .ok (.if_icmp .eq 8, 3) := by decide +kernel
theorem dX10_make_12 : decode cX10_make 12 = .ok (.iload_n 2, 1) := by decide +kernel
theorem dX10_make_13 : decode cX10_make 13 = .ok (.iconst 4, 1) := by decide +kernel
theorem dX10_make_14 : decode cX10_make 14 = .ok (.if_icmp .ne 9, 3) := by decide +kernel
theorem dX10_make_17 : decode cX10_make 17 = .ok (.iload_n 3, 1) := by decide +kernel
theorem dX10_make_18 : decode cX10_make 18 = .ok (.bipush 60, 2) := by decide +kernel
theorem dX10_make_20 : decode cX10_make 20 = .ok (.if_icmp .le 5, 3) := by decide +kernel
theorem dX10_make_23 : decode cX10_make 23 = .ok (.iconst (-1), 1) := by decide +kernel
theorem dX10_make_24 : decode cX10_make 24 = .ok (.ireturn, 1) := by decide +kernel
theorem dX10_make_25 : decode cX10_make 25 = .ok (.iload_n 3, 1) := by decide +kernel
theorem dX10_make_26 : decode cX10_make 26 = .ok (.ifCond .ge 6, 3) := by decide +kernel
theorem dX10_make_29 : decode cX10_make 29 = .ok (.bipush (-14), 2) := by decide +kernel
theorem dX10_make_31 : decode cX10_make 31 = .ok (.ireturn, 1) := by decide +kernel
theorem dX10_make_32 : decode cX10_make 32 = .ok (.aload_n 0, 1) := by decide +kernel
theorem dX10_make_33 : decode cX10_make 33 = .ok (.getfield 29, 3) := by decide +kernel
theorem dX10_make_36 : decode cX10_make 36 = .ok (.iload_n 1, 1) := by decide +kernel
theorem dX10_make_37 : decode cX10_make 37 = .ok (.aaload, 1) := by decide +kernel
theorem dX10_make_38 : decode cX10_make 38 = .ok (.iload_n 2, 1) := by decide +kernel
theorem dX10_make_39 : decode cX10_make 39 = .ok (.iload_n 3, 1) := by decide +kernel
theorem dX10_make_40 : decode cX10_make 40 = .ok (.invokevirtual 254, 3) := by decide +kernel
theorem dX10_make_43 : decode cX10_make 43 = .ok (.iconst 0, 1) := by decide +kernel
theorem dX10_make_44 : decode cX10_make 44 = .ok (.ireturn, 1) := by decide +kernel
theorem dX10_element_0 : decode cX10_element 0 = .ok (.iload_n 1, 1) := by decide +kernel
theorem dX10_element_1 : decode cX10_element 1 = .ok (.invokestatic 237, 3) := by decide +kernel
theorem dX10_element_4 : decode cX10_element 4 = .ok (.ifCond .ne 14, 3) := by decide +kernel
theorem dX10_element_7 : decode cX10_element 7 = .ok (.new 257, 3) := by decide +kernel
theorem dX10_element_10 : decode cX10_element 10 = .ok (.dup, 1) := by decide +kernel
theorem dX10_element_11 : decode cX10_element 11 = .ok (.ldc_w 259, 3) := by decide +kernel
theorem dX10_element_14 : decode cX10_element 14 = .ok (.invokespecial 261, 3) := by decide +kernel
theorem dX10_element_17 : decode cX10_element 17 = .ok (.athrow, 1) := by decide +kernel
theorem dX10_element_18 : decode cX10_element 18 = .ok (.aload_n 0, 1) := by decide +kernel
theorem dX10_element_19 : decode cX10_element 19 = .ok (.getfield 29, 3) := by decide +kernel
theorem dX10_element_22 : decode cX10_element 22 = .ok (.iload_n 1, 1) := by decide +kernel
theorem dX10_element_23 : decode cX10_element 23 = .ok (.aaload, 1) := by decide +kernel
theorem dX10_element_24 : decode cX10_element 24 = .ok (.astore_n 3, 1) := by decide +kernel
theorem dX10_element_25 : decode cX10_element 25 = .ok (.aload_n 3, 1) := by decide +kernel
theorem dX10_element_26 : decode cX10_element 26 = .ok (.invokevirtual 264, 3) := by decide +kernel
theorem dX10_element_29 : decode cX10_element 29 = .ok (.ifCond .ne 14, 3) := by decide +kernel
theorem dX10_element_32 : decode cX10_element 32 = .ok (.new 267, 3) := by decide +kernel
theorem dX10_element_35 : decode cX10_element 35 = .ok (.dup, 1) := by decide +kernel
theorem dX10_element_36 : decode cX10_element 36 = .ok (.ldc_w 269, 3) := by decide +kernel
theorem dX10_element_39 : decode cX10_element 39 = .ok (.invokespecial 271, 3) := by decide +kernel
theorem dX10_element_42 : decode cX10_element 42 = .ok (.athrow, 1) := by decide +kernel
theorem dX10_element_43 : decode cX10_element 43 = .ok (.iload_n 2, 1) := by decide +kernel
theorem dX10_element_44 : decode cX10_element 44 = .ok (.ifCond .lt 11, 3) := by decide +kernel
theorem dX10_element_47 : decode cX10_element 47 = .ok (.iload_n 2, 1) := by decide +kernel
theorem dX10_element_48 : decode cX10_element 48 = .ok (.aload_n 3, 1) := by decide +kernel
theorem dX10_element_49 : decode cX10_element 49 = .ok (.getfield 272, 3) := by decide +kernel
theorem dX10_element_52 : decode cX10_element 52 = .ok (.if_icmp .lt 14, 3) := by decide +kernel
theorem dX10_element_55 : decode cX10_element 55 = .ok (.new 267, 3) := by decide +kernel
theorem dX10_element_58 : decode cX10_element 58 = .ok (.dup, 1) := by decide +kernel
theorem dX10_element_59 : decode cX10_element 59 = .ok (.ldc_w 275, 3) := by decide +kernel
theorem dX10_element_62 : decode cX10_element 62 = .ok (.invokespecial 271, 3) := by decide +kernel
theorem dX10_element_65 : decode cX10_element 65 = .ok (.athrow, 1) := by decide +kernel
theorem dX10_element_66 : decode cX10_element 66 = .ok (.aload_n 3, 1) := by decide +kernel
theorem dX10_element_67 : decode cX10_element 67 = .ok (.getfield 240, 3) := by decide +kernel
theorem dX10_element_70 : decode cX10_element 70 = .ok (.iconst 3, 1) := by decide +kernel
theorem dX10_element_71 : decode cX10_element 71 = .ok (.if_icmp .ne 13, 3) := by decide +kernel
theorem dX10_element_74 : decode cX10_element 74 = .ok (.aload_n 3, 1) := by decide +kernel
theorem dX10_element_75 : decode cX10_element 75 = .ok (.getfield 277, 3) := by decide +kernel
theorem dX10_element_78 : decode cX10_element 78 = .ok (.iload_n 2, 1) := by decide +kernel
theorem dX10_element_79 : decode cX10_element 79 = .ok (.iaload, 1) := by decide +kernel
theorem dX10_element_80 : decode cX10_element 80 = .ok (.i2l, 1) := by decide +kernel
theorem dX10_element_81 : decode cX10_element 81 = .ok (.goto 10, 3) := by decide +kernel
theorem dX10_element_84 : decode cX10_element 84 = .ok (.aload_n 3, 1) := by decide +kernel
theorem dX10_element_85 : decode cX10_element 85 = .ok (.getfield 280, 3) := by decide +kernel
theorem dX10_element_88 : decode cX10_element 88 = .ok (.iload_n 2, 1) := by decide +kernel
theorem dX10_element_89 : decode cX10_element 89 = .ok (.baload, 1) := by decide +kernel
theorem dX10_element_90 : decode cX10_element 90 = .ok (.i2l, 1) := by decide +kernel
theorem dX10_element_91 : decode cX10_element 91 = .ok (.lreturn, 1) := by decide +kernel
theorem dX10_copy_0 : decode cX10_copy 0 = .ok (.iload_n 1, 1) := by decide +kernel
theorem dX10_copy_1 : decode cX10_copy 1 = .ok (.invokestatic 237, 3) := by decide +kernel
theorem dX10_copy_4 : decode cX10_copy 4 = .ok (.ifCond .eq 10, 3) := by decide +kernel
theorem dX10_copy_7 : decode cX10_copy 7 = .ok (.iload_n 3, 1) := by decide +kernel
theorem dX10_copy_8 : decode cX10_copy 8 = .ok (.invokestatic 237, 3) := by decide +kernel
theorem dX10_copy_11 : decode cX10_copy 11 = .ok (.ifCond .ne 5, 3) := by decide +kernel
theorem dX10_copy_14 : decode cX10_copy 14 = .ok (.iconst (-1), 1) := by decide +kernel
theorem dX10_copy_15 : decode cX10_copy 15 = .ok (.ireturn, 1) := by decide +kernel
theorem dX10_copy_16 : decode cX10_copy 16 = .ok (.aload_n 0, 1) := by decide +kernel
theorem dX10_copy_17 : decode cX10_copy 17 = .ok (.getfield 29, 3) := by decide +kernel
theorem dX10_copy_20 : decode cX10_copy 20 = .ok (.iload_n 1, 1) := by decide +kernel
theorem dX10_copy_21 : decode cX10_copy 21 = .ok (.aaload, 1) := by decide +kernel
theorem dX10_copy_22 : decode cX10_copy 22 = .ok (.astore 6, 2) := by decide +kernel
theorem dX10_copy_24 : decode cX10_copy 24 = .ok (.aload_n 0, 1) := by decide +kernel
theorem dX10_copy_25 : decode cX10_copy 25 = .ok (.getfield 29, 3) := by decide +kernel
theorem dX10_copy_28 : decode cX10_copy 28 = .ok (.iload_n 3, 1) := by decide +kernel
theorem dX10_copy_29 : decode cX10_copy 29 = .ok (.aaload, 1) := by decide +kernel
theorem dX10_copy_30 : decode cX10_copy 30 = .ok (.astore 7, 2) := by decide +kernel
theorem dX10_copy_32 : decode cX10_copy 32 = .ok (.aload 6, 2) := by decide +kernel
theorem dX10_copy_34 : decode cX10_copy 34 = .ok (.getfield 240, 3) := by decide +kernel
theorem dX10_copy_37 : decode cX10_copy 37 = .ok (.ifCond .eq 11, 3) := by decide +kernel
theorem dX10_copy_40 : decode cX10_copy 40 = .ok (.aload 7, 2) := by decide +kernel
theorem dX10_copy_42 : decode cX10_copy 42 = .ok (.getfield 240, 3) := by decide +kernel
theorem dX10_copy_45 : decode cX10_copy 45 = .ok (.ifCond .ne 6, 3) := by decide +kernel
theorem dX10_copy_48 : decode cX10_copy 48 = .ok (.bipush (-11), 2) := by decide +kernel
theorem dX10_copy_50 : decode cX10_copy 50 = .ok (.ireturn, 1) := by decide +kernel
theorem dX10_copy_51 : decode cX10_copy 51 = .ok (.aload 6, 2) := by decide +kernel
theorem dX10_copy_53 : decode cX10_copy 53 = .ok (.invokevirtual 264, 3) := by decide +kernel
theorem dX10_copy_56 : decode cX10_copy 56 = .ok (.ifCond .eq 16, 3) := by decide +kernel
theorem dX10_copy_59 : decode cX10_copy 59 = .ok (.aload 6, 2) := by decide +kernel
theorem dX10_copy_61 : decode cX10_copy 61 = .ok (.getfield 240, 3) := by decide +kernel
theorem dX10_copy_64 : decode cX10_copy 64 = .ok (.aload 7, 2) := by decide +kernel
theorem dX10_copy_66 : decode cX10_copy 66 = .ok (.getfield 240, 3) := by decide +kernel
theorem dX10_copy_69 : decode cX10_copy 69 = .ok (.if_icmp .eq 6, 3) := by decide +kernel
theorem dX10_copy_72 : decode cX10_copy 72 = .ok (.bipush (-12), 2) := by decide +kernel
theorem dX10_copy_74 : decode cX10_copy 74 = .ok (.ireturn, 1) := by decide +kernel
theorem dX10_copy_75 : decode cX10_copy 75 = .ok (.aload 6, 2) := by decide +kernel
theorem dX10_copy_77 : decode cX10_copy 77 = .ok (.iload_n 2, 1) := by decide +kernel
theorem dX10_copy_78 : decode cX10_copy 78 = .ok (.iload 5, 2) := by decide +kernel
theorem dX10_copy_80 : decode cX10_copy 80 = .ok (.invokevirtual 284, 3) := by decide +kernel
theorem dX10_copy_83 : decode cX10_copy 83 = .ok (.ifCond .eq 15, 3) := by decide +kernel
theorem dX10_copy_86 : decode cX10_copy 86 = .ok (.aload 7, 2) := by decide +kernel
theorem dX10_copy_88 : decode cX10_copy 88 = .ok (.iload 4, 2) := by decide +kernel
theorem dX10_copy_90 : decode cX10_copy 90 = .ok (.iload 5, 2) := by decide +kernel
theorem dX10_copy_92 : decode cX10_copy 92 = .ok (.invokevirtual 284, 3) := by decide +kernel
theorem dX10_copy_95 : decode cX10_copy 95 = .ok (.ifCond .ne 6, 3) := by decide +kernel
theorem dX10_copy_98 : decode cX10_copy 98 = .ok (.bipush (-13), 2) := by decide +kernel
theorem dX10_copy_100 : decode cX10_copy 100 = .ok (.ireturn, 1) := by decide +kernel
theorem dX10_copy_101 : decode cX10_copy 101 = .ok (.aload 6, 2) := by decide +kernel
theorem dX10_copy_103 : decode cX10_copy 103 = .ok (.getfield 240, 3) := by decide +kernel
theorem dX10_copy_106 : decode cX10_copy 106 = .ok (.iconst 3, 1) := by decide +kernel
theorem dX10_copy_107 : decode cX10_copy 107 = .ok (.if_icmp .ne 24, 3) := by decide +kernel
theorem dX10_copy_110 : decode cX10_copy 110 = .ok (.aload 6, 2) := by decide +kernel
theorem dX10_copy_112 : decode cX10_copy 112 = .ok (.getfield 277, 3) := by decide +kernel
theorem dX10_copy_115 : decode cX10_copy 115 = .ok (.iload_n 2, 1) := by decide +kernel
theorem dX10_copy_116 : decode cX10_copy 116 = .ok (.aload 7, 2) := by decide +kernel
theorem dX10_copy_118 : decode cX10_copy 118 = .ok (.getfield 277, 3) := by decide +kernel
theorem dX10_copy_121 : decode cX10_copy 121 = .ok (.iload 4, 2) := by decide +kernel
theorem dX10_copy_123 : decode cX10_copy 123 = .ok (.iload 5, 2) := by decide +kernel
theorem dX10_copy_125 : decode cX10_copy 125 = .ok (.invokestatic 287, 3) := by decide +kernel
theorem dX10_copy_128 : decode cX10_copy 128 = .ok (.goto 21, 3) := by decide +kernel
theorem dX10_copy_131 : decode cX10_copy 131 = .ok (.aload 6, 2) := by decide +kernel
theorem dX10_copy_133 : decode cX10_copy 133 = .ok (.getfield 280, 3) := by decide +kernel
theorem dX10_copy_136 : decode cX10_copy 136 = .ok (.iload_n 2, 1) := by decide +kernel
theorem dX10_copy_137 : decode cX10_copy 137 = .ok (.aload 7, 2) := by decide +kernel
theorem dX10_copy_139 : decode cX10_copy 139 = .ok (.getfield 280, 3) := by decide +kernel
theorem dX10_copy_142 : decode cX10_copy 142 = .ok (.iload 4, 2) := by decide +kernel
theorem dX10_copy_144 : decode cX10_copy 144 = .ok (.iload 5, 2) := by decide +kernel
theorem dX10_copy_146 : decode cX10_copy 146 = .ok (.invokestatic 287, 3) := by decide +kernel
theorem dX10_copy_149 : decode cX10_copy 149 = .ok (.iload 5, 2) := by decide +kernel
theorem dX10_copy_151 : decode cX10_copy 151 = .ok (.ireturn, 1) := by decide +kernel
theorem dX10_weight_0 : decode cX10_weight 0 = .ok (.aload_n 0, 1) := by decide +kernel
theorem dX10_weight_1 : decode cX10_weight 1 = .ok (.iload_n 1, 1) := by decide +kernel
theorem dX10_weight_2 : decode cX10_weight 2 = .ok (.invokevirtual 293, 3) := by decide +kernel
theorem dX10_weight_5 : decode cX10_weight 5 = .ok (.istore_n 2, 1) := by decide +kernel
theorem dX10_weight_6 : decode cX10_weight 6 = .ok (.iload_n 2, 1) := by decide +kernel
theorem dX10_weight_7 : decode cX10_weight 7 = .ok (.ifCond .eq 5, 3) := by decide +kernel
theorem dX10_weight_10 : decode cX10_weight 10 = .ok (.iload_n 2, 1) := by decide +kernel
theorem dX10_weight_11 : decode cX10_weight 11 = .ok (.ireturn, 1) := by decide +kernel
theorem dX10_weight_12 : decode cX10_weight 12 = .ok (.aload_n 0, 1) := by decide +kernel
theorem dX10_weight_13 : decode cX10_weight 13 = .ok (.getfield 29, 3) := by decide +kernel
theorem dX10_weight_16 : decode cX10_weight 16 = .ok (.iload_n 1, 1) := by decide +kernel
theorem dX10_weight_17 : decode cX10_weight 17 = .ok (.aaload, 1) := by decide +kernel
theorem dX10_weight_18 : decode cX10_weight 18 = .ok (.getfield 296, 3) := by decide +kernel
theorem dX10_weight_21 : decode cX10_weight 21 = .ok (.aload_n 0, 1) := by decide +kernel
theorem dX10_weight_22 : decode cX10_weight 22 = .ok (.getfield 29, 3) := by decide +kernel
theorem dX10_weight_25 : decode cX10_weight 25 = .ok (.iload_n 1, 1) := by decide +kernel
theorem dX10_weight_26 : decode cX10_weight 26 = .ok (.aaload, 1) := by decide +kernel
theorem dX10_weight_27 : decode cX10_weight 27 = .ok (.getfield 297, 3) := by decide +kernel
theorem dX10_weight_30 : decode cX10_weight 30 = .ok (.invokevirtual 298, 3) := by decide +kernel
theorem dX10_weight_33 : decode cX10_weight 33 = .ok (.ireturn, 1) := by decide +kernel
theorem dX10_toss_0 : decode cX10_toss 0 = .ok (.aload_n 0, 1) := by decide +kernel
theorem dX10_toss_1 : decode cX10_toss 1 = .ok (.iload_n 1, 1) := by decide +kernel
theorem dX10_toss_2 : decode cX10_toss 2 = .ok (.invokevirtual 293, 3) := by decide +kernel
theorem dX10_toss_5 : decode cX10_toss 5 = .ok (.istore_n 2, 1) := by decide +kernel
theorem dX10_toss_6 : decode cX10_toss 6 = .ok (.iload_n 2, 1) := by decide +kernel
theorem dX10_toss_7 : decode cX10_toss 7 = .ok (.ifCond .eq 5, 3) := by decide +kernel
theorem dX10_toss_10 : decode cX10_toss 10 = .ok (.iload_n 2, 1) := by decide +kernel
theorem dX10_toss_11 : decode cX10_toss 11 = .ok (.ireturn, 1) := by decide +kernel
theorem dX10_toss_12 : decode cX10_toss 12 = .ok (.aload_n 0, 1) := by decide +kernel
theorem dX10_toss_13 : decode cX10_toss 13 = .ok (.getfield 29, 3) := by decide +kernel
theorem dX10_toss_16 : decode cX10_toss 16 = .ok (.iload_n 1, 1) := by decide +kernel
theorem dX10_toss_17 : decode cX10_toss 17 = .ok (.aaload, 1) := by decide +kernel
theorem dX10_toss_18 : decode cX10_toss 18 = .ok (.getfield 296, 3) := by decide +kernel
theorem dX10_toss_21 : decode cX10_toss 21 = .ok (.invokestatic 301, 3) := by decide +kernel
theorem dX10_toss_24 : decode cX10_toss 24 = .ok (.ifCond .eq 15, 3) := by decide +kernel
theorem dX10_toss_27 : decode cX10_toss 27 = .ok (.aload_n 0, 1) := by decide +kernel
theorem dX10_toss_28 : decode cX10_toss 28 = .ok (.getfield 29, 3) := by decide +kernel
theorem dX10_toss_31 : decode cX10_toss 31 = .ok (.iload_n 1, 1) := by decide +kernel
theorem dX10_toss_32 : decode cX10_toss 32 = .ok (.aaload, 1) := by decide +kernel
theorem dX10_toss_33 : decode cX10_toss 33 = .ok (.getfield 305, 3) := by decide +kernel
theorem dX10_toss_36 : decode cX10_toss 36 = .ok (.goto 5, 3) := by decide +kernel
theorem dX10_toss_39 : decode cX10_toss 39 = .ok (.bipush (-15), 2) := by decide +kernel
theorem dX10_toss_41 : decode cX10_toss 41 = .ok (.ireturn, 1) := by decide +kernel
theorem dX10_within_0 : decode cX10_within 0 = .ok (.iload_n 0, 1) := by decide +kernel
theorem dX10_within_1 : decode cX10_within 1 = .ok (.ifCond .lt 12, 3) := by decide +kernel
theorem dX10_within_4 : decode cX10_within 4 = .ok (.iload_n 0, 1) := by decide +kernel
theorem dX10_within_5 : decode cX10_within 5 = .ok (.iload_n 1, 1) := by decide +kernel
theorem dX10_within_6 : decode cX10_within 6 = .ok (.if_icmp .gt 7, 3) := by decide +kernel
theorem dX10_within_9 : decode cX10_within 9 = .ok (.iconst 1, 1) := by decide +kernel
theorem dX10_within_10 : decode cX10_within 10 = .ok (.goto 4, 3) := by decide +kernel
theorem dX10_within_13 : decode cX10_within 13 = .ok (.iconst 0, 1) := by decide +kernel
theorem dX10_within_14 : decode cX10_within 14 = .ok (.ireturn, 1) := by decide +kernel
theorem dX10_oneIf_0 : decode cX10_oneIf 0 = .ok (.iload_n 0, 1) := by decide +kernel
theorem dX10_oneIf_1 : decode cX10_oneIf 1 = .ok (.ifCond .eq 7, 3) := by decide +kernel
theorem dX10_oneIf_4 : decode cX10_oneIf 4 = .ok (.iconst 1, 1) := by decide +kernel
theorem dX10_oneIf_5 : decode cX10_oneIf 5 = .ok (.goto 4, 3) := by decide +kernel
theorem dX10_oneIf_8 : decode cX10_oneIf 8 = .ok (.iconst 0, 1) := by decide +kernel
theorem dX10_oneIf_9 : decode cX10_oneIf 9 = .ok (.ireturn, 1) := by decide +kernel
theorem dX10_isPlot_0 : decode cX10_isPlot 0 = .ok (.iload_n 0, 1) := by decide +kernel
theorem dX10_isPlot_1 : decode cX10_isPlot 1 = .ok (.ifCond .lt 13, 3) := by decide +kernel
theorem dX10_isPlot_4 : decode cX10_isPlot 4 = .ok (.iload_n 0, 1) := by decide +kernel
theorem dX10_isPlot_5 : decode cX10_isPlot 5 = .ok (.bipush 24, 2) := by decide +kernel
theorem dX10_isPlot_7 : decode cX10_isPlot 7 = .ok (.if_icmp .ge 7, 3) := by decide +kernel
theorem dX10_isPlot_10 : decode cX10_isPlot 10 = .ok (.iconst 1, 1) := by decide +kernel
theorem dX10_isPlot_11 : decode cX10_isPlot 11 = .ok (.goto 4, 3) := by decide +kernel
theorem dX10_isPlot_14 : decode cX10_isPlot 14 = .ok (.iconst 0, 1) := by decide +kernel
theorem dX10_isPlot_15 : decode cX10_isPlot 15 = .ok (.ireturn, 1) := by decide +kernel
theorem dX10_isShelf_0 : decode cX10_isShelf 0 = .ok (.iload_n 0, 1) := by decide +kernel
theorem dX10_isShelf_1 : decode cX10_isShelf 1 = .ok (.ifCond .lt 13, 3) := by decide +kernel
theorem dX10_isShelf_4 : decode cX10_isShelf 4 = .ok (.iload_n 0, 1) := by decide +kernel
theorem dX10_isShelf_5 : decode cX10_isShelf 5 = .ok (.bipush 8, 2) := by decide +kernel
theorem dX10_isShelf_7 : decode cX10_isShelf 7 = .ok (.if_icmp .ge 7, 3) := by decide +kernel
theorem dX10_isShelf_10 : decode cX10_isShelf 10 = .ok (.iconst 1, 1) := by decide +kernel
theorem dX10_isShelf_11 : decode cX10_isShelf 11 = .ok (.goto 4, 3) := by decide +kernel
theorem dX10_isShelf_14 : decode cX10_isShelf 14 = .ok (.iconst 0, 1) := by decide +kernel
theorem dX10_isShelf_15 : decode cX10_isShelf 15 = .ok (.ireturn, 1) := by decide +kernel
theorem dX10_isBuyer_0 : decode cX10_isBuyer 0 = .ok (.iload_n 1, 1) := by decide +kernel
theorem dX10_isBuyer_1 : decode cX10_isBuyer 1 = .ok (.ifCond .lt 15, 3) := by decide +kernel
theorem dX10_isBuyer_4 : decode cX10_isBuyer 4 = .ok (.iload_n 1, 1) := by decide +kernel
theorem dX10_isBuyer_5 : decode cX10_isBuyer 5 = .ok (.aload_n 0, 1) := by decide +kernel
theorem dX10_isBuyer_6 : decode cX10_isBuyer 6 = .ok (.getfield 100, 3) := by decide +kernel
theorem dX10_isBuyer_9 : decode cX10_isBuyer 9 = .ok (.if_icmp .ge 7, 3) := by decide +kernel
theorem dX10_isBuyer_12 : decode cX10_isBuyer 12 = .ok (.iconst 1, 1) := by decide +kernel
theorem dX10_isBuyer_13 : decode cX10_isBuyer 13 = .ok (.goto 4, 3) := by decide +kernel
theorem dX10_isBuyer_16 : decode cX10_isBuyer 16 = .ok (.iconst 0, 1) := by decide +kernel
theorem dX10_isBuyer_17 : decode cX10_isBuyer 17 = .ok (.ireturn, 1) := by decide +kernel
theorem dX10_hayOf_0 : decode cX10_hayOf 0 = .ok (.iconst 0, 1) := by decide +kernel
theorem dX10_hayOf_1 : decode cX10_hayOf 1 = .ok (.istore_n 2, 1) := by decide +kernel
theorem dX10_hayOf_2 : decode cX10_hayOf 2 = .ok (.iconst 0, 1) := by decide +kernel
theorem dX10_hayOf_3 : decode cX10_hayOf 3 = .ok (.istore_n 3, 1) := by decide +kernel
theorem dX10_hayOf_4 : decode cX10_hayOf 4 = .ok (.iload_n 3, 1) := by decide +kernel
theorem dX10_hayOf_5 : decode cX10_hayOf 5 = .ok (.bipush 24, 2) := by decide +kernel
theorem dX10_hayOf_7 : decode cX10_hayOf 7 = .ok (.if_icmp .ge 34, 3) := by decide +kernel
theorem dX10_hayOf_10 : decode cX10_hayOf 10 = .ok (.aload_n 0, 1) := by decide +kernel
theorem dX10_hayOf_11 : decode cX10_hayOf 11 = .ok (.getfield 17, 3) := by decide +kernel
theorem dX10_hayOf_14 : decode cX10_hayOf 14 = .ok (.iload_n 3, 1) := by decide +kernel
theorem dX10_hayOf_15 : decode cX10_hayOf 15 = .ok (.aaload, 1) := by decide +kernel
theorem dX10_hayOf_16 : decode cX10_hayOf 16 = .ok (.getfield 133, 3) := by decide +kernel
theorem dX10_hayOf_19 : decode cX10_hayOf 19 = .ok (.iload_n 1, 1) := by decide +kernel
theorem dX10_hayOf_20 : decode cX10_hayOf 20 = .ok (.if_icmp .ne 15, 3) := by decide +kernel
theorem dX10_hayOf_23 : decode cX10_hayOf 23 = .ok (.iload_n 2, 1) := by decide +kernel
theorem dX10_hayOf_24 : decode cX10_hayOf 24 = .ok (.aload_n 0, 1) := by decide +kernel
theorem dX10_hayOf_25 : decode cX10_hayOf 25 = .ok (.getfield 17, 3) := by decide +kernel
theorem dX10_hayOf_28 : decode cX10_hayOf 28 = .ok (.iload_n 3, 1) := by decide +kernel
theorem dX10_hayOf_29 : decode cX10_hayOf 29 = .ok (.aaload, 1) := by decide +kernel
theorem dX10_hayOf_30 : decode cX10_hayOf 30 = .ok (.invokevirtual 130, 3) := by decide +kernel
theorem dX10_hayOf_33 : decode cX10_hayOf 33 = .ok (.iadd, 1) := by decide +kernel
theorem dX10_hayOf_34 : decode cX10_hayOf 34 = .ok (.istore_n 2, 1) := by decide +kernel
theorem dX10_hayOf_35 : decode cX10_hayOf 35 = .ok (.iinc 3 1, 3) := by decide +kernel
theorem dX10_hayOf_38 : decode cX10_hayOf 38 = .ok (.goto (-34), 3) := by decide +kernel
theorem dX10_hayOf_41 : decode cX10_hayOf 41 = .ok (.iload_n 2, 1) := by decide +kernel
theorem dX10_hayOf_42 : decode cX10_hayOf 42 = .ok (.ireturn, 1) := by decide +kernel
theorem dX10_ownsBeside_0 : decode cX10_ownsBeside 0 = .ok (.iconst 0, 1) := by decide +kernel
theorem dX10_ownsBeside_1 : decode cX10_ownsBeside 1 = .ok (.istore_n 3, 1) := by decide +kernel
theorem dX10_ownsBeside_2 : decode cX10_ownsBeside 2 = .ok (.iload_n 3, 1) := by decide +kernel
theorem dX10_ownsBeside_3 : decode cX10_ownsBeside 3 = .ok (.iconst 4, 1) := by decide +kernel
theorem dX10_ownsBeside_4 : decode cX10_ownsBeside 4 = .ok (.if_icmp .ge 37, 3) := by decide +kernel
theorem dX10_ownsBeside_7 : decode cX10_ownsBeside 7 = .ok (.iload_n 2, 1) := by decide +kernel
theorem dX10_ownsBeside_8 : decode cX10_ownsBeside 8 = .ok (.iload_n 3, 1) := by decide +kernel
theorem dX10_ownsBeside_9 : decode cX10_ownsBeside 9 = .ok (.invokestatic 308, 3) := by decide +kernel
theorem dX10_ownsBeside_12 : decode cX10_ownsBeside 12 = .ok (.istore 4, 2) := by decide +kernel
theorem dX10_ownsBeside_14 : decode cX10_ownsBeside 14 = .ok (.iload 4, 2) := by decide +kernel
theorem dX10_ownsBeside_16 : decode cX10_ownsBeside 16 = .ok (.ifCond .lt 19, 3) := by decide +kernel
theorem dX10_ownsBeside_19 : decode cX10_ownsBeside 19 = .ok (.aload_n 0, 1) := by decide +kernel
theorem dX10_ownsBeside_20 : decode cX10_ownsBeside 20 = .ok (.getfield 17, 3) := by decide +kernel
theorem dX10_ownsBeside_23 : decode cX10_ownsBeside 23 = .ok (.iload 4, 2) := by decide +kernel
theorem dX10_ownsBeside_25 : decode cX10_ownsBeside 25 = .ok (.aaload, 1) := by decide +kernel
theorem dX10_ownsBeside_26 : decode cX10_ownsBeside 26 = .ok (.getfield 133, 3) := by decide +kernel
theorem dX10_ownsBeside_29 : decode cX10_ownsBeside 29 = .ok (.iload_n 1, 1) := by decide +kernel
theorem dX10_ownsBeside_30 : decode cX10_ownsBeside 30 = .ok (.if_icmp .ne 5, 3) := by decide +kernel
theorem dX10_ownsBeside_33 : decode cX10_ownsBeside 33 = .ok (.iconst 1, 1) := by decide +kernel
theorem dX10_ownsBeside_34 : decode cX10_ownsBeside 34 = .ok (.ireturn, 1) := by decide +kernel
theorem dX10_ownsBeside_35 : decode cX10_ownsBeside 35 = .ok (.iinc 3 1, 3) := by decide +kernel
theorem dX10_ownsBeside_38 : decode cX10_ownsBeside 38 = .ok (.goto (-36), 3) := by decide +kernel
theorem dX10_ownsBeside_41 : decode cX10_ownsBeside 41 = .ok (.iconst 0, 1) := by decide +kernel
theorem dX10_ownsBeside_42 : decode cX10_ownsBeside 42 = .ok (.ireturn, 1) := by decide +kernel
theorem dX10_worthTo_0 : decode cX10_worthTo 0 = .ok (.aload_n 0, 1) := by decide +kernel
theorem dX10_worthTo_1 : decode cX10_worthTo 1 = .ok (.getfield 23, 3) := by decide +kernel
theorem dX10_worthTo_4 : decode cX10_worthTo 4 = .ok (.iload_n 1, 1) := by decide +kernel
theorem dX10_worthTo_5 : decode cX10_worthTo 5 = .ok (.aaload, 1) := by decide +kernel
theorem dX10_worthTo_6 : decode cX10_worthTo 6 = .ok (.astore_n 3, 1) := by decide +kernel
theorem dX10_worthTo_7 : decode cX10_worthTo 7 = .ok (.bipush 10, 2) := by decide +kernel
theorem dX10_worthTo_9 : decode cX10_worthTo 9 = .ok (.aload_n 0, 1) := by decide +kernel
theorem dX10_worthTo_10 : decode cX10_worthTo 10 = .ok (.getfield 17, 3) := by decide +kernel
theorem dX10_worthTo_13 : decode cX10_worthTo 13 = .ok (.iload_n 2, 1) := by decide +kernel
theorem dX10_worthTo_14 : decode cX10_worthTo 14 = .ok (.aaload, 1) := by decide +kernel
theorem dX10_worthTo_15 : decode cX10_worthTo 15 = .ok (.invokevirtual 130, 3) := by decide +kernel
theorem dX10_worthTo_18 : decode cX10_worthTo 18 = .ok (.imul, 1) := by decide +kernel
theorem dX10_worthTo_19 : decode cX10_worthTo 19 = .ok (.iconst 5, 1) := by decide +kernel
theorem dX10_worthTo_20 : decode cX10_worthTo 20 = .ok (.iload_n 2, 1) := by decide +kernel
theorem dX10_worthTo_21 : decode cX10_worthTo 21 = .ok (.aload_n 3, 1) := by decide +kernel
theorem dX10_worthTo_22 : decode cX10_worthTo 22 = .ok (.getfield 109, 3) := by decide +kernel
theorem dX10_worthTo_25 : decode cX10_worthTo 25 = .ok (.invokestatic 311, 3) := by decide +kernel
theorem dX10_worthTo_28 : decode cX10_worthTo 28 = .ok (.imul, 1) := by decide +kernel
theorem dX10_worthTo_29 : decode cX10_worthTo 29 = .ok (.isub, 1) := by decide +kernel
theorem dX10_worthTo_30 : decode cX10_worthTo 30 = .ok (.istore 4, 2) := by decide +kernel
theorem dX10_worthTo_32 : decode cX10_worthTo 32 = .ok (.aload_n 0, 1) := by decide +kernel
theorem dX10_worthTo_33 : decode cX10_worthTo 33 = .ok (.iload_n 1, 1) := by decide +kernel
theorem dX10_worthTo_34 : decode cX10_worthTo 34 = .ok (.iload_n 2, 1) := by decide +kernel
theorem dX10_worthTo_35 : decode cX10_worthTo 35 = .ok (.invokevirtual 314, 3) := by decide +kernel
theorem dX10_worthTo_38 : decode cX10_worthTo 38 = .ok (.ifCond .eq 6, 3) := by decide +kernel
theorem dX10_worthTo_41 : decode cX10_worthTo 41 = .ok (.iinc 4 20, 3) := by decide +kernel
theorem dX10_worthTo_44 : decode cX10_worthTo 44 = .ok (.aload_n 0, 1) := by decide +kernel
theorem dX10_worthTo_45 : decode cX10_worthTo 45 = .ok (.iload_n 1, 1) := by decide +kernel
theorem dX10_worthTo_46 : decode cX10_worthTo 46 = .ok (.invokevirtual 148, 3) := by decide +kernel
theorem dX10_worthTo_49 : decode cX10_worthTo 49 = .ok (.aload_n 3, 1) := by decide +kernel
theorem dX10_worthTo_50 : decode cX10_worthTo 50 = .ok (.invokevirtual 145, 3) := by decide +kernel
theorem dX10_worthTo_53 : decode cX10_worthTo 53 = .ok (.if_icmp .ge 9, 3) := by decide +kernel
theorem dX10_worthTo_56 : decode cX10_worthTo 56 = .ok (.iload 4, 2) := by decide +kernel
theorem dX10_worthTo_58 : decode cX10_worthTo 58 = .ok (.iconst 2, 1) := by decide +kernel
theorem dX10_worthTo_59 : decode cX10_worthTo 59 = .ok (.imul, 1) := by decide +kernel
theorem dX10_worthTo_60 : decode cX10_worthTo 60 = .ok (.istore 4, 2) := by decide +kernel
theorem dX10_worthTo_62 : decode cX10_worthTo 62 = .ok (.iload 4, 2) := by decide +kernel
theorem dX10_worthTo_64 : decode cX10_worthTo 64 = .ok (.iconst 0, 1) := by decide +kernel
theorem dX10_worthTo_65 : decode cX10_worthTo 65 = .ok (.invokestatic 317, 3) := by decide +kernel
theorem dX10_worthTo_68 : decode cX10_worthTo 68 = .ok (.ireturn, 1) := by decide +kernel
theorem dX10_prepareSale_0 : decode cX10_prepareSale 0 = .ok (.aload_n 0, 1) := by decide +kernel
theorem dX10_prepareSale_1 : decode cX10_prepareSale 1 = .ok (.getfield 40, 3) := by decide +kernel
theorem dX10_prepareSale_4 : decode cX10_prepareSale 4 = .ok (.aload_n 0, 1) := by decide +kernel
theorem dX10_prepareSale_5 : decode cX10_prepareSale 5 = .ok (.getfield 100, 3) := by decide +kernel
theorem dX10_prepareSale_8 : decode cX10_prepareSale 8 = .ok (.putfield 322, 3) := by decide +kernel
theorem dX10_prepareSale_11 : decode cX10_prepareSale 11 = .ok (.aload_n 0, 1) := by decide +kernel
theorem dX10_prepareSale_12 : decode cX10_prepareSale 12 = .ok (.getfield 40, 3) := by decide +kernel
theorem dX10_prepareSale_15 : decode cX10_prepareSale 15 = .ok (.aload_n 0, 1) := by decide +kernel
theorem dX10_prepareSale_16 : decode cX10_prepareSale 16 = .ok (.getfield 58, 3) := by decide +kernel
theorem dX10_prepareSale_19 : decode cX10_prepareSale 19 = .ok (.putfield 325, 3) := by decide +kernel
theorem dX10_prepareSale_22 : decode cX10_prepareSale 22 = .ok (.iconst 0, 1) := by decide +kernel
theorem dX10_prepareSale_23 : decode cX10_prepareSale 23 = .ok (.istore_n 2, 1) := by decide +kernel
theorem dX10_prepareSale_24 : decode cX10_prepareSale 24 = .ok (.iload_n 2, 1) := by decide +kernel
theorem dX10_prepareSale_25 : decode cX10_prepareSale 25 = .ok (.aload_n 0, 1) := by decide +kernel
theorem dX10_prepareSale_26 : decode cX10_prepareSale 26 = .ok (.getfield 100, 3) := by decide +kernel
theorem dX10_prepareSale_29 : decode cX10_prepareSale 29 = .ok (.if_icmp .ge 64, 3) := by decide +kernel
theorem dX10_prepareSale_32 : decode cX10_prepareSale 32 = .ok (.aload_n 0, 1) := by decide +kernel
theorem dX10_prepareSale_33 : decode cX10_prepareSale 33 = .ok (.getfield 40, 3) := by decide +kernel
theorem dX10_prepareSale_36 : decode cX10_prepareSale 36 = .ok (.getfield 328, 3) := by decide +kernel
theorem dX10_prepareSale_39 : decode cX10_prepareSale 39 = .ok (.iload_n 2, 1) := by decide +kernel
theorem dX10_prepareSale_40 : decode cX10_prepareSale 40 = .ok (.aload_n 0, 1) := by decide +kernel
theorem dX10_prepareSale_41 : decode cX10_prepareSale 41 = .ok (.iload_n 2, 1) := by decide +kernel
theorem dX10_prepareSale_42 : decode cX10_prepareSale 42 = .ok (.iload_n 1, 1) := by decide +kernel
theorem dX10_prepareSale_43 : decode cX10_prepareSale 43 = .ok (.invokevirtual 158, 3) := by decide +kernel
theorem dX10_prepareSale_46 : decode cX10_prepareSale 46 = .ok (.aload_n 0, 1) := by decide +kernel
theorem dX10_prepareSale_47 : decode cX10_prepareSale 47 = .ok (.getfield 23, 3) := by decide +kernel
theorem dX10_prepareSale_50 : decode cX10_prepareSale 50 = .ok (.iload_n 2, 1) := by decide +kernel
theorem dX10_prepareSale_51 : decode cX10_prepareSale 51 = .ok (.aaload, 1) := by decide +kernel
theorem dX10_prepareSale_52 : decode cX10_prepareSale 52 = .ok (.getfield 106, 3) := by decide +kernel
theorem dX10_prepareSale_55 : decode cX10_prepareSale 55 = .ok (.aload_n 0, 1) := by decide +kernel
theorem dX10_prepareSale_56 : decode cX10_prepareSale 56 = .ok (.getfield 23, 3) := by decide +kernel
theorem dX10_prepareSale_59 : decode cX10_prepareSale 59 = .ok (.iload_n 2, 1) := by decide +kernel
theorem dX10_prepareSale_60 : decode cX10_prepareSale 60 = .ok (.aaload, 1) := by decide +kernel
theorem dX10_prepareSale_61 : decode cX10_prepareSale 61 = .ok (.getfield 152, 3) := by decide +kernel
theorem dX10_prepareSale_64 : decode cX10_prepareSale 64 = .ok (.isub, 1) := by decide +kernel
theorem dX10_prepareSale_65 : decode cX10_prepareSale 65 = .ok (.invokestatic 331, 3) := by decide +kernel
theorem dX10_prepareSale_68 : decode cX10_prepareSale 68 = .ok (.iastore, 1) := by decide +kernel
theorem dX10_prepareSale_69 : decode cX10_prepareSale 69 = .ok (.aload_n 0, 1) := by decide +kernel
theorem dX10_prepareSale_70 : decode cX10_prepareSale 70 = .ok (.getfield 40, 3) := by decide +kernel
theorem dX10_prepareSale_73 : decode cX10_prepareSale 73 = .ok (.getfield 334, 3) := by decide +kernel
theorem dX10_prepareSale_76 : decode cX10_prepareSale 76 = .ok (.iload_n 2, 1) := by decide +kernel
theorem dX10_prepareSale_77 : decode cX10_prepareSale 77 = .ok (.aload_n 0, 1) := by decide +kernel
theorem dX10_prepareSale_78 : decode cX10_prepareSale 78 = .ok (.getfield 23, 3) := by decide +kernel
theorem dX10_prepareSale_81 : decode cX10_prepareSale 81 = .ok (.iload_n 2, 1) := by decide +kernel
theorem dX10_prepareSale_82 : decode cX10_prepareSale 82 = .ok (.aaload, 1) := by decide +kernel
theorem dX10_prepareSale_83 : decode cX10_prepareSale 83 = .ok (.getfield 115, 3) := by decide +kernel
theorem dX10_prepareSale_86 : decode cX10_prepareSale 86 = .ok (.bastore, 1) := by decide +kernel
theorem dX10_prepareSale_87 : decode cX10_prepareSale 87 = .ok (.iinc 2 1, 3) := by decide +kernel
theorem dX10_prepareSale_90 : decode cX10_prepareSale 90 = .ok (.goto (-66), 3) := by decide +kernel
theorem dX10_prepareSale_93 : decode cX10_prepareSale 93 = .ok (.return_, 1) := by decide +kernel
theorem dX10_hand_0 : decode cX10_hand 0 = .ok (.aload_n 1, 1) := by decide +kernel
theorem dX10_hand_1 : decode cX10_hand 1 = .ok (.iload_n 2, 1) := by decide +kernel
theorem dX10_hand_2 : decode cX10_hand 2 = .ok (.putfield 133, 3) := by decide +kernel
theorem dX10_hand_5 : decode cX10_hand 5 = .ok (.aload_n 1, 1) := by decide +kernel
theorem dX10_hand_6 : decode cX10_hand 6 = .ok (.iload_n 3, 1) := by decide +kernel
theorem dX10_hand_7 : decode cX10_hand 7 = .ok (.putfield 136, 3) := by decide +kernel
theorem dX10_hand_10 : decode cX10_hand 10 = .ok (.aload_n 0, 1) := by decide +kernel
theorem dX10_hand_11 : decode cX10_hand 11 = .ok (.getfield 23, 3) := by decide +kernel
theorem dX10_hand_14 : decode cX10_hand 14 = .ok (.iload_n 2, 1) := by decide +kernel
theorem dX10_hand_15 : decode cX10_hand 15 = .ok (.aaload, 1) := by decide +kernel
theorem dX10_hand_16 : decode cX10_hand 16 = .ok (.dup, 1) := by decide +kernel
theorem dX10_hand_17 : decode cX10_hand 17 = .ok (.getfield 152, 3) := by decide +kernel
theorem dX10_hand_20 : decode cX10_hand 20 = .ok (.iload_n 3, 1) := by decide +kernel
theorem dX10_hand_21 : decode cX10_hand 21 = .ok (.iadd, 1) := by decide +kernel
theorem dX10_hand_22 : decode cX10_hand 22 = .ok (.putfield 152, 3) := by decide +kernel
theorem dX10_hand_25 : decode cX10_hand 25 = .ok (.return_, 1) := by decide +kernel
theorem dX10_sold_0 : decode cX10_sold 0 = .ok (.iconst 0, 1) := by decide +kernel
theorem dX10_sold_1 : decode cX10_sold 1 = .ok (.istore_n 1, 1) := by decide +kernel
theorem dX10_sold_2 : decode cX10_sold 2 = .ok (.iconst 0, 1) := by decide +kernel
theorem dX10_sold_3 : decode cX10_sold 3 = .ok (.istore_n 2, 1) := by decide +kernel
theorem dX10_sold_4 : decode cX10_sold 4 = .ok (.iload_n 2, 1) := by decide +kernel
theorem dX10_sold_5 : decode cX10_sold 5 = .ok (.bipush 24, 2) := by decide +kernel
theorem dX10_sold_7 : decode cX10_sold 7 = .ok (.if_icmp .ge 24, 3) := by decide +kernel
theorem dX10_sold_10 : decode cX10_sold 10 = .ok (.iload_n 1, 1) := by decide +kernel
theorem dX10_sold_11 : decode cX10_sold 11 = .ok (.aload_n 0, 1) := by decide +kernel
theorem dX10_sold_12 : decode cX10_sold 12 = .ok (.getfield 17, 3) := by decide +kernel
theorem dX10_sold_15 : decode cX10_sold 15 = .ok (.iload_n 2, 1) := by decide +kernel
theorem dX10_sold_16 : decode cX10_sold 16 = .ok (.aaload, 1) := by decide +kernel
theorem dX10_sold_17 : decode cX10_sold 17 = .ok (.invokevirtual 85, 3) := by decide +kernel
theorem dX10_sold_20 : decode cX10_sold 20 = .ok (.invokestatic 119, 3) := by decide +kernel
theorem dX10_sold_23 : decode cX10_sold 23 = .ok (.iadd, 1) := by decide +kernel
theorem dX10_sold_24 : decode cX10_sold 24 = .ok (.istore_n 1, 1) := by decide +kernel
theorem dX10_sold_25 : decode cX10_sold 25 = .ok (.iinc 2 1, 3) := by decide +kernel
theorem dX10_sold_28 : decode cX10_sold 28 = .ok (.goto (-24), 3) := by decide +kernel
theorem dX10_sold_31 : decode cX10_sold 31 = .ok (.iload_n 1, 1) := by decide +kernel
theorem dX10_sold_32 : decode cX10_sold 32 = .ok (.ireturn, 1) := by decide +kernel
theorem dX10_standing_0 : decode cX10_standing 0 = .ok (.iconst 0, 1) := by decide +kernel
theorem dX10_standing_1 : decode cX10_standing 1 = .ok (.istore_n 1, 1) := by decide +kernel
theorem dX10_standing_2 : decode cX10_standing 2 = .ok (.iconst 0, 1) := by decide +kernel
theorem dX10_standing_3 : decode cX10_standing 3 = .ok (.istore_n 2, 1) := by decide +kernel
theorem dX10_standing_4 : decode cX10_standing 4 = .ok (.iload_n 2, 1) := by decide +kernel
theorem dX10_standing_5 : decode cX10_standing 5 = .ok (.bipush 24, 2) := by decide +kernel
theorem dX10_standing_7 : decode cX10_standing 7 = .ok (.if_icmp .ge 24, 3) := by decide +kernel
theorem dX10_standing_10 : decode cX10_standing 10 = .ok (.iload_n 1, 1) := by decide +kernel
theorem dX10_standing_11 : decode cX10_standing 11 = .ok (.aload_n 0, 1) := by decide +kernel
theorem dX10_standing_12 : decode cX10_standing 12 = .ok (.getfield 17, 3) := by decide +kernel
theorem dX10_standing_15 : decode cX10_standing 15 = .ok (.iload_n 2, 1) := by decide +kernel
theorem dX10_standing_16 : decode cX10_standing 16 = .ok (.aaload, 1) := by decide +kernel
theorem dX10_standing_17 : decode cX10_standing 17 = .ok (.invokevirtual 142, 3) := by decide +kernel
theorem dX10_standing_20 : decode cX10_standing 20 = .ok (.invokestatic 119, 3) := by decide +kernel
theorem dX10_standing_23 : decode cX10_standing 23 = .ok (.iadd, 1) := by decide +kernel
theorem dX10_standing_24 : decode cX10_standing 24 = .ok (.istore_n 1, 1) := by decide +kernel
theorem dX10_standing_25 : decode cX10_standing 25 = .ok (.iinc 2 1, 3) := by decide +kernel
theorem dX10_standing_28 : decode cX10_standing 28 = .ok (.goto (-24), 3) := by decide +kernel
theorem dX10_standing_31 : decode cX10_standing 31 = .ok (.iload_n 1, 1) := by decide +kernel
theorem dX10_standing_32 : decode cX10_standing 32 = .ok (.ireturn, 1) := by decide +kernel
theorem dX10_standingAt_0 : decode cX10_standingAt 0 = .ok (.iconst 0, 1) := by decide +kernel
theorem dX10_standingAt_1 : decode cX10_standingAt 1 = .ok (.istore_n 2, 1) := by decide +kernel
theorem dX10_standingAt_2 : decode cX10_standingAt 2 = .ok (.iconst 0, 1) := by decide +kernel
theorem dX10_standingAt_3 : decode cX10_standingAt 3 = .ok (.istore_n 3, 1) := by decide +kernel
theorem dX10_standingAt_4 : decode cX10_standingAt 4 = .ok (.iload_n 3, 1) := by decide +kernel
theorem dX10_standingAt_5 : decode cX10_standingAt 5 = .ok (.bipush 24, 2) := by decide +kernel
theorem dX10_standingAt_7 : decode cX10_standingAt 7 = .ok (.if_icmp .ge 31, 3) := by decide +kernel
theorem dX10_standingAt_10 : decode cX10_standingAt 10 = .ok (.aload_n 0, 1) := by decide +kernel
theorem dX10_standingAt_11 : decode cX10_standingAt 11 = .ok (.getfield 17, 3) := by decide +kernel
theorem dX10_standingAt_14 : decode cX10_standingAt 14 = .ok (.iload_n 3, 1) := by decide +kernel
theorem dX10_standingAt_15 : decode cX10_standingAt 15 = .ok (.aaload, 1) := by decide +kernel
theorem dX10_standingAt_16 : decode cX10_standingAt 16 = .ok (.invokevirtual 142, 3) := by decide +kernel
theorem dX10_standingAt_19 : decode cX10_standingAt 19 = .ok (.ifCond .eq 13, 3) := by decide +kernel
theorem dX10_standingAt_22 : decode cX10_standingAt 22 = .ok (.iload_n 2, 1) := by decide +kernel
theorem dX10_standingAt_23 : decode cX10_standingAt 23 = .ok (.iload_n 1, 1) := by decide +kernel
theorem dX10_standingAt_24 : decode cX10_standingAt 24 = .ok (.if_icmp .ne 5, 3) := by decide +kernel
theorem dX10_standingAt_27 : decode cX10_standingAt 27 = .ok (.iload_n 3, 1) := by decide +kernel
theorem dX10_standingAt_28 : decode cX10_standingAt 28 = .ok (.ireturn, 1) := by decide +kernel
theorem dX10_standingAt_29 : decode cX10_standingAt 29 = .ok (.iinc 2 1, 3) := by decide +kernel
theorem dX10_standingAt_32 : decode cX10_standingAt 32 = .ok (.iinc 3 1, 3) := by decide +kernel
theorem dX10_standingAt_35 : decode cX10_standingAt 35 = .ok (.goto (-31), 3) := by decide +kernel
theorem dX10_standingAt_38 : decode cX10_standingAt 38 = .ok (.bipush (-3), 2) := by decide +kernel
theorem dX10_standingAt_40 : decode cX10_standingAt 40 = .ok (.ireturn, 1) := by decide +kernel
theorem dX10_allHay_0 : decode cX10_allHay 0 = .ok (.iconst 0, 1) := by decide +kernel
theorem dX10_allHay_1 : decode cX10_allHay 1 = .ok (.istore_n 1, 1) := by decide +kernel
theorem dX10_allHay_2 : decode cX10_allHay 2 = .ok (.iconst 0, 1) := by decide +kernel
theorem dX10_allHay_3 : decode cX10_allHay 3 = .ok (.istore_n 2, 1) := by decide +kernel
theorem dX10_allHay_4 : decode cX10_allHay 4 = .ok (.iload_n 2, 1) := by decide +kernel
theorem dX10_allHay_5 : decode cX10_allHay 5 = .ok (.bipush 24, 2) := by decide +kernel
theorem dX10_allHay_7 : decode cX10_allHay 7 = .ok (.if_icmp .ge 21, 3) := by decide +kernel
theorem dX10_allHay_10 : decode cX10_allHay 10 = .ok (.iload_n 1, 1) := by decide +kernel
theorem dX10_allHay_11 : decode cX10_allHay 11 = .ok (.aload_n 0, 1) := by decide +kernel
theorem dX10_allHay_12 : decode cX10_allHay 12 = .ok (.getfield 17, 3) := by decide +kernel
theorem dX10_allHay_15 : decode cX10_allHay 15 = .ok (.iload_n 2, 1) := by decide +kernel
theorem dX10_allHay_16 : decode cX10_allHay 16 = .ok (.aaload, 1) := by decide +kernel
theorem dX10_allHay_17 : decode cX10_allHay 17 = .ok (.invokevirtual 130, 3) := by decide +kernel
theorem dX10_allHay_20 : decode cX10_allHay 20 = .ok (.iadd, 1) := by decide +kernel
theorem dX10_allHay_21 : decode cX10_allHay 21 = .ok (.istore_n 1, 1) := by decide +kernel
theorem dX10_allHay_22 : decode cX10_allHay 22 = .ok (.iinc 2 1, 3) := by decide +kernel
theorem dX10_allHay_25 : decode cX10_allHay 25 = .ok (.goto (-21), 3) := by decide +kernel
theorem dX10_allHay_28 : decode cX10_allHay 28 = .ok (.iload_n 1, 1) := by decide +kernel
theorem dX10_allHay_29 : decode cX10_allHay 29 = .ok (.ireturn, 1) := by decide +kernel
theorem dX10_rainyDays_0 : decode cX10_rainyDays 0 = .ok (.iconst 0, 1) := by decide +kernel
theorem dX10_rainyDays_1 : decode cX10_rainyDays 1 = .ok (.istore_n 1, 1) := by decide +kernel
theorem dX10_rainyDays_2 : decode cX10_rainyDays 2 = .ok (.iconst 0, 1) := by decide +kernel
theorem dX10_rainyDays_3 : decode cX10_rainyDays 3 = .ok (.istore_n 2, 1) := by decide +kernel
theorem dX10_rainyDays_4 : decode cX10_rainyDays 4 = .ok (.iload_n 2, 1) := by decide +kernel
theorem dX10_rainyDays_5 : decode cX10_rainyDays 5 = .ok (.bipush 30, 2) := by decide +kernel
theorem dX10_rainyDays_7 : decode cX10_rainyDays 7 = .ok (.if_icmp .gt 21, 3) := by decide +kernel
theorem dX10_rainyDays_10 : decode cX10_rainyDays 10 = .ok (.iload_n 1, 1) := by decide +kernel
theorem dX10_rainyDays_11 : decode cX10_rainyDays 11 = .ok (.aload_n 0, 1) := by decide +kernel
theorem dX10_rainyDays_12 : decode cX10_rainyDays 12 = .ok (.getfield 33, 3) := by decide +kernel
theorem dX10_rainyDays_15 : decode cX10_rainyDays 15 = .ok (.iload_n 2, 1) := by decide +kernel
theorem dX10_rainyDays_16 : decode cX10_rainyDays 16 = .ok (.baload, 1) := by decide +kernel
theorem dX10_rainyDays_17 : decode cX10_rainyDays 17 = .ok (.invokestatic 119, 3) := by decide +kernel
theorem dX10_rainyDays_20 : decode cX10_rainyDays 20 = .ok (.iadd, 1) := by decide +kernel
theorem dX10_rainyDays_21 : decode cX10_rainyDays 21 = .ok (.istore_n 1, 1) := by decide +kernel
theorem dX10_rainyDays_22 : decode cX10_rainyDays 22 = .ok (.iinc 2 1, 3) := by decide +kernel
theorem dX10_rainyDays_25 : decode cX10_rainyDays 25 = .ok (.goto (-21), 3) := by decide +kernel
theorem dX10_rainyDays_28 : decode cX10_rainyDays 28 = .ok (.iload_n 1, 1) := by decide +kernel
theorem dX10_rainyDays_29 : decode cX10_rainyDays 29 = .ok (.ireturn, 1) := by decide +kernel
theorem dX10_dryDay_0 : decode cX10_dryDay 0 = .ok (.iconst 0, 1) := by decide +kernel
theorem dX10_dryDay_1 : decode cX10_dryDay 1 = .ok (.istore_n 2, 1) := by decide +kernel
theorem dX10_dryDay_2 : decode cX10_dryDay 2 = .ok (.aload_n 1, 1) := by decide +kernel
theorem dX10_dryDay_3 : decode cX10_dryDay 3 = .ok (.getfield 139, 3) := by decide +kernel
theorem dX10_dryDay_6 : decode cX10_dryDay 6 = .ok (.iconst 1, 1) := by decide +kernel
theorem dX10_dryDay_7 : decode cX10_dryDay 7 = .ok (.iadd, 1) := by decide +kernel
theorem dX10_dryDay_8 : decode cX10_dryDay 8 = .ok (.istore_n 3, 1) := by decide +kernel
theorem dX10_dryDay_9 : decode cX10_dryDay 9 = .ok (.iload_n 3, 1) := by decide +kernel
theorem dX10_dryDay_10 : decode cX10_dryDay 10 = .ok (.bipush 30, 2) := by decide +kernel
theorem dX10_dryDay_12 : decode cX10_dryDay 12 = .ok (.if_icmp .gt 39, 3) := by decide +kernel
theorem dX10_dryDay_15 : decode cX10_dryDay 15 = .ok (.aload_n 0, 1) := by decide +kernel
theorem dX10_dryDay_16 : decode cX10_dryDay 16 = .ok (.getfield 33, 3) := by decide +kernel
theorem dX10_dryDay_19 : decode cX10_dryDay 19 = .ok (.iload_n 3, 1) := by decide +kernel
theorem dX10_dryDay_20 : decode cX10_dryDay 20 = .ok (.baload, 1) := by decide +kernel
theorem dX10_dryDay_21 : decode cX10_dryDay 21 = .ok (.ifCond .eq 13, 3) := by decide +kernel
theorem dX10_dryDay_24 : decode cX10_dryDay 24 = .ok (.iload_n 2, 1) := by decide +kernel
theorem dX10_dryDay_25 : decode cX10_dryDay 25 = .ok (.iconst 1, 1) := by decide +kernel
theorem dX10_dryDay_26 : decode cX10_dryDay 26 = .ok (.isub, 1) := by decide +kernel
theorem dX10_dryDay_27 : decode cX10_dryDay 27 = .ok (.iconst 0, 1) := by decide +kernel
theorem dX10_dryDay_28 : decode cX10_dryDay 28 = .ok (.invokestatic 317, 3) := by decide +kernel
theorem dX10_dryDay_31 : decode cX10_dryDay 31 = .ok (.goto 6, 3) := by decide +kernel
theorem dX10_dryDay_34 : decode cX10_dryDay 34 = .ok (.iload_n 2, 1) := by decide +kernel
theorem dX10_dryDay_35 : decode cX10_dryDay 35 = .ok (.iconst 1, 1) := by decide +kernel
theorem dX10_dryDay_36 : decode cX10_dryDay 36 = .ok (.iadd, 1) := by decide +kernel
theorem dX10_dryDay_37 : decode cX10_dryDay 37 = .ok (.istore_n 2, 1) := by decide +kernel
theorem dX10_dryDay_38 : decode cX10_dryDay 38 = .ok (.iload_n 2, 1) := by decide +kernel
theorem dX10_dryDay_39 : decode cX10_dryDay 39 = .ok (.iconst 3, 1) := by decide +kernel
theorem dX10_dryDay_40 : decode cX10_dryDay 40 = .ok (.if_icmp .ne 5, 3) := by decide +kernel
theorem dX10_dryDay_43 : decode cX10_dryDay 43 = .ok (.iload_n 3, 1) := by decide +kernel
theorem dX10_dryDay_44 : decode cX10_dryDay 44 = .ok (.ireturn, 1) := by decide +kernel
theorem dX10_dryDay_45 : decode cX10_dryDay 45 = .ok (.iinc 3 1, 3) := by decide +kernel
theorem dX10_dryDay_48 : decode cX10_dryDay 48 = .ok (.goto (-39), 3) := by decide +kernel
theorem dX10_dryDay_51 : decode cX10_dryDay 51 = .ok (.bipush (-4), 2) := by decide +kernel
theorem dX10_dryDay_53 : decode cX10_dryDay 53 = .ok (.ireturn, 1) := by decide +kernel
theorem dX10_inBarn_0 : decode cX10_inBarn 0 = .ok (.aload_n 0, 1) := by decide +kernel
theorem dX10_inBarn_1 : decode cX10_inBarn 1 = .ok (.aload_n 1, 1) := by decide +kernel
theorem dX10_inBarn_2 : decode cX10_inBarn 2 = .ok (.invokevirtual 207, 3) := by decide +kernel
theorem dX10_inBarn_5 : decode cX10_inBarn 5 = .ok (.istore_n 2, 1) := by decide +kernel
theorem dX10_inBarn_6 : decode cX10_inBarn 6 = .ok (.iload_n 2, 1) := by decide +kernel
theorem dX10_inBarn_7 : decode cX10_inBarn 7 = .ok (.bipush (-4), 2) := by decide +kernel
theorem dX10_inBarn_9 : decode cX10_inBarn 9 = .ok (.if_icmp .ne 5, 3) := by decide +kernel
theorem dX10_inBarn_12 : decode cX10_inBarn 12 = .ok (.iconst 0, 1) := by decide +kernel
theorem dX10_inBarn_13 : decode cX10_inBarn 13 = .ok (.ireturn, 1) := by decide +kernel
theorem dX10_inBarn_14 : decode cX10_inBarn 14 = .ok (.aload_n 1, 1) := by decide +kernel
theorem dX10_inBarn_15 : decode cX10_inBarn 15 = .ok (.invokevirtual 130, 3) := by decide +kernel
theorem dX10_inBarn_18 : decode cX10_inBarn 18 = .ok (.istore_n 3, 1) := by decide +kernel
theorem dX10_inBarn_19 : decode cX10_inBarn 19 = .ok (.aload_n 1, 1) := by decide +kernel
theorem dX10_inBarn_20 : decode cX10_inBarn 20 = .ok (.getfield 139, 3) := by decide +kernel
theorem dX10_inBarn_23 : decode cX10_inBarn 23 = .ok (.iconst 1, 1) := by decide +kernel
theorem dX10_inBarn_24 : decode cX10_inBarn 24 = .ok (.iadd, 1) := by decide +kernel
theorem dX10_inBarn_25 : decode cX10_inBarn 25 = .ok (.istore 4, 2) := by decide +kernel
theorem dX10_inBarn_27 : decode cX10_inBarn 27 = .ok (.iload 4, 2) := by decide +kernel
theorem dX10_inBarn_29 : decode cX10_inBarn 29 = .ok (.iload_n 2, 1) := by decide +kernel
theorem dX10_inBarn_30 : decode cX10_inBarn 30 = .ok (.if_icmp .gt 26, 3) := by decide +kernel
theorem dX10_inBarn_33 : decode cX10_inBarn 33 = .ok (.aload_n 0, 1) := by decide +kernel
theorem dX10_inBarn_34 : decode cX10_inBarn 34 = .ok (.getfield 33, 3) := by decide +kernel
theorem dX10_inBarn_37 : decode cX10_inBarn 37 = .ok (.iload 4, 2) := by decide +kernel
theorem dX10_inBarn_39 : decode cX10_inBarn 39 = .ok (.baload, 1) := by decide +kernel
theorem dX10_inBarn_40 : decode cX10_inBarn 40 = .ok (.ifCond .eq 10, 3) := by decide +kernel
theorem dX10_inBarn_43 : decode cX10_inBarn 43 = .ok (.iload_n 3, 1) := by decide +kernel
theorem dX10_inBarn_44 : decode cX10_inBarn 44 = .ok (.iload_n 3, 1) := by decide +kernel
theorem dX10_inBarn_45 : decode cX10_inBarn 45 = .ok (.bipush 10, 2) := by decide +kernel
theorem dX10_inBarn_47 : decode cX10_inBarn 47 = .ok (.idiv, 1) := by decide +kernel
theorem dX10_inBarn_48 : decode cX10_inBarn 48 = .ok (.isub, 1) := by decide +kernel
theorem dX10_inBarn_49 : decode cX10_inBarn 49 = .ok (.istore_n 3, 1) := by decide +kernel
theorem dX10_inBarn_50 : decode cX10_inBarn 50 = .ok (.iinc 4 1, 3) := by decide +kernel
theorem dX10_inBarn_53 : decode cX10_inBarn 53 = .ok (.goto (-26), 3) := by decide +kernel
theorem dX10_inBarn_56 : decode cX10_inBarn 56 = .ok (.iload_n 3, 1) := by decide +kernel
theorem dX10_inBarn_57 : decode cX10_inBarn 57 = .ok (.ireturn, 1) := by decide +kernel
theorem dX10_keepPlot_0 : decode cX10_keepPlot 0 = .ok (.iload_n 2, 1) := by decide +kernel
theorem dX10_keepPlot_1 : decode cX10_keepPlot 1 = .ok (.invokestatic 77, 3) := by decide +kernel
theorem dX10_keepPlot_4 : decode cX10_keepPlot 4 = .ok (.ifCond .ne 5, 3) := by decide +kernel
theorem dX10_keepPlot_7 : decode cX10_keepPlot 7 = .ok (.iconst (-1), 1) := by decide +kernel
theorem dX10_keepPlot_8 : decode cX10_keepPlot 8 = .ok (.ireturn, 1) := by decide +kernel
theorem dX10_keepPlot_9 : decode cX10_keepPlot 9 = .ok (.aload_n 1, 1) := by decide +kernel
theorem dX10_keepPlot_10 : decode cX10_keepPlot 10 = .ok (.iconst 1, 1) := by decide +kernel
theorem dX10_keepPlot_11 : decode cX10_keepPlot 11 = .ok (.putfield 240, 3) := by decide +kernel
theorem dX10_keepPlot_14 : decode cX10_keepPlot 14 = .ok (.aload_n 1, 1) := by decide +kernel
theorem dX10_keepPlot_15 : decode cX10_keepPlot 15 = .ok (.iload_n 2, 1) := by decide +kernel
theorem dX10_keepPlot_16 : decode cX10_keepPlot 16 = .ok (.putfield 305, 3) := by decide +kernel
theorem dX10_keepPlot_19 : decode cX10_keepPlot 19 = .ok (.aload_n 1, 1) := by decide +kernel
theorem dX10_keepPlot_20 : decode cX10_keepPlot 20 = .ok (.aload_n 0, 1) := by decide +kernel
theorem dX10_keepPlot_21 : decode cX10_keepPlot 21 = .ok (.getfield 17, 3) := by decide +kernel
theorem dX10_keepPlot_24 : decode cX10_keepPlot 24 = .ok (.iload_n 2, 1) := by decide +kernel
theorem dX10_keepPlot_25 : decode cX10_keepPlot 25 = .ok (.aaload, 1) := by decide +kernel
theorem dX10_keepPlot_26 : decode cX10_keepPlot 26 = .ok (.getfield 95, 3) := by decide +kernel
theorem dX10_keepPlot_29 : decode cX10_keepPlot 29 = .ok (.putfield 296, 3) := by decide +kernel
theorem dX10_keepPlot_32 : decode cX10_keepPlot 32 = .ok (.aload_n 1, 1) := by decide +kernel
theorem dX10_keepPlot_33 : decode cX10_keepPlot 33 = .ok (.aload_n 0, 1) := by decide +kernel
theorem dX10_keepPlot_34 : decode cX10_keepPlot 34 = .ok (.getfield 17, 3) := by decide +kernel
theorem dX10_keepPlot_37 : decode cX10_keepPlot 37 = .ok (.iload_n 2, 1) := by decide +kernel
theorem dX10_keepPlot_38 : decode cX10_keepPlot 38 = .ok (.aaload, 1) := by decide +kernel
theorem dX10_keepPlot_39 : decode cX10_keepPlot 39 = .ok (.getfield 89, 3) := by decide +kernel
theorem dX10_keepPlot_42 : decode cX10_keepPlot 42 = .ok (.putfield 297, 3) := by decide +kernel
theorem dX10_keepPlot_45 : decode cX10_keepPlot 45 = .ok (.iconst 0, 1) := by decide +kernel
theorem dX10_keepPlot_46 : decode cX10_keepPlot 46 = .ok (.ireturn, 1) := by decide +kernel
theorem dX10_keepWorths_0 : decode cX10_keepWorths 0 = .ok (.aload_n 0, 1) := by decide +kernel
theorem dX10_keepWorths_1 : decode cX10_keepWorths 1 = .ok (.iload_n 2, 1) := by decide +kernel
theorem dX10_keepWorths_2 : decode cX10_keepWorths 2 = .ok (.invokevirtual 112, 3) := by decide +kernel
theorem dX10_keepWorths_5 : decode cX10_keepWorths 5 = .ok (.ifCond .ne 5, 3) := by decide +kernel
theorem dX10_keepWorths_8 : decode cX10_keepWorths 8 = .ok (.iconst (-1), 1) := by decide +kernel
theorem dX10_keepWorths_9 : decode cX10_keepWorths 9 = .ok (.ireturn, 1) := by decide +kernel
theorem dX10_keepWorths_10 : decode cX10_keepWorths 10 = .ok (.aload_n 1, 1) := by decide +kernel
theorem dX10_keepWorths_11 : decode cX10_keepWorths 11 = .ok (.iconst 3, 1) := by decide +kernel
theorem dX10_keepWorths_12 : decode cX10_keepWorths 12 = .ok (.bipush 24, 2) := by decide +kernel
theorem dX10_keepWorths_14 : decode cX10_keepWorths 14 = .ok (.invokevirtual 254, 3) := by decide +kernel
theorem dX10_keepWorths_17 : decode cX10_keepWorths 17 = .ok (.iconst 0, 1) := by decide +kernel
theorem dX10_keepWorths_18 : decode cX10_keepWorths 18 = .ok (.istore_n 3, 1) := by decide +kernel
theorem dX10_keepWorths_19 : decode cX10_keepWorths 19 = .ok (.iload_n 3, 1) := by decide +kernel
theorem dX10_keepWorths_20 : decode cX10_keepWorths 20 = .ok (.bipush 24, 2) := by decide +kernel
theorem dX10_keepWorths_22 : decode cX10_keepWorths 22 = .ok (.if_icmp .ge 21, 3) := by decide +kernel
theorem dX10_keepWorths_25 : decode cX10_keepWorths 25 = .ok (.aload_n 1, 1) := by decide +kernel
theorem dX10_keepWorths_26 : decode cX10_keepWorths 26 = .ok (.getfield 277, 3) := by decide +kernel
theorem dX10_keepWorths_29 : decode cX10_keepWorths 29 = .ok (.iload_n 3, 1) := by decide +kernel
theorem dX10_keepWorths_30 : decode cX10_keepWorths 30 = .ok (.aload_n 0, 1) := by decide +kernel
theorem dX10_keepWorths_31 : decode cX10_keepWorths 31 = .ok (.iload_n 2, 1) := by decide +kernel
theorem dX10_keepWorths_32 : decode cX10_keepWorths 32 = .ok (.iload_n 3, 1) := by decide +kernel
theorem dX10_keepWorths_33 : decode cX10_keepWorths 33 = .ok (.invokevirtual 158, 3) := by decide +kernel
theorem dX10_keepWorths_36 : decode cX10_keepWorths 36 = .ok (.iastore, 1) := by decide +kernel
theorem dX10_keepWorths_37 : decode cX10_keepWorths 37 = .ok (.iinc 3 1, 3) := by decide +kernel
theorem dX10_keepWorths_40 : decode cX10_keepWorths 40 = .ok (.goto (-21), 3) := by decide +kernel
theorem dX10_keepWorths_43 : decode cX10_keepWorths 43 = .ok (.iconst 0, 1) := by decide +kernel
theorem dX10_keepWorths_44 : decode cX10_keepWorths 44 = .ok (.ireturn, 1) := by decide +kernel
theorem dX10_keepOwners_0 : decode cX10_keepOwners 0 = .ok (.aload_n 1, 1) := by decide +kernel
theorem dX10_keepOwners_1 : decode cX10_keepOwners 1 = .ok (.iconst 4, 1) := by decide +kernel
theorem dX10_keepOwners_2 : decode cX10_keepOwners 2 = .ok (.bipush 24, 2) := by decide +kernel
theorem dX10_keepOwners_4 : decode cX10_keepOwners 4 = .ok (.invokevirtual 254, 3) := by decide +kernel
theorem dX10_keepOwners_7 : decode cX10_keepOwners 7 = .ok (.iconst 0, 1) := by decide +kernel
theorem dX10_keepOwners_8 : decode cX10_keepOwners 8 = .ok (.istore_n 2, 1) := by decide +kernel
theorem dX10_keepOwners_9 : decode cX10_keepOwners 9 = .ok (.iload_n 2, 1) := by decide +kernel
theorem dX10_keepOwners_10 : decode cX10_keepOwners 10 = .ok (.bipush 24, 2) := by decide +kernel
theorem dX10_keepOwners_12 : decode cX10_keepOwners 12 = .ok (.if_icmp .ge 41, 3) := by decide +kernel
theorem dX10_keepOwners_15 : decode cX10_keepOwners 15 = .ok (.aload_n 1, 1) := by decide +kernel
theorem dX10_keepOwners_16 : decode cX10_keepOwners 16 = .ok (.getfield 280, 3) := by decide +kernel
theorem dX10_keepOwners_19 : decode cX10_keepOwners 19 = .ok (.iload_n 2, 1) := by decide +kernel
theorem dX10_keepOwners_20 : decode cX10_keepOwners 20 = .ok (.aload_n 0, 1) := by decide +kernel
theorem dX10_keepOwners_21 : decode cX10_keepOwners 21 = .ok (.getfield 17, 3) := by decide +kernel
theorem dX10_keepOwners_24 : decode cX10_keepOwners 24 = .ok (.iload_n 2, 1) := by decide +kernel
theorem dX10_keepOwners_25 : decode cX10_keepOwners 25 = .ok (.aaload, 1) := by decide +kernel
theorem dX10_keepOwners_26 : decode cX10_keepOwners 26 = .ok (.invokevirtual 85, 3) := by decide +kernel
theorem dX10_keepOwners_29 : decode cX10_keepOwners 29 = .ok (.ifCond .eq 15, 3) := by decide +kernel
theorem dX10_keepOwners_32 : decode cX10_keepOwners 32 = .ok (.aload_n 0, 1) := by decide +kernel
theorem dX10_keepOwners_33 : decode cX10_keepOwners 33 = .ok (.getfield 17, 3) := by decide +kernel
theorem dX10_keepOwners_36 : decode cX10_keepOwners 36 = .ok (.iload_n 2, 1) := by decide +kernel
theorem dX10_keepOwners_37 : decode cX10_keepOwners 37 = .ok (.aaload, 1) := by decide +kernel
theorem dX10_keepOwners_38 : decode cX10_keepOwners 38 = .ok (.getfield 133, 3) := by decide +kernel
theorem dX10_keepOwners_41 : decode cX10_keepOwners 41 = .ok (.goto 4, 3) := by decide +kernel
theorem dX10_keepOwners_44 : decode cX10_keepOwners 44 = .ok (.iconst (-1), 1) := by decide +kernel
theorem dX10_keepOwners_45 : decode cX10_keepOwners 45 = .ok (.i2b, 1) := by decide +kernel
theorem dX10_keepOwners_46 : decode cX10_keepOwners 46 = .ok (.bastore, 1) := by decide +kernel
theorem dX10_keepOwners_47 : decode cX10_keepOwners 47 = .ok (.iinc 2 1, 3) := by decide +kernel
theorem dX10_keepOwners_50 : decode cX10_keepOwners 50 = .ok (.goto (-41), 3) := by decide +kernel
theorem dX10_keepOwners_53 : decode cX10_keepOwners 53 = .ok (.iconst 0, 1) := by decide +kernel
theorem dX10_keepOwners_54 : decode cX10_keepOwners 54 = .ok (.ireturn, 1) := by decide +kernel
theorem dX10_refusalOfPlotOn_0 : decode cX10_refusalOfPlotOn 0 = .ok (.iload_n 1, 1) := by decide +kernel
theorem dX10_refusalOfPlotOn_1 : decode cX10_refusalOfPlotOn 1 = .ok (.invokestatic 237, 3) := by decide +kernel
theorem dX10_refusalOfPlotOn_4 : decode cX10_refusalOfPlotOn 4 = .ok (.ifCond .ne 5, 3) := by decide +kernel
theorem dX10_refusalOfPlotOn_7 : decode cX10_refusalOfPlotOn 7 = .ok (.iconst (-1), 1) := by decide +kernel
theorem dX10_refusalOfPlotOn_8 : decode cX10_refusalOfPlotOn 8 = .ok (.ireturn, 1) := by decide +kernel
theorem dX10_refusalOfPlotOn_9 : decode cX10_refusalOfPlotOn 9 = .ok (.aload_n 0, 1) := by decide +kernel
theorem dX10_refusalOfPlotOn_10 : decode cX10_refusalOfPlotOn 10 = .ok (.getfield 29, 3) := by decide +kernel
theorem dX10_refusalOfPlotOn_13 : decode cX10_refusalOfPlotOn 13 = .ok (.iload_n 1, 1) := by decide +kernel
theorem dX10_refusalOfPlotOn_14 : decode cX10_refusalOfPlotOn 14 = .ok (.aaload, 1) := by decide +kernel
theorem dX10_refusalOfPlotOn_15 : decode cX10_refusalOfPlotOn 15 = .ok (.getfield 240, 3) := by decide +kernel
theorem dX10_refusalOfPlotOn_18 : decode cX10_refusalOfPlotOn 18 = .ok (.ifCond .ne 6, 3) := by decide +kernel
theorem dX10_refusalOfPlotOn_21 : decode cX10_refusalOfPlotOn 21 = .ok (.bipush (-11), 2) := by decide +kernel
theorem dX10_refusalOfPlotOn_23 : decode cX10_refusalOfPlotOn 23 = .ok (.ireturn, 1) := by decide +kernel
theorem dX10_refusalOfPlotOn_24 : decode cX10_refusalOfPlotOn 24 = .ok (.aload_n 0, 1) := by decide +kernel
theorem dX10_refusalOfPlotOn_25 : decode cX10_refusalOfPlotOn 25 = .ok (.getfield 29, 3) := by decide +kernel
theorem dX10_refusalOfPlotOn_28 : decode cX10_refusalOfPlotOn 28 = .ok (.iload_n 1, 1) := by decide +kernel
theorem dX10_refusalOfPlotOn_29 : decode cX10_refusalOfPlotOn 29 = .ok (.aaload, 1) := by decide +kernel
theorem dX10_refusalOfPlotOn_30 : decode cX10_refusalOfPlotOn 30 = .ok (.getfield 240, 3) := by decide +kernel
theorem dX10_refusalOfPlotOn_33 : decode cX10_refusalOfPlotOn 33 = .ok (.iconst 1, 1) := by decide +kernel
theorem dX10_refusalOfPlotOn_34 : decode cX10_refusalOfPlotOn 34 = .ok (.if_icmp .ne 7, 3) := by decide +kernel
theorem dX10_refusalOfPlotOn_37 : decode cX10_refusalOfPlotOn 37 = .ok (.iconst 0, 1) := by decide +kernel
theorem dX10_refusalOfPlotOn_38 : decode cX10_refusalOfPlotOn 38 = .ok (.goto 5, 3) := by decide +kernel
theorem dX10_refusalOfPlotOn_41 : decode cX10_refusalOfPlotOn 41 = .ok (.bipush (-12), 2) := by decide +kernel
theorem dX10_refusalOfPlotOn_43 : decode cX10_refusalOfPlotOn 43 = .ok (.ireturn, 1) := by decide +kernel
theorem dX10_isThrown_0 : decode cX10_isThrown 0 = .ok (.aload_n 0, 1) := by decide +kernel
theorem dX10_isThrown_1 : decode cX10_isThrown 1 = .ok (.invokevirtual 337, 3) := by decide +kernel
theorem dX10_isThrown_4 : decode cX10_isThrown 4 = .ok (.goto 6, 3) := by decide +kernel
theorem dX10_isThrown_7 : decode cX10_isThrown 7 = .ok (.astore_n 1, 1) := by decide +kernel
theorem dX10_isThrown_8 : decode cX10_isThrown 8 = .ok (.iconst 1, 1) := by decide +kernel
theorem dX10_isThrown_9 : decode cX10_isThrown 9 = .ok (.ireturn, 1) := by decide +kernel
theorem dX10_isThrown_10 : decode cX10_isThrown 10 = .ok (.iconst 0, 1) := by decide +kernel
theorem dX10_isThrown_11 : decode cX10_isThrown 11 = .ok (.ireturn, 1) := by decide +kernel
theorem dX11_init_0 : decode cX11_init 0 = .ok (.aload_n 0, 1) := by decide +kernel
theorem dX11_init_1 : decode cX11_init 1 = .ok (.invokespecial 1, 3) := by decide +kernel
theorem dX11_init_4 : decode cX11_init 4 = .ok (.aload_n 0, 1) := by decide +kernel
theorem dX11_init_5 : decode cX11_init 5 = .ok (.bipush 24, 2) := by decide +kernel
theorem dX11_init_7 : decode cX11_init 7 = .ok (.newarray .int, 2) := by decide +kernel
theorem dX11_init_9 : decode cX11_init 9 = .ok (.putfield 7, 3) := by decide +kernel
