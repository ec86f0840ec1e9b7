theorem dX11_wayFrom_22 : decode cX11_wayFrom 22 = .ok (.ldc 179, 2) := by decide +kernel
theorem dX11_wayFrom_24 : decode cX11_wayFrom 24 = .ok (.iastore, 1) := by decide +kernel
theorem dX11_wayFrom_25 : decode cX11_wayFrom 25 = .ok (.iinc 2 1, 3) := by decide +kernel
theorem dX11_wayFrom_28 : decode cX11_wayFrom 28 = .ok (.goto (-26), 3) := by decide +kernel
theorem dX11_wayFrom_31 : decode cX11_wayFrom 31 = .ok (.iconst 1, 1) := by decide +kernel
theorem dX11_wayFrom_32 : decode cX11_wayFrom 32 = .ok (.istore_n 2, 1) := by decide +kernel
theorem dX11_wayFrom_33 : decode cX11_wayFrom 33 = .ok (.iload_n 2, 1) := by decide +kernel
theorem dX11_wayFrom_34 : decode cX11_wayFrom 34 = .ok (.ifCond .eq 113, 3) := by decide +kernel
theorem dX11_wayFrom_37 : decode cX11_wayFrom 37 = .ok (.iconst 0, 1) := by decide +kernel
theorem dX11_wayFrom_38 : decode cX11_wayFrom 38 = .ok (.istore_n 2, 1) := by decide +kernel
theorem dX11_wayFrom_39 : decode cX11_wayFrom 39 = .ok (.iconst 0, 1) := by decide +kernel
theorem dX11_wayFrom_40 : decode cX11_wayFrom 40 = .ok (.istore_n 3, 1) := by decide +kernel
theorem dX11_wayFrom_41 : decode cX11_wayFrom 41 = .ok (.iload_n 3, 1) := by decide +kernel
theorem dX11_wayFrom_42 : decode cX11_wayFrom 42 = .ok (.bipush 24, 2) := by decide +kernel
theorem dX11_wayFrom_44 : decode cX11_wayFrom 44 = .ok (.if_icmp .ge 100, 3) := by decide +kernel
theorem dX11_wayFrom_47 : decode cX11_wayFrom 47 = .ok (.iconst 0, 1) := by decide +kernel
theorem dX11_wayFrom_48 : decode cX11_wayFrom 48 = .ok (.istore 4, 2) := by decide +kernel
theorem dX11_wayFrom_50 : decode cX11_wayFrom 50 = .ok (.iload 4, 2) := by decide +kernel
theorem dX11_wayFrom_52 : decode cX11_wayFrom 52 = .ok (.bipush 24, 2) := by decide +kernel
theorem dX11_wayFrom_54 : decode cX11_wayFrom 54 = .ok (.if_icmp .ge 84, 3) := by decide +kernel
theorem dX11_wayFrom_57 : decode cX11_wayFrom 57 = .ok (.iload_n 3, 1) := by decide +kernel
theorem dX11_wayFrom_58 : decode cX11_wayFrom 58 = .ok (.iload 4, 2) := by decide +kernel
theorem dX11_wayFrom_60 : decode cX11_wayFrom 60 = .ok (.invokestatic 153, 3) := by decide +kernel
theorem dX11_wayFrom_63 : decode cX11_wayFrom 63 = .ok (.iconst 1, 1) := by decide +kernel
theorem dX11_wayFrom_64 : decode cX11_wayFrom 64 = .ok (.if_icmp .eq 6, 3) := by decide +kernel
theorem dX11_wayFrom_67 : decode cX11_wayFrom 67 = .ok (.goto 65, 3) := by decide +kernel
theorem dX11_wayFrom_70 : decode cX11_wayFrom 70 = .ok (.aload_n 0, 1) := by decide +kernel
theorem dX11_wayFrom_71 : decode cX11_wayFrom 71 = .ok (.getfield 66, 3) := by decide +kernel
theorem dX11_wayFrom_74 : decode cX11_wayFrom 74 = .ok (.iload_n 3, 1) := by decide +kernel
theorem dX11_wayFrom_75 : decode cX11_wayFrom 75 = .ok (.iaload, 1) := by decide +kernel
theorem dX11_wayFrom_76 : decode cX11_wayFrom 76 = .ok (.aload_n 0, 1) := by decide +kernel
theorem dX11_wayFrom_77 : decode cX11_wayFrom 77 = .ok (.getfield 69, 3) := by decide +kernel
theorem dX11_wayFrom_80 : decode cX11_wayFrom 80 = .ok (.iload 4, 2) := by decide +kernel
theorem dX11_wayFrom_82 : decode cX11_wayFrom 82 = .ok (.baload, 1) := by decide +kernel
theorem dX11_wayFrom_83 : decode cX11_wayFrom 83 = .ok (.ifCond .eq 16, 3) := by decide +kernel
theorem dX11_wayFrom_86 : decode cX11_wayFrom 86 = .ok (.aload_n 0, 1) := by decide +kernel
theorem dX11_wayFrom_87 : decode cX11_wayFrom 87 = .ok (.getfield 13, 3) := by decide +kernel
theorem dX11_wayFrom_90 : decode cX11_wayFrom 90 = .ok (.iload 4, 2) := by decide +kernel
theorem dX11_wayFrom_92 : decode cX11_wayFrom 92 = .ok (.iaload, 1) := by decide +kernel
theorem dX11_wayFrom_93 : decode cX11_wayFrom 93 = .ok (.bipush 10, 2) := by decide +kernel
theorem dX11_wayFrom_95 : decode cX11_wayFrom 95 = .ok (.idiv, 1) := by decide +kernel
theorem dX11_wayFrom_96 : decode cX11_wayFrom 96 = .ok (.goto 4, 3) := by decide +kernel
theorem dX11_wayFrom_99 : decode cX11_wayFrom 99 = .ok (.iconst 0, 1) := by decide +kernel
theorem dX11_wayFrom_100 : decode cX11_wayFrom 100 = .ok (.iadd, 1) := by decide +kernel
theorem dX11_wayFrom_101 : decode cX11_wayFrom 101 = .ok (.istore 5, 2) := by decide +kernel
theorem dX11_wayFrom_103 : decode cX11_wayFrom 103 = .ok (.iload 4, 2) := by decide +kernel
theorem dX11_wayFrom_105 : decode cX11_wayFrom 105 = .ok (.iload_n 1, 1) := by decide +kernel
theorem dX11_wayFrom_106 : decode cX11_wayFrom 106 = .ok (.if_icmp .eq 26, 3) := by decide +kernel
theorem dX11_wayFrom_109 : decode cX11_wayFrom 109 = .ok (.iload 5, 2) := by decide +kernel
theorem dX11_wayFrom_111 : decode cX11_wayFrom 111 = .ok (.aload_n 0, 1) := by decide +kernel
theorem dX11_wayFrom_112 : decode cX11_wayFrom 112 = .ok (.getfield 66, 3) := by decide +kernel
theorem dX11_wayFrom_115 : decode cX11_wayFrom 115 = .ok (.iload 4, 2) := by decide +kernel
theorem dX11_wayFrom_117 : decode cX11_wayFrom 117 = .ok (.iaload, 1) := by decide +kernel
theorem dX11_wayFrom_118 : decode cX11_wayFrom 118 = .ok (.if_icmp .ge 14, 3) := by decide +kernel
theorem dX11_wayFrom_121 : decode cX11_wayFrom 121 = .ok (.aload_n 0, 1) := by decide +kernel
theorem dX11_wayFrom_122 : decode cX11_wayFrom 122 = .ok (.getfield 66, 3) := by decide +kernel
theorem dX11_wayFrom_125 : decode cX11_wayFrom 125 = .ok (.iload 4, 2) := by decide +kernel
theorem dX11_wayFrom_127 : decode cX11_wayFrom 127 = .ok (.iload 5, 2) := by decide +kernel
theorem dX11_wayFrom_129 : decode cX11_wayFrom 129 = .ok (.iastore, 1) := by decide +kernel
theorem dX11_wayFrom_130 : decode cX11_wayFrom 130 = .ok (.iconst 1, 1) := by decide +kernel
theorem dX11_wayFrom_131 : decode cX11_wayFrom 131 = .ok (.istore_n 2, 1) := by decide +kernel
theorem dX11_wayFrom_132 : decode cX11_wayFrom 132 = .ok (.iinc 4 1, 3) := by decide +kernel
theorem dX11_wayFrom_135 : decode cX11_wayFrom 135 = .ok (.goto (-85), 3) := by decide +kernel
theorem dX11_wayFrom_138 : decode cX11_wayFrom 138 = .ok (.iinc 3 1, 3) := by decide +kernel
theorem dX11_wayFrom_141 : decode cX11_wayFrom 141 = .ok (.goto (-100), 3) := by decide +kernel
theorem dX11_wayFrom_144 : decode cX11_wayFrom 144 = .ok (.goto (-111), 3) := by decide +kernel
theorem dX11_wayFrom_147 : decode cX11_wayFrom 147 = .ok (.aload_n 0, 1) := by decide +kernel
theorem dX11_wayFrom_148 : decode cX11_wayFrom 148 = .ok (.getfield 66, 3) := by decide +kernel
theorem dX11_wayFrom_151 : decode cX11_wayFrom 151 = .ok (.iconst 0, 1) := by decide +kernel
theorem dX11_wayFrom_152 : decode cX11_wayFrom 152 = .ok (.iaload, 1) := by decide +kernel
theorem dX11_wayFrom_153 : decode cX11_wayFrom 153 = .ok (.ireturn, 1) := by decide +kernel
theorem dX11_day_0 : decode cX11_day 0 = .ok (.iload_n 1, 1) := by decide +kernel
theorem dX11_day_1 : decode cX11_day 1 = .ok (.aload_n 0, 1) := by decide +kernel
theorem dX11_day_2 : decode cX11_day 2 = .ok (.getfield 180, 3) := by decide +kernel
theorem dX11_day_5 : decode cX11_day 5 = .ok (.bipush 30, 2) := by decide +kernel
theorem dX11_day_7 : decode cX11_day 7 = .ok (.invokestatic 114, 3) := by decide +kernel
theorem dX11_day_10 : decode cX11_day 10 = .ok (.ifCond .ne 5, 3) := by decide +kernel
theorem dX11_day_13 : decode cX11_day 13 = .ok (.iconst (-1), 1) := by decide +kernel
theorem dX11_day_14 : decode cX11_day 14 = .ok (.ireturn, 1) := by decide +kernel
theorem dX11_day_15 : decode cX11_day 15 = .ok (.aload_n 0, 1) := by decide +kernel
theorem dX11_day_16 : decode cX11_day 16 = .ok (.getfield 180, 3) := by decide +kernel
theorem dX11_day_19 : decode cX11_day 19 = .ok (.istore_n 2, 1) := by decide +kernel
theorem dX11_day_20 : decode cX11_day 20 = .ok (.aload_n 0, 1) := by decide +kernel
theorem dX11_day_21 : decode cX11_day 21 = .ok (.iload_n 1, 1) := by decide +kernel
theorem dX11_day_22 : decode cX11_day 22 = .ok (.putfield 180, 3) := by decide +kernel
theorem dX11_day_25 : decode cX11_day 25 = .ok (.iload_n 2, 1) := by decide +kernel
theorem dX11_day_26 : decode cX11_day 26 = .ok (.ireturn, 1) := by decide +kernel
theorem dX11_rain_0 : decode cX11_rain 0 = .ok (.iload_n 1, 1) := by decide +kernel
theorem dX11_rain_1 : decode cX11_rain 1 = .ok (.iconst 0, 1) := by decide +kernel
theorem dX11_rain_2 : decode cX11_rain 2 = .ok (.bipush 30, 2) := by decide +kernel
theorem dX11_rain_4 : decode cX11_rain 4 = .ok (.invokestatic 114, 3) := by decide +kernel
theorem dX11_rain_7 : decode cX11_rain 7 = .ok (.ifCond .ne 5, 3) := by decide +kernel
theorem dX11_rain_10 : decode cX11_rain 10 = .ok (.iconst (-1), 1) := by decide +kernel
theorem dX11_rain_11 : decode cX11_rain 11 = .ok (.ireturn, 1) := by decide +kernel
theorem dX11_rain_12 : decode cX11_rain 12 = .ok (.aload_n 0, 1) := by decide +kernel
theorem dX11_rain_13 : decode cX11_rain 13 = .ok (.getfield 63, 3) := by decide +kernel
theorem dX11_rain_16 : decode cX11_rain 16 = .ok (.iload_n 1, 1) := by decide +kernel
theorem dX11_rain_17 : decode cX11_rain 17 = .ok (.baload, 1) := by decide +kernel
theorem dX11_rain_18 : decode cX11_rain 18 = .ok (.iload_n 2, 1) := by decide +kernel
theorem dX11_rain_19 : decode cX11_rain 19 = .ok (.if_icmp .eq 7, 3) := by decide +kernel
theorem dX11_rain_22 : decode cX11_rain 22 = .ok (.iconst 1, 1) := by decide +kernel
theorem dX11_rain_23 : decode cX11_rain 23 = .ok (.goto 4, 3) := by decide +kernel
theorem dX11_rain_26 : decode cX11_rain 26 = .ok (.iconst 0, 1) := by decide +kernel
theorem dX11_rain_27 : decode cX11_rain 27 = .ok (.istore_n 3, 1) := by decide +kernel
theorem dX11_rain_28 : decode cX11_rain 28 = .ok (.aload_n 0, 1) := by decide +kernel
theorem dX11_rain_29 : decode cX11_rain 29 = .ok (.getfield 63, 3) := by decide +kernel
theorem dX11_rain_32 : decode cX11_rain 32 = .ok (.iload_n 1, 1) := by decide +kernel
theorem dX11_rain_33 : decode cX11_rain 33 = .ok (.iload_n 2, 1) := by decide +kernel
theorem dX11_rain_34 : decode cX11_rain 34 = .ok (.bastore, 1) := by decide +kernel
theorem dX11_rain_35 : decode cX11_rain 35 = .ok (.iload_n 3, 1) := by decide +kernel
theorem dX11_rain_36 : decode cX11_rain 36 = .ok (.ireturn, 1) := by decide +kernel
theorem dX11_way_0 : decode cX11_way 0 = .ok (.iload_n 1, 1) := by decide +kernel
theorem dX11_way_1 : decode cX11_way 1 = .ok (.invokestatic 121, 3) := by decide +kernel
theorem dX11_way_4 : decode cX11_way 4 = .ok (.ifCond .ne 5, 3) := by decide +kernel
theorem dX11_way_7 : decode cX11_way 7 = .ok (.iconst (-1), 1) := by decide +kernel
theorem dX11_way_8 : decode cX11_way 8 = .ok (.ireturn, 1) := by decide +kernel
theorem dX11_way_9 : decode cX11_way 9 = .ok (.aload_n 0, 1) := by decide +kernel
theorem dX11_way_10 : decode cX11_way 10 = .ok (.invokevirtual 183, 3) := by decide +kernel
theorem dX11_way_13 : decode cX11_way 13 = .ok (.aload_n 0, 1) := by decide +kernel
theorem dX11_way_14 : decode cX11_way 14 = .ok (.iload_n 1, 1) := by decide +kernel
theorem dX11_way_15 : decode cX11_way 15 = .ok (.invokevirtual 186, 3) := by decide +kernel
theorem dX11_way_18 : decode cX11_way 18 = .ok (.ireturn, 1) := by decide +kernel
theorem dX11_cut_0 : decode cX11_cut 0 = .ok (.iload_n 1, 1) := by decide +kernel
theorem dX11_cut_1 : decode cX11_cut 1 = .ok (.invokestatic 121, 3) := by decide +kernel
theorem dX11_cut_4 : decode cX11_cut 4 = .ok (.ifCond .ne 5, 3) := by decide +kernel
theorem dX11_cut_7 : decode cX11_cut 7 = .ok (.iconst (-1), 1) := by decide +kernel
theorem dX11_cut_8 : decode cX11_cut 8 = .ok (.ireturn, 1) := by decide +kernel
theorem dX11_cut_9 : decode cX11_cut 9 = .ok (.aload_n 0, 1) := by decide +kernel
theorem dX11_cut_10 : decode cX11_cut 10 = .ok (.iload_n 1, 1) := by decide +kernel
theorem dX11_cut_11 : decode cX11_cut 11 = .ok (.invokevirtual 136, 3) := by decide +kernel
theorem dX11_cut_14 : decode cX11_cut 14 = .ok (.ifCond .ne 6, 3) := by decide +kernel
theorem dX11_cut_17 : decode cX11_cut 17 = .ok (.bipush (-3), 2) := by decide +kernel
theorem dX11_cut_19 : decode cX11_cut 19 = .ok (.ireturn, 1) := by decide +kernel
theorem dX11_cut_20 : decode cX11_cut 20 = .ok (.aload_n 0, 1) := by decide +kernel
theorem dX11_cut_21 : decode cX11_cut 21 = .ok (.invokevirtual 183, 3) := by decide +kernel
theorem dX11_cut_24 : decode cX11_cut 24 = .ok (.aload_n 0, 1) := by decide +kernel
theorem dX11_cut_25 : decode cX11_cut 25 = .ok (.iload_n 1, 1) := by decide +kernel
theorem dX11_cut_26 : decode cX11_cut 26 = .ok (.invokevirtual 186, 3) := by decide +kernel
theorem dX11_cut_29 : decode cX11_cut 29 = .ok (.istore_n 2, 1) := by decide +kernel
theorem dX11_cut_30 : decode cX11_cut 30 = .ok (.aload_n 0, 1) := by decide +kernel
theorem dX11_cut_31 : decode cX11_cut 31 = .ok (.getfield 50, 3) := by decide +kernel
theorem dX11_cut_34 : decode cX11_cut 34 = .ok (.aload_n 0, 1) := by decide +kernel
theorem dX11_cut_35 : decode cX11_cut 35 = .ok (.getfield 20, 3) := by decide +kernel
theorem dX11_cut_38 : decode cX11_cut 38 = .ok (.iload_n 1, 1) := by decide +kernel
theorem dX11_cut_39 : decode cX11_cut 39 = .ok (.iaload, 1) := by decide +kernel
theorem dX11_cut_40 : decode cX11_cut 40 = .ok (.dup2, 1) := by decide +kernel
theorem dX11_cut_41 : decode cX11_cut 41 = .ok (.iaload, 1) := by decide +kernel
theorem dX11_cut_42 : decode cX11_cut 42 = .ok (.iload_n 2, 1) := by decide +kernel
theorem dX11_cut_43 : decode cX11_cut 43 = .ok (.iadd, 1) := by decide +kernel
theorem dX11_cut_44 : decode cX11_cut 44 = .ok (.iastore, 1) := by decide +kernel
theorem dX11_cut_45 : decode cX11_cut 45 = .ok (.aload_n 0, 1) := by decide +kernel
theorem dX11_cut_46 : decode cX11_cut 46 = .ok (.getfield 29, 3) := by decide +kernel
theorem dX11_cut_49 : decode cX11_cut 49 = .ok (.iload_n 1, 1) := by decide +kernel
theorem dX11_cut_50 : decode cX11_cut 50 = .ok (.iconst 1, 1) := by decide +kernel
theorem dX11_cut_51 : decode cX11_cut 51 = .ok (.bastore, 1) := by decide +kernel
theorem dX11_cut_52 : decode cX11_cut 52 = .ok (.aload_n 0, 1) := by decide +kernel
theorem dX11_cut_53 : decode cX11_cut 53 = .ok (.getfield 32, 3) := by decide +kernel
theorem dX11_cut_56 : decode cX11_cut 56 = .ok (.iload_n 1, 1) := by decide +kernel
theorem dX11_cut_57 : decode cX11_cut 57 = .ok (.aload_n 0, 1) := by decide +kernel
theorem dX11_cut_58 : decode cX11_cut 58 = .ok (.getfield 180, 3) := by decide +kernel
theorem dX11_cut_61 : decode cX11_cut 61 = .ok (.iastore, 1) := by decide +kernel
theorem dX11_cut_62 : decode cX11_cut 62 = .ok (.iload_n 2, 1) := by decide +kernel
theorem dX11_cut_63 : decode cX11_cut 63 = .ok (.ireturn, 1) := by decide +kernel
theorem dX11_workOut_0 : decode cX11_workOut 0 = .ok (.aload_n 0, 1) := by decide +kernel
theorem dX11_workOut_1 : decode cX11_workOut 1 = .ok (.iconst 0, 1) := by decide +kernel
theorem dX11_workOut_2 : decode cX11_workOut 2 = .ok (.putfield 189, 3) := by decide +kernel
theorem dX11_workOut_5 : decode cX11_workOut 5 = .ok (.iconst 0, 1) := by decide +kernel
theorem dX11_workOut_6 : decode cX11_workOut 6 = .ok (.istore_n 1, 1) := by decide +kernel
theorem dX11_workOut_7 : decode cX11_workOut 7 = .ok (.iload_n 1, 1) := by decide +kernel
theorem dX11_workOut_8 : decode cX11_workOut 8 = .ok (.bipush 24, 2) := by decide +kernel
theorem dX11_workOut_10 : decode cX11_workOut 10 = .ok (.if_icmp .ge 51, 3) := by decide +kernel
theorem dX11_workOut_13 : decode cX11_workOut 13 = .ok (.aload_n 0, 1) := by decide +kernel
theorem dX11_workOut_14 : decode cX11_workOut 14 = .ok (.iload_n 1, 1) := by decide +kernel
theorem dX11_workOut_15 : decode cX11_workOut 15 = .ok (.invokevirtual 136, 3) := by decide +kernel
theorem dX11_workOut_18 : decode cX11_workOut 18 = .ok (.ifCond .ne 6, 3) := by decide +kernel
theorem dX11_workOut_21 : decode cX11_workOut 21 = .ok (.goto 34, 3) := by decide +kernel
theorem dX11_workOut_24 : decode cX11_workOut 24 = .ok (.aload_n 0, 1) := by decide +kernel
theorem dX11_workOut_25 : decode cX11_workOut 25 = .ok (.getfield 189, 3) := by decide +kernel
theorem dX11_workOut_28 : decode cX11_workOut 28 = .ok (.bipush 6, 2) := by decide +kernel
theorem dX11_workOut_30 : decode cX11_workOut 30 = .ok (.if_icmp .ne 5, 3) := by decide +kernel
theorem dX11_workOut_33 : decode cX11_workOut 33 = .ok (.iconst 0, 1) := by decide +kernel
theorem dX11_workOut_34 : decode cX11_workOut 34 = .ok (.ireturn, 1) := by decide +kernel
theorem dX11_workOut_35 : decode cX11_workOut 35 = .ok (.aload_n 0, 1) := by decide +kernel
theorem dX11_workOut_36 : decode cX11_workOut 36 = .ok (.getfield 72, 3) := by decide +kernel
theorem dX11_workOut_39 : decode cX11_workOut 39 = .ok (.aload_n 0, 1) := by decide +kernel
theorem dX11_workOut_40 : decode cX11_workOut 40 = .ok (.getfield 189, 3) := by decide +kernel
theorem dX11_workOut_43 : decode cX11_workOut 43 = .ok (.iload_n 1, 1) := by decide +kernel
theorem dX11_workOut_44 : decode cX11_workOut 44 = .ok (.iastore, 1) := by decide +kernel
theorem dX11_workOut_45 : decode cX11_workOut 45 = .ok (.aload_n 0, 1) := by decide +kernel
theorem dX11_workOut_46 : decode cX11_workOut 46 = .ok (.dup, 1) := by decide +kernel
theorem dX11_workOut_47 : decode cX11_workOut 47 = .ok (.getfield 189, 3) := by decide +kernel
theorem dX11_workOut_50 : decode cX11_workOut 50 = .ok (.iconst 1, 1) := by decide +kernel
theorem dX11_workOut_51 : decode cX11_workOut 51 = .ok (.iadd, 1) := by decide +kernel
theorem dX11_workOut_52 : decode cX11_workOut 52 = .ok (.putfield 189, 3) := by decide +kernel
theorem dX11_workOut_55 : decode cX11_workOut 55 = .ok (.iinc 1 1, 3) := by decide +kernel
theorem dX11_workOut_58 : decode cX11_workOut 58 = .ok (.goto (-51), 3) := by decide +kernel
theorem dX11_workOut_61 : decode cX11_workOut 61 = .ok (.aload_n 0, 1) := by decide +kernel
theorem dX11_workOut_62 : decode cX11_workOut 62 = .ok (.getfield 75, 3) := by decide +kernel
theorem dX11_workOut_65 : decode cX11_workOut 65 = .ok (.iconst 0, 1) := by decide +kernel
theorem dX11_workOut_66 : decode cX11_workOut 66 = .ok (.iconst 0, 1) := by decide +kernel
theorem dX11_workOut_67 : decode cX11_workOut 67 = .ok (.iastore, 1) := by decide +kernel
theorem dX11_workOut_68 : decode cX11_workOut 68 = .ok (.iconst 0, 1) := by decide +kernel
theorem dX11_workOut_69 : decode cX11_workOut 69 = .ok (.istore_n 1, 1) := by decide +kernel
theorem dX11_workOut_70 : decode cX11_workOut 70 = .ok (.iload_n 1, 1) := by decide +kernel
theorem dX11_workOut_71 : decode cX11_workOut 71 = .ok (.bipush 24, 2) := by decide +kernel
theorem dX11_workOut_73 : decode cX11_workOut 73 = .ok (.if_icmp .ge 16, 3) := by decide +kernel
theorem dX11_workOut_76 : decode cX11_workOut 76 = .ok (.aload_n 0, 1) := by decide +kernel
theorem dX11_workOut_77 : decode cX11_workOut 77 = .ok (.getfield 69, 3) := by decide +kernel
theorem dX11_workOut_80 : decode cX11_workOut 80 = .ok (.iload_n 1, 1) := by decide +kernel
theorem dX11_workOut_81 : decode cX11_workOut 81 = .ok (.iconst 0, 1) := by decide +kernel
theorem dX11_workOut_82 : decode cX11_workOut 82 = .ok (.bastore, 1) := by decide +kernel
theorem dX11_workOut_83 : decode cX11_workOut 83 = .ok (.iinc 1 1, 3) := by decide +kernel
theorem dX11_workOut_86 : decode cX11_workOut 86 = .ok (.goto (-16), 3) := by decide +kernel
theorem dX11_workOut_89 : decode cX11_workOut 89 = .ok (.iconst 1, 1) := by decide +kernel
theorem dX11_workOut_90 : decode cX11_workOut 90 = .ok (.istore_n 1, 1) := by decide +kernel
theorem dX11_workOut_91 : decode cX11_workOut 91 = .ok (.iload_n 1, 1) := by decide +kernel
theorem dX11_workOut_92 : decode cX11_workOut 92 = .ok (.iconst 1, 1) := by decide +kernel
theorem dX11_workOut_93 : decode cX11_workOut 93 = .ok (.aload_n 0, 1) := by decide +kernel
theorem dX11_workOut_94 : decode cX11_workOut 94 = .ok (.getfield 189, 3) := by decide +kernel
theorem dX11_workOut_97 : decode cX11_workOut 97 = .ok (.ishl, 1) := by decide +kernel
theorem dX11_workOut_98 : decode cX11_workOut 98 = .ok (.if_icmp .ge 157, 3) := by decide +kernel
theorem dX11_workOut_101 : decode cX11_workOut 101 = .ok (.iconst 0, 1) := by decide +kernel
theorem dX11_workOut_102 : decode cX11_workOut 102 = .ok (.istore_n 2, 1) := by decide +kernel
theorem dX11_workOut_103 : decode cX11_workOut 103 = .ok (.iload_n 2, 1) := by decide +kernel
theorem dX11_workOut_104 : decode cX11_workOut 104 = .ok (.aload_n 0, 1) := by decide +kernel
theorem dX11_workOut_105 : decode cX11_workOut 105 = .ok (.getfield 189, 3) := by decide +kernel
theorem dX11_workOut_108 : decode cX11_workOut 108 = .ok (.if_icmp .ge 34, 3) := by decide +kernel
theorem dX11_workOut_111 : decode cX11_workOut 111 = .ok (.aload_n 0, 1) := by decide +kernel
theorem dX11_workOut_112 : decode cX11_workOut 112 = .ok (.getfield 69, 3) := by decide +kernel
theorem dX11_workOut_115 : decode cX11_workOut 115 = .ok (.aload_n 0, 1) := by decide +kernel
theorem dX11_workOut_116 : decode cX11_workOut 116 = .ok (.getfield 72, 3) := by decide +kernel
theorem dX11_workOut_119 : decode cX11_workOut 119 = .ok (.iload_n 2, 1) := by decide +kernel
theorem dX11_workOut_120 : decode cX11_workOut 120 = .ok (.iaload, 1) := by decide +kernel
theorem dX11_workOut_121 : decode cX11_workOut 121 = .ok (.iload_n 1, 1) := by decide +kernel
theorem dX11_workOut_122 : decode cX11_workOut 122 = .ok (.iload_n 2, 1) := by decide +kernel
theorem dX11_workOut_123 : decode cX11_workOut 123 = .ok (.ishr, 1) := by decide +kernel
theorem dX11_workOut_124 : decode cX11_workOut 124 = .ok (.iconst 1, 1) := by decide +kernel
theorem dX11_workOut_125 : decode cX11_workOut 125 = .ok (.iand, 1) := by decide +kernel
theorem dX11_workOut_126 : decode cX11_workOut 126 = .ok (.iconst 1, 1) := by decide +kernel
theorem dX11_workOut_127 : decode cX11_workOut 127 = .ok (.if_icmp .ne 7, 3) := by decide +kernel
theorem dX11_workOut_130 : decode cX11_workOut 130 = .ok (.iconst 1, 1) := by decide +kernel
theorem dX11_workOut_131 : decode cX11_workOut 131 = .ok (.goto 4, 3) := by decide +kernel
theorem dX11_workOut_134 : decode cX11_workOut 134 = .ok (.iconst 0, 1) := by decide +kernel
theorem dX11_workOut_135 : decode cX11_workOut 135 = .ok (.bastore, 1) := by decide +kernel
theorem dX11_workOut_136 : decode cX11_workOut 136 = .ok (.iinc 2 1, 3) := by decide +kernel
theorem dX11_workOut_139 : decode cX11_workOut 139 = .ok (.goto (-36), 3) := by decide +kernel
theorem dX11_workOut_142 : decode cX11_workOut 142 = .ok (.aload_n 0, 1) := by decide +kernel
theorem dX11_workOut_143 : decode cX11_workOut 143 = .ok (.getfield 75, 3) := by decide +kernel
theorem dX11_workOut_146 : decode cX11_workOut 146 = .ok (.iload_n 1, 1) := by decide +kernel
theorem dX11_workOut_147 : decode cX11_workOut 147 = .ok (.ldc 179, 2) := by decide +kernel
theorem dX11_workOut_149 : decode cX11_workOut 149 = .ok (.iastore, 1) := by decide +kernel
theorem dX11_workOut_150 : decode cX11_workOut 150 = .ok (.iconst 0, 1) := by decide +kernel
theorem dX11_workOut_151 : decode cX11_workOut 151 = .ok (.istore_n 2, 1) := by decide +kernel
theorem dX11_workOut_152 : decode cX11_workOut 152 = .ok (.iload_n 2, 1) := by decide +kernel
theorem dX11_workOut_153 : decode cX11_workOut 153 = .ok (.aload_n 0, 1) := by decide +kernel
theorem dX11_workOut_154 : decode cX11_workOut 154 = .ok (.getfield 189, 3) := by decide +kernel
theorem dX11_workOut_157 : decode cX11_workOut 157 = .ok (.if_icmp .ge 92, 3) := by decide +kernel
theorem dX11_workOut_160 : decode cX11_workOut 160 = .ok (.iload_n 1, 1) := by decide +kernel
theorem dX11_workOut_161 : decode cX11_workOut 161 = .ok (.iload_n 2, 1) := by decide +kernel
theorem dX11_workOut_162 : decode cX11_workOut 162 = .ok (.ishr, 1) := by decide +kernel
theorem dX11_workOut_163 : decode cX11_workOut 163 = .ok (.iconst 1, 1) := by decide +kernel
theorem dX11_workOut_164 : decode cX11_workOut 164 = .ok (.iand, 1) := by decide +kernel
theorem dX11_workOut_165 : decode cX11_workOut 165 = .ok (.ifCond .ne 6, 3) := by decide +kernel
theorem dX11_workOut_168 : decode cX11_workOut 168 = .ok (.goto 75, 3) := by decide +kernel
theorem dX11_workOut_171 : decode cX11_workOut 171 = .ok (.aload_n 0, 1) := by decide +kernel
theorem dX11_workOut_172 : decode cX11_workOut 172 = .ok (.getfield 78, 3) := by decide +kernel
theorem dX11_workOut_175 : decode cX11_workOut 175 = .ok (.bipush 6, 2) := by decide +kernel
theorem dX11_workOut_177 : decode cX11_workOut 177 = .ok (.iload_n 1, 1) := by decide +kernel
theorem dX11_workOut_178 : decode cX11_workOut 178 = .ok (.imul, 1) := by decide +kernel
theorem dX11_workOut_179 : decode cX11_workOut 179 = .ok (.iload_n 2, 1) := by decide +kernel
theorem dX11_workOut_180 : decode cX11_workOut 180 = .ok (.iadd, 1) := by decide +kernel
theorem dX11_workOut_181 : decode cX11_workOut 181 = .ok (.aload_n 0, 1) := by decide +kernel
theorem dX11_workOut_182 : decode cX11_workOut 182 = .ok (.aload_n 0, 1) := by decide +kernel
theorem dX11_workOut_183 : decode cX11_workOut 183 = .ok (.getfield 72, 3) := by decide +kernel
theorem dX11_workOut_186 : decode cX11_workOut 186 = .ok (.iload_n 2, 1) := by decide +kernel
theorem dX11_workOut_187 : decode cX11_workOut 187 = .ok (.iaload, 1) := by decide +kernel
theorem dX11_workOut_188 : decode cX11_workOut 188 = .ok (.invokevirtual 186, 3) := by decide +kernel
theorem dX11_workOut_191 : decode cX11_workOut 191 = .ok (.iastore, 1) := by decide +kernel
theorem dX11_workOut_192 : decode cX11_workOut 192 = .ok (.aload_n 0, 1) := by decide +kernel
theorem dX11_workOut_193 : decode cX11_workOut 193 = .ok (.getfield 78, 3) := by decide +kernel
theorem dX11_workOut_196 : decode cX11_workOut 196 = .ok (.bipush 6, 2) := by decide +kernel
theorem dX11_workOut_198 : decode cX11_workOut 198 = .ok (.iload_n 1, 1) := by decide +kernel
theorem dX11_workOut_199 : decode cX11_workOut 199 = .ok (.imul, 1) := by decide +kernel
theorem dX11_workOut_200 : decode cX11_workOut 200 = .ok (.iload_n 2, 1) := by decide +kernel
theorem dX11_workOut_201 : decode cX11_workOut 201 = .ok (.iadd, 1) := by decide +kernel
theorem dX11_workOut_202 : decode cX11_workOut 202 = .ok (.iaload, 1) := by decide +kernel
theorem dX11_workOut_203 : decode cX11_workOut 203 = .ok (.aload_n 0, 1) := by decide +kernel
theorem dX11_workOut_204 : decode cX11_workOut 204 = .ok (.getfield 75, 3) := by decide +kernel
theorem dX11_workOut_207 : decode cX11_workOut 207 = .ok (.iload_n 1, 1) := by decide +kernel
theorem dX11_workOut_208 : decode cX11_workOut 208 = .ok (.iconst 1, 1) := by decide +kernel
theorem dX11_workOut_209 : decode cX11_workOut 209 = .ok (.iload_n 2, 1) := by decide +kernel
theorem dX11_workOut_210 : decode cX11_workOut 210 = .ok (.ishl, 1) := by decide +kernel
theorem dX11_workOut_211 : decode cX11_workOut 211 = .ok (.iconst (-1), 1) := by decide +kernel
theorem dX11_workOut_212 : decode cX11_workOut 212 = .ok (.ixor, 1) := by decide +kernel
theorem dX11_workOut_213 : decode cX11_workOut 213 = .ok (.iand, 1) := by decide +kernel
theorem dX11_workOut_214 : decode cX11_workOut 214 = .ok (.iaload, 1) := by decide +kernel
theorem dX11_workOut_215 : decode cX11_workOut 215 = .ok (.iadd, 1) := by decide +kernel
theorem dX11_workOut_216 : decode cX11_workOut 216 = .ok (.istore_n 3, 1) := by decide +kernel
theorem dX11_workOut_217 : decode cX11_workOut 217 = .ok (.aload_n 0, 1) := by decide +kernel
theorem dX11_workOut_218 : decode cX11_workOut 218 = .ok (.getfield 75, 3) := by decide +kernel
theorem dX11_workOut_221 : decode cX11_workOut 221 = .ok (.iload_n 1, 1) := by decide +kernel
theorem dX11_workOut_222 : decode cX11_workOut 222 = .ok (.iload_n 3, 1) := by decide +kernel
theorem dX11_workOut_223 : decode cX11_workOut 223 = .ok (.aload_n 0, 1) := by decide +kernel
theorem dX11_workOut_224 : decode cX11_workOut 224 = .ok (.getfield 75, 3) := by decide +kernel
theorem dX11_workOut_227 : decode cX11_workOut 227 = .ok (.iload_n 1, 1) := by decide +kernel
theorem dX11_workOut_228 : decode cX11_workOut 228 = .ok (.iaload, 1) := by decide +kernel
theorem dX11_workOut_229 : decode cX11_workOut 229 = .ok (.if_icmp .ge 7, 3) := by decide +kernel
theorem dX11_workOut_232 : decode cX11_workOut 232 = .ok (.iload_n 3, 1) := by decide +kernel
theorem dX11_workOut_233 : decode cX11_workOut 233 = .ok (.goto 9, 3) := by decide +kernel
theorem dX11_workOut_236 : decode cX11_workOut 236 = .ok (.aload_n 0, 1) := by decide +kernel
theorem dX11_workOut_237 : decode cX11_workOut 237 = .ok (.getfield 75, 3) := by decide +kernel
theorem dX11_workOut_240 : decode cX11_workOut 240 = .ok (.iload_n 1, 1) := by decide +kernel
theorem dX11_workOut_241 : decode cX11_workOut 241 = .ok (.iaload, 1) := by decide +kernel
theorem dX11_workOut_242 : decode cX11_workOut 242 = .ok (.iastore, 1) := by decide +kernel
theorem dX11_workOut_243 : decode cX11_workOut 243 = .ok (.iinc 2 1, 3) := by decide +kernel
theorem dX11_workOut_246 : decode cX11_workOut 246 = .ok (.goto (-94), 3) := by decide +kernel
theorem dX11_workOut_249 : decode cX11_workOut 249 = .ok (.iinc 1 1, 3) := by decide +kernel
theorem dX11_workOut_252 : decode cX11_workOut 252 = .ok (.goto (-161), 3) := by decide +kernel
theorem dX11_workOut_255 : decode cX11_workOut 255 = .ok (.iconst 1, 1) := by decide +kernel
theorem dX11_workOut_256 : decode cX11_workOut 256 = .ok (.ireturn, 1) := by decide +kernel
theorem dX11_best_0 : decode cX11_best 0 = .ok (.aload_n 0, 1) := by decide +kernel
theorem dX11_best_1 : decode cX11_best 1 = .ok (.invokevirtual 192, 3) := by decide +kernel
theorem dX11_best_4 : decode cX11_best 4 = .ok (.ifCond .eq 19, 3) := by decide +kernel
theorem dX11_best_7 : decode cX11_best 7 = .ok (.aload_n 0, 1) := by decide +kernel
theorem dX11_best_8 : decode cX11_best 8 = .ok (.getfield 75, 3) := by decide +kernel
theorem dX11_best_11 : decode cX11_best 11 = .ok (.iconst 1, 1) := by decide +kernel
theorem dX11_best_12 : decode cX11_best 12 = .ok (.aload_n 0, 1) := by decide +kernel
theorem dX11_best_13 : decode cX11_best 13 = .ok (.getfield 189, 3) := by decide +kernel
theorem dX11_best_16 : decode cX11_best 16 = .ok (.ishl, 1) := by decide +kernel
theorem dX11_best_17 : decode cX11_best 17 = .ok (.iconst 1, 1) := by decide +kernel
theorem dX11_best_18 : decode cX11_best 18 = .ok (.isub, 1) := by decide +kernel
theorem dX11_best_19 : decode cX11_best 19 = .ok (.iaload, 1) := by decide +kernel
theorem dX11_best_20 : decode cX11_best 20 = .ok (.goto 5, 3) := by decide +kernel
theorem dX11_best_23 : decode cX11_best 23 = .ok (.bipush (-5), 2) := by decide +kernel
theorem dX11_best_25 : decode cX11_best 25 = .ok (.ireturn, 1) := by decide +kernel
theorem dX11_order_0 : decode cX11_order 0 = .ok (.iload_n 1, 1) := by decide +kernel
theorem dX11_order_1 : decode cX11_order 1 = .ok (.ifCond .ge 5, 3) := by decide +kernel
theorem dX11_order_4 : decode cX11_order 4 = .ok (.iconst (-1), 1) := by decide +kernel
theorem dX11_order_5 : decode cX11_order 5 = .ok (.ireturn, 1) := by decide +kernel
theorem dX11_order_6 : decode cX11_order 6 = .ok (.aload_n 0, 1) := by decide +kernel
theorem dX11_order_7 : decode cX11_order 7 = .ok (.invokevirtual 192, 3) := by decide +kernel
theorem dX11_order_10 : decode cX11_order 10 = .ok (.ifCond .ne 6, 3) := by decide +kernel
theorem dX11_order_13 : decode cX11_order 13 = .ok (.bipush (-5), 2) := by decide +kernel
theorem dX11_order_15 : decode cX11_order 15 = .ok (.ireturn, 1) := by decide +kernel
theorem dX11_order_16 : decode cX11_order 16 = .ok (.iload_n 1, 1) := by decide +kernel
theorem dX11_order_17 : decode cX11_order 17 = .ok (.aload_n 0, 1) := by decide +kernel
theorem dX11_order_18 : decode cX11_order 18 = .ok (.getfield 189, 3) := by decide +kernel
theorem dX11_order_21 : decode cX11_order 21 = .ok (.if_icmp .lt 6, 3) := by decide +kernel
theorem dX11_order_24 : decode cX11_order 24 = .ok (.bipush (-3), 2) := by decide +kernel
theorem dX11_order_26 : decode cX11_order 26 = .ok (.ireturn, 1) := by decide +kernel
theorem dX11_order_27 : decode cX11_order 27 = .ok (.iconst 1, 1) := by decide +kernel
theorem dX11_order_28 : decode cX11_order 28 = .ok (.aload_n 0, 1) := by decide +kernel
theorem dX11_order_29 : decode cX11_order 29 = .ok (.getfield 189, 3) := by decide +kernel
theorem dX11_order_32 : decode cX11_order 32 = .ok (.ishl, 1) := by decide +kernel
theorem dX11_order_33 : decode cX11_order 33 = .ok (.iconst 1, 1) := by decide +kernel
theorem dX11_order_34 : decode cX11_order 34 = .ok (.isub, 1) := by decide +kernel
theorem dX11_order_35 : decode cX11_order 35 = .ok (.istore_n 2, 1) := by decide +kernel
theorem dX11_order_36 : decode cX11_order 36 = .ok (.iconst 0, 1) := by decide +kernel
theorem dX11_order_37 : decode cX11_order 37 = .ok (.istore_n 3, 1) := by decide +kernel
theorem dX11_order_38 : decode cX11_order 38 = .ok (.iconst 0, 1) := by decide +kernel
theorem dX11_order_39 : decode cX11_order 39 = .ok (.istore 4, 2) := by decide +kernel
theorem dX11_order_41 : decode cX11_order 41 = .ok (.iload 4, 2) := by decide +kernel
theorem dX11_order_43 : decode cX11_order 43 = .ok (.iload_n 1, 1) := by decide +kernel
theorem dX11_order_44 : decode cX11_order 44 = .ok (.if_icmp .gt 66, 3) := by decide +kernel
theorem dX11_order_47 : decode cX11_order 47 = .ok (.iconst 0, 1) := by decide +kernel
theorem dX11_order_48 : decode cX11_order 48 = .ok (.istore_n 3, 1) := by decide +kernel
theorem dX11_order_49 : decode cX11_order 49 = .ok (.iload_n 2, 1) := by decide +kernel
theorem dX11_order_50 : decode cX11_order 50 = .ok (.iload_n 3, 1) := by decide +kernel
theorem dX11_order_51 : decode cX11_order 51 = .ok (.ishr, 1) := by decide +kernel
theorem dX11_order_52 : decode cX11_order 52 = .ok (.iconst 1, 1) := by decide +kernel
theorem dX11_order_53 : decode cX11_order 53 = .ok (.iand, 1) := by decide +kernel
theorem dX11_order_54 : decode cX11_order 54 = .ok (.ifCond .eq 36, 3) := by decide +kernel
theorem dX11_order_57 : decode cX11_order 57 = .ok (.aload_n 0, 1) := by decide +kernel
theorem dX11_order_58 : decode cX11_order 58 = .ok (.getfield 78, 3) := by decide +kernel
theorem dX11_order_61 : decode cX11_order 61 = .ok (.bipush 6, 2) := by decide +kernel
theorem dX11_order_63 : decode cX11_order 63 = .ok (.iload_n 2, 1) := by decide +kernel
theorem dX11_order_64 : decode cX11_order 64 = .ok (.imul, 1) := by decide +kernel
theorem dX11_order_65 : decode cX11_order 65 = .ok (.iload_n 3, 1) := by decide +kernel
theorem dX11_order_66 : decode cX11_order 66 = .ok (.iadd, 1) := by decide +kernel
theorem dX11_order_67 : decode cX11_order 67 = .ok (.iaload, 1) := by decide +kernel
theorem dX11_order_68 : decode cX11_order 68 = .ok (.aload_n 0, 1) := by decide +kernel
theorem dX11_order_69 : decode cX11_order 69 = .ok (.getfield 75, 3) := by decide +kernel
theorem dX11_order_72 : decode cX11_order 72 = .ok (.iload_n 2, 1) := by decide +kernel
theorem dX11_order_73 : decode cX11_order 73 = .ok (.iconst 1, 1) := by decide +kernel
theorem dX11_order_74 : decode cX11_order 74 = .ok (.iload_n 3, 1) := by decide +kernel
theorem dX11_order_75 : decode cX11_order 75 = .ok (.ishl, 1) := by decide +kernel
theorem dX11_order_76 : decode cX11_order 76 = .ok (.iconst (-1), 1) := by decide +kernel
theorem dX11_order_77 : decode cX11_order 77 = .ok (.ixor, 1) := by decide +kernel
theorem dX11_order_78 : decode cX11_order 78 = .ok (.iand, 1) := by decide +kernel
theorem dX11_order_79 : decode cX11_order 79 = .ok (.iaload, 1) := by decide +kernel
theorem dX11_order_80 : decode cX11_order 80 = .ok (.iadd, 1) := by decide +kernel
theorem dX11_order_81 : decode cX11_order 81 = .ok (.aload_n 0, 1) := by decide +kernel
theorem dX11_order_82 : decode cX11_order 82 = .ok (.getfield 75, 3) := by decide +kernel
theorem dX11_order_85 : decode cX11_order 85 = .ok (.iload_n 2, 1) := by decide +kernel
theorem dX11_order_86 : decode cX11_order 86 = .ok (.iaload, 1) := by decide +kernel
theorem dX11_order_87 : decode cX11_order 87 = .ok (.if_icmp .eq 9, 3) := by decide +kernel
theorem dX11_order_90 : decode cX11_order 90 = .ok (.iinc 3 1, 3) := by decide +kernel
theorem dX11_order_93 : decode cX11_order 93 = .ok (.goto (-44), 3) := by decide +kernel
theorem dX11_order_96 : decode cX11_order 96 = .ok (.iload_n 2, 1) := by decide +kernel
theorem dX11_order_97 : decode cX11_order 97 = .ok (.iconst 1, 1) := by decide +kernel
theorem dX11_order_98 : decode cX11_order 98 = .ok (.iload_n 3, 1) := by decide +kernel
theorem dX11_order_99 : decode cX11_order 99 = .ok (.ishl, 1) := by decide +kernel
theorem dX11_order_100 : decode cX11_order 100 = .ok (.iconst (-1), 1) := by decide +kernel
theorem dX11_order_101 : decode cX11_order 101 = .ok (.ixor, 1) := by decide +kernel
theorem dX11_order_102 : decode cX11_order 102 = .ok (.iand, 1) := by decide +kernel
theorem dX11_order_103 : decode cX11_order 103 = .ok (.istore_n 2, 1) := by decide +kernel
theorem dX11_order_104 : decode cX11_order 104 = .ok (.iinc 4 1, 3) := by decide +kernel
theorem dX11_order_107 : decode cX11_order 107 = .ok (.goto (-66), 3) := by decide +kernel
theorem dX11_order_110 : decode cX11_order 110 = .ok (.aload_n 0, 1) := by decide +kernel
theorem dX11_order_111 : decode cX11_order 111 = .ok (.getfield 72, 3) := by decide +kernel
theorem dX11_order_114 : decode cX11_order 114 = .ok (.iload_n 3, 1) := by decide +kernel
theorem dX11_order_115 : decode cX11_order 115 = .ok (.iaload, 1) := by decide +kernel
theorem dX11_order_116 : decode cX11_order 116 = .ok (.ireturn, 1) := by decide +kernel
theorem dX11_dries_0 : decode cX11_dries 0 = .ok (.aload_n 0, 1) := by decide +kernel
theorem dX11_dries_1 : decode cX11_dries 1 = .ok (.aload_n 0, 1) := by decide +kernel
theorem dX11_dries_2 : decode cX11_dries 2 = .ok (.iload_n 1, 1) := by decide +kernel
theorem dX11_dries_3 : decode cX11_dries 3 = .ok (.invokevirtual 133, 3) := by decide +kernel
theorem dX11_dries_6 : decode cX11_dries 6 = .ok (.putfield 196, 3) := by decide +kernel
theorem dX11_dries_9 : decode cX11_dries 9 = .ok (.iconst 0, 1) := by decide +kernel
theorem dX11_dries_10 : decode cX11_dries 10 = .ok (.istore_n 2, 1) := by decide +kernel
theorem dX11_dries_11 : decode cX11_dries 11 = .ok (.aload_n 0, 1) := by decide +kernel
theorem dX11_dries_12 : decode cX11_dries 12 = .ok (.getfield 32, 3) := by decide +kernel
theorem dX11_dries_15 : decode cX11_dries 15 = .ok (.iload_n 1, 1) := by decide +kernel
theorem dX11_dries_16 : decode cX11_dries 16 = .ok (.iaload, 1) := by decide +kernel
theorem dX11_dries_17 : decode cX11_dries 17 = .ok (.iconst 1, 1) := by decide +kernel
theorem dX11_dries_18 : decode cX11_dries 18 = .ok (.iadd, 1) := by decide +kernel
theorem dX11_dries_19 : decode cX11_dries 19 = .ok (.istore_n 3, 1) := by decide +kernel
theorem dX11_dries_20 : decode cX11_dries 20 = .ok (.iload_n 3, 1) := by decide +kernel
theorem dX11_dries_21 : decode cX11_dries 21 = .ok (.bipush 30, 2) := by decide +kernel
theorem dX11_dries_23 : decode cX11_dries 23 = .ok (.if_icmp .gt 59, 3) := by decide +kernel
theorem dX11_dries_26 : decode cX11_dries 26 = .ok (.aload_n 0, 1) := by decide +kernel
theorem dX11_dries_27 : decode cX11_dries 27 = .ok (.getfield 63, 3) := by decide +kernel
theorem dX11_dries_30 : decode cX11_dries 30 = .ok (.iload_n 3, 1) := by decide +kernel
theorem dX11_dries_31 : decode cX11_dries 31 = .ok (.baload, 1) := by decide +kernel
theorem dX11_dries_32 : decode cX11_dries 32 = .ok (.ifCond .eq 34, 3) := by decide +kernel
theorem dX11_dries_35 : decode cX11_dries 35 = .ok (.iload_n 2, 1) := by decide +kernel
theorem dX11_dries_36 : decode cX11_dries 36 = .ok (.iload_n 2, 1) := by decide +kernel
theorem dX11_dries_37 : decode cX11_dries 37 = .ok (.ifCond .le 7, 3) := by decide +kernel
theorem dX11_dries_40 : decode cX11_dries 40 = .ok (.iconst 1, 1) := by decide +kernel
theorem dX11_dries_41 : decode cX11_dries 41 = .ok (.goto 4, 3) := by decide +kernel
theorem dX11_dries_44 : decode cX11_dries 44 = .ok (.iconst 0, 1) := by decide +kernel
theorem dX11_dries_45 : decode cX11_dries 45 = .ok (.isub, 1) := by decide +kernel
theorem dX11_dries_46 : decode cX11_dries 46 = .ok (.istore_n 2, 1) := by decide +kernel
theorem dX11_dries_47 : decode cX11_dries 47 = .ok (.aload_n 0, 1) := by decide +kernel
theorem dX11_dries_48 : decode cX11_dries 48 = .ok (.dup, 1) := by decide +kernel
theorem dX11_dries_49 : decode cX11_dries 49 = .ok (.getfield 196, 3) := by decide +kernel
theorem dX11_dries_52 : decode cX11_dries 52 = .ok (.aload_n 0, 1) := by decide +kernel
theorem dX11_dries_53 : decode cX11_dries 53 = .ok (.getfield 196, 3) := by decide +kernel
theorem dX11_dries_56 : decode cX11_dries 56 = .ok (.bipush 10, 2) := by decide +kernel
theorem dX11_dries_58 : decode cX11_dries 58 = .ok (.idiv, 1) := by decide +kernel
theorem dX11_dries_59 : decode cX11_dries 59 = .ok (.isub, 1) := by decide +kernel
theorem dX11_dries_60 : decode cX11_dries 60 = .ok (.putfield 196, 3) := by decide +kernel
theorem dX11_dries_63 : decode cX11_dries 63 = .ok (.goto 13, 3) := by decide +kernel
theorem dX11_dries_66 : decode cX11_dries 66 = .ok (.iinc 2 1, 3) := by decide +kernel
theorem dX11_dries_69 : decode cX11_dries 69 = .ok (.iload_n 2, 1) := by decide +kernel
theorem dX11_dries_70 : decode cX11_dries 70 = .ok (.iconst 3, 1) := by decide +kernel
theorem dX11_dries_71 : decode cX11_dries 71 = .ok (.if_icmp .ne 5, 3) := by decide +kernel
theorem dX11_dries_74 : decode cX11_dries 74 = .ok (.iload_n 3, 1) := by decide +kernel
theorem dX11_dries_75 : decode cX11_dries 75 = .ok (.ireturn, 1) := by decide +kernel
theorem dX11_dries_76 : decode cX11_dries 76 = .ok (.iinc 3 1, 3) := by decide +kernel
theorem dX11_dries_79 : decode cX11_dries 79 = .ok (.goto (-59), 3) := by decide +kernel
theorem dX11_dries_82 : decode cX11_dries 82 = .ok (.aload_n 0, 1) := by decide +kernel
theorem dX11_dries_83 : decode cX11_dries 83 = .ok (.iconst 0, 1) := by decide +kernel
theorem dX11_dries_84 : decode cX11_dries 84 = .ok (.putfield 196, 3) := by decide +kernel
theorem dX11_dries_87 : decode cX11_dries 87 = .ok (.bipush (-4), 2) := by decide +kernel
theorem dX11_dries_89 : decode cX11_dries 89 = .ok (.ireturn, 1) := by decide +kernel
theorem dX11_dry_0 : decode cX11_dry 0 = .ok (.iload_n 1, 1) := by decide +kernel
theorem dX11_dry_1 : decode cX11_dry 1 = .ok (.invokestatic 121, 3) := by decide +kernel
theorem dX11_dry_4 : decode cX11_dry 4 = .ok (.ifCond .ne 7, 3) := by decide +kernel
theorem dX11_dry_7 : decode cX11_dry 7 = .ok (.iconst (-1), 1) := by decide +kernel
theorem dX11_dry_8 : decode cX11_dry 8 = .ok (.goto 22, 3) := by decide +kernel
theorem dX11_dry_11 : decode cX11_dry 11 = .ok (.aload_n 0, 1) := by decide +kernel
theorem dX11_dry_12 : decode cX11_dry 12 = .ok (.getfield 29, 3) := by decide +kernel
theorem dX11_dry_15 : decode cX11_dry 15 = .ok (.iload_n 1, 1) := by decide +kernel
theorem dX11_dry_16 : decode cX11_dry 16 = .ok (.baload, 1) := by decide +kernel
theorem dX11_dry_17 : decode cX11_dry 17 = .ok (.ifCond .ne 8, 3) := by decide +kernel
theorem dX11_dry_20 : decode cX11_dry 20 = .ok (.bipush (-3), 2) := by decide +kernel
theorem dX11_dry_22 : decode cX11_dry 22 = .ok (.goto 8, 3) := by decide +kernel
theorem dX11_dry_25 : decode cX11_dry 25 = .ok (.aload_n 0, 1) := by decide +kernel
theorem dX11_dry_26 : decode cX11_dry 26 = .ok (.iload_n 1, 1) := by decide +kernel
theorem dX11_dry_27 : decode cX11_dry 27 = .ok (.invokevirtual 199, 3) := by decide +kernel
theorem dX11_dry_30 : decode cX11_dry 30 = .ok (.ireturn, 1) := by decide +kernel
theorem dX11_inBarn_0 : decode cX11_inBarn 0 = .ok (.aload_n 0, 1) := by decide +kernel
theorem dX11_inBarn_1 : decode cX11_inBarn 1 = .ok (.iload_n 1, 1) := by decide +kernel
theorem dX11_inBarn_2 : decode cX11_inBarn 2 = .ok (.invokevirtual 199, 3) := by decide +kernel
theorem dX11_inBarn_5 : decode cX11_inBarn 5 = .ok (.istore_n 2, 1) := by decide +kernel
theorem dX11_inBarn_6 : decode cX11_inBarn 6 = .ok (.aload_n 0, 1) := by decide +kernel
theorem dX11_inBarn_7 : decode cX11_inBarn 7 = .ok (.getfield 196, 3) := by decide +kernel
theorem dX11_inBarn_10 : decode cX11_inBarn 10 = .ok (.ireturn, 1) := by decide +kernel
theorem dX11_barn_0 : decode cX11_barn 0 = .ok (.iload_n 1, 1) := by decide +kernel
theorem dX11_barn_1 : decode cX11_barn 1 = .ok (.invokestatic 121, 3) := by decide +kernel
theorem dX11_barn_4 : decode cX11_barn 4 = .ok (.ifCond .ne 7, 3) := by decide +kernel
theorem dX11_barn_7 : decode cX11_barn 7 = .ok (.iconst (-1), 1) := by decide +kernel
theorem dX11_barn_8 : decode cX11_barn 8 = .ok (.goto 22, 3) := by decide +kernel
theorem dX11_barn_11 : decode cX11_barn 11 = .ok (.aload_n 0, 1) := by decide +kernel
theorem dX11_barn_12 : decode cX11_barn 12 = .ok (.getfield 29, 3) := by decide +kernel
theorem dX11_barn_15 : decode cX11_barn 15 = .ok (.iload_n 1, 1) := by decide +kernel
theorem dX11_barn_16 : decode cX11_barn 16 = .ok (.baload, 1) := by decide +kernel
theorem dX11_barn_17 : decode cX11_barn 17 = .ok (.ifCond .ne 8, 3) := by decide +kernel
theorem dX11_barn_20 : decode cX11_barn 20 = .ok (.bipush (-3), 2) := by decide +kernel
theorem dX11_barn_22 : decode cX11_barn 22 = .ok (.goto 8, 3) := by decide +kernel
theorem dX11_barn_25 : decode cX11_barn 25 = .ok (.aload_n 0, 1) := by decide +kernel
theorem dX11_barn_26 : decode cX11_barn 26 = .ok (.iload_n 1, 1) := by decide +kernel
theorem dX11_barn_27 : decode cX11_barn 27 = .ok (.invokevirtual 202, 3) := by decide +kernel
theorem dX11_barn_30 : decode cX11_barn 30 = .ok (.ireturn, 1) := by decide +kernel
theorem dX11_tithe_0 : decode cX11_tithe 0 = .ok (.aload_n 0, 1) := by decide +kernel
theorem dX11_tithe_1 : decode cX11_tithe 1 = .ok (.iload_n 1, 1) := by decide +kernel
theorem dX11_tithe_2 : decode cX11_tithe 2 = .ok (.invokevirtual 126, 3) := by decide +kernel
theorem dX11_tithe_5 : decode cX11_tithe 5 = .ok (.ifCond .ne 5, 3) := by decide +kernel
theorem dX11_tithe_8 : decode cX11_tithe 8 = .ok (.iconst (-1), 1) := by decide +kernel
theorem dX11_tithe_9 : decode cX11_tithe 9 = .ok (.ireturn, 1) := by decide +kernel
theorem dX11_tithe_10 : decode cX11_tithe 10 = .ok (.iconst 0, 1) := by decide +kernel
theorem dX11_tithe_11 : decode cX11_tithe 11 = .ok (.istore_n 2, 1) := by decide +kernel
theorem dX11_tithe_12 : decode cX11_tithe 12 = .ok (.iconst 0, 1) := by decide +kernel
theorem dX11_tithe_13 : decode cX11_tithe 13 = .ok (.istore_n 3, 1) := by decide +kernel
theorem dX11_tithe_14 : decode cX11_tithe 14 = .ok (.iload_n 3, 1) := by decide +kernel
theorem dX11_tithe_15 : decode cX11_tithe 15 = .ok (.bipush 24, 2) := by decide +kernel
theorem dX11_tithe_17 : decode cX11_tithe 17 = .ok (.if_icmp .ge 39, 3) := by decide +kernel
theorem dX11_tithe_20 : decode cX11_tithe 20 = .ok (.iload_n 2, 1) := by decide +kernel
theorem dX11_tithe_21 : decode cX11_tithe 21 = .ok (.aload_n 0, 1) := by decide +kernel
theorem dX11_tithe_22 : decode cX11_tithe 22 = .ok (.iload_n 1, 1) := by decide +kernel
theorem dX11_tithe_23 : decode cX11_tithe 23 = .ok (.iload_n 3, 1) := by decide +kernel
theorem dX11_tithe_24 : decode cX11_tithe 24 = .ok (.invokevirtual 139, 3) := by decide +kernel
theorem dX11_tithe_27 : decode cX11_tithe 27 = .ok (.ifCond .eq 20, 3) := by decide +kernel
theorem dX11_tithe_30 : decode cX11_tithe 30 = .ok (.aload_n 0, 1) := by decide +kernel
theorem dX11_tithe_31 : decode cX11_tithe 31 = .ok (.getfield 29, 3) := by decide +kernel
theorem dX11_tithe_34 : decode cX11_tithe 34 = .ok (.iload_n 3, 1) := by decide +kernel
theorem dX11_tithe_35 : decode cX11_tithe 35 = .ok (.baload, 1) := by decide +kernel
theorem dX11_tithe_36 : decode cX11_tithe 36 = .ok (.ifCond .eq 11, 3) := by decide +kernel
theorem dX11_tithe_39 : decode cX11_tithe 39 = .ok (.aload_n 0, 1) := by decide +kernel
theorem dX11_tithe_40 : decode cX11_tithe 40 = .ok (.iload_n 3, 1) := by decide +kernel
theorem dX11_tithe_41 : decode cX11_tithe 41 = .ok (.invokevirtual 202, 3) := by decide +kernel
theorem dX11_tithe_44 : decode cX11_tithe 44 = .ok (.goto 4, 3) := by decide +kernel
theorem dX11_tithe_47 : decode cX11_tithe 47 = .ok (.iconst 0, 1) := by decide +kernel
theorem dX11_tithe_48 : decode cX11_tithe 48 = .ok (.iadd, 1) := by decide +kernel
theorem dX11_tithe_49 : decode cX11_tithe 49 = .ok (.istore_n 2, 1) := by decide +kernel
theorem dX11_tithe_50 : decode cX11_tithe 50 = .ok (.iinc 3 1, 3) := by decide +kernel
theorem dX11_tithe_53 : decode cX11_tithe 53 = .ok (.goto (-39), 3) := by decide +kernel
theorem dX11_tithe_56 : decode cX11_tithe 56 = .ok (.iload_n 2, 1) := by decide +kernel
theorem dX11_tithe_57 : decode cX11_tithe 57 = .ok (.bipush 10, 2) := by decide +kernel
theorem dX11_tithe_59 : decode cX11_tithe 59 = .ok (.idiv, 1) := by decide +kernel
theorem dX11_tithe_60 : decode cX11_tithe 60 = .ok (.ireturn, 1) := by decide +kernel
theorem dX11_settle_0 : decode cX11_settle 0 = .ok (.iconst 0, 1) := by decide +kernel
theorem dX11_settle_1 : decode cX11_settle 1 = .ok (.istore_n 1, 1) := by decide +kernel
theorem dX11_settle_2 : decode cX11_settle 2 = .ok (.iload_n 1, 1) := by decide +kernel
theorem dX11_settle_3 : decode cX11_settle 3 = .ok (.aload_n 0, 1) := by decide +kernel
theorem dX11_settle_4 : decode cX11_settle 4 = .ok (.getfield 118, 3) := by decide +kernel
theorem dX11_settle_7 : decode cX11_settle 7 = .ok (.if_icmp .ge 92, 3) := by decide +kernel
theorem dX11_settle_10 : decode cX11_settle 10 = .ok (.aload_n 0, 1) := by decide +kernel
theorem dX11_settle_11 : decode cX11_settle 11 = .ok (.getfield 81, 3) := by decide +kernel
theorem dX11_settle_14 : decode cX11_settle 14 = .ok (.iload_n 1, 1) := by decide +kernel
theorem dX11_settle_15 : decode cX11_settle 15 = .ok (.aload_n 0, 1) := by decide +kernel
theorem dX11_settle_16 : decode cX11_settle 16 = .ok (.iload_n 1, 1) := by decide +kernel
theorem dX11_settle_17 : decode cX11_settle 17 = .ok (.invokevirtual 146, 3) := by decide +kernel
theorem dX11_settle_20 : decode cX11_settle 20 = .ok (.bipush 10, 2) := by decide +kernel
theorem dX11_settle_22 : decode cX11_settle 22 = .ok (.aload_n 0, 1) := by decide +kernel
theorem dX11_settle_23 : decode cX11_settle 23 = .ok (.getfield 50, 3) := by decide +kernel
theorem dX11_settle_26 : decode cX11_settle 26 = .ok (.iload_n 1, 1) := by decide +kernel
theorem dX11_settle_27 : decode cX11_settle 27 = .ok (.iaload, 1) := by decide +kernel
theorem dX11_settle_28 : decode cX11_settle 28 = .ok (.imul, 1) := by decide +kernel
theorem dX11_settle_29 : decode cX11_settle 29 = .ok (.iadd, 1) := by decide +kernel
theorem dX11_settle_30 : decode cX11_settle 30 = .ok (.iastore, 1) := by decide +kernel
theorem dX11_settle_31 : decode cX11_settle 31 = .ok (.aload_n 0, 1) := by decide +kernel
theorem dX11_settle_32 : decode cX11_settle 32 = .ok (.getfield 84, 3) := by decide +kernel
theorem dX11_settle_35 : decode cX11_settle 35 = .ok (.iload_n 1, 1) := by decide +kernel
theorem dX11_settle_36 : decode cX11_settle 36 = .ok (.aload_n 0, 1) := by decide +kernel
theorem dX11_settle_37 : decode cX11_settle 37 = .ok (.getfield 81, 3) := by decide +kernel
theorem dX11_settle_40 : decode cX11_settle 40 = .ok (.iload_n 1, 1) := by decide +kernel
theorem dX11_settle_41 : decode cX11_settle 41 = .ok (.iaload, 1) := by decide +kernel
theorem dX11_settle_42 : decode cX11_settle 42 = .ok (.aload_n 0, 1) := by decide +kernel
theorem dX11_settle_43 : decode cX11_settle 43 = .ok (.getfield 38, 3) := by decide +kernel
theorem dX11_settle_46 : decode cX11_settle 46 = .ok (.iload_n 1, 1) := by decide +kernel
theorem dX11_settle_47 : decode cX11_settle 47 = .ok (.iaload, 1) := by decide +kernel
theorem dX11_settle_48 : decode cX11_settle 48 = .ok (.if_icmp .ge 12, 3) := by decide +kernel
theorem dX11_settle_51 : decode cX11_settle 51 = .ok (.aload_n 0, 1) := by decide +kernel
theorem dX11_settle_52 : decode cX11_settle 52 = .ok (.getfield 81, 3) := by decide +kernel
theorem dX11_settle_55 : decode cX11_settle 55 = .ok (.iload_n 1, 1) := by decide +kernel
theorem dX11_settle_56 : decode cX11_settle 56 = .ok (.iaload, 1) := by decide +kernel
theorem dX11_settle_57 : decode cX11_settle 57 = .ok (.goto 9, 3) := by decide +kernel
theorem dX11_settle_60 : decode cX11_settle 60 = .ok (.aload_n 0, 1) := by decide +kernel
theorem dX11_settle_61 : decode cX11_settle 61 = .ok (.getfield 38, 3) := by decide +kernel
theorem dX11_settle_64 : decode cX11_settle 64 = .ok (.iload_n 1, 1) := by decide +kernel
theorem dX11_settle_65 : decode cX11_settle 65 = .ok (.iaload, 1) := by decide +kernel
theorem dX11_settle_66 : decode cX11_settle 66 = .ok (.iastore, 1) := by decide +kernel
theorem dX11_settle_67 : decode cX11_settle 67 = .ok (.aload_n 0, 1) := by decide +kernel
theorem dX11_settle_68 : decode cX11_settle 68 = .ok (.getfield 90, 3) := by decide +kernel
theorem dX11_settle_71 : decode cX11_settle 71 = .ok (.iload_n 1, 1) := by decide +kernel
theorem dX11_settle_72 : decode cX11_settle 72 = .ok (.aload_n 0, 1) := by decide +kernel
theorem dX11_settle_73 : decode cX11_settle 73 = .ok (.getfield 38, 3) := by decide +kernel
theorem dX11_settle_76 : decode cX11_settle 76 = .ok (.iload_n 1, 1) := by decide +kernel
theorem dX11_settle_77 : decode cX11_settle 77 = .ok (.iaload, 1) := by decide +kernel
theorem dX11_settle_78 : decode cX11_settle 78 = .ok (.aload_n 0, 1) := by decide +kernel
theorem dX11_settle_79 : decode cX11_settle 79 = .ok (.getfield 84, 3) := by decide +kernel
theorem dX11_settle_82 : decode cX11_settle 82 = .ok (.iload_n 1, 1) := by decide +kernel
theorem dX11_settle_83 : decode cX11_settle 83 = .ok (.iaload, 1) := by decide +kernel
theorem dX11_settle_84 : decode cX11_settle 84 = .ok (.isub, 1) := by decide +kernel
theorem dX11_settle_85 : decode cX11_settle 85 = .ok (.iastore, 1) := by decide +kernel
theorem dX11_settle_86 : decode cX11_settle 86 = .ok (.aload_n 0, 1) := by decide +kernel
theorem dX11_settle_87 : decode cX11_settle 87 = .ok (.getfield 87, 3) := by decide +kernel
theorem dX11_settle_90 : decode cX11_settle 90 = .ok (.iload_n 1, 1) := by decide +kernel
theorem dX11_settle_91 : decode cX11_settle 91 = .ok (.iconst 0, 1) := by decide +kernel
theorem dX11_settle_92 : decode cX11_settle 92 = .ok (.iastore, 1) := by decide +kernel
theorem dX11_settle_93 : decode cX11_settle 93 = .ok (.iinc 1 1, 3) := by decide +kernel
theorem dX11_settle_96 : decode cX11_settle 96 = .ok (.goto (-94), 3) := by decide +kernel
theorem dX11_settle_99 : decode cX11_settle 99 = .ok (.iconst 0, 1) := by decide +kernel
theorem dX11_settle_100 : decode cX11_settle 100 = .ok (.istore_n 1, 1) := by decide +kernel
theorem dX11_settle_101 : decode cX11_settle 101 = .ok (.iload_n 1, 1) := by decide +kernel
theorem dX11_settle_102 : decode cX11_settle 102 = .ok (.aload_n 0, 1) := by decide +kernel
theorem dX11_settle_103 : decode cX11_settle 103 = .ok (.getfield 118, 3) := by decide +kernel
theorem dX11_settle_106 : decode cX11_settle 106 = .ok (.if_icmp .ge 78, 3) := by decide +kernel
theorem dX11_settle_109 : decode cX11_settle 109 = .ok (.aload_n 0, 1) := by decide +kernel
theorem dX11_settle_110 : decode cX11_settle 110 = .ok (.getfield 47, 3) := by decide +kernel
theorem dX11_settle_113 : decode cX11_settle 113 = .ok (.iload_n 1, 1) := by decide +kernel
theorem dX11_settle_114 : decode cX11_settle 114 = .ok (.iaload, 1) := by decide +kernel
theorem dX11_settle_115 : decode cX11_settle 115 = .ok (.istore_n 2, 1) := by decide +kernel
theorem dX11_settle_116 : decode cX11_settle 116 = .ok (.iload_n 2, 1) := by decide +kernel
theorem dX11_settle_117 : decode cX11_settle 117 = .ok (.ifCond .ge 6, 3) := by decide +kernel
theorem dX11_settle_120 : decode cX11_settle 120 = .ok (.goto 58, 3) := by decide +kernel
theorem dX11_settle_123 : decode cX11_settle 123 = .ok (.aload_n 0, 1) := by decide +kernel
theorem dX11_settle_124 : decode cX11_settle 124 = .ok (.getfield 81, 3) := by decide +kernel
theorem dX11_settle_127 : decode cX11_settle 127 = .ok (.iload_n 1, 1) := by decide +kernel
theorem dX11_settle_128 : decode cX11_settle 128 = .ok (.iaload, 1) := by decide +kernel
theorem dX11_settle_129 : decode cX11_settle 129 = .ok (.aload_n 0, 1) := by decide +kernel
theorem dX11_settle_130 : decode cX11_settle 130 = .ok (.getfield 84, 3) := by decide +kernel
theorem dX11_settle_133 : decode cX11_settle 133 = .ok (.iload_n 1, 1) := by decide +kernel
theorem dX11_settle_134 : decode cX11_settle 134 = .ok (.iaload, 1) := by decide +kernel
theorem dX11_settle_135 : decode cX11_settle 135 = .ok (.isub, 1) := by decide +kernel
theorem dX11_settle_136 : decode cX11_settle 136 = .ok (.istore_n 3, 1) := by decide +kernel
theorem dX11_settle_137 : decode cX11_settle 137 = .ok (.aload_n 0, 1) := by decide +kernel
theorem dX11_settle_138 : decode cX11_settle 138 = .ok (.getfield 87, 3) := by decide +kernel
theorem dX11_settle_141 : decode cX11_settle 141 = .ok (.iload_n 1, 1) := by decide +kernel
theorem dX11_settle_142 : decode cX11_settle 142 = .ok (.iload_n 3, 1) := by decide +kernel
theorem dX11_settle_143 : decode cX11_settle 143 = .ok (.aload_n 0, 1) := by decide +kernel
theorem dX11_settle_144 : decode cX11_settle 144 = .ok (.getfield 90, 3) := by decide +kernel
theorem dX11_settle_147 : decode cX11_settle 147 = .ok (.iload_n 2, 1) := by decide +kernel
theorem dX11_settle_148 : decode cX11_settle 148 = .ok (.iaload, 1) := by decide +kernel
theorem dX11_settle_149 : decode cX11_settle 149 = .ok (.if_icmp .ge 7, 3) := by decide +kernel
theorem dX11_settle_152 : decode cX11_settle 152 = .ok (.iload_n 3, 1) := by decide +kernel
theorem dX11_settle_153 : decode cX11_settle 153 = .ok (.goto 9, 3) := by decide +kernel
theorem dX11_settle_156 : decode cX11_settle 156 = .ok (.aload_n 0, 1) := by decide +kernel
theorem dX11_settle_157 : decode cX11_settle 157 = .ok (.getfield 90, 3) := by decide +kernel
theorem dX11_settle_160 : decode cX11_settle 160 = .ok (.iload_n 2, 1) := by decide +kernel
theorem dX11_settle_161 : decode cX11_settle 161 = .ok (.iaload, 1) := by decide +kernel
theorem dX11_settle_162 : decode cX11_settle 162 = .ok (.iastore, 1) := by decide +kernel
theorem dX11_settle_163 : decode cX11_settle 163 = .ok (.aload_n 0, 1) := by decide +kernel
theorem dX11_settle_164 : decode cX11_settle 164 = .ok (.getfield 90, 3) := by decide +kernel
theorem dX11_settle_167 : decode cX11_settle 167 = .ok (.iload_n 2, 1) := by decide +kernel
theorem dX11_settle_168 : decode cX11_settle 168 = .ok (.dup2, 1) := by decide +kernel
theorem dX11_settle_169 : decode cX11_settle 169 = .ok (.iaload, 1) := by decide +kernel
theorem dX11_settle_170 : decode cX11_settle 170 = .ok (.aload_n 0, 1) := by decide +kernel
theorem dX11_settle_171 : decode cX11_settle 171 = .ok (.getfield 87, 3) := by decide +kernel
theorem dX11_settle_174 : decode cX11_settle 174 = .ok (.iload_n 1, 1) := by decide +kernel
theorem dX11_settle_175 : decode cX11_settle 175 = .ok (.iaload, 1) := by decide +kernel
theorem dX11_settle_176 : decode cX11_settle 176 = .ok (.isub, 1) := by decide +kernel
theorem dX11_settle_177 : decode cX11_settle 177 = .ok (.iastore, 1) := by decide +kernel
theorem dX11_settle_178 : decode cX11_settle 178 = .ok (.iinc 1 1, 3) := by decide +kernel
theorem dX11_settle_181 : decode cX11_settle 181 = .ok (.goto (-80), 3) := by decide +kernel
theorem dX11_settle_184 : decode cX11_settle 184 = .ok (.return_, 1) := by decide +kernel
theorem dX11_pays_0 : decode cX11_pays 0 = .ok (.aload_n 0, 1) := by decide +kernel
theorem dX11_pays_1 : decode cX11_pays 1 = .ok (.iload_n 1, 1) := by decide +kernel
theorem dX11_pays_2 : decode cX11_pays 2 = .ok (.invokevirtual 126, 3) := by decide +kernel
theorem dX11_pays_5 : decode cX11_pays 5 = .ok (.ifCond .eq 12, 3) := by decide +kernel
theorem dX11_pays_8 : decode cX11_pays 8 = .ok (.iload_n 2, 1) := by decide +kernel
theorem dX11_pays_9 : decode cX11_pays 9 = .ok (.iconst 0, 1) := by decide +kernel
theorem dX11_pays_10 : decode cX11_pays 10 = .ok (.iconst 3, 1) := by decide +kernel
theorem dX11_pays_11 : decode cX11_pays 11 = .ok (.invokestatic 114, 3) := by decide +kernel
theorem dX11_pays_14 : decode cX11_pays 14 = .ok (.ifCond .ne 5, 3) := by decide +kernel
theorem dX11_pays_17 : decode cX11_pays 17 = .ok (.iconst (-1), 1) := by decide +kernel
theorem dX11_pays_18 : decode cX11_pays 18 = .ok (.ireturn, 1) := by decide +kernel
theorem dX11_pays_19 : decode cX11_pays 19 = .ok (.aload_n 0, 1) := by decide +kernel
theorem dX11_pays_20 : decode cX11_pays 20 = .ok (.invokevirtual 205, 3) := by decide +kernel
theorem dX11_pays_23 : decode cX11_pays 23 = .ok (.iload_n 2, 1) := by decide +kernel
theorem dX11_pays_24 : decode cX11_pays 24 = .ok (.ifCond .ne 12, 3) := by decide +kernel
theorem dX11_pays_27 : decode cX11_pays 27 = .ok (.aload_n 0, 1) := by decide +kernel
theorem dX11_pays_28 : decode cX11_pays 28 = .ok (.getfield 81, 3) := by decide +kernel
theorem dX11_pays_31 : decode cX11_pays 31 = .ok (.iload_n 1, 1) := by decide +kernel
theorem dX11_pays_32 : decode cX11_pays 32 = .ok (.iaload, 1) := by decide +kernel
theorem dX11_pays_33 : decode cX11_pays 33 = .ok (.goto 51, 3) := by decide +kernel
theorem dX11_pays_36 : decode cX11_pays 36 = .ok (.iload_n 2, 1) := by decide +kernel
theorem dX11_pays_37 : decode cX11_pays 37 = .ok (.iconst 1, 1) := by decide +kernel
theorem dX11_pays_38 : decode cX11_pays 38 = .ok (.if_icmp .ne 12, 3) := by decide +kernel
theorem dX11_pays_41 : decode cX11_pays 41 = .ok (.aload_n 0, 1) := by decide +kernel
theorem dX11_pays_42 : decode cX11_pays 42 = .ok (.getfield 84, 3) := by decide +kernel
theorem dX11_pays_45 : decode cX11_pays 45 = .ok (.iload_n 1, 1) := by decide +kernel
theorem dX11_pays_46 : decode cX11_pays 46 = .ok (.iaload, 1) := by decide +kernel
theorem dX11_pays_47 : decode cX11_pays 47 = .ok (.goto 37, 3) := by decide +kernel
theorem dX11_pays_50 : decode cX11_pays 50 = .ok (.iload_n 2, 1) := by decide +kernel
theorem dX11_pays_51 : decode cX11_pays 51 = .ok (.iconst 2, 1) := by decide +kernel
theorem dX11_pays_52 : decode cX11_pays 52 = .ok (.if_icmp .ne 12, 3) := by decide +kernel
theorem dX11_pays_55 : decode cX11_pays 55 = .ok (.aload_n 0, 1) := by decide +kernel
theorem dX11_pays_56 : decode cX11_pays 56 = .ok (.getfield 87, 3) := by decide +kernel
theorem dX11_pays_59 : decode cX11_pays 59 = .ok (.iload_n 1, 1) := by decide +kernel
theorem dX11_pays_60 : decode cX11_pays 60 = .ok (.iaload, 1) := by decide +kernel
theorem dX11_pays_61 : decode cX11_pays 61 = .ok (.goto 23, 3) := by decide +kernel
theorem dX11_pays_64 : decode cX11_pays 64 = .ok (.aload_n 0, 1) := by decide +kernel
theorem dX11_pays_65 : decode cX11_pays 65 = .ok (.getfield 81, 3) := by decide +kernel
theorem dX11_pays_68 : decode cX11_pays 68 = .ok (.iload_n 1, 1) := by decide +kernel
theorem dX11_pays_69 : decode cX11_pays 69 = .ok (.iaload, 1) := by decide +kernel
theorem dX11_pays_70 : decode cX11_pays 70 = .ok (.aload_n 0, 1) := by decide +kernel
theorem dX11_pays_71 : decode cX11_pays 71 = .ok (.getfield 84, 3) := by decide +kernel
theorem dX11_pays_74 : decode cX11_pays 74 = .ok (.iload_n 1, 1) := by decide +kernel
theorem dX11_pays_75 : decode cX11_pays 75 = .ok (.iaload, 1) := by decide +kernel
theorem dX11_pays_76 : decode cX11_pays 76 = .ok (.isub, 1) := by decide +kernel
theorem dX11_pays_77 : decode cX11_pays 77 = .ok (.aload_n 0, 1) := by decide +kernel
theorem dX11_pays_78 : decode cX11_pays 78 = .ok (.getfield 87, 3) := by decide +kernel
theorem dX11_pays_81 : decode cX11_pays 81 = .ok (.iload_n 1, 1) := by decide +kernel
theorem dX11_pays_82 : decode cX11_pays 82 = .ok (.iaload, 1) := by decide +kernel
theorem dX11_pays_83 : decode cX11_pays 83 = .ok (.isub, 1) := by decide +kernel
theorem dX11_pays_84 : decode cX11_pays 84 = .ok (.ireturn, 1) := by decide +kernel
theorem dX11_count_0 : decode cX11_count 0 = .ok (.iconst 0, 1) := by decide +kernel
theorem dX11_count_1 : decode cX11_count 1 = .ok (.istore_n 2, 1) := by decide +kernel
theorem dX11_count_2 : decode cX11_count 2 = .ok (.iload_n 1, 1) := by decide +kernel
theorem dX11_count_3 : decode cX11_count 3 = .ok (.tableswitch 178 0 6 #[41, 46, 79, 111, 116, 121, 145], 41) := by decide +kernel
theorem dX11_count_44 : decode cX11_count 44 = .ok (.aload_n 0, 1) := by decide +kernel
theorem dX11_count_45 : decode cX11_count 45 = .ok (.getfield 118, 3) := by decide +kernel
theorem dX11_count_48 : decode cX11_count 48 = .ok (.ireturn, 1) := by decide +kernel
theorem dX11_count_49 : decode cX11_count 49 = .ok (.iconst 0, 1) := by decide +kernel
theorem dX11_count_50 : decode cX11_count 50 = .ok (.istore_n 3, 1) := by decide +kernel
theorem dX11_count_51 : decode cX11_count 51 = .ok (.iload_n 3, 1) := by decide +kernel
theorem dX11_count_52 : decode cX11_count 52 = .ok (.bipush 24, 2) := by decide +kernel
theorem dX11_count_54 : decode cX11_count 54 = .ok (.if_icmp .ge 26, 3) := by decide +kernel
theorem dX11_count_57 : decode cX11_count 57 = .ok (.iload_n 2, 1) := by decide +kernel
theorem dX11_count_58 : decode cX11_count 58 = .ok (.aload_n 0, 1) := by decide +kernel
theorem dX11_count_59 : decode cX11_count 59 = .ok (.getfield 16, 3) := by decide +kernel
theorem dX11_count_62 : decode cX11_count 62 = .ok (.iload_n 3, 1) := by decide +kernel
theorem dX11_count_63 : decode cX11_count 63 = .ok (.baload, 1) := by decide +kernel
theorem dX11_count_64 : decode cX11_count 64 = .ok (.ifCond .eq 7, 3) := by decide +kernel
theorem dX11_count_67 : decode cX11_count 67 = .ok (.iconst 1, 1) := by decide +kernel
theorem dX11_count_68 : decode cX11_count 68 = .ok (.goto 4, 3) := by decide +kernel
theorem dX11_count_71 : decode cX11_count 71 = .ok (.iconst 0, 1) := by decide +kernel
theorem dX11_count_72 : decode cX11_count 72 = .ok (.iadd, 1) := by decide +kernel
theorem dX11_count_73 : decode cX11_count 73 = .ok (.istore_n 2, 1) := by decide +kernel
theorem dX11_count_74 : decode cX11_count 74 = .ok (.iinc 3 1, 3) := by decide +kernel
theorem dX11_count_77 : decode cX11_count 77 = .ok (.goto (-26), 3) := by decide +kernel
theorem dX11_count_80 : decode cX11_count 80 = .ok (.iload_n 2, 1) := by decide +kernel
theorem dX11_count_81 : decode cX11_count 81 = .ok (.ireturn, 1) := by decide +kernel
theorem dX11_count_82 : decode cX11_count 82 = .ok (.iconst 0, 1) := by decide +kernel
theorem dX11_count_83 : decode cX11_count 83 = .ok (.istore_n 3, 1) := by decide +kernel
theorem dX11_count_84 : decode cX11_count 84 = .ok (.iload_n 3, 1) := by decide +kernel
theorem dX11_count_85 : decode cX11_count 85 = .ok (.bipush 24, 2) := by decide +kernel
theorem dX11_count_87 : decode cX11_count 87 = .ok (.if_icmp .ge 25, 3) := by decide +kernel
theorem dX11_count_90 : decode cX11_count 90 = .ok (.iload_n 2, 1) := by decide +kernel
theorem dX11_count_91 : decode cX11_count 91 = .ok (.aload_n 0, 1) := by decide +kernel
theorem dX11_count_92 : decode cX11_count 92 = .ok (.iload_n 3, 1) := by decide +kernel
theorem dX11_count_93 : decode cX11_count 93 = .ok (.invokevirtual 136, 3) := by decide +kernel
theorem dX11_count_96 : decode cX11_count 96 = .ok (.ifCond .eq 7, 3) := by decide +kernel
theorem dX11_count_99 : decode cX11_count 99 = .ok (.iconst 1, 1) := by decide +kernel
theorem dX11_count_100 : decode cX11_count 100 = .ok (.goto 4, 3) := by decide +kernel
theorem dX11_count_103 : decode cX11_count 103 = .ok (.iconst 0, 1) := by decide +kernel
theorem dX11_count_104 : decode cX11_count 104 = .ok (.iadd, 1) := by decide +kernel
theorem dX11_count_105 : decode cX11_count 105 = .ok (.istore_n 2, 1) := by decide +kernel
theorem dX11_count_106 : decode cX11_count 106 = .ok (.iinc 3 1, 3) := by decide +kernel
theorem dX11_count_109 : decode cX11_count 109 = .ok (.goto (-25), 3) := by decide +kernel
theorem dX11_count_112 : decode cX11_count 112 = .ok (.iload_n 2, 1) := by decide +kernel
theorem dX11_count_113 : decode cX11_count 113 = .ok (.ireturn, 1) := by decide +kernel
theorem dX11_count_114 : decode cX11_count 114 = .ok (.aload_n 0, 1) := by decide +kernel
theorem dX11_count_115 : decode cX11_count 115 = .ok (.getfield 180, 3) := by decide +kernel
theorem dX11_count_118 : decode cX11_count 118 = .ok (.ireturn, 1) := by decide +kernel
theorem dX11_count_119 : decode cX11_count 119 = .ok (.aload_n 0, 1) := by decide +kernel
theorem dX11_count_120 : decode cX11_count 120 = .ok (.getfield 53, 3) := by decide +kernel
theorem dX11_count_123 : decode cX11_count 123 = .ok (.ireturn, 1) := by decide +kernel
theorem dX11_count_124 : decode cX11_count 124 = .ok (.iconst 0, 1) := by decide +kernel
theorem dX11_count_125 : decode cX11_count 125 = .ok (.istore_n 3, 1) := by decide +kernel
theorem dX11_count_126 : decode cX11_count 126 = .ok (.iload_n 3, 1) := by decide +kernel
theorem dX11_count_127 : decode cX11_count 127 = .ok (.bipush 24, 2) := by decide +kernel
theorem dX11_count_129 : decode cX11_count 129 = .ok (.if_icmp .ge 17, 3) := by decide +kernel
theorem dX11_count_132 : decode cX11_count 132 = .ok (.iload_n 2, 1) := by decide +kernel
theorem dX11_count_133 : decode cX11_count 133 = .ok (.aload_n 0, 1) := by decide +kernel
theorem dX11_count_134 : decode cX11_count 134 = .ok (.iload_n 3, 1) := by decide +kernel
theorem dX11_count_135 : decode cX11_count 135 = .ok (.invokevirtual 133, 3) := by decide +kernel
theorem dX11_count_138 : decode cX11_count 138 = .ok (.iadd, 1) := by decide +kernel
theorem dX11_count_139 : decode cX11_count 139 = .ok (.istore_n 2, 1) := by decide +kernel
theorem dX11_count_140 : decode cX11_count 140 = .ok (.iinc 3 1, 3) := by decide +kernel
theorem dX11_count_143 : decode cX11_count 143 = .ok (.goto (-17), 3) := by decide +kernel
theorem dX11_count_146 : decode cX11_count 146 = .ok (.iload_n 2, 1) := by decide +kernel
theorem dX11_count_147 : decode cX11_count 147 = .ok (.ireturn, 1) := by decide +kernel
theorem dX11_count_148 : decode cX11_count 148 = .ok (.iconst 0, 1) := by decide +kernel
theorem dX11_count_149 : decode cX11_count 149 = .ok (.istore_n 3, 1) := by decide +kernel
theorem dX11_count_150 : decode cX11_count 150 = .ok (.iload_n 3, 1) := by decide +kernel
theorem dX11_count_151 : decode cX11_count 151 = .ok (.bipush 30, 2) := by decide +kernel
theorem dX11_count_153 : decode cX11_count 153 = .ok (.if_icmp .gt 26, 3) := by decide +kernel
theorem dX11_count_156 : decode cX11_count 156 = .ok (.iload_n 2, 1) := by decide +kernel
theorem dX11_count_157 : decode cX11_count 157 = .ok (.aload_n 0, 1) := by decide +kernel
theorem dX11_count_158 : decode cX11_count 158 = .ok (.getfield 63, 3) := by decide +kernel
theorem dX11_count_161 : decode cX11_count 161 = .ok (.iload_n 3, 1) := by decide +kernel
theorem dX11_count_162 : decode cX11_count 162 = .ok (.baload, 1) := by decide +kernel
theorem dX11_count_163 : decode cX11_count 163 = .ok (.ifCond .eq 7, 3) := by decide +kernel
theorem dX11_count_166 : decode cX11_count 166 = .ok (.iconst 1, 1) := by decide +kernel
theorem dX11_count_167 : decode cX11_count 167 = .ok (.goto 4, 3) := by decide +kernel
theorem dX11_count_170 : decode cX11_count 170 = .ok (.iconst 0, 1) := by decide +kernel
theorem dX11_count_171 : decode cX11_count 171 = .ok (.iadd, 1) := by decide +kernel
theorem dX11_count_172 : decode cX11_count 172 = .ok (.istore_n 2, 1) := by decide +kernel
theorem dX11_count_173 : decode cX11_count 173 = .ok (.iinc 3 1, 3) := by decide +kernel
theorem dX11_count_176 : decode cX11_count 176 = .ok (.goto (-26), 3) := by decide +kernel
theorem dX11_count_179 : decode cX11_count 179 = .ok (.iload_n 2, 1) := by decide +kernel
theorem dX11_count_180 : decode cX11_count 180 = .ok (.ireturn, 1) := by decide +kernel
theorem dX11_count_181 : decode cX11_count 181 = .ok (.iconst (-1), 1) := by decide +kernel
theorem dX11_count_182 : decode cX11_count 182 = .ok (.ireturn, 1) := by decide +kernel
theorem dX11_isShelf_0 : decode cX11_isShelf 0 = .ok (.iload_n 0, 1) := by decide +kernel
theorem dX11_isShelf_1 : decode cX11_isShelf 1 = .ok (.iconst 0, 1) := by decide +kernel
theorem dX11_isShelf_2 : decode cX11_isShelf 2 = .ok (.bipush 7, 2) := by decide +kernel
theorem dX11_isShelf_4 : decode cX11_isShelf 4 = .ok (.invokestatic 114, 3) := by decide +kernel
theorem dX11_isShelf_7 : decode cX11_isShelf 7 = .ok (.ireturn, 1) := by decide +kernel
theorem dX11_keep_0 : decode cX11_keep 0 = .ok (.iload_n 1, 1) := by decide +kernel
theorem dX11_keep_1 : decode cX11_keep 1 = .ok (.invokestatic 208, 3) := by decide +kernel
theorem dX11_keep_4 : decode cX11_keep 4 = .ok (.ifCond .eq 42, 3) := by decide +kernel
theorem dX11_keep_7 : decode cX11_keep 7 = .ok (.iload_n 2, 1) := by decide +kernel
theorem dX11_keep_8 : decode cX11_keep 8 = .ok (.iconst 0, 1) := by decide +kernel
theorem dX11_keep_9 : decode cX11_keep 9 = .ok (.iconst 4, 1) := by decide +kernel
theorem dX11_keep_10 : decode cX11_keep 10 = .ok (.invokestatic 114, 3) := by decide +kernel
theorem dX11_keep_13 : decode cX11_keep 13 = .ok (.ifCond .eq 33, 3) := by decide +kernel
theorem dX11_keep_16 : decode cX11_keep 16 = .ok (.iload_n 2, 1) := by decide +kernel
theorem dX11_keep_17 : decode cX11_keep 17 = .ok (.iconst 2, 1) := by decide +kernel
theorem dX11_keep_18 : decode cX11_keep 18 = .ok (.if_icmp .eq 28, 3) := by decide +kernel
theorem dX11_keep_21 : decode cX11_keep 21 = .ok (.iload_n 2, 1) := by decide +kernel
theorem dX11_keep_22 : decode cX11_keep 22 = .ok (.iconst 1, 1) := by decide +kernel
theorem dX11_keep_23 : decode cX11_keep 23 = .ok (.if_icmp .ne 10, 3) := by decide +kernel
theorem dX11_keep_26 : decode cX11_keep 26 = .ok (.iload_n 3, 1) := by decide +kernel
theorem dX11_keep_27 : decode cX11_keep 27 = .ok (.invokestatic 121, 3) := by decide +kernel
theorem dX11_keep_30 : decode cX11_keep 30 = .ok (.ifCond .eq 16, 3) := by decide +kernel
theorem dX11_keep_33 : decode cX11_keep 33 = .ok (.iload_n 2, 1) := by decide +kernel
theorem dX11_keep_34 : decode cX11_keep 34 = .ok (.iconst 3, 1) := by decide +kernel
theorem dX11_keep_35 : decode cX11_keep 35 = .ok (.if_icmp .ne 13, 3) := by decide +kernel
theorem dX11_keep_38 : decode cX11_keep 38 = .ok (.aload_n 0, 1) := by decide +kernel
theorem dX11_keep_39 : decode cX11_keep 39 = .ok (.iload_n 3, 1) := by decide +kernel
theorem dX11_keep_40 : decode cX11_keep 40 = .ok (.invokevirtual 126, 3) := by decide +kernel
theorem dX11_keep_43 : decode cX11_keep 43 = .ok (.ifCond .ne 5, 3) := by decide +kernel
theorem dX11_keep_46 : decode cX11_keep 46 = .ok (.iconst (-1), 1) := by decide +kernel
theorem dX11_keep_47 : decode cX11_keep 47 = .ok (.ireturn, 1) := by decide +kernel
theorem dX11_keep_48 : decode cX11_keep 48 = .ok (.aload_n 0, 1) := by decide +kernel
theorem dX11_keep_49 : decode cX11_keep 49 = .ok (.getfield 93, 3) := by decide +kernel
theorem dX11_keep_52 : decode cX11_keep 52 = .ok (.iload_n 1, 1) := by decide +kernel
theorem dX11_keep_53 : decode cX11_keep 53 = .ok (.iload_n 2, 1) := by decide +kernel
theorem dX11_keep_54 : decode cX11_keep 54 = .ok (.iastore, 1) := by decide +kernel
theorem dX11_keep_55 : decode cX11_keep 55 = .ok (.iload_n 2, 1) := by decide +kernel
theorem dX11_keep_56 : decode cX11_keep 56 = .ok (.iconst 1, 1) := by decide +kernel
theorem dX11_keep_57 : decode cX11_keep 57 = .ok (.if_icmp .ne 34, 3) := by decide +kernel
theorem dX11_keep_60 : decode cX11_keep 60 = .ok (.aload_n 0, 1) := by decide +kernel
theorem dX11_keep_61 : decode cX11_keep 61 = .ok (.getfield 96, 3) := by decide +kernel
theorem dX11_keep_64 : decode cX11_keep 64 = .ok (.iload_n 1, 1) := by decide +kernel
theorem dX11_keep_65 : decode cX11_keep 65 = .ok (.iload_n 3, 1) := by decide +kernel
theorem dX11_keep_66 : decode cX11_keep 66 = .ok (.iastore, 1) := by decide +kernel
theorem dX11_keep_67 : decode cX11_keep 67 = .ok (.aload_n 0, 1) := by decide +kernel
theorem dX11_keep_68 : decode cX11_keep 68 = .ok (.getfield 99, 3) := by decide +kernel
theorem dX11_keep_71 : decode cX11_keep 71 = .ok (.iload_n 1, 1) := by decide +kernel
theorem dX11_keep_72 : decode cX11_keep 72 = .ok (.aload_n 0, 1) := by decide +kernel
theorem dX11_keep_73 : decode cX11_keep 73 = .ok (.getfield 7, 3) := by decide +kernel
theorem dX11_keep_76 : decode cX11_keep 76 = .ok (.iload_n 3, 1) := by decide +kernel
theorem dX11_keep_77 : decode cX11_keep 77 = .ok (.iaload, 1) := by decide +kernel
theorem dX11_keep_78 : decode cX11_keep 78 = .ok (.iastore, 1) := by decide +kernel
theorem dX11_keep_79 : decode cX11_keep 79 = .ok (.aload_n 0, 1) := by decide +kernel
theorem dX11_keep_80 : decode cX11_keep 80 = .ok (.getfield 102, 3) := by decide +kernel
theorem dX11_keep_83 : decode cX11_keep 83 = .ok (.iload_n 1, 1) := by decide +kernel
theorem dX11_keep_84 : decode cX11_keep 84 = .ok (.aload_n 0, 1) := by decide +kernel
theorem dX11_keep_85 : decode cX11_keep 85 = .ok (.getfield 13, 3) := by decide +kernel
theorem dX11_keep_88 : decode cX11_keep 88 = .ok (.iload_n 3, 1) := by decide +kernel
theorem dX11_keep_89 : decode cX11_keep 89 = .ok (.iaload, 1) := by decide +kernel
theorem dX11_keep_90 : decode cX11_keep 90 = .ok (.iastore, 1) := by decide +kernel
theorem dX11_keep_91 : decode cX11_keep 91 = .ok (.iload_n 2, 1) := by decide +kernel
theorem dX11_keep_92 : decode cX11_keep 92 = .ok (.iconst 3, 1) := by decide +kernel
theorem dX11_keep_93 : decode cX11_keep 93 = .ok (.if_icmp .ge 5, 3) := by decide +kernel
theorem dX11_keep_96 : decode cX11_keep 96 = .ok (.iconst 0, 1) := by decide +kernel
theorem dX11_keep_97 : decode cX11_keep 97 = .ok (.ireturn, 1) := by decide +kernel
theorem dX11_keep_98 : decode cX11_keep 98 = .ok (.aload_n 0, 1) := by decide +kernel
theorem dX11_keep_99 : decode cX11_keep 99 = .ok (.getfield 105, 3) := by decide +kernel
theorem dX11_keep_102 : decode cX11_keep 102 = .ok (.iload_n 1, 1) := by decide +kernel
theorem dX11_keep_103 : decode cX11_keep 103 = .ok (.bipush 24, 2) := by decide +kernel
theorem dX11_keep_105 : decode cX11_keep 105 = .ok (.iastore, 1) := by decide +kernel
theorem dX11_keep_106 : decode cX11_keep 106 = .ok (.iconst 0, 1) := by decide +kernel
theorem dX11_keep_107 : decode cX11_keep 107 = .ok (.istore 4, 2) := by decide +kernel
theorem dX11_keep_109 : decode cX11_keep 109 = .ok (.iload 4, 2) := by decide +kernel
theorem dX11_keep_111 : decode cX11_keep 111 = .ok (.bipush 24, 2) := by decide +kernel
theorem dX11_keep_113 : decode cX11_keep 113 = .ok (.if_icmp .ge 57, 3) := by decide +kernel
theorem dX11_keep_116 : decode cX11_keep 116 = .ok (.aload_n 0, 1) := by decide +kernel
theorem dX11_keep_117 : decode cX11_keep 117 = .ok (.getfield 108, 3) := by decide +kernel
theorem dX11_keep_120 : decode cX11_keep 120 = .ok (.bipush 60, 2) := by decide +kernel
theorem dX11_keep_122 : decode cX11_keep 122 = .ok (.iload_n 1, 1) := by decide +kernel
theorem dX11_keep_123 : decode cX11_keep 123 = .ok (.imul, 1) := by decide +kernel
theorem dX11_keep_124 : decode cX11_keep 124 = .ok (.iload 4, 2) := by decide +kernel
theorem dX11_keep_126 : decode cX11_keep 126 = .ok (.iadd, 1) := by decide +kernel
theorem dX11_keep_127 : decode cX11_keep 127 = .ok (.iload_n 2, 1) := by decide +kernel
theorem dX11_keep_128 : decode cX11_keep 128 = .ok (.iconst 3, 1) := by decide +kernel
theorem dX11_keep_129 : decode cX11_keep 129 = .ok (.if_icmp .ne 13, 3) := by decide +kernel
theorem dX11_keep_132 : decode cX11_keep 132 = .ok (.aload_n 0, 1) := by decide +kernel
theorem dX11_keep_133 : decode cX11_keep 133 = .ok (.iload 4, 2) := by decide +kernel
theorem dX11_keep_135 : decode cX11_keep 135 = .ok (.iload_n 3, 1) := by decide +kernel
theorem dX11_keep_136 : decode cX11_keep 136 = .ok (.invokevirtual 156, 3) := by decide +kernel
theorem dX11_keep_139 : decode cX11_keep 139 = .ok (.goto 24, 3) := by decide +kernel
theorem dX11_keep_142 : decode cX11_keep 142 = .ok (.aload_n 0, 1) := by decide +kernel
theorem dX11_keep_143 : decode cX11_keep 143 = .ok (.getfield 16, 3) := by decide +kernel
theorem dX11_keep_146 : decode cX11_keep 146 = .ok (.iload 4, 2) := by decide +kernel
theorem dX11_keep_148 : decode cX11_keep 148 = .ok (.baload, 1) := by decide +kernel
theorem dX11_keep_149 : decode cX11_keep 149 = .ok (.ifCond .eq 13, 3) := by decide +kernel
theorem dX11_keep_152 : decode cX11_keep 152 = .ok (.aload_n 0, 1) := by decide +kernel
theorem dX11_keep_153 : decode cX11_keep 153 = .ok (.getfield 20, 3) := by decide +kernel
theorem dX11_keep_156 : decode cX11_keep 156 = .ok (.iload 4, 2) := by decide +kernel
theorem dX11_keep_158 : decode cX11_keep 158 = .ok (.iaload, 1) := by decide +kernel
theorem dX11_keep_159 : decode cX11_keep 159 = .ok (.goto 4, 3) := by decide +kernel
theorem dX11_keep_162 : decode cX11_keep 162 = .ok (.iconst (-1), 1) := by decide +kernel
theorem dX11_keep_163 : decode cX11_keep 163 = .ok (.iastore, 1) := by decide +kernel
theorem dX11_keep_164 : decode cX11_keep 164 = .ok (.iinc 4 1, 3) := by decide +kernel
theorem dX11_keep_167 : decode cX11_keep 167 = .ok (.goto (-58), 3) := by decide +kernel
theorem dX11_keep_170 : decode cX11_keep 170 = .ok (.iconst 0, 1) := by decide +kernel
theorem dX11_keep_171 : decode cX11_keep 171 = .ok (.ireturn, 1) := by decide +kernel
theorem dX11_make_0 : decode cX11_make 0 = .ok (.iload_n 1, 1) := by decide +kernel
theorem dX11_make_1 : decode cX11_make 1 = .ok (.invokestatic 208, 3) := by decide +kernel
theorem dX11_make_4 : decode cX11_make 4 = .ok (.ifCond .eq 18, 3) := by decide +kernel
theorem dX11_make_7 : decode cX11_make 7 = .ok (.iload_n 2, 1) := by decide +kernel
theorem dX11_make_8 : decode cX11_make 8 = .ok (.iconst 3, 1) := by decide +kernel
theorem dX11_make_9 : decode cX11_make 9 = .ok (.iconst 4, 1) := by decide +kernel
theorem dX11_make_10 : decode cX11_make 10 = .ok (.invokestatic 114, 3) := by decide +kernel
theorem dX11_make_13 : decode cX11_make 13 = .ok (.ifCond .eq 9, 3) := by decide +kernel
theorem dX11_make_16 : decode cX11_make 16 = .ok (.iload_n 3, 1) := by decide +kernel
theorem dX11_make_17 : decode cX11_make 17 = .ok (.bipush 60, 2) := by decide +kernel
theorem dX11_make_19 : decode cX11_make 19 = .ok (.if_icmp .le 5, 3) := by decide +kernel
theorem dX11_make_22 : decode cX11_make 22 = .ok (.iconst (-1), 1) := by decide +kernel
theorem dX11_make_23 : decode cX11_make 23 = .ok (.ireturn, 1) := by decide +kernel
theorem dX11_make_24 : decode cX11_make 24 = .ok (.iload_n 3, 1) := by decide +kernel
theorem dX11_make_25 : decode cX11_make 25 = .ok (.ifCond .ge 6, 3) := by decide +kernel
theorem dX11_make_28 : decode cX11_make 28 = .ok (.bipush (-14), 2) := by decide +kernel
theorem dX11_make_30 : decode cX11_make 30 = .ok (.ireturn, 1) := by decide +kernel
theorem dX11_make_31 : decode cX11_make 31 = .ok (.aload_n 0, 1) := by decide +kernel
theorem dX11_make_32 : decode cX11_make 32 = .ok (.getfield 93, 3) := by decide +kernel
theorem dX11_make_35 : decode cX11_make 35 = .ok (.iload_n 1, 1) := by decide +kernel
theorem dX11_make_36 : decode cX11_make 36 = .ok (.iload_n 2, 1) := by decide +kernel
theorem dX11_make_37 : decode cX11_make 37 = .ok (.iastore, 1) := by decide +kernel
theorem dX11_make_38 : decode cX11_make 38 = .ok (.aload_n 0, 1) := by decide +kernel
theorem dX11_make_39 : decode cX11_make 39 = .ok (.getfield 105, 3) := by decide +kernel
theorem dX11_make_42 : decode cX11_make 42 = .ok (.iload_n 1, 1) := by decide +kernel
theorem dX11_make_43 : decode cX11_make 43 = .ok (.iload_n 3, 1) := by decide +kernel
theorem dX11_make_44 : decode cX11_make 44 = .ok (.iastore, 1) := by decide +kernel
theorem dX11_make_45 : decode cX11_make 45 = .ok (.iconst 0, 1) := by decide +kernel
theorem dX11_make_46 : decode cX11_make 46 = .ok (.istore 4, 2) := by decide +kernel
theorem dX11_make_48 : decode cX11_make 48 = .ok (.iload 4, 2) := by decide +kernel
theorem dX11_make_50 : decode cX11_make 50 = .ok (.iload_n 3, 1) := by decide +kernel
theorem dX11_make_51 : decode cX11_make 51 = .ok (.if_icmp .ge 22, 3) := by decide +kernel
theorem dX11_make_54 : decode cX11_make 54 = .ok (.aload_n 0, 1) := by decide +kernel
theorem dX11_make_55 : decode cX11_make 55 = .ok (.getfield 108, 3) := by decide +kernel
theorem dX11_make_58 : decode cX11_make 58 = .ok (.bipush 60, 2) := by decide +kernel
theorem dX11_make_60 : decode cX11_make 60 = .ok (.iload_n 1, 1) := by decide +kernel
theorem dX11_make_61 : decode cX11_make 61 = .ok (.imul, 1) := by decide +kernel
theorem dX11_make_62 : decode cX11_make 62 = .ok (.iload 4, 2) := by decide +kernel
theorem dX11_make_64 : decode cX11_make 64 = .ok (.iadd, 1) := by decide +kernel
theorem dX11_make_65 : decode cX11_make 65 = .ok (.iconst 0, 1) := by decide +kernel
theorem dX11_make_66 : decode cX11_make 66 = .ok (.iastore, 1) := by decide +kernel
theorem dX11_make_67 : decode cX11_make 67 = .ok (.iinc 4 1, 3) := by decide +kernel
theorem dX11_make_70 : decode cX11_make 70 = .ok (.goto (-22), 3) := by decide +kernel
theorem dX11_make_73 : decode cX11_make 73 = .ok (.iconst 0, 1) := by decide +kernel
theorem dX11_make_74 : decode cX11_make 74 = .ok (.ireturn, 1) := by decide +kernel
theorem dX11_element_0 : decode cX11_element 0 = .ok (.aload_n 0, 1) := by decide +kernel
theorem dX11_element_1 : decode cX11_element 1 = .ok (.iload_n 1, 1) := by decide +kernel
theorem dX11_element_2 : decode cX11_element 2 = .ok (.invokestatic 208, 3) := by decide +kernel
theorem dX11_element_5 : decode cX11_element 5 = .ok (.ifCond .ne 7, 3) := by decide +kernel
theorem dX11_element_8 : decode cX11_element 8 = .ok (.iconst 1, 1) := by decide +kernel
theorem dX11_element_9 : decode cX11_element 9 = .ok (.goto 34, 3) := by decide +kernel
theorem dX11_element_12 : decode cX11_element 12 = .ok (.aload_n 0, 1) := by decide +kernel
theorem dX11_element_13 : decode cX11_element 13 = .ok (.getfield 93, 3) := by decide +kernel
theorem dX11_element_16 : decode cX11_element 16 = .ok (.iload_n 1, 1) := by decide +kernel
theorem dX11_element_17 : decode cX11_element 17 = .ok (.iaload, 1) := by decide +kernel
theorem dX11_element_18 : decode cX11_element 18 = .ok (.iconst 3, 1) := by decide +kernel
theorem dX11_element_19 : decode cX11_element 19 = .ok (.if_icmp .lt 19, 3) := by decide +kernel
theorem dX11_element_22 : decode cX11_element 22 = .ok (.iload_n 2, 1) := by decide +kernel
theorem dX11_element_23 : decode cX11_element 23 = .ok (.iconst 0, 1) := by decide +kernel
theorem dX11_element_24 : decode cX11_element 24 = .ok (.aload_n 0, 1) := by decide +kernel
theorem dX11_element_25 : decode cX11_element 25 = .ok (.getfield 105, 3) := by decide +kernel
theorem dX11_element_28 : decode cX11_element 28 = .ok (.iload_n 1, 1) := by decide +kernel
theorem dX11_element_29 : decode cX11_element 29 = .ok (.iaload, 1) := by decide +kernel
theorem dX11_element_30 : decode cX11_element 30 = .ok (.iconst 1, 1) := by decide +kernel
theorem dX11_element_31 : decode cX11_element 31 = .ok (.isub, 1) := by decide +kernel
theorem dX11_element_32 : decode cX11_element 32 = .ok (.invokestatic 114, 3) := by decide +kernel
theorem dX11_element_35 : decode cX11_element 35 = .ok (.ifCond .ne 7, 3) := by decide +kernel
theorem dX11_element_38 : decode cX11_element 38 = .ok (.iconst 2, 1) := by decide +kernel
theorem dX11_element_39 : decode cX11_element 39 = .ok (.goto 4, 3) := by decide +kernel
theorem dX11_element_42 : decode cX11_element 42 = .ok (.iconst 0, 1) := by decide +kernel
theorem dX11_element_43 : decode cX11_element 43 = .ok (.putfield 111, 3) := by decide +kernel
theorem dX11_element_46 : decode cX11_element 46 = .ok (.aload_n 0, 1) := by decide +kernel
theorem dX11_element_47 : decode cX11_element 47 = .ok (.getfield 111, 3) := by decide +kernel
theorem dX11_element_50 : decode cX11_element 50 = .ok (.ifCond .le 7, 3) := by decide +kernel
theorem dX11_element_53 : decode cX11_element 53 = .ok (.lconst 0, 1) := by decide +kernel
theorem dX11_element_54 : decode cX11_element 54 = .ok (.goto 15, 3) := by decide +kernel
theorem dX11_element_57 : decode cX11_element 57 = .ok (.aload_n 0, 1) := by decide +kernel
theorem dX11_element_58 : decode cX11_element 58 = .ok (.getfield 108, 3) := by decide +kernel
theorem dX11_element_61 : decode cX11_element 61 = .ok (.bipush 60, 2) := by decide +kernel
theorem dX11_element_63 : decode cX11_element 63 = .ok (.iload_n 1, 1) := by decide +kernel
theorem dX11_element_64 : decode cX11_element 64 = .ok (.imul, 1) := by decide +kernel
theorem dX11_element_65 : decode cX11_element 65 = .ok (.iload_n 2, 1) := by decide +kernel
theorem dX11_element_66 : decode cX11_element 66 = .ok (.iadd, 1) := by decide +kernel
theorem dX11_element_67 : decode cX11_element 67 = .ok (.iaload, 1) := by decide +kernel
theorem dX11_element_68 : decode cX11_element 68 = .ok (.i2l, 1) := by decide +kernel
theorem dX11_element_69 : decode cX11_element 69 = .ok (.lreturn, 1) := by decide +kernel
theorem dX11_copy_0 : decode cX11_copy 0 = .ok (.iload_n 1, 1) := by decide +kernel
theorem dX11_copy_1 : decode cX11_copy 1 = .ok (.invokestatic 208, 3) := by decide +kernel
theorem dX11_copy_4 : decode cX11_copy 4 = .ok (.ifCond .eq 10, 3) := by decide +kernel
theorem dX11_copy_7 : decode cX11_copy 7 = .ok (.iload_n 3, 1) := by decide +kernel
theorem dX11_copy_8 : decode cX11_copy 8 = .ok (.invokestatic 208, 3) := by decide +kernel
theorem dX11_copy_11 : decode cX11_copy 11 = .ok (.ifCond .ne 5, 3) := by decide +kernel
theorem dX11_copy_14 : decode cX11_copy 14 = .ok (.iconst (-1), 1) := by decide +kernel
theorem dX11_copy_15 : decode cX11_copy 15 = .ok (.ireturn, 1) := by decide +kernel
theorem dX11_copy_16 : decode cX11_copy 16 = .ok (.aload_n 0, 1) := by decide +kernel
theorem dX11_copy_17 : decode cX11_copy 17 = .ok (.getfield 93, 3) := by decide +kernel
theorem dX11_copy_20 : decode cX11_copy 20 = .ok (.iload_n 1, 1) := by decide +kernel
theorem dX11_copy_21 : decode cX11_copy 21 = .ok (.iaload, 1) := by decide +kernel
theorem dX11_copy_22 : decode cX11_copy 22 = .ok (.ifCond .eq 12, 3) := by decide +kernel
theorem dX11_copy_25 : decode cX11_copy 25 = .ok (.aload_n 0, 1) := by decide +kernel
theorem dX11_copy_26 : decode cX11_copy 26 = .ok (.getfield 93, 3) := by decide +kernel
theorem dX11_copy_29 : decode cX11_copy 29 = .ok (.iload_n 3, 1) := by decide +kernel
theorem dX11_copy_30 : decode cX11_copy 30 = .ok (.iaload, 1) := by decide +kernel
theorem dX11_copy_31 : decode cX11_copy 31 = .ok (.ifCond .ne 6, 3) := by decide +kernel
theorem dX11_copy_34 : decode cX11_copy 34 = .ok (.bipush (-11), 2) := by decide +kernel
theorem dX11_copy_36 : decode cX11_copy 36 = .ok (.ireturn, 1) := by decide +kernel
theorem dX11_copy_37 : decode cX11_copy 37 = .ok (.aload_n 0, 1) := by decide +kernel
theorem dX11_copy_38 : decode cX11_copy 38 = .ok (.getfield 93, 3) := by decide +kernel
theorem dX11_copy_41 : decode cX11_copy 41 = .ok (.iload_n 1, 1) := by decide +kernel
theorem dX11_copy_42 : decode cX11_copy 42 = .ok (.iaload, 1) := by decide +kernel
theorem dX11_copy_43 : decode cX11_copy 43 = .ok (.iconst 3, 1) := by decide +kernel
theorem dX11_copy_44 : decode cX11_copy 44 = .ok (.if_icmp .lt 18, 3) := by decide +kernel
theorem dX11_copy_47 : decode cX11_copy 47 = .ok (.aload_n 0, 1) := by decide +kernel
theorem dX11_copy_48 : decode cX11_copy 48 = .ok (.getfield 93, 3) := by decide +kernel
theorem dX11_copy_51 : decode cX11_copy 51 = .ok (.iload_n 1, 1) := by decide +kernel
theorem dX11_copy_52 : decode cX11_copy 52 = .ok (.iaload, 1) := by decide +kernel
theorem dX11_copy_53 : decode cX11_copy 53 = .ok (.aload_n 0, 1) := by decide +kernel
theorem dX11_copy_54 : decode cX11_copy 54 = .ok (.getfield 93, 3) := by decide +kernel
theorem dX11_copy_57 : decode cX11_copy 57 = .ok (.iload_n 3, 1) := by decide +kernel
theorem dX11_copy_58 : decode cX11_copy 58 = .ok (.iaload, 1) := by decide +kernel
theorem dX11_copy_59 : decode cX11_copy 59 = .ok (.if_icmp .eq 6, 3) := by decide +kernel
theorem dX11_copy_62 : decode cX11_copy 62 = .ok (.bipush (-12), 2) := by decide +kernel
theorem dX11_copy_64 : decode cX11_copy 64 = .ok (.ireturn, 1) := by decide +kernel
theorem dX11_copy_65 : decode cX11_copy 65 = .ok (.iload 5, 2) := by decide +kernel
theorem dX11_copy_67 : decode cX11_copy 67 = .ok (.ifCond .lt 39, 3) := by decide +kernel
theorem dX11_copy_70 : decode cX11_copy 70 = .ok (.iload_n 2, 1) := by decide +kernel
theorem dX11_copy_71 : decode cX11_copy 71 = .ok (.ifCond .lt 35, 3) := by decide +kernel
theorem dX11_copy_74 : decode cX11_copy 74 = .ok (.iload 4, 2) := by decide +kernel
theorem dX11_copy_76 : decode cX11_copy 76 = .ok (.ifCond .lt 30, 3) := by decide +kernel
theorem dX11_copy_79 : decode cX11_copy 79 = .ok (.iload_n 2, 1) := by decide +kernel
theorem dX11_copy_80 : decode cX11_copy 80 = .ok (.aload_n 0, 1) := by decide +kernel
theorem dX11_copy_81 : decode cX11_copy 81 = .ok (.getfield 105, 3) := by decide +kernel
theorem dX11_copy_84 : decode cX11_copy 84 = .ok (.iload_n 1, 1) := by decide +kernel
theorem dX11_copy_85 : decode cX11_copy 85 = .ok (.iaload, 1) := by decide +kernel
theorem dX11_copy_86 : decode cX11_copy 86 = .ok (.iload 5, 2) := by decide +kernel
theorem dX11_copy_88 : decode cX11_copy 88 = .ok (.isub, 1) := by decide +kernel
theorem dX11_copy_89 : decode cX11_copy 89 = .ok (.if_icmp .gt 17, 3) := by decide +kernel
theorem dX11_copy_92 : decode cX11_copy 92 = .ok (.iload 4, 2) := by decide +kernel
theorem dX11_copy_94 : decode cX11_copy 94 = .ok (.aload_n 0, 1) := by decide +kernel
theorem dX11_copy_95 : decode cX11_copy 95 = .ok (.getfield 105, 3) := by decide +kernel
theorem dX11_copy_98 : decode cX11_copy 98 = .ok (.iload_n 3, 1) := by decide +kernel
theorem dX11_copy_99 : decode cX11_copy 99 = .ok (.iaload, 1) := by decide +kernel
theorem dX11_copy_100 : decode cX11_copy 100 = .ok (.iload 5, 2) := by decide +kernel
theorem dX11_copy_102 : decode cX11_copy 102 = .ok (.isub, 1) := by decide +kernel
theorem dX11_copy_103 : decode cX11_copy 103 = .ok (.if_icmp .le 6, 3) := by decide +kernel
theorem dX11_copy_106 : decode cX11_copy 106 = .ok (.bipush (-13), 2) := by decide +kernel
theorem dX11_copy_108 : decode cX11_copy 108 = .ok (.ireturn, 1) := by decide +kernel
theorem dX11_copy_109 : decode cX11_copy 109 = .ok (.iconst 0, 1) := by decide +kernel
theorem dX11_copy_110 : decode cX11_copy 110 = .ok (.istore 6, 2) := by decide +kernel
theorem dX11_copy_112 : decode cX11_copy 112 = .ok (.iload 6, 2) := by decide +kernel
theorem dX11_copy_114 : decode cX11_copy 114 = .ok (.iload 5, 2) := by decide +kernel
theorem dX11_copy_116 : decode cX11_copy 116 = .ok (.if_icmp .ge 49, 3) := by decide +kernel
theorem dX11_copy_119 : decode cX11_copy 119 = .ok (.iload_n 1, 1) := by decide +kernel
theorem dX11_copy_120 : decode cX11_copy 120 = .ok (.iload_n 3, 1) := by decide +kernel
theorem dX11_copy_121 : decode cX11_copy 121 = .ok (.if_icmp .ne 9, 3) := by decide +kernel
theorem dX11_copy_124 : decode cX11_copy 124 = .ok (.iload_n 2, 1) := by decide +kernel
theorem dX11_copy_125 : decode cX11_copy 125 = .ok (.iload 4, 2) := by decide +kernel
theorem dX11_copy_127 : decode cX11_copy 127 = .ok (.if_icmp .lt 38, 3) := by decide +kernel
theorem dX11_copy_130 : decode cX11_copy 130 = .ok (.aload_n 0, 1) := by decide +kernel
theorem dX11_copy_131 : decode cX11_copy 131 = .ok (.getfield 108, 3) := by decide +kernel
theorem dX11_copy_134 : decode cX11_copy 134 = .ok (.bipush 60, 2) := by decide +kernel
theorem dX11_copy_136 : decode cX11_copy 136 = .ok (.iload_n 3, 1) := by decide +kernel
theorem dX11_copy_137 : decode cX11_copy 137 = .ok (.imul, 1) := by decide +kernel
theorem dX11_copy_138 : decode cX11_copy 138 = .ok (.iload 4, 2) := by decide +kernel
theorem dX11_copy_140 : decode cX11_copy 140 = .ok (.iadd, 1) := by decide +kernel
theorem dX11_copy_141 : decode cX11_copy 141 = .ok (.iload 6, 2) := by decide +kernel
theorem dX11_copy_143 : decode cX11_copy 143 = .ok (.iadd, 1) := by decide +kernel
theorem dX11_copy_144 : decode cX11_copy 144 = .ok (.aload_n 0, 1) := by decide +kernel
theorem dX11_copy_145 : decode cX11_copy 145 = .ok (.getfield 108, 3) := by decide +kernel
theorem dX11_copy_148 : decode cX11_copy 148 = .ok (.bipush 60, 2) := by decide +kernel
theorem dX11_copy_150 : decode cX11_copy 150 = .ok (.iload_n 1, 1) := by decide +kernel
theorem dX11_copy_151 : decode cX11_copy 151 = .ok (.imul, 1) := by decide +kernel
theorem dX11_copy_152 : decode cX11_copy 152 = .ok (.iload_n 2, 1) := by decide +kernel
theorem dX11_copy_153 : decode cX11_copy 153 = .ok (.iadd, 1) := by decide +kernel
theorem dX11_copy_154 : decode cX11_copy 154 = .ok (.iload 6, 2) := by decide +kernel
theorem dX11_copy_156 : decode cX11_copy 156 = .ok (.iadd, 1) := by decide +kernel
theorem dX11_copy_157 : decode cX11_copy 157 = .ok (.iaload, 1) := by decide +kernel
theorem dX11_copy_158 : decode cX11_copy 158 = .ok (.iastore, 1) := by decide +kernel
theorem dX11_copy_159 : decode cX11_copy 159 = .ok (.iinc 6 1, 3) := by decide +kernel
theorem dX11_copy_162 : decode cX11_copy 162 = .ok (.goto (-50), 3) := by decide +kernel
theorem dX11_copy_165 : decode cX11_copy 165 = .ok (.iload 5, 2) := by decide +kernel
theorem dX11_copy_167 : decode cX11_copy 167 = .ok (.iconst 1, 1) := by decide +kernel
theorem dX11_copy_168 : decode cX11_copy 168 = .ok (.isub, 1) := by decide +kernel
theorem dX11_copy_169 : decode cX11_copy 169 = .ok (.istore 6, 2) := by decide +kernel
theorem dX11_copy_171 : decode cX11_copy 171 = .ok (.iload 6, 2) := by decide +kernel
theorem dX11_copy_173 : decode cX11_copy 173 = .ok (.ifCond .lt 49, 3) := by decide +kernel
theorem dX11_copy_176 : decode cX11_copy 176 = .ok (.iload_n 1, 1) := by decide +kernel
theorem dX11_copy_177 : decode cX11_copy 177 = .ok (.iload_n 3, 1) := by decide +kernel
theorem dX11_copy_178 : decode cX11_copy 178 = .ok (.if_icmp .ne 44, 3) := by decide +kernel
theorem dX11_copy_181 : decode cX11_copy 181 = .ok (.iload_n 2, 1) := by decide +kernel
theorem dX11_copy_182 : decode cX11_copy 182 = .ok (.iload 4, 2) := by decide +kernel
theorem dX11_copy_184 : decode cX11_copy 184 = .ok (.if_icmp .ge 38, 3) := by decide +kernel
theorem dX11_copy_187 : decode cX11_copy 187 = .ok (.aload_n 0, 1) := by decide +kernel
theorem dX11_copy_188 : decode cX11_copy 188 = .ok (.getfield 108, 3) := by decide +kernel
theorem dX11_copy_191 : decode cX11_copy 191 = .ok (.bipush 60, 2) := by decide +kernel
theorem dX11_copy_193 : decode cX11_copy 193 = .ok (.iload_n 3, 1) := by decide +kernel
