theorem dX0_init_0 : decode cX0_init 0 = .ok (.aload_n 0, 1) := by decide +kernel
theorem dX0_init_1 : decode cX0_init 1 = .ok (.invokespecial 3, 3) := by decide +kernel
theorem dX0_init_4 : decode cX0_init 4 = .ok (.aload_n 0, 1) := by decide +kernel
theorem dX0_init_5 : decode cX0_init 5 = .ok (.bipush (-2), 2) := by decide +kernel
theorem dX0_init_7 : decode cX0_init 7 = .ok (.putfield 9, 3) := by decide +kernel
theorem dX0_init_10 : decode cX0_init 10 = .ok (.return_, 1) := by decide +kernel
theorem dX0_need_0 : decode cX0_need 0 = .ok (.bipush 12, 2) := by decide +kernel
theorem dX0_need_2 : decode cX0_need 2 = .ok (.aload_n 0, 1) := by decide +kernel
theorem dX0_need_3 : decode cX0_need 3 = .ok (.getfield 15, 3) := by decide +kernel
theorem dX0_need_6 : decode cX0_need 6 = .ok (.imul, 1) := by decide +kernel
theorem dX0_need_7 : decode cX0_need 7 = .ok (.ireturn, 1) := by decide +kernel
theorem dX0_owes_0 : decode cX0_owes 0 = .ok (.aload_n 0, 1) := by decide +kernel
theorem dX0_owes_1 : decode cX0_owes 1 = .ok (.getfield 18, 3) := by decide +kernel
theorem dX0_owes_4 : decode cX0_owes 4 = .ok (.bipush 10, 2) := by decide +kernel
theorem dX0_owes_6 : decode cX0_owes 6 = .ok (.aload_n 0, 1) := by decide +kernel
theorem dX0_owes_7 : decode cX0_owes 7 = .ok (.getfield 21, 3) := by decide +kernel
theorem dX0_owes_10 : decode cX0_owes 10 = .ok (.imul, 1) := by decide +kernel
theorem dX0_owes_11 : decode cX0_owes 11 = .ok (.iadd, 1) := by decide +kernel
theorem dX0_owes_12 : decode cX0_owes 12 = .ok (.ireturn, 1) := by decide +kernel
theorem dX1_init_0 : decode cX1_init 0 = .ok (.aload_n 0, 1) := by decide +kernel
theorem dX1_init_1 : decode cX1_init 1 = .ok (.invokespecial 3, 3) := by decide +kernel
theorem dX1_init_4 : decode cX1_init 4 = .ok (.return_, 1) := by decide +kernel
theorem dX1_chance_0 : decode cX1_chance 0 = .ok (.bipush 80, 2) := by decide +kernel
theorem dX1_chance_2 : decode cX1_chance 2 = .ok (.ireturn, 1) := by decide +kernel
theorem dX1_heft_0 : decode cX1_heft 0 = .ok (.bipush 10, 2) := by decide +kernel
theorem dX1_heft_2 : decode cX1_heft 2 = .ok (.iload_n 1, 1) := by decide +kernel
theorem dX1_heft_3 : decode cX1_heft 3 = .ok (.iadd, 1) := by decide +kernel
theorem dX1_heft_4 : decode cX1_heft 4 = .ok (.ireturn, 1) := by decide +kernel
theorem dX1_fail_0 : decode cX1_fail 0 = .ok (.return_, 1) := by decide +kernel
theorem dX2_init_0 : decode cX2_init 0 = .ok (.aload_n 0, 1) := by decide +kernel
theorem dX2_init_1 : decode cX2_init 1 = .ok (.invokespecial 3, 3) := by decide +kernel
theorem dX2_init_4 : decode cX2_init 4 = .ok (.return_, 1) := by decide +kernel
theorem dX2_chance_0 : decode cX2_chance 0 = .ok (.bipush 25, 2) := by decide +kernel
theorem dX2_chance_2 : decode cX2_chance 2 = .ok (.ireturn, 1) := by decide +kernel
theorem dX2_heft_0 : decode cX2_heft 0 = .ok (.iconst 2, 1) := by decide +kernel
theorem dX2_heft_1 : decode cX2_heft 1 = .ok (.aload_n 0, 1) := by decide +kernel
theorem dX2_heft_2 : decode cX2_heft 2 = .ok (.iload_n 1, 1) := by decide +kernel
theorem dX2_heft_3 : decode cX2_heft 3 = .ok (.invokespecial 9, 3) := by decide +kernel
theorem dX2_heft_6 : decode cX2_heft 6 = .ok (.imul, 1) := by decide +kernel
theorem dX2_heft_7 : decode cX2_heft 7 = .ok (.ireturn, 1) := by decide +kernel
theorem dX2_fail_0 : decode cX2_fail 0 = .ok (.new 13, 3) := by decide +kernel
theorem dX2_fail_3 : decode cX2_fail 3 = .ok (.dup, 1) := by decide +kernel
theorem dX2_fail_4 : decode cX2_fail 4 = .ok (.ldc 15, 2) := by decide +kernel
theorem dX2_fail_6 : decode cX2_fail 6 = .ok (.invokespecial 17, 3) := by decide +kernel
theorem dX2_fail_9 : decode cX2_fail 9 = .ok (.athrow, 1) := by decide +kernel
theorem dX3_init_0 : decode cX3_init 0 = .ok (.aload_n 0, 1) := by decide +kernel
theorem dX3_init_1 : decode cX3_init 1 = .ok (.invokespecial 3, 3) := by decide +kernel
theorem dX3_init_4 : decode cX3_init 4 = .ok (.return_, 1) := by decide +kernel
theorem dX3_chance_0 : decode cX3_chance 0 = .ok (.bipush 95, 2) := by decide +kernel
theorem dX3_chance_2 : decode cX3_chance 2 = .ok (.ireturn, 1) := by decide +kernel
theorem dX3_heft_0 : decode cX3_heft 0 = .ok (.aload_n 0, 1) := by decide +kernel
theorem dX3_heft_1 : decode cX3_heft 1 = .ok (.iload_n 1, 1) := by decide +kernel
theorem dX3_heft_2 : decode cX3_heft 2 = .ok (.invokespecial 9, 3) := by decide +kernel
theorem dX3_heft_5 : decode cX3_heft 5 = .ok (.bipush 100, 2) := by decide +kernel
theorem dX3_heft_7 : decode cX3_heft 7 = .ok (.iadd, 1) := by decide +kernel
theorem dX3_heft_8 : decode cX3_heft 8 = .ok (.ireturn, 1) := by decide +kernel
theorem dX3_fail_0 : decode cX3_fail 0 = .ok (.new 13, 3) := by decide +kernel
theorem dX3_fail_3 : decode cX3_fail 3 = .ok (.dup, 1) := by decide +kernel
theorem dX3_fail_4 : decode cX3_fail 4 = .ok (.ldc 15, 2) := by decide +kernel
theorem dX3_fail_6 : decode cX3_fail 6 = .ok (.invokespecial 17, 3) := by decide +kernel
theorem dX3_fail_9 : decode cX3_fail 9 = .ok (.athrow, 1) := by decide +kernel
theorem dX4_init_0 : decode cX4_init 0 = .ok (.aload_n 0, 1) := by decide +kernel
theorem dX4_init_1 : decode cX4_init 1 = .ok (.invokespecial 3, 3) := by decide +kernel
theorem dX4_init_4 : decode cX4_init 4 = .ok (.aload_n 0, 1) := by decide +kernel
theorem dX4_init_5 : decode cX4_init 5 = .ok (.bipush 10, 2) := by decide +kernel
theorem dX4_init_7 : decode cX4_init 7 = .ok (.newarray .int, 2) := by decide +kernel
theorem dX4_init_9 : decode cX4_init 9 = .ok (.putfield 9, 3) := by decide +kernel
theorem dX4_init_12 : decode cX4_init 12 = .ok (.aload_n 0, 1) := by decide +kernel
theorem dX4_init_13 : decode cX4_init 13 = .ok (.bipush 10, 2) := by decide +kernel
theorem dX4_init_15 : decode cX4_init 15 = .ok (.newarray .int, 2) := by decide +kernel
theorem dX4_init_17 : decode cX4_init 17 = .ok (.putfield 15, 3) := by decide +kernel
theorem dX4_init_20 : decode cX4_init 20 = .ok (.aload_n 0, 1) := by decide +kernel
theorem dX4_init_21 : decode cX4_init 21 = .ok (.bipush 10, 2) := by decide +kernel
theorem dX4_init_23 : decode cX4_init 23 = .ok (.newarray .int, 2) := by decide +kernel
theorem dX4_init_25 : decode cX4_init 25 = .ok (.putfield 18, 3) := by decide +kernel
theorem dX4_init_28 : decode cX4_init 28 = .ok (.return_, 1) := by decide +kernel
theorem dX4_settle_0 : decode cX4_settle 0 = .ok (.iconst 0, 1) := by decide +kernel
theorem dX4_settle_1 : decode cX4_settle 1 = .ok (.istore_n 3, 1) := by decide +kernel
theorem dX4_settle_2 : decode cX4_settle 2 = .ok (.iload_n 3, 1) := by decide +kernel
theorem dX4_settle_3 : decode cX4_settle 3 = .ok (.iload_n 2, 1) := by decide +kernel
theorem dX4_settle_4 : decode cX4_settle 4 = .ok (.if_icmp .ge 56, 3) := by decide +kernel
theorem dX4_settle_7 : decode cX4_settle 7 = .ok (.aload_n 0, 1) := by decide +kernel
theorem dX4_settle_8 : decode cX4_settle 8 = .ok (.getfield 9, 3) := by decide +kernel
theorem dX4_settle_11 : decode cX4_settle 11 = .ok (.iload_n 3, 1) := by decide +kernel
theorem dX4_settle_12 : decode cX4_settle 12 = .ok (.aload_n 1, 1) := by decide +kernel
theorem dX4_settle_13 : decode cX4_settle 13 = .ok (.iload_n 3, 1) := by decide +kernel
theorem dX4_settle_14 : decode cX4_settle 14 = .ok (.aaload, 1) := by decide +kernel
theorem dX4_settle_15 : decode cX4_settle 15 = .ok (.invokevirtual 21, 3) := by decide +kernel
theorem dX4_settle_18 : decode cX4_settle 18 = .ok (.aload_n 1, 1) := by decide +kernel
theorem dX4_settle_19 : decode cX4_settle 19 = .ok (.iload_n 3, 1) := by decide +kernel
theorem dX4_settle_20 : decode cX4_settle 20 = .ok (.aaload, 1) := by decide +kernel
theorem dX4_settle_21 : decode cX4_settle 21 = .ok (.getfield 27, 3) := by decide +kernel
theorem dX4_settle_24 : decode cX4_settle 24 = .ok (.invokestatic 31, 3) := by decide +kernel
theorem dX4_settle_27 : decode cX4_settle 27 = .ok (.iastore, 1) := by decide +kernel
theorem dX4_settle_28 : decode cX4_settle 28 = .ok (.aload_n 0, 1) := by decide +kernel
theorem dX4_settle_29 : decode cX4_settle 29 = .ok (.getfield 18, 3) := by decide +kernel
theorem dX4_settle_32 : decode cX4_settle 32 = .ok (.iload_n 3, 1) := by decide +kernel
theorem dX4_settle_33 : decode cX4_settle 33 = .ok (.aload_n 1, 1) := by decide +kernel
theorem dX4_settle_34 : decode cX4_settle 34 = .ok (.iload_n 3, 1) := by decide +kernel
theorem dX4_settle_35 : decode cX4_settle 35 = .ok (.aaload, 1) := by decide +kernel
theorem dX4_settle_36 : decode cX4_settle 36 = .ok (.getfield 27, 3) := by decide +kernel
theorem dX4_settle_39 : decode cX4_settle 39 = .ok (.aload_n 0, 1) := by decide +kernel
theorem dX4_settle_40 : decode cX4_settle 40 = .ok (.getfield 9, 3) := by decide +kernel
theorem dX4_settle_43 : decode cX4_settle 43 = .ok (.iload_n 3, 1) := by decide +kernel
theorem dX4_settle_44 : decode cX4_settle 44 = .ok (.iaload, 1) := by decide +kernel
theorem dX4_settle_45 : decode cX4_settle 45 = .ok (.isub, 1) := by decide +kernel
theorem dX4_settle_46 : decode cX4_settle 46 = .ok (.iastore, 1) := by decide +kernel
theorem dX4_settle_47 : decode cX4_settle 47 = .ok (.aload_n 0, 1) := by decide +kernel
theorem dX4_settle_48 : decode cX4_settle 48 = .ok (.getfield 15, 3) := by decide +kernel
theorem dX4_settle_51 : decode cX4_settle 51 = .ok (.iload_n 3, 1) := by decide +kernel
theorem dX4_settle_52 : decode cX4_settle 52 = .ok (.iconst 0, 1) := by decide +kernel
theorem dX4_settle_53 : decode cX4_settle 53 = .ok (.iastore, 1) := by decide +kernel
theorem dX4_settle_54 : decode cX4_settle 54 = .ok (.iinc 3 1, 3) := by decide +kernel
theorem dX4_settle_57 : decode cX4_settle 57 = .ok (.goto (-55), 3) := by decide +kernel
theorem dX4_settle_60 : decode cX4_settle 60 = .ok (.iconst 0, 1) := by decide +kernel
theorem dX4_settle_61 : decode cX4_settle 61 = .ok (.istore_n 3, 1) := by decide +kernel
theorem dX4_settle_62 : decode cX4_settle 62 = .ok (.iload_n 3, 1) := by decide +kernel
theorem dX4_settle_63 : decode cX4_settle 63 = .ok (.iload_n 2, 1) := by decide +kernel
theorem dX4_settle_64 : decode cX4_settle 64 = .ok (.if_icmp .ge 73, 3) := by decide +kernel
theorem dX4_settle_67 : decode cX4_settle 67 = .ok (.aload_n 1, 1) := by decide +kernel
theorem dX4_settle_68 : decode cX4_settle 68 = .ok (.iload_n 3, 1) := by decide +kernel
theorem dX4_settle_69 : decode cX4_settle 69 = .ok (.aaload, 1) := by decide +kernel
theorem dX4_settle_70 : decode cX4_settle 70 = .ok (.getfield 37, 3) := by decide +kernel
theorem dX4_settle_73 : decode cX4_settle 73 = .ok (.istore 4, 2) := by decide +kernel
theorem dX4_settle_75 : decode cX4_settle 75 = .ok (.iload 4, 2) := by decide +kernel
theorem dX4_settle_77 : decode cX4_settle 77 = .ok (.ifCond .lt 54, 3) := by decide +kernel
theorem dX4_settle_80 : decode cX4_settle 80 = .ok (.iload 4, 2) := by decide +kernel
theorem dX4_settle_82 : decode cX4_settle 82 = .ok (.iload_n 2, 1) := by decide +kernel
theorem dX4_settle_83 : decode cX4_settle 83 = .ok (.if_icmp .ge 48, 3) := by decide +kernel
theorem dX4_settle_86 : decode cX4_settle 86 = .ok (.aload_n 0, 1) := by decide +kernel
theorem dX4_settle_87 : decode cX4_settle 87 = .ok (.getfield 15, 3) := by decide +kernel
theorem dX4_settle_90 : decode cX4_settle 90 = .ok (.iload_n 3, 1) := by decide +kernel
theorem dX4_settle_91 : decode cX4_settle 91 = .ok (.aload_n 1, 1) := by decide +kernel
theorem dX4_settle_92 : decode cX4_settle 92 = .ok (.iload_n 3, 1) := by decide +kernel
theorem dX4_settle_93 : decode cX4_settle 93 = .ok (.aaload, 1) := by decide +kernel
theorem dX4_settle_94 : decode cX4_settle 94 = .ok (.invokevirtual 21, 3) := by decide +kernel
theorem dX4_settle_97 : decode cX4_settle 97 = .ok (.aload_n 0, 1) := by decide +kernel
theorem dX4_settle_98 : decode cX4_settle 98 = .ok (.getfield 9, 3) := by decide +kernel
theorem dX4_settle_101 : decode cX4_settle 101 = .ok (.iload_n 3, 1) := by decide +kernel
theorem dX4_settle_102 : decode cX4_settle 102 = .ok (.iaload, 1) := by decide +kernel
theorem dX4_settle_103 : decode cX4_settle 103 = .ok (.isub, 1) := by decide +kernel
theorem dX4_settle_104 : decode cX4_settle 104 = .ok (.aload_n 0, 1) := by decide +kernel
theorem dX4_settle_105 : decode cX4_settle 105 = .ok (.getfield 18, 3) := by decide +kernel
theorem dX4_settle_108 : decode cX4_settle 108 = .ok (.iload 4, 2) := by decide +kernel
theorem dX4_settle_110 : decode cX4_settle 110 = .ok (.iaload, 1) := by decide +kernel
theorem dX4_settle_111 : decode cX4_settle 111 = .ok (.invokestatic 31, 3) := by decide +kernel
theorem dX4_settle_114 : decode cX4_settle 114 = .ok (.iastore, 1) := by decide +kernel
theorem dX4_settle_115 : decode cX4_settle 115 = .ok (.aload_n 0, 1) := by decide +kernel
theorem dX4_settle_116 : decode cX4_settle 116 = .ok (.getfield 18, 3) := by decide +kernel
theorem dX4_settle_119 : decode cX4_settle 119 = .ok (.iload 4, 2) := by decide +kernel
theorem dX4_settle_121 : decode cX4_settle 121 = .ok (.dup2, 1) := by decide +kernel
theorem dX4_settle_122 : decode cX4_settle 122 = .ok (.iaload, 1) := by decide +kernel
theorem dX4_settle_123 : decode cX4_settle 123 = .ok (.aload_n 0, 1) := by decide +kernel
theorem dX4_settle_124 : decode cX4_settle 124 = .ok (.getfield 15, 3) := by decide +kernel
theorem dX4_settle_127 : decode cX4_settle 127 = .ok (.iload_n 3, 1) := by decide +kernel
theorem dX4_settle_128 : decode cX4_settle 128 = .ok (.iaload, 1) := by decide +kernel
theorem dX4_settle_129 : decode cX4_settle 129 = .ok (.isub, 1) := by decide +kernel
theorem dX4_settle_130 : decode cX4_settle 130 = .ok (.iastore, 1) := by decide +kernel
theorem dX4_settle_131 : decode cX4_settle 131 = .ok (.iinc 3 1, 3) := by decide +kernel
theorem dX4_settle_134 : decode cX4_settle 134 = .ok (.goto (-72), 3) := by decide +kernel
theorem dX4_settle_137 : decode cX4_settle 137 = .ok (.return_, 1) := by decide +kernel
theorem dX5_init_0 : decode cX5_init 0 = .ok (.aload_n 0, 1) := by decide +kernel
theorem dX5_init_1 : decode cX5_init 1 = .ok (.invokespecial 3, 3) := by decide +kernel
theorem dX5_init_4 : decode cX5_init 4 = .ok (.aload_n 0, 1) := by decide +kernel
theorem dX5_init_5 : decode cX5_init 5 = .ok (.bipush (-2), 2) := by decide +kernel
theorem dX5_init_7 : decode cX5_init 7 = .ok (.putfield 9, 3) := by decide +kernel
theorem dX5_init_10 : decode cX5_init 10 = .ok (.aload_n 0, 1) := by decide +kernel
theorem dX5_init_11 : decode cX5_init 11 = .ok (.bipush (-2), 2) := by decide +kernel
theorem dX5_init_13 : decode cX5_init 13 = .ok (.putfield 15, 3) := by decide +kernel
theorem dX5_init_16 : decode cX5_init 16 = .ok (.aload_n 0, 1) := by decide +kernel
theorem dX5_init_17 : decode cX5_init 17 = .ok (.bipush (-2), 2) := by decide +kernel
theorem dX5_init_19 : decode cX5_init 19 = .ok (.putfield 18, 3) := by decide +kernel
theorem dX5_init_22 : decode cX5_init 22 = .ok (.aload_n 0, 1) := by decide +kernel
theorem dX5_init_23 : decode cX5_init 23 = .ok (.aload_n 1, 1) := by decide +kernel
theorem dX5_init_24 : decode cX5_init 24 = .ok (.putfield 21, 3) := by decide +kernel
theorem dX5_init_27 : decode cX5_init 27 = .ok (.return_, 1) := by decide +kernel
theorem dX5_hay_0 : decode cX5_hay 0 = .ok (.aload_n 0, 1) := by decide +kernel
theorem dX5_hay_1 : decode cX5_hay 1 = .ok (.getfield 25, 3) := by decide +kernel
theorem dX5_hay_4 : decode cX5_hay 4 = .ok (.aload_n 0, 1) := by decide +kernel
theorem dX5_hay_5 : decode cX5_hay 5 = .ok (.getfield 21, 3) := by decide +kernel
theorem dX5_hay_8 : decode cX5_hay 8 = .ok (.invokevirtual 28, 3) := by decide +kernel
theorem dX5_hay_11 : decode cX5_hay 11 = .ok (.imul, 1) := by decide +kernel
theorem dX5_hay_12 : decode cX5_hay 12 = .ok (.bipush 100, 2) := by decide +kernel
theorem dX5_hay_14 : decode cX5_hay 14 = .ok (.idiv, 1) := by decide +kernel
theorem dX5_hay_15 : decode cX5_hay 15 = .ok (.ireturn, 1) := by decide +kernel
theorem dX5_isSold_0 : decode cX5_isSold 0 = .ok (.aload_n 0, 1) := by decide +kernel
theorem dX5_isSold_1 : decode cX5_isSold 1 = .ok (.getfield 9, 3) := by decide +kernel
theorem dX5_isSold_4 : decode cX5_isSold 4 = .ok (.bipush (-2), 2) := by decide +kernel
theorem dX5_isSold_6 : decode cX5_isSold 6 = .ok (.if_icmp .eq 7, 3) := by decide +kernel
theorem dX5_isSold_9 : decode cX5_isSold 9 = .ok (.iconst 1, 1) := by decide +kernel
theorem dX5_isSold_10 : decode cX5_isSold 10 = .ok (.goto 4, 3) := by decide +kernel
theorem dX5_isSold_13 : decode cX5_isSold 13 = .ok (.iconst 0, 1) := by decide +kernel
theorem dX5_isSold_14 : decode cX5_isSold 14 = .ok (.ireturn, 1) := by decide +kernel
theorem dX5_isCut_0 : decode cX5_isCut 0 = .ok (.aload_n 0, 1) := by decide +kernel
theorem dX5_isCut_1 : decode cX5_isCut 1 = .ok (.getfield 18, 3) := by decide +kernel
theorem dX5_isCut_4 : decode cX5_isCut 4 = .ok (.bipush (-2), 2) := by decide +kernel
theorem dX5_isCut_6 : decode cX5_isCut 6 = .ok (.if_icmp .eq 7, 3) := by decide +kernel
theorem dX5_isCut_9 : decode cX5_isCut 9 = .ok (.iconst 1, 1) := by decide +kernel
theorem dX5_isCut_10 : decode cX5_isCut 10 = .ok (.goto 4, 3) := by decide +kernel
theorem dX5_isCut_13 : decode cX5_isCut 13 = .ok (.iconst 0, 1) := by decide +kernel
theorem dX5_isCut_14 : decode cX5_isCut 14 = .ok (.ireturn, 1) := by decide +kernel
theorem dX5_stands_0 : decode cX5_stands 0 = .ok (.aload_n 0, 1) := by decide +kernel
theorem dX5_stands_1 : decode cX5_stands 1 = .ok (.invokevirtual 34, 3) := by decide +kernel
theorem dX5_stands_4 : decode cX5_stands 4 = .ok (.ifCond .eq 21, 3) := by decide +kernel
theorem dX5_stands_7 : decode cX5_stands 7 = .ok (.aload_n 0, 1) := by decide +kernel
theorem dX5_stands_8 : decode cX5_stands 8 = .ok (.invokevirtual 38, 3) := by decide +kernel
theorem dX5_stands_11 : decode cX5_stands 11 = .ok (.ifCond .ne 14, 3) := by decide +kernel
theorem dX5_stands_14 : decode cX5_stands 14 = .ok (.aload_n 0, 1) := by decide +kernel
theorem dX5_stands_15 : decode cX5_stands 15 = .ok (.getfield 25, 3) := by decide +kernel
theorem dX5_stands_18 : decode cX5_stands 18 = .ok (.ifCond .le 7, 3) := by decide +kernel
theorem dX5_stands_21 : decode cX5_stands 21 = .ok (.iconst 1, 1) := by decide +kernel
theorem dX5_stands_22 : decode cX5_stands 22 = .ok (.goto 4, 3) := by decide +kernel
theorem dX5_stands_25 : decode cX5_stands 25 = .ok (.iconst 0, 1) := by decide +kernel
theorem dX5_stands_26 : decode cX5_stands 26 = .ok (.ireturn, 1) := by decide +kernel
theorem dX5_toll_0 : decode cX5_toll 0 = .ok (.aload_n 0, 1) := by decide +kernel
theorem dX5_toll_1 : decode cX5_toll 1 = .ok (.invokevirtual 41, 3) := by decide +kernel
theorem dX5_toll_4 : decode cX5_toll 4 = .ok (.ifCond .eq 13, 3) := by decide +kernel
theorem dX5_toll_7 : decode cX5_toll 7 = .ok (.aload_n 0, 1) := by decide +kernel
theorem dX5_toll_8 : decode cX5_toll 8 = .ok (.getfield 25, 3) := by decide +kernel
theorem dX5_toll_11 : decode cX5_toll 11 = .ok (.bipush 10, 2) := by decide +kernel
theorem dX5_toll_13 : decode cX5_toll 13 = .ok (.idiv, 1) := by decide +kernel
theorem dX5_toll_14 : decode cX5_toll 14 = .ok (.goto 4, 3) := by decide +kernel
theorem dX5_toll_17 : decode cX5_toll 17 = .ok (.iconst 0, 1) := by decide +kernel
theorem dX5_toll_18 : decode cX5_toll 18 = .ok (.ireturn, 1) := by decide +kernel
theorem dX5_beside_0 : decode cX5_beside 0 = .ok (.iload_n 0, 1) := by decide +kernel
theorem dX5_beside_1 : decode cX5_beside 1 = .ok (.bipush 6, 2) := by decide +kernel
theorem dX5_beside_3 : decode cX5_beside 3 = .ok (.irem, 1) := by decide +kernel
theorem dX5_beside_4 : decode cX5_beside 4 = .ok (.istore_n 2, 1) := by decide +kernel
theorem dX5_beside_5 : decode cX5_beside 5 = .ok (.iload_n 1, 1) := by decide +kernel
theorem dX5_beside_6 : decode cX5_beside 6 = .ok (.tableswitch 66 0 2 #[26, 38, 51], 26) := by decide +kernel
theorem dX5_beside_32 : decode cX5_beside 32 = .ok (.iload_n 2, 1) := by decide +kernel
theorem dX5_beside_33 : decode cX5_beside 33 = .ok (.ifCond .le 9, 3) := by decide +kernel
theorem dX5_beside_36 : decode cX5_beside 36 = .ok (.iload_n 0, 1) := by decide +kernel
theorem dX5_beside_37 : decode cX5_beside 37 = .ok (.iconst 1, 1) := by decide +kernel
theorem dX5_beside_38 : decode cX5_beside 38 = .ok (.isub, 1) := by decide +kernel
theorem dX5_beside_39 : decode cX5_beside 39 = .ok (.goto 4, 3) := by decide +kernel
theorem dX5_beside_42 : decode cX5_beside 42 = .ok (.iconst (-1), 1) := by decide +kernel
theorem dX5_beside_43 : decode cX5_beside 43 = .ok (.ireturn, 1) := by decide +kernel
theorem dX5_beside_44 : decode cX5_beside 44 = .ok (.iload_n 2, 1) := by decide +kernel
theorem dX5_beside_45 : decode cX5_beside 45 = .ok (.iconst 5, 1) := by decide +kernel
theorem dX5_beside_46 : decode cX5_beside 46 = .ok (.if_icmp .ge 9, 3) := by decide +kernel
theorem dX5_beside_49 : decode cX5_beside 49 = .ok (.iload_n 0, 1) := by decide +kernel
theorem dX5_beside_50 : decode cX5_beside 50 = .ok (.iconst 1, 1) := by decide +kernel
theorem dX5_beside_51 : decode cX5_beside 51 = .ok (.iadd, 1) := by decide +kernel
theorem dX5_beside_52 : decode cX5_beside 52 = .ok (.goto 4, 3) := by decide +kernel
theorem dX5_beside_55 : decode cX5_beside 55 = .ok (.iconst (-1), 1) := by decide +kernel
theorem dX5_beside_56 : decode cX5_beside 56 = .ok (.ireturn, 1) := by decide +kernel
theorem dX5_beside_57 : decode cX5_beside 57 = .ok (.iload_n 0, 1) := by decide +kernel
theorem dX5_beside_58 : decode cX5_beside 58 = .ok (.bipush 6, 2) := by decide +kernel
theorem dX5_beside_60 : decode cX5_beside 60 = .ok (.if_icmp .lt 10, 3) := by decide +kernel
theorem dX5_beside_63 : decode cX5_beside 63 = .ok (.iload_n 0, 1) := by decide +kernel
theorem dX5_beside_64 : decode cX5_beside 64 = .ok (.bipush 6, 2) := by decide +kernel
theorem dX5_beside_66 : decode cX5_beside 66 = .ok (.isub, 1) := by decide +kernel
theorem dX5_beside_67 : decode cX5_beside 67 = .ok (.goto 4, 3) := by decide +kernel
theorem dX5_beside_70 : decode cX5_beside 70 = .ok (.iconst (-1), 1) := by decide +kernel
theorem dX5_beside_71 : decode cX5_beside 71 = .ok (.ireturn, 1) := by decide +kernel
theorem dX5_beside_72 : decode cX5_beside 72 = .ok (.iload_n 0, 1) := by decide +kernel
theorem dX5_beside_73 : decode cX5_beside 73 = .ok (.bipush 18, 2) := by decide +kernel
theorem dX5_beside_75 : decode cX5_beside 75 = .ok (.if_icmp .ge 10, 3) := by decide +kernel
theorem dX5_beside_78 : decode cX5_beside 78 = .ok (.iload_n 0, 1) := by decide +kernel
theorem dX5_beside_79 : decode cX5_beside 79 = .ok (.bipush 6, 2) := by decide +kernel
theorem dX5_beside_81 : decode cX5_beside 81 = .ok (.iadd, 1) := by decide +kernel
theorem dX5_beside_82 : decode cX5_beside 82 = .ok (.goto 4, 3) := by decide +kernel
theorem dX5_beside_85 : decode cX5_beside 85 = .ok (.iconst (-1), 1) := by decide +kernel
theorem dX5_beside_86 : decode cX5_beside 86 = .ok (.ireturn, 1) := by decide +kernel
theorem dX5_steps_0 : decode cX5_steps 0 = .ok (.iload_n 0, 1) := by decide +kernel
theorem dX5_steps_1 : decode cX5_steps 1 = .ok (.bipush 6, 2) := by decide +kernel
theorem dX5_steps_3 : decode cX5_steps 3 = .ok (.irem, 1) := by decide +kernel
theorem dX5_steps_4 : decode cX5_steps 4 = .ok (.iload_n 1, 1) := by decide +kernel
theorem dX5_steps_5 : decode cX5_steps 5 = .ok (.bipush 6, 2) := by decide +kernel
theorem dX5_steps_7 : decode cX5_steps 7 = .ok (.irem, 1) := by decide +kernel
theorem dX5_steps_8 : decode cX5_steps 8 = .ok (.isub, 1) := by decide +kernel
theorem dX5_steps_9 : decode cX5_steps 9 = .ok (.invokestatic 44, 3) := by decide +kernel
theorem dX5_steps_12 : decode cX5_steps 12 = .ok (.iload_n 0, 1) := by decide +kernel
theorem dX5_steps_13 : decode cX5_steps 13 = .ok (.bipush 6, 2) := by decide +kernel
theorem dX5_steps_15 : decode cX5_steps 15 = .ok (.idiv, 1) := by decide +kernel
theorem dX5_steps_16 : decode cX5_steps 16 = .ok (.iload_n 1, 1) := by decide +kernel
theorem dX5_steps_17 : decode cX5_steps 17 = .ok (.bipush 6, 2) := by decide +kernel
theorem dX5_steps_19 : decode cX5_steps 19 = .ok (.idiv, 1) := by decide +kernel
theorem dX5_steps_20 : decode cX5_steps 20 = .ok (.isub, 1) := by decide +kernel
theorem dX5_steps_21 : decode cX5_steps 21 = .ok (.invokestatic 44, 3) := by decide +kernel
theorem dX5_steps_24 : decode cX5_steps 24 = .ok (.iadd, 1) := by decide +kernel
theorem dX5_steps_25 : decode cX5_steps 25 = .ok (.ireturn, 1) := by decide +kernel
theorem dX6_init_0 : decode cX6_init 0 = .ok (.aload_n 0, 1) := by decide +kernel
theorem dX6_init_1 : decode cX6_init 1 = .ok (.invokespecial 3, 3) := by decide +kernel
theorem dX6_init_4 : decode cX6_init 4 = .ok (.aload_n 0, 1) := by decide +kernel
theorem dX6_init_5 : decode cX6_init 5 = .ok (.bipush 10, 2) := by decide +kernel
theorem dX6_init_7 : decode cX6_init 7 = .ok (.newarray .int, 2) := by decide +kernel
theorem dX6_init_9 : decode cX6_init 9 = .ok (.putfield 9, 3) := by decide +kernel
theorem dX6_init_12 : decode cX6_init 12 = .ok (.aload_n 0, 1) := by decide +kernel
theorem dX6_init_13 : decode cX6_init 13 = .ok (.bipush 10, 2) := by decide +kernel
theorem dX6_init_15 : decode cX6_init 15 = .ok (.newarray .boolean, 2) := by decide +kernel
theorem dX6_init_17 : decode cX6_init 17 = .ok (.putfield 15, 3) := by decide +kernel
theorem dX6_init_20 : decode cX6_init 20 = .ok (.aload_n 0, 1) := by decide +kernel
theorem dX6_init_21 : decode cX6_init 21 = .ok (.bipush (-2), 2) := by decide +kernel
theorem dX6_init_23 : decode cX6_init 23 = .ok (.putfield 19, 3) := by decide +kernel
theorem dX6_init_26 : decode cX6_init 26 = .ok (.return_, 1) := by decide +kernel
theorem dX6_burn_0 : decode cX6_burn 0 = .ok (.aload_n 0, 1) := by decide +kernel
theorem dX6_burn_1 : decode cX6_burn 1 = .ok (.bipush (-2), 2) := by decide +kernel
theorem dX6_burn_3 : decode cX6_burn 3 = .ok (.putfield 19, 3) := by decide +kernel
theorem dX6_burn_6 : decode cX6_burn 6 = .ok (.aload_n 0, 1) := by decide +kernel
theorem dX6_burn_7 : decode cX6_burn 7 = .ok (.iconst 0, 1) := by decide +kernel
theorem dX6_burn_8 : decode cX6_burn 8 = .ok (.putfield 23, 3) := by decide +kernel
theorem dX6_burn_11 : decode cX6_burn 11 = .ok (.iload_n 2, 1) := by decide +kernel
theorem dX6_burn_12 : decode cX6_burn 12 = .ok (.istore_n 3, 1) := by decide +kernel
theorem dX6_burn_13 : decode cX6_burn 13 = .ok (.iconst 0, 1) := by decide +kernel
theorem dX6_burn_14 : decode cX6_burn 14 = .ok (.istore 4, 2) := by decide +kernel
theorem dX6_burn_16 : decode cX6_burn 16 = .ok (.iload 4, 2) := by decide +kernel
theorem dX6_burn_18 : decode cX6_burn 18 = .ok (.iload_n 1, 1) := by decide +kernel
theorem dX6_burn_19 : decode cX6_burn 19 = .ok (.if_icmp .ge 105, 3) := by decide +kernel
theorem dX6_burn_22 : decode cX6_burn 22 = .ok (.aload_n 0, 1) := by decide +kernel
theorem dX6_burn_23 : decode cX6_burn 23 = .ok (.getfield 15, 3) := by decide +kernel
theorem dX6_burn_26 : decode cX6_burn 26 = .ok (.iload_n 3, 1) := by decide +kernel
theorem dX6_burn_27 : decode cX6_burn 27 = .ok (.baload, 1) := by decide +kernel
theorem dX6_burn_28 : decode cX6_burn 28 = .ok (.ifCond .eq 16, 3) := by decide +kernel
theorem dX6_burn_31 : decode cX6_burn 31 = .ok (.iload_n 1, 1) := by decide +kernel
theorem dX6_burn_32 : decode cX6_burn 32 = .ok (.iload 4, 2) := by decide +kernel
theorem dX6_burn_34 : decode cX6_burn 34 = .ok (.isub, 1) := by decide +kernel
theorem dX6_burn_35 : decode cX6_burn 35 = .ok (.iconst 3, 1) := by decide +kernel
theorem dX6_burn_36 : decode cX6_burn 36 = .ok (.aload_n 0, 1) := by decide +kernel
theorem dX6_burn_37 : decode cX6_burn 37 = .ok (.getfield 26, 3) := by decide +kernel
theorem dX6_burn_40 : decode cX6_burn 40 = .ok (.imul, 1) := by decide +kernel
theorem dX6_burn_41 : decode cX6_burn 41 = .ok (.if_icmp .gt 7, 3) := by decide +kernel
theorem dX6_burn_44 : decode cX6_burn 44 = .ok (.iconst 1, 1) := by decide +kernel
theorem dX6_burn_45 : decode cX6_burn 45 = .ok (.goto 4, 3) := by decide +kernel
theorem dX6_burn_48 : decode cX6_burn 48 = .ok (.iconst 0, 1) := by decide +kernel
theorem dX6_burn_49 : decode cX6_burn 49 = .ok (.istore 5, 2) := by decide +kernel
theorem dX6_burn_51 : decode cX6_burn 51 = .ok (.iload 5, 2) := by decide +kernel
theorem dX6_burn_53 : decode cX6_burn 53 = .ok (.ifCond .eq 47, 3) := by decide +kernel
theorem dX6_burn_56 : decode cX6_burn 56 = .ok (.iload_n 3, 1) := by decide +kernel
theorem dX6_burn_57 : decode cX6_burn 57 = .ok (.aload_n 0, 1) := by decide +kernel
theorem dX6_burn_58 : decode cX6_burn 58 = .ok (.getfield 19, 3) := by decide +kernel
theorem dX6_burn_61 : decode cX6_burn 61 = .ok (.if_icmp .eq 39, 3) := by decide +kernel
theorem dX6_burn_64 : decode cX6_burn 64 = .ok (.aload_n 0, 1) := by decide +kernel
theorem dX6_burn_65 : decode cX6_burn 65 = .ok (.getfield 23, 3) := by decide +kernel
theorem dX6_burn_68 : decode cX6_burn 68 = .ok (.aload_n 0, 1) := by decide +kernel
theorem dX6_burn_69 : decode cX6_burn 69 = .ok (.getfield 29, 3) := by decide +kernel
theorem dX6_burn_72 : decode cX6_burn 72 = .ok (.iadd, 1) := by decide +kernel
theorem dX6_burn_73 : decode cX6_burn 73 = .ok (.aload_n 0, 1) := by decide +kernel
theorem dX6_burn_74 : decode cX6_burn 74 = .ok (.getfield 9, 3) := by decide +kernel
theorem dX6_burn_77 : decode cX6_burn 77 = .ok (.iload_n 3, 1) := by decide +kernel
theorem dX6_burn_78 : decode cX6_burn 78 = .ok (.iaload, 1) := by decide +kernel
theorem dX6_burn_79 : decode cX6_burn 79 = .ok (.if_icmp .gt 21, 3) := by decide +kernel
theorem dX6_burn_82 : decode cX6_burn 82 = .ok (.aload_n 0, 1) := by decide +kernel
theorem dX6_burn_83 : decode cX6_burn 83 = .ok (.iload_n 3, 1) := by decide +kernel
theorem dX6_burn_84 : decode cX6_burn 84 = .ok (.putfield 19, 3) := by decide +kernel
theorem dX6_burn_87 : decode cX6_burn 87 = .ok (.aload_n 0, 1) := by decide +kernel
theorem dX6_burn_88 : decode cX6_burn 88 = .ok (.dup, 1) := by decide +kernel
theorem dX6_burn_89 : decode cX6_burn 89 = .ok (.getfield 23, 3) := by decide +kernel
theorem dX6_burn_92 : decode cX6_burn 92 = .ok (.aload_n 0, 1) := by decide +kernel
theorem dX6_burn_93 : decode cX6_burn 93 = .ok (.getfield 29, 3) := by decide +kernel
theorem dX6_burn_96 : decode cX6_burn 96 = .ok (.iadd, 1) := by decide +kernel
theorem dX6_burn_97 : decode cX6_burn 97 = .ok (.putfield 23, 3) := by decide +kernel
theorem dX6_burn_100 : decode cX6_burn 100 = .ok (.iload_n 3, 1) := by decide +kernel
theorem dX6_burn_101 : decode cX6_burn 101 = .ok (.iconst 1, 1) := by decide +kernel
theorem dX6_burn_102 : decode cX6_burn 102 = .ok (.iadd, 1) := by decide +kernel
theorem dX6_burn_103 : decode cX6_burn 103 = .ok (.aload_n 0, 1) := by decide +kernel
theorem dX6_burn_104 : decode cX6_burn 104 = .ok (.getfield 26, 3) := by decide +kernel
theorem dX6_burn_107 : decode cX6_burn 107 = .ok (.if_icmp .ge 9, 3) := by decide +kernel
theorem dX6_burn_110 : decode cX6_burn 110 = .ok (.iload_n 3, 1) := by decide +kernel
theorem dX6_burn_111 : decode cX6_burn 111 = .ok (.iconst 1, 1) := by decide +kernel
theorem dX6_burn_112 : decode cX6_burn 112 = .ok (.iadd, 1) := by decide +kernel
theorem dX6_burn_113 : decode cX6_burn 113 = .ok (.goto 4, 3) := by decide +kernel
theorem dX6_burn_116 : decode cX6_burn 116 = .ok (.iconst 0, 1) := by decide +kernel
theorem dX6_burn_117 : decode cX6_burn 117 = .ok (.istore_n 3, 1) := by decide +kernel
theorem dX6_burn_118 : decode cX6_burn 118 = .ok (.iinc 4 1, 3) := by decide +kernel
theorem dX6_burn_121 : decode cX6_burn 121 = .ok (.goto (-105), 3) := by decide +kernel
theorem dX6_burn_124 : decode cX6_burn 124 = .ok (.return_, 1) := by decide +kernel
theorem dX6_lotTaker_0 : decode cX6_lotTaker 0 = .ok (.aload_n 0, 1) := by decide +kernel
theorem dX6_lotTaker_1 : decode cX6_lotTaker 1 = .ok (.bipush (-2), 2) := by decide +kernel
theorem dX6_lotTaker_3 : decode cX6_lotTaker 3 = .ok (.invokevirtual 32, 3) := by decide +kernel
theorem dX6_lotTaker_6 : decode cX6_lotTaker 6 = .ok (.ireturn, 1) := by decide +kernel
theorem dX6_lotPrice_0 : decode cX6_lotPrice 0 = .ok (.iload_n 1, 1) := by decide +kernel
theorem dX6_lotPrice_1 : decode cX6_lotPrice 1 = .ok (.bipush (-2), 2) := by decide +kernel
theorem dX6_lotPrice_3 : decode cX6_lotPrice 3 = .ok (.if_icmp .ne 5, 3) := by decide +kernel
theorem dX6_lotPrice_6 : decode cX6_lotPrice 6 = .ok (.iconst 0, 1) := by decide +kernel
theorem dX6_lotPrice_7 : decode cX6_lotPrice 7 = .ok (.ireturn, 1) := by decide +kernel
theorem dX6_lotPrice_8 : decode cX6_lotPrice 8 = .ok (.aload_n 0, 1) := by decide +kernel
theorem dX6_lotPrice_9 : decode cX6_lotPrice 9 = .ok (.iload_n 1, 1) := by decide +kernel
theorem dX6_lotPrice_10 : decode cX6_lotPrice 10 = .ok (.invokevirtual 32, 3) := by decide +kernel
theorem dX6_lotPrice_13 : decode cX6_lotPrice 13 = .ok (.istore_n 2, 1) := by decide +kernel
theorem dX6_lotPrice_14 : decode cX6_lotPrice 14 = .ok (.iload_n 2, 1) := by decide +kernel
theorem dX6_lotPrice_15 : decode cX6_lotPrice 15 = .ok (.bipush (-2), 2) := by decide +kernel
theorem dX6_lotPrice_17 : decode cX6_lotPrice 17 = .ok (.if_icmp .ne 10, 3) := by decide +kernel
theorem dX6_lotPrice_20 : decode cX6_lotPrice 20 = .ok (.aload_n 0, 1) := by decide +kernel
theorem dX6_lotPrice_21 : decode cX6_lotPrice 21 = .ok (.getfield 29, 3) := by decide +kernel
theorem dX6_lotPrice_24 : decode cX6_lotPrice 24 = .ok (.goto 23, 3) := by decide +kernel
theorem dX6_lotPrice_27 : decode cX6_lotPrice 27 = .ok (.aload_n 0, 1) := by decide +kernel
theorem dX6_lotPrice_28 : decode cX6_lotPrice 28 = .ok (.getfield 9, 3) := by decide +kernel
theorem dX6_lotPrice_31 : decode cX6_lotPrice 31 = .ok (.iload_n 1, 1) := by decide +kernel
theorem dX6_lotPrice_32 : decode cX6_lotPrice 32 = .ok (.iaload, 1) := by decide +kernel
theorem dX6_lotPrice_33 : decode cX6_lotPrice 33 = .ok (.aload_n 0, 1) := by decide +kernel
theorem dX6_lotPrice_34 : decode cX6_lotPrice 34 = .ok (.getfield 9, 3) := by decide +kernel
theorem dX6_lotPrice_37 : decode cX6_lotPrice 37 = .ok (.iload_n 2, 1) := by decide +kernel
theorem dX6_lotPrice_38 : decode cX6_lotPrice 38 = .ok (.iaload, 1) := by decide +kernel
theorem dX6_lotPrice_39 : decode cX6_lotPrice 39 = .ok (.aload_n 0, 1) := by decide +kernel
theorem dX6_lotPrice_40 : decode cX6_lotPrice 40 = .ok (.getfield 29, 3) := by decide +kernel
theorem dX6_lotPrice_43 : decode cX6_lotPrice 43 = .ok (.iadd, 1) := by decide +kernel
theorem dX6_lotPrice_44 : decode cX6_lotPrice 44 = .ok (.invokestatic 36, 3) := by decide +kernel
theorem dX6_lotPrice_47 : decode cX6_lotPrice 47 = .ok (.ireturn, 1) := by decide +kernel
theorem dX6_greatestBut_0 : decode cX6_greatestBut 0 = .ok (.bipush (-2), 2) := by decide +kernel
theorem dX6_greatestBut_2 : decode cX6_greatestBut 2 = .ok (.istore_n 2, 1) := by decide +kernel
theorem dX6_greatestBut_3 : decode cX6_greatestBut 3 = .ok (.iconst 0, 1) := by decide +kernel
theorem dX6_greatestBut_4 : decode cX6_greatestBut 4 = .ok (.istore_n 3, 1) := by decide +kernel
theorem dX6_greatestBut_5 : decode cX6_greatestBut 5 = .ok (.iload_n 3, 1) := by decide +kernel
theorem dX6_greatestBut_6 : decode cX6_greatestBut 6 = .ok (.aload_n 0, 1) := by decide +kernel
theorem dX6_greatestBut_7 : decode cX6_greatestBut 7 = .ok (.getfield 26, 3) := by decide +kernel
theorem dX6_greatestBut_10 : decode cX6_greatestBut 10 = .ok (.if_icmp .ge 62, 3) := by decide +kernel
theorem dX6_greatestBut_13 : decode cX6_greatestBut 13 = .ok (.iload_n 3, 1) := by decide +kernel
theorem dX6_greatestBut_14 : decode cX6_greatestBut 14 = .ok (.iload_n 1, 1) := by decide +kernel
theorem dX6_greatestBut_15 : decode cX6_greatestBut 15 = .ok (.if_icmp .eq 20, 3) := by decide +kernel
theorem dX6_greatestBut_18 : decode cX6_greatestBut 18 = .ok (.aload_n 0, 1) := by decide +kernel
theorem dX6_greatestBut_19 : decode cX6_greatestBut 19 = .ok (.getfield 9, 3) := by decide +kernel
theorem dX6_greatestBut_22 : decode cX6_greatestBut 22 = .ok (.iload_n 3, 1) := by decide +kernel
theorem dX6_greatestBut_23 : decode cX6_greatestBut 23 = .ok (.iaload, 1) := by decide +kernel
theorem dX6_greatestBut_24 : decode cX6_greatestBut 24 = .ok (.aload_n 0, 1) := by decide +kernel
theorem dX6_greatestBut_25 : decode cX6_greatestBut 25 = .ok (.getfield 29, 3) := by decide +kernel
theorem dX6_greatestBut_28 : decode cX6_greatestBut 28 = .ok (.if_icmp .lt 7, 3) := by decide +kernel
theorem dX6_greatestBut_31 : decode cX6_greatestBut 31 = .ok (.iconst 1, 1) := by decide +kernel
theorem dX6_greatestBut_32 : decode cX6_greatestBut 32 = .ok (.goto 4, 3) := by decide +kernel
theorem dX6_greatestBut_35 : decode cX6_greatestBut 35 = .ok (.iconst 0, 1) := by decide +kernel
theorem dX6_greatestBut_36 : decode cX6_greatestBut 36 = .ok (.istore 4, 2) := by decide +kernel
theorem dX6_greatestBut_38 : decode cX6_greatestBut 38 = .ok (.iload 4, 2) := by decide +kernel
theorem dX6_greatestBut_40 : decode cX6_greatestBut 40 = .ok (.ifCond .eq 26, 3) := by decide +kernel
theorem dX6_greatestBut_43 : decode cX6_greatestBut 43 = .ok (.iload_n 2, 1) := by decide +kernel
theorem dX6_greatestBut_44 : decode cX6_greatestBut 44 = .ok (.bipush (-2), 2) := by decide +kernel
theorem dX6_greatestBut_46 : decode cX6_greatestBut 46 = .ok (.if_icmp .eq 18, 3) := by decide +kernel
theorem dX6_greatestBut_49 : decode cX6_greatestBut 49 = .ok (.aload_n 0, 1) := by decide +kernel
theorem dX6_greatestBut_50 : decode cX6_greatestBut 50 = .ok (.getfield 9, 3) := by decide +kernel
theorem dX6_greatestBut_53 : decode cX6_greatestBut 53 = .ok (.iload_n 3, 1) := by decide +kernel
theorem dX6_greatestBut_54 : decode cX6_greatestBut 54 = .ok (.iaload, 1) := by decide +kernel
theorem dX6_greatestBut_55 : decode cX6_greatestBut 55 = .ok (.aload_n 0, 1) := by decide +kernel
theorem dX6_greatestBut_56 : decode cX6_greatestBut 56 = .ok (.getfield 9, 3) := by decide +kernel
theorem dX6_greatestBut_59 : decode cX6_greatestBut 59 = .ok (.iload_n 2, 1) := by decide +kernel
theorem dX6_greatestBut_60 : decode cX6_greatestBut 60 = .ok (.iaload, 1) := by decide +kernel
theorem dX6_greatestBut_61 : decode cX6_greatestBut 61 = .ok (.if_icmp .le 5, 3) := by decide +kernel
theorem dX6_greatestBut_64 : decode cX6_greatestBut 64 = .ok (.iload_n 3, 1) := by decide +kernel
theorem dX6_greatestBut_65 : decode cX6_greatestBut 65 = .ok (.istore_n 2, 1) := by decide +kernel
theorem dX6_greatestBut_66 : decode cX6_greatestBut 66 = .ok (.iinc 3 1, 3) := by decide +kernel
theorem dX6_greatestBut_69 : decode cX6_greatestBut 69 = .ok (.goto (-64), 3) := by decide +kernel
theorem dX6_greatestBut_72 : decode cX6_greatestBut 72 = .ok (.iload_n 2, 1) := by decide +kernel
theorem dX6_greatestBut_73 : decode cX6_greatestBut 73 = .ok (.ireturn, 1) := by decide +kernel
theorem dX7_init_0 : decode cX7_init 0 = .ok (.aload_n 0, 1) := by decide +kernel
theorem dX7_init_1 : decode cX7_init 1 = .ok (.invokespecial 3, 3) := by decide +kernel
theorem dX7_init_4 : decode cX7_init 4 = .ok (.aload_n 0, 1) := by decide +kernel
theorem dX7_init_5 : decode cX7_init 5 = .ok (.iconst 0, 1) := by decide +kernel
theorem dX7_init_6 : decode cX7_init 6 = .ok (.putfield 9, 3) := by decide +kernel
theorem dX7_init_9 : decode cX7_init 9 = .ok (.aload_n 0, 1) := by decide +kernel
theorem dX7_init_10 : decode cX7_init 10 = .ok (.bipush 60, 2) := by decide +kernel
theorem dX7_init_12 : decode cX7_init 12 = .ok (.newarray .int, 2) := by decide +kernel
theorem dX7_init_14 : decode cX7_init 14 = .ok (.putfield 15, 3) := by decide +kernel
theorem dX7_init_17 : decode cX7_init 17 = .ok (.aload_n 0, 1) := by decide +kernel
theorem dX7_init_18 : decode cX7_init 18 = .ok (.bipush 60, 2) := by decide +kernel
theorem dX7_init_20 : decode cX7_init 20 = .ok (.newarray .byte, 2) := by decide +kernel
theorem dX7_init_22 : decode cX7_init 22 = .ok (.putfield 19, 3) := by decide +kernel
theorem dX7_init_25 : decode cX7_init 25 = .ok (.aload_n 0, 1) := by decide +kernel
theorem dX7_init_26 : decode cX7_init 26 = .ok (.aload_n 1, 1) := by decide +kernel
theorem dX7_init_27 : decode cX7_init 27 = .ok (.putfield 23, 3) := by decide +kernel
theorem dX7_init_30 : decode cX7_init 30 = .ok (.return_, 1) := by decide +kernel
theorem dX7_isRow_0 : decode cX7_isRow 0 = .ok (.aload_n 0, 1) := by decide +kernel
theorem dX7_isRow_1 : decode cX7_isRow 1 = .ok (.getfield 9, 3) := by decide +kernel
theorem dX7_isRow_4 : decode cX7_isRow 4 = .ok (.iconst 3, 1) := by decide +kernel
theorem dX7_isRow_5 : decode cX7_isRow 5 = .ok (.if_icmp .eq 11, 3) := by decide +kernel
theorem dX7_isRow_8 : decode cX7_isRow 8 = .ok (.aload_n 0, 1) := by decide +kernel
theorem dX7_isRow_9 : decode cX7_isRow 9 = .ok (.getfield 9, 3) := by decide +kernel
theorem dX7_isRow_12 : decode cX7_isRow 12 = .ok (.iconst 4, 1) := by decide +kernel
theorem dX7_isRow_13 : decode cX7_isRow 13 = .ok (.if_icmp .ne 7, 3) := by decide +kernel
theorem dX7_isRow_16 : decode cX7_isRow 16 = .ok (.iconst 1, 1) := by decide +kernel
theorem dX7_isRow_17 : decode cX7_isRow 17 = .ok (.goto 4, 3) := by decide +kernel
theorem dX7_isRow_20 : decode cX7_isRow 20 = .ok (.iconst 0, 1) := by decide +kernel
theorem dX7_isRow_21 : decode cX7_isRow 21 = .ok (.ireturn, 1) := by decide +kernel
theorem dX7_takeRow_0 : decode cX7_takeRow 0 = .ok (.aload_n 0, 1) := by decide +kernel
theorem dX7_takeRow_1 : decode cX7_takeRow 1 = .ok (.iload_n 1, 1) := by decide +kernel
theorem dX7_takeRow_2 : decode cX7_takeRow 2 = .ok (.putfield 9, 3) := by decide +kernel
theorem dX7_takeRow_5 : decode cX7_takeRow 5 = .ok (.aload_n 0, 1) := by decide +kernel
theorem dX7_takeRow_6 : decode cX7_takeRow 6 = .ok (.iload_n 2, 1) := by decide +kernel
theorem dX7_takeRow_7 : decode cX7_takeRow 7 = .ok (.putfield 27, 3) := by decide +kernel
theorem dX7_takeRow_10 : decode cX7_takeRow 10 = .ok (.aload_n 0, 1) := by decide +kernel
theorem dX7_takeRow_11 : decode cX7_takeRow 11 = .ok (.getfield 15, 3) := by decide +kernel
theorem dX7_takeRow_14 : decode cX7_takeRow 14 = .ok (.iconst 0, 1) := by decide +kernel
theorem dX7_takeRow_15 : decode cX7_takeRow 15 = .ok (.invokestatic 30, 3) := by decide +kernel
theorem dX7_takeRow_18 : decode cX7_takeRow 18 = .ok (.aload_n 0, 1) := by decide +kernel
theorem dX7_takeRow_19 : decode cX7_takeRow 19 = .ok (.getfield 19, 3) := by decide +kernel
theorem dX7_takeRow_22 : decode cX7_takeRow 22 = .ok (.iconst 0, 1) := by decide +kernel
theorem dX7_takeRow_23 : decode cX7_takeRow 23 = .ok (.invokestatic 36, 3) := by decide +kernel
theorem dX7_takeRow_26 : decode cX7_takeRow 26 = .ok (.return_, 1) := by decide +kernel
theorem dX7_hasPlaces_0 : decode cX7_hasPlaces 0 = .ok (.iload_n 2, 1) := by decide +kernel
theorem dX7_hasPlaces_1 : decode cX7_hasPlaces 1 = .ok (.ifCond .lt 29, 3) := by decide +kernel
theorem dX7_hasPlaces_4 : decode cX7_hasPlaces 4 = .ok (.iload_n 1, 1) := by decide +kernel
theorem dX7_hasPlaces_5 : decode cX7_hasPlaces 5 = .ok (.ifCond .lt 25, 3) := by decide +kernel
theorem dX7_hasPlaces_8 : decode cX7_hasPlaces 8 = .ok (.iload_n 1, 1) := by decide +kernel
theorem dX7_hasPlaces_9 : decode cX7_hasPlaces 9 = .ok (.aload_n 0, 1) := by decide +kernel
theorem dX7_hasPlaces_10 : decode cX7_hasPlaces 10 = .ok (.getfield 27, 3) := by decide +kernel
theorem dX7_hasPlaces_13 : decode cX7_hasPlaces 13 = .ok (.if_icmp .gt 17, 3) := by decide +kernel
theorem dX7_hasPlaces_16 : decode cX7_hasPlaces 16 = .ok (.iload_n 2, 1) := by decide +kernel
theorem dX7_hasPlaces_17 : decode cX7_hasPlaces 17 = .ok (.aload_n 0, 1) := by decide +kernel
theorem dX7_hasPlaces_18 : decode cX7_hasPlaces 18 = .ok (.getfield 27, 3) := by decide +kernel
theorem dX7_hasPlaces_21 : decode cX7_hasPlaces 21 = .ok (.iload_n 1, 1) := by decide +kernel
theorem dX7_hasPlaces_22 : decode cX7_hasPlaces 22 = .ok (.isub, 1) := by decide +kernel
theorem dX7_hasPlaces_23 : decode cX7_hasPlaces 23 = .ok (.if_icmp .gt 7, 3) := by decide +kernel
theorem dX7_hasPlaces_26 : decode cX7_hasPlaces 26 = .ok (.iconst 1, 1) := by decide +kernel
theorem dX7_hasPlaces_27 : decode cX7_hasPlaces 27 = .ok (.goto 4, 3) := by decide +kernel
theorem dX7_hasPlaces_30 : decode cX7_hasPlaces 30 = .ok (.iconst 0, 1) := by decide +kernel
theorem dX7_hasPlaces_31 : decode cX7_hasPlaces 31 = .ok (.ireturn, 1) := by decide +kernel
theorem dX8_init_0 : decode cX8_init 0 = .ok (.aload_n 0, 1) := by decide +kernel
theorem dX8_init_1 : decode cX8_init 1 = .ok (.invokespecial 3, 3) := by decide +kernel
theorem dX8_init_4 : decode cX8_init 4 = .ok (.aload_n 0, 1) := by decide +kernel
theorem dX8_init_5 : decode cX8_init 5 = .ok (.bipush 24, 2) := by decide +kernel
theorem dX8_init_7 : decode cX8_init 7 = .ok (.newarray .int, 2) := by decide +kernel
theorem dX8_init_9 : decode cX8_init 9 = .ok (.putfield 9, 3) := by decide +kernel
theorem dX8_init_12 : decode cX8_init 12 = .ok (.aload_n 0, 1) := by decide +kernel
theorem dX8_init_13 : decode cX8_init 13 = .ok (.bipush 24, 2) := by decide +kernel
theorem dX8_init_15 : decode cX8_init 15 = .ok (.newarray .int, 2) := by decide +kernel
theorem dX8_init_17 : decode cX8_init 17 = .ok (.putfield 15, 3) := by decide +kernel
theorem dX8_init_20 : decode cX8_init 20 = .ok (.return_, 1) := by decide +kernel
theorem dX8_trampled_0 : decode cX8_trampled 0 = .ok (.iconst 0, 1) := by decide +kernel
theorem dX8_trampled_1 : decode cX8_trampled 1 = .ok (.istore_n 3, 1) := by decide +kernel
theorem dX8_trampled_2 : decode cX8_trampled 2 = .ok (.iload_n 3, 1) := by decide +kernel
theorem dX8_trampled_3 : decode cX8_trampled 3 = .ok (.bipush 24, 2) := by decide +kernel
theorem dX8_trampled_5 : decode cX8_trampled 5 = .ok (.if_icmp .ge 21, 3) := by decide +kernel
theorem dX8_trampled_8 : decode cX8_trampled 8 = .ok (.aload_n 0, 1) := by decide +kernel
theorem dX8_trampled_9 : decode cX8_trampled 9 = .ok (.getfield 9, 3) := by decide +kernel
theorem dX8_trampled_12 : decode cX8_trampled 12 = .ok (.iload_n 3, 1) := by decide +kernel
theorem dX8_trampled_13 : decode cX8_trampled 13 = .ok (.aload_n 1, 1) := by decide +kernel
theorem dX8_trampled_14 : decode cX8_trampled 14 = .ok (.iload_n 3, 1) := by decide +kernel
theorem dX8_trampled_15 : decode cX8_trampled 15 = .ok (.aaload, 1) := by decide +kernel
theorem dX8_trampled_16 : decode cX8_trampled 16 = .ok (.invokevirtual 18, 3) := by decide +kernel
theorem dX8_trampled_19 : decode cX8_trampled 19 = .ok (.iastore, 1) := by decide +kernel
theorem dX8_trampled_20 : decode cX8_trampled 20 = .ok (.iinc 3 1, 3) := by decide +kernel
theorem dX8_trampled_23 : decode cX8_trampled 23 = .ok (.goto (-21), 3) := by decide +kernel
theorem dX8_trampled_26 : decode cX8_trampled 26 = .ok (.aload_n 0, 1) := by decide +kernel
theorem dX8_trampled_27 : decode cX8_trampled 27 = .ok (.invokevirtual 24, 3) := by decide +kernel
theorem dX8_trampled_30 : decode cX8_trampled 30 = .ok (.aload_n 0, 1) := by decide +kernel
theorem dX8_trampled_31 : decode cX8_trampled 31 = .ok (.getfield 15, 3) := by decide +kernel
theorem dX8_trampled_34 : decode cX8_trampled 34 = .ok (.iload_n 2, 1) := by decide +kernel
theorem dX8_trampled_35 : decode cX8_trampled 35 = .ok (.iaload, 1) := by decide +kernel
theorem dX8_trampled_36 : decode cX8_trampled 36 = .ok (.aload_n 0, 1) := by decide +kernel
theorem dX8_trampled_37 : decode cX8_trampled 37 = .ok (.getfield 9, 3) := by decide +kernel
theorem dX8_trampled_40 : decode cX8_trampled 40 = .ok (.iload_n 2, 1) := by decide +kernel
theorem dX8_trampled_41 : decode cX8_trampled 41 = .ok (.iaload, 1) := by decide +kernel
theorem dX8_trampled_42 : decode cX8_trampled 42 = .ok (.isub, 1) := by decide +kernel
theorem dX8_trampled_43 : decode cX8_trampled 43 = .ok (.ireturn, 1) := by decide +kernel
theorem dX8_spread_0 : decode cX8_spread 0 = .ok (.aload_n 0, 1) := by decide +kernel
theorem dX8_spread_1 : decode cX8_spread 1 = .ok (.getfield 15, 3) := by decide +kernel
theorem dX8_spread_4 : decode cX8_spread 4 = .ok (.ldc 27, 2) := by decide +kernel
theorem dX8_spread_6 : decode cX8_spread 6 = .ok (.invokestatic 28, 3) := by decide +kernel
theorem dX8_spread_9 : decode cX8_spread 9 = .ok (.aload_n 0, 1) := by decide +kernel
theorem dX8_spread_10 : decode cX8_spread 10 = .ok (.getfield 15, 3) := by decide +kernel
theorem dX8_spread_13 : decode cX8_spread 13 = .ok (.iconst 0, 1) := by decide +kernel
theorem dX8_spread_14 : decode cX8_spread 14 = .ok (.aload_n 0, 1) := by decide +kernel
theorem dX8_spread_15 : decode cX8_spread 15 = .ok (.getfield 9, 3) := by decide +kernel
theorem dX8_spread_18 : decode cX8_spread 18 = .ok (.iconst 0, 1) := by decide +kernel
theorem dX8_spread_19 : decode cX8_spread 19 = .ok (.iaload, 1) := by decide +kernel
theorem dX8_spread_20 : decode cX8_spread 20 = .ok (.iastore, 1) := by decide +kernel
theorem dX8_spread_21 : decode cX8_spread 21 = .ok (.iconst 1, 1) := by decide +kernel
theorem dX8_spread_22 : decode cX8_spread 22 = .ok (.istore_n 1, 1) := by decide +kernel
theorem dX8_spread_23 : decode cX8_spread 23 = .ok (.iconst 0, 1) := by decide +kernel
theorem dX8_spread_24 : decode cX8_spread 24 = .ok (.istore_n 2, 1) := by decide +kernel
theorem dX8_spread_25 : decode cX8_spread 25 = .ok (.iload_n 2, 1) := by decide +kernel
theorem dX8_spread_26 : decode cX8_spread 26 = .ok (.bipush 24, 2) := by decide +kernel
theorem dX8_spread_28 : decode cX8_spread 28 = .ok (.if_icmp .ge 64, 3) := by decide +kernel
theorem dX8_spread_31 : decode cX8_spread 31 = .ok (.iload_n 1, 1) := by decide +kernel
theorem dX8_spread_32 : decode cX8_spread 32 = .ok (.ifCond .eq 60, 3) := by decide +kernel
theorem dX8_spread_35 : decode cX8_spread 35 = .ok (.iconst 0, 1) := by decide +kernel
theorem dX8_spread_36 : decode cX8_spread 36 = .ok (.istore_n 1, 1) := by decide +kernel
theorem dX8_spread_37 : decode cX8_spread 37 = .ok (.iconst 0, 1) := by decide +kernel
theorem dX8_spread_38 : decode cX8_spread 38 = .ok (.istore_n 3, 1) := by decide +kernel
theorem dX8_spread_39 : decode cX8_spread 39 = .ok (.iload_n 3, 1) := by decide +kernel
theorem dX8_spread_40 : decode cX8_spread 40 = .ok (.bipush 24, 2) := by decide +kernel
theorem dX8_spread_42 : decode cX8_spread 42 = .ok (.if_icmp .ge 44, 3) := by decide +kernel
theorem dX8_spread_45 : decode cX8_spread 45 = .ok (.aload_n 0, 1) := by decide +kernel
theorem dX8_spread_46 : decode cX8_spread 46 = .ok (.iload_n 3, 1) := by decide +kernel
theorem dX8_spread_47 : decode cX8_spread 47 = .ok (.invokevirtual 34, 3) := by decide +kernel
theorem dX8_spread_50 : decode cX8_spread 50 = .ok (.aload_n 0, 1) := by decide +kernel
theorem dX8_spread_51 : decode cX8_spread 51 = .ok (.getfield 9, 3) := by decide +kernel
theorem dX8_spread_54 : decode cX8_spread 54 = .ok (.iload_n 3, 1) := by decide +kernel
theorem dX8_spread_55 : decode cX8_spread 55 = .ok (.iaload, 1) := by decide +kernel
theorem dX8_spread_56 : decode cX8_spread 56 = .ok (.iadd, 1) := by decide +kernel
theorem dX8_spread_57 : decode cX8_spread 57 = .ok (.istore 4, 2) := by decide +kernel
theorem dX8_spread_59 : decode cX8_spread 59 = .ok (.iload 4, 2) := by decide +kernel
theorem dX8_spread_61 : decode cX8_spread 61 = .ok (.aload_n 0, 1) := by decide +kernel
theorem dX8_spread_62 : decode cX8_spread 62 = .ok (.getfield 15, 3) := by decide +kernel
theorem dX8_spread_65 : decode cX8_spread 65 = .ok (.iload_n 3, 1) := by decide +kernel
theorem dX8_spread_66 : decode cX8_spread 66 = .ok (.iaload, 1) := by decide +kernel
theorem dX8_spread_67 : decode cX8_spread 67 = .ok (.if_icmp .ge 13, 3) := by decide +kernel
theorem dX8_spread_70 : decode cX8_spread 70 = .ok (.aload_n 0, 1) := by decide +kernel
theorem dX8_spread_71 : decode cX8_spread 71 = .ok (.getfield 15, 3) := by decide +kernel
theorem dX8_spread_74 : decode cX8_spread 74 = .ok (.iload_n 3, 1) := by decide +kernel
theorem dX8_spread_75 : decode cX8_spread 75 = .ok (.iload 4, 2) := by decide +kernel
theorem dX8_spread_77 : decode cX8_spread 77 = .ok (.iastore, 1) := by decide +kernel
theorem dX8_spread_78 : decode cX8_spread 78 = .ok (.iconst 1, 1) := by decide +kernel
theorem dX8_spread_79 : decode cX8_spread 79 = .ok (.istore_n 1, 1) := by decide +kernel
theorem dX8_spread_80 : decode cX8_spread 80 = .ok (.iinc 3 1, 3) := by decide +kernel
theorem dX8_spread_83 : decode cX8_spread 83 = .ok (.goto (-44), 3) := by decide +kernel
theorem dX8_spread_86 : decode cX8_spread 86 = .ok (.iinc 2 1, 3) := by decide +kernel
theorem dX8_spread_89 : decode cX8_spread 89 = .ok (.goto (-64), 3) := by decide +kernel
theorem dX8_spread_92 : decode cX8_spread 92 = .ok (.return_, 1) := by decide +kernel
theorem dX8_leastBeside_0 : decode cX8_leastBeside 0 = .ok (.ldc 27, 2) := by decide +kernel
theorem dX8_leastBeside_2 : decode cX8_leastBeside 2 = .ok (.istore_n 2, 1) := by decide +kernel
theorem dX8_leastBeside_3 : decode cX8_leastBeside 3 = .ok (.iconst 0, 1) := by decide +kernel
theorem dX8_leastBeside_4 : decode cX8_leastBeside 4 = .ok (.istore_n 3, 1) := by decide +kernel
theorem dX8_leastBeside_5 : decode cX8_leastBeside 5 = .ok (.iload_n 3, 1) := by decide +kernel
theorem dX8_leastBeside_6 : decode cX8_leastBeside 6 = .ok (.iconst 4, 1) := by decide +kernel
theorem dX8_leastBeside_7 : decode cX8_leastBeside 7 = .ok (.if_icmp .ge 33, 3) := by decide +kernel
theorem dX8_leastBeside_10 : decode cX8_leastBeside 10 = .ok (.iload_n 1, 1) := by decide +kernel
theorem dX8_leastBeside_11 : decode cX8_leastBeside 11 = .ok (.iload_n 3, 1) := by decide +kernel
theorem dX8_leastBeside_12 : decode cX8_leastBeside 12 = .ok (.invokestatic 38, 3) := by decide +kernel
theorem dX8_leastBeside_15 : decode cX8_leastBeside 15 = .ok (.istore 4, 2) := by decide +kernel
theorem dX8_leastBeside_17 : decode cX8_leastBeside 17 = .ok (.iload 4, 2) := by decide +kernel
theorem dX8_leastBeside_19 : decode cX8_leastBeside 19 = .ok (.ifCond .lt 15, 3) := by decide +kernel
theorem dX8_leastBeside_22 : decode cX8_leastBeside 22 = .ok (.iload_n 2, 1) := by decide +kernel
theorem dX8_leastBeside_23 : decode cX8_leastBeside 23 = .ok (.aload_n 0, 1) := by decide +kernel
theorem dX8_leastBeside_24 : decode cX8_leastBeside 24 = .ok (.getfield 15, 3) := by decide +kernel
theorem dX8_leastBeside_27 : decode cX8_leastBeside 27 = .ok (.iload 4, 2) := by decide +kernel
theorem dX8_leastBeside_29 : decode cX8_leastBeside 29 = .ok (.iaload, 1) := by decide +kernel
theorem dX8_leastBeside_30 : decode cX8_leastBeside 30 = .ok (.invokestatic 42, 3) := by decide +kernel
theorem dX8_leastBeside_33 : decode cX8_leastBeside 33 = .ok (.istore_n 2, 1) := by decide +kernel
theorem dX8_leastBeside_34 : decode cX8_leastBeside 34 = .ok (.iinc 3 1, 3) := by decide +kernel
theorem dX8_leastBeside_37 : decode cX8_leastBeside 37 = .ok (.goto (-32), 3) := by decide +kernel
theorem dX8_leastBeside_40 : decode cX8_leastBeside 40 = .ok (.iload_n 2, 1) := by decide +kernel
theorem dX8_leastBeside_41 : decode cX8_leastBeside 41 = .ok (.ireturn, 1) := by decide +kernel
theorem dX9_init_0 : decode cX9_init 0 = .ok (.aload_n 0, 1) := by decide +kernel
theorem dX9_init_1 : decode cX9_init 1 = .ok (.invokespecial 3, 3) := by decide +kernel
theorem dX9_init_4 : decode cX9_init 4 = .ok (.return_, 1) := by decide +kernel
theorem dX9_chance_0 : decode cX9_chance 0 = .ok (.bipush 50, 2) := by decide +kernel
theorem dX9_chance_2 : decode cX9_chance 2 = .ok (.ireturn, 1) := by decide +kernel
theorem dX9_heft_0 : decode cX9_heft 0 = .ok (.aload_n 0, 1) := by decide +kernel
theorem dX9_heft_1 : decode cX9_heft 1 = .ok (.iload_n 1, 1) := by decide +kernel
theorem dX9_heft_2 : decode cX9_heft 2 = .ok (.invokespecial 9, 3) := by decide +kernel
theorem dX9_heft_5 : decode cX9_heft 5 = .ok (.aload_n 0, 1) := by decide +kernel
theorem dX9_heft_6 : decode cX9_heft 6 = .ok (.invokevirtual 13, 3) := by decide +kernel
theorem dX9_heft_9 : decode cX9_heft 9 = .ok (.iadd, 1) := by decide +kernel
theorem dX9_heft_10 : decode cX9_heft 10 = .ok (.ireturn, 1) := by decide +kernel
theorem dX9_fail_0 : decode cX9_fail 0 = .ok (.new 19, 3) := by decide +kernel
theorem dX9_fail_3 : decode cX9_fail 3 = .ok (.dup, 1) := by decide +kernel
theorem dX9_fail_4 : decode cX9_fail 4 = .ok (.ldc 21, 2) := by decide +kernel
theorem dX9_fail_6 : decode cX9_fail 6 = .ok (.invokespecial 23, 3) := by decide +kernel
theorem dX9_fail_9 : decode cX9_fail 9 = .ok (.athrow, 1) := by decide +kernel
theorem dX10_init_0 : decode cX10_init 0 = .ok (.aload_n 0, 1) := by decide +kernel
theorem dX10_init_1 : decode cX10_init 1 = .ok (.invokespecial 3, 3) := by decide +kernel
theorem dX10_init_4 : decode cX10_init 4 = .ok (.aload_n 0, 1) := by decide +kernel
theorem dX10_init_5 : decode cX10_init 5 = .ok (.iconst 4, 1) := by decide +kernel
theorem dX10_init_6 : decode cX10_init 6 = .ok (.anewarray 9, 3) := by decide +kernel
theorem dX10_init_9 : decode cX10_init 9 = .ok (.putfield 11, 3) := by decide +kernel
theorem dX10_init_12 : decode cX10_init 12 = .ok (.aload_n 0, 1) := by decide +kernel
theorem dX10_init_13 : decode cX10_init 13 = .ok (.bipush 24, 2) := by decide +kernel
theorem dX10_init_15 : decode cX10_init 15 = .ok (.anewarray 15, 3) := by decide +kernel
theorem dX10_init_18 : decode cX10_init 18 = .ok (.putfield 17, 3) := by decide +kernel
theorem dX10_init_21 : decode cX10_init 21 = .ok (.aload_n 0, 1) := by decide +kernel
theorem dX10_init_22 : decode cX10_init 22 = .ok (.bipush 10, 2) := by decide +kernel
theorem dX10_init_24 : decode cX10_init 24 = .ok (.anewarray 21, 3) := by decide +kernel
theorem dX10_init_27 : decode cX10_init 27 = .ok (.putfield 23, 3) := by decide +kernel
theorem dX10_init_30 : decode cX10_init 30 = .ok (.aload_n 0, 1) := by decide +kernel
theorem dX10_init_31 : decode cX10_init 31 = .ok (.bipush 8, 2) := by decide +kernel
theorem dX10_init_33 : decode cX10_init 33 = .ok (.anewarray 27, 3) := by decide +kernel
theorem dX10_init_36 : decode cX10_init 36 = .ok (.putfield 29, 3) := by decide +kernel
theorem dX10_init_39 : decode cX10_init 39 = .ok (.aload_n 0, 1) := by decide +kernel
theorem dX10_init_40 : decode cX10_init 40 = .ok (.bipush 31, 2) := by decide +kernel
theorem dX10_init_42 : decode cX10_init 42 = .ok (.newarray .boolean, 2) := by decide +kernel
theorem dX10_init_44 : decode cX10_init 44 = .ok (.putfield 33, 3) := by decide +kernel
theorem dX10_init_47 : decode cX10_init 47 = .ok (.aload_n 0, 1) := by decide +kernel
theorem dX10_init_48 : decode cX10_init 48 = .ok (.new 37, 3) := by decide +kernel
theorem dX10_init_51 : decode cX10_init 51 = .ok (.dup, 1) := by decide +kernel
theorem dX10_init_52 : decode cX10_init 52 = .ok (.invokespecial 39, 3) := by decide +kernel
theorem dX10_init_55 : decode cX10_init 55 = .ok (.putfield 40, 3) := by decide +kernel
theorem dX10_init_58 : decode cX10_init 58 = .ok (.aload_n 0, 1) := by decide +kernel
theorem dX10_init_59 : decode cX10_init 59 = .ok (.new 44, 3) := by decide +kernel
theorem dX10_init_62 : decode cX10_init 62 = .ok (.dup, 1) := by decide +kernel
theorem dX10_init_63 : decode cX10_init 63 = .ok (.invokespecial 46, 3) := by decide +kernel
theorem dX10_init_66 : decode cX10_init 66 = .ok (.putfield 47, 3) := by decide +kernel
theorem dX10_init_69 : decode cX10_init 69 = .ok (.aload_n 0, 1) := by decide +kernel
theorem dX10_init_70 : decode cX10_init 70 = .ok (.new 51, 3) := by decide +kernel
theorem dX10_init_73 : decode cX10_init 73 = .ok (.dup, 1) := by decide +kernel
theorem dX10_init_74 : decode cX10_init 74 = .ok (.invokespecial 53, 3) := by decide +kernel
theorem dX10_init_77 : decode cX10_init 77 = .ok (.putfield 54, 3) := by decide +kernel
theorem dX10_init_80 : decode cX10_init 80 = .ok (.aload_n 0, 1) := by decide +kernel
theorem dX10_init_81 : decode cX10_init 81 = .ok (.iconst 5, 1) := by decide +kernel
theorem dX10_init_82 : decode cX10_init 82 = .ok (.putfield 58, 3) := by decide +kernel
theorem dX10_init_85 : decode cX10_init 85 = .ok (.aload_n 0, 1) := by decide +kernel
theorem dX10_init_86 : decode cX10_init 86 = .ok (.getfield 11, 3) := by decide +kernel
theorem dX10_init_89 : decode cX10_init 89 = .ok (.iconst 0, 1) := by decide +kernel
theorem dX10_init_90 : decode cX10_init 90 = .ok (.new 9, 3) := by decide +kernel
theorem dX10_init_93 : decode cX10_init 93 = .ok (.dup, 1) := by decide +kernel
theorem dX10_init_94 : decode cX10_init 94 = .ok (.invokespecial 62, 3) := by decide +kernel
theorem dX10_init_97 : decode cX10_init 97 = .ok (.aastore, 1) := by decide +kernel
theorem dX10_init_98 : decode cX10_init 98 = .ok (.aload_n 0, 1) := by decide +kernel
theorem dX10_init_99 : decode cX10_init 99 = .ok (.getfield 11, 3) := by decide +kernel
theorem dX10_init_102 : decode cX10_init 102 = .ok (.iconst 1, 1) := by decide +kernel
theorem dX10_init_103 : decode cX10_init 103 = .ok (.new 63, 3) := by decide +kernel
theorem dX10_init_106 : decode cX10_init 106 = .ok (.dup, 1) := by decide +kernel
theorem dX10_init_107 : decode cX10_init 107 = .ok (.invokespecial 65, 3) := by decide +kernel
theorem dX10_init_110 : decode cX10_init 110 = .ok (.aastore, 1) := by decide +kernel
theorem dX10_init_111 : decode cX10_init 111 = .ok (.aload_n 0, 1) := by decide +kernel
theorem dX10_init_112 : decode cX10_init 112 = .ok (.getfield 11, 3) := by decide +kernel
theorem dX10_init_115 : decode cX10_init 115 = .ok (.iconst 2, 1) := by decide +kernel
theorem dX10_init_116 : decode cX10_init 116 = .ok (.new 66, 3) := by decide +kernel
theorem dX10_init_119 : decode cX10_init 119 = .ok (.dup, 1) := by decide +kernel
theorem dX10_init_120 : decode cX10_init 120 = .ok (.invokespecial 68, 3) := by decide +kernel
theorem dX10_init_123 : decode cX10_init 123 = .ok (.aastore, 1) := by decide +kernel
theorem dX10_init_124 : decode cX10_init 124 = .ok (.aload_n 0, 1) := by decide +kernel
theorem dX10_init_125 : decode cX10_init 125 = .ok (.getfield 11, 3) := by decide +kernel
theorem dX10_init_128 : decode cX10_init 128 = .ok (.iconst 3, 1) := by decide +kernel
theorem dX10_init_129 : decode cX10_init 129 = .ok (.new 69, 3) := by decide +kernel
theorem dX10_init_132 : decode cX10_init 132 = .ok (.dup, 1) := by decide +kernel
theorem dX10_init_133 : decode cX10_init 133 = .ok (.invokespecial 71, 3) := by decide +kernel
theorem dX10_init_136 : decode cX10_init 136 = .ok (.aastore, 1) := by decide +kernel
theorem dX10_init_137 : decode cX10_init 137 = .ok (.iconst 0, 1) := by decide +kernel
theorem dX10_init_138 : decode cX10_init 138 = .ok (.istore_n 1, 1) := by decide +kernel
theorem dX10_init_139 : decode cX10_init 139 = .ok (.iload_n 1, 1) := by decide +kernel
theorem dX10_init_140 : decode cX10_init 140 = .ok (.bipush 24, 2) := by decide +kernel
theorem dX10_init_142 : decode cX10_init 142 = .ok (.if_icmp .ge 28, 3) := by decide +kernel
theorem dX10_init_145 : decode cX10_init 145 = .ok (.aload_n 0, 1) := by decide +kernel
theorem dX10_init_146 : decode cX10_init 146 = .ok (.getfield 17, 3) := by decide +kernel
theorem dX10_init_149 : decode cX10_init 149 = .ok (.iload_n 1, 1) := by decide +kernel
theorem dX10_init_150 : decode cX10_init 150 = .ok (.new 15, 3) := by decide +kernel
theorem dX10_init_153 : decode cX10_init 153 = .ok (.dup, 1) := by decide +kernel
theorem dX10_init_154 : decode cX10_init 154 = .ok (.aload_n 0, 1) := by decide +kernel
theorem dX10_init_155 : decode cX10_init 155 = .ok (.getfield 11, 3) := by decide +kernel
theorem dX10_init_158 : decode cX10_init 158 = .ok (.iconst 0, 1) := by decide +kernel
theorem dX10_init_159 : decode cX10_init 159 = .ok (.aaload, 1) := by decide +kernel
theorem dX10_init_160 : decode cX10_init 160 = .ok (.invokespecial 72, 3) := by decide +kernel
theorem dX10_init_163 : decode cX10_init 163 = .ok (.aastore, 1) := by decide +kernel
theorem dX10_init_164 : decode cX10_init 164 = .ok (.iinc 1 1, 3) := by decide +kernel
theorem dX10_init_167 : decode cX10_init 167 = .ok (.goto (-28), 3) := by decide +kernel
theorem dX10_init_170 : decode cX10_init 170 = .ok (.iconst 0, 1) := by decide +kernel
theorem dX10_init_171 : decode cX10_init 171 = .ok (.istore_n 1, 1) := by decide +kernel
theorem dX10_init_172 : decode cX10_init 172 = .ok (.iload_n 1, 1) := by decide +kernel
theorem dX10_init_173 : decode cX10_init 173 = .ok (.bipush 10, 2) := by decide +kernel
theorem dX10_init_175 : decode cX10_init 175 = .ok (.if_icmp .ge 22, 3) := by decide +kernel
theorem dX10_init_178 : decode cX10_init 178 = .ok (.aload_n 0, 1) := by decide +kernel
theorem dX10_init_179 : decode cX10_init 179 = .ok (.getfield 23, 3) := by decide +kernel
theorem dX10_init_182 : decode cX10_init 182 = .ok (.iload_n 1, 1) := by decide +kernel
theorem dX10_init_183 : decode cX10_init 183 = .ok (.new 21, 3) := by decide +kernel
theorem dX10_init_186 : decode cX10_init 186 = .ok (.dup, 1) := by decide +kernel
theorem dX10_init_187 : decode cX10_init 187 = .ok (.invokespecial 75, 3) := by decide +kernel
theorem dX10_init_190 : decode cX10_init 190 = .ok (.aastore, 1) := by decide +kernel
theorem dX10_init_191 : decode cX10_init 191 = .ok (.iinc 1 1, 3) := by decide +kernel
theorem dX10_init_194 : decode cX10_init 194 = .ok (.goto (-22), 3) := by decide +kernel
theorem dX10_init_197 : decode cX10_init 197 = .ok (.iconst 0, 1) := by decide +kernel
theorem dX10_init_198 : decode cX10_init 198 = .ok (.istore_n 1, 1) := by decide +kernel
theorem dX10_init_199 : decode cX10_init 199 = .ok (.iload_n 1, 1) := by decide +kernel
theorem dX10_init_200 : decode cX10_init 200 = .ok (.bipush 8, 2) := by decide +kernel
theorem dX10_init_202 : decode cX10_init 202 = .ok (.if_icmp .ge 28, 3) := by decide +kernel
theorem dX10_init_205 : decode cX10_init 205 = .ok (.aload_n 0, 1) := by decide +kernel
theorem dX10_init_206 : decode cX10_init 206 = .ok (.getfield 29, 3) := by decide +kernel
theorem dX10_init_209 : decode cX10_init 209 = .ok (.iload_n 1, 1) := by decide +kernel
theorem dX10_init_210 : decode cX10_init 210 = .ok (.new 27, 3) := by decide +kernel
theorem dX10_init_213 : decode cX10_init 213 = .ok (.dup, 1) := by decide +kernel
theorem dX10_init_214 : decode cX10_init 214 = .ok (.aload_n 0, 1) := by decide +kernel
theorem dX10_init_215 : decode cX10_init 215 = .ok (.getfield 11, 3) := by decide +kernel
theorem dX10_init_218 : decode cX10_init 218 = .ok (.iconst 0, 1) := by decide +kernel
theorem dX10_init_219 : decode cX10_init 219 = .ok (.aaload, 1) := by decide +kernel
theorem dX10_init_220 : decode cX10_init 220 = .ok (.invokespecial 76, 3) := by decide +kernel
theorem dX10_init_223 : decode cX10_init 223 = .ok (.aastore, 1) := by decide +kernel
theorem dX10_init_224 : decode cX10_init 224 = .ok (.iinc 1 1, 3) := by decide +kernel
theorem dX10_init_227 : decode cX10_init 227 = .ok (.goto (-28), 3) := by decide +kernel
theorem dX10_init_230 : decode cX10_init 230 = .ok (.return_, 1) := by decide +kernel
theorem dX10_plot_0 : decode cX10_plot 0 = .ok (.iload_n 1, 1) := by decide +kernel
theorem dX10_plot_1 : decode cX10_plot 1 = .ok (.invokestatic 77, 3) := by decide +kernel
theorem dX10_plot_4 : decode cX10_plot 4 = .ok (.ifCond .eq 21, 3) := by decide +kernel
theorem dX10_plot_7 : decode cX10_plot 7 = .ok (.iload_n 2, 1) := by decide +kernel
theorem dX10_plot_8 : decode cX10_plot 8 = .ok (.iconst 3, 1) := by decide +kernel
theorem dX10_plot_9 : decode cX10_plot 9 = .ok (.invokestatic 81, 3) := by decide +kernel
theorem dX10_plot_12 : decode cX10_plot 12 = .ok (.ifCond .eq 13, 3) := by decide +kernel
theorem dX10_plot_15 : decode cX10_plot 15 = .ok (.iload_n 3, 1) := by decide +kernel
theorem dX10_plot_16 : decode cX10_plot 16 = .ok (.sipush 200, 3) := by decide +kernel
theorem dX10_plot_19 : decode cX10_plot 19 = .ok (.invokestatic 81, 3) := by decide +kernel
theorem dX10_plot_22 : decode cX10_plot 22 = .ok (.ifCond .ne 5, 3) := by decide +kernel
theorem dX10_plot_25 : decode cX10_plot 25 = .ok (.iconst (-1), 1) := by decide +kernel
theorem dX10_plot_26 : decode cX10_plot 26 = .ok (.ireturn, 1) := by decide +kernel
theorem dX10_plot_27 : decode cX10_plot 27 = .ok (.aload_n 0, 1) := by decide +kernel
theorem dX10_plot_28 : decode cX10_plot 28 = .ok (.getfield 17, 3) := by decide +kernel
theorem dX10_plot_31 : decode cX10_plot 31 = .ok (.iload_n 1, 1) := by decide +kernel
theorem dX10_plot_32 : decode cX10_plot 32 = .ok (.aaload, 1) := by decide +kernel
theorem dX10_plot_33 : decode cX10_plot 33 = .ok (.astore 4, 2) := by decide +kernel
theorem dX10_plot_35 : decode cX10_plot 35 = .ok (.aload 4, 2) := by decide +kernel
theorem dX10_plot_37 : decode cX10_plot 37 = .ok (.invokevirtual 85, 3) := by decide +kernel
theorem dX10_plot_40 : decode cX10_plot 40 = .ok (.ifCond .eq 6, 3) := by decide +kernel
theorem dX10_plot_43 : decode cX10_plot 43 = .ok (.bipush (-3), 2) := by decide +kernel
theorem dX10_plot_45 : decode cX10_plot 45 = .ok (.ireturn, 1) := by decide +kernel
theorem dX10_plot_46 : decode cX10_plot 46 = .ok (.aload 4, 2) := by decide +kernel
theorem dX10_plot_48 : decode cX10_plot 48 = .ok (.getfield 89, 3) := by decide +kernel
theorem dX10_plot_51 : decode cX10_plot 51 = .ok (.istore 5, 2) := by decide +kernel
theorem dX10_plot_53 : decode cX10_plot 53 = .ok (.aload 4, 2) := by decide +kernel
theorem dX10_plot_55 : decode cX10_plot 55 = .ok (.iload_n 2, 1) := by decide +kernel
theorem dX10_plot_56 : decode cX10_plot 56 = .ok (.putfield 92, 3) := by decide +kernel
theorem dX10_plot_59 : decode cX10_plot 59 = .ok (.aload 4, 2) := by decide +kernel
theorem dX10_plot_61 : decode cX10_plot 61 = .ok (.aload_n 0, 1) := by decide +kernel
theorem dX10_plot_62 : decode cX10_plot 62 = .ok (.getfield 11, 3) := by decide +kernel
theorem dX10_plot_65 : decode cX10_plot 65 = .ok (.iload_n 2, 1) := by decide +kernel
theorem dX10_plot_66 : decode cX10_plot 66 = .ok (.aaload, 1) := by decide +kernel
theorem dX10_plot_67 : decode cX10_plot 67 = .ok (.putfield 95, 3) := by decide +kernel
theorem dX10_plot_70 : decode cX10_plot 70 = .ok (.aload 4, 2) := by decide +kernel
theorem dX10_plot_72 : decode cX10_plot 72 = .ok (.iload_n 3, 1) := by decide +kernel
theorem dX10_plot_73 : decode cX10_plot 73 = .ok (.putfield 89, 3) := by decide +kernel
theorem dX10_plot_76 : decode cX10_plot 76 = .ok (.iload 5, 2) := by decide +kernel
theorem dX10_plot_78 : decode cX10_plot 78 = .ok (.ireturn, 1) := by decide +kernel
theorem dX10_buyer_0 : decode cX10_buyer 0 = .ok (.iload_n 1, 1) := by decide +kernel
theorem dX10_buyer_1 : decode cX10_buyer 1 = .ok (.bipush 50, 2) := by decide +kernel
theorem dX10_buyer_3 : decode cX10_buyer 3 = .ok (.invokestatic 81, 3) := by decide +kernel
theorem dX10_buyer_6 : decode cX10_buyer 6 = .ok (.ifCond .eq 19, 3) := by decide +kernel
theorem dX10_buyer_9 : decode cX10_buyer 9 = .ok (.iload_n 2, 1) := by decide +kernel
theorem dX10_buyer_10 : decode cX10_buyer 10 = .ok (.ldc 99, 2) := by decide +kernel
theorem dX10_buyer_12 : decode cX10_buyer 12 = .ok (.invokestatic 81, 3) := by decide +kernel
theorem dX10_buyer_15 : decode cX10_buyer 15 = .ok (.ifCond .eq 10, 3) := by decide +kernel
theorem dX10_buyer_18 : decode cX10_buyer 18 = .ok (.iload_n 3, 1) := by decide +kernel
theorem dX10_buyer_19 : decode cX10_buyer 19 = .ok (.invokestatic 77, 3) := by decide +kernel
theorem dX10_buyer_22 : decode cX10_buyer 22 = .ok (.ifCond .ne 5, 3) := by decide +kernel
theorem dX10_buyer_25 : decode cX10_buyer 25 = .ok (.iconst (-1), 1) := by decide +kernel
theorem dX10_buyer_26 : decode cX10_buyer 26 = .ok (.ireturn, 1) := by decide +kernel
theorem dX10_buyer_27 : decode cX10_buyer 27 = .ok (.aload_n 0, 1) := by decide +kernel
theorem dX10_buyer_28 : decode cX10_buyer 28 = .ok (.getfield 100, 3) := by decide +kernel
theorem dX10_buyer_31 : decode cX10_buyer 31 = .ok (.bipush 10, 2) := by decide +kernel
theorem dX10_buyer_33 : decode cX10_buyer 33 = .ok (.if_icmp .lt 6, 3) := by decide +kernel
theorem dX10_buyer_36 : decode cX10_buyer 36 = .ok (.bipush (-2), 2) := by decide +kernel
theorem dX10_buyer_38 : decode cX10_buyer 38 = .ok (.ireturn, 1) := by decide +kernel
theorem dX10_buyer_39 : decode cX10_buyer 39 = .ok (.aload_n 0, 1) := by decide +kernel
theorem dX10_buyer_40 : decode cX10_buyer 40 = .ok (.getfield 23, 3) := by decide +kernel
theorem dX10_buyer_43 : decode cX10_buyer 43 = .ok (.aload_n 0, 1) := by decide +kernel
theorem dX10_buyer_44 : decode cX10_buyer 44 = .ok (.getfield 100, 3) := by decide +kernel
theorem dX10_buyer_47 : decode cX10_buyer 47 = .ok (.aaload, 1) := by decide +kernel
theorem dX10_buyer_48 : decode cX10_buyer 48 = .ok (.astore 4, 2) := by decide +kernel
theorem dX10_buyer_50 : decode cX10_buyer 50 = .ok (.aload 4, 2) := by decide +kernel
theorem dX10_buyer_52 : decode cX10_buyer 52 = .ok (.iload_n 1, 1) := by decide +kernel
theorem dX10_buyer_53 : decode cX10_buyer 53 = .ok (.putfield 103, 3) := by decide +kernel
theorem dX10_buyer_56 : decode cX10_buyer 56 = .ok (.aload 4, 2) := by decide +kernel
theorem dX10_buyer_58 : decode cX10_buyer 58 = .ok (.iload_n 2, 1) := by decide +kernel
theorem dX10_buyer_59 : decode cX10_buyer 59 = .ok (.putfield 106, 3) := by decide +kernel
theorem dX10_buyer_62 : decode cX10_buyer 62 = .ok (.aload 4, 2) := by decide +kernel
theorem dX10_buyer_64 : decode cX10_buyer 64 = .ok (.iload_n 3, 1) := by decide +kernel
theorem dX10_buyer_65 : decode cX10_buyer 65 = .ok (.putfield 109, 3) := by decide +kernel
theorem dX10_buyer_68 : decode cX10_buyer 68 = .ok (.aload_n 0, 1) := by decide +kernel
theorem dX10_buyer_69 : decode cX10_buyer 69 = .ok (.dup, 1) := by decide +kernel
theorem dX10_buyer_70 : decode cX10_buyer 70 = .ok (.getfield 100, 3) := by decide +kernel
theorem dX10_buyer_73 : decode cX10_buyer 73 = .ok (.iconst 1, 1) := by decide +kernel
theorem dX10_buyer_74 : decode cX10_buyer 74 = .ok (.iadd, 1) := by decide +kernel
theorem dX10_buyer_75 : decode cX10_buyer 75 = .ok (.putfield 100, 3) := by decide +kernel
theorem dX10_buyer_78 : decode cX10_buyer 78 = .ok (.aload_n 0, 1) := by decide +kernel
theorem dX10_buyer_79 : decode cX10_buyer 79 = .ok (.getfield 100, 3) := by decide +kernel
theorem dX10_buyer_82 : decode cX10_buyer 82 = .ok (.iconst 1, 1) := by decide +kernel
theorem dX10_buyer_83 : decode cX10_buyer 83 = .ok (.isub, 1) := by decide +kernel
theorem dX10_buyer_84 : decode cX10_buyer 84 = .ok (.ireturn, 1) := by decide +kernel
theorem dX10_purse_0 : decode cX10_purse 0 = .ok (.aload_n 0, 1) := by decide +kernel
theorem dX10_purse_1 : decode cX10_purse 1 = .ok (.iload_n 1, 1) := by decide +kernel
theorem dX10_purse_2 : decode cX10_purse 2 = .ok (.invokevirtual 112, 3) := by decide +kernel
theorem dX10_purse_5 : decode cX10_purse 5 = .ok (.ifCond .eq 12, 3) := by decide +kernel
theorem dX10_purse_8 : decode cX10_purse 8 = .ok (.iload_n 2, 1) := by decide +kernel
theorem dX10_purse_9 : decode cX10_purse 9 = .ok (.ldc 99, 2) := by decide +kernel
theorem dX10_purse_11 : decode cX10_purse 11 = .ok (.invokestatic 81, 3) := by decide +kernel
theorem dX10_purse_14 : decode cX10_purse 14 = .ok (.ifCond .ne 5, 3) := by decide +kernel
theorem dX10_purse_17 : decode cX10_purse 17 = .ok (.iconst (-1), 1) := by decide +kernel
theorem dX10_purse_18 : decode cX10_purse 18 = .ok (.ireturn, 1) := by decide +kernel
theorem dX10_purse_19 : decode cX10_purse 19 = .ok (.aload_n 0, 1) := by decide +kernel
theorem dX10_purse_20 : decode cX10_purse 20 = .ok (.getfield 23, 3) := by decide +kernel
theorem dX10_purse_23 : decode cX10_purse 23 = .ok (.iload_n 1, 1) := by decide +kernel
theorem dX10_purse_24 : decode cX10_purse 24 = .ok (.aaload, 1) := by decide +kernel
theorem dX10_purse_25 : decode cX10_purse 25 = .ok (.getfield 106, 3) := by decide +kernel
theorem dX10_purse_28 : decode cX10_purse 28 = .ok (.istore_n 3, 1) := by decide +kernel
theorem dX10_purse_29 : decode cX10_purse 29 = .ok (.aload_n 0, 1) := by decide +kernel
theorem dX10_purse_30 : decode cX10_purse 30 = .ok (.getfield 23, 3) := by decide +kernel
theorem dX10_purse_33 : decode cX10_purse 33 = .ok (.iload_n 1, 1) := by decide +kernel
theorem dX10_purse_34 : decode cX10_purse 34 = .ok (.aaload, 1) := by decide +kernel
theorem dX10_purse_35 : decode cX10_purse 35 = .ok (.iload_n 2, 1) := by decide +kernel
theorem dX10_purse_36 : decode cX10_purse 36 = .ok (.putfield 106, 3) := by decide +kernel
theorem dX10_purse_39 : decode cX10_purse 39 = .ok (.iload_n 3, 1) := by decide +kernel
theorem dX10_purse_40 : decode cX10_purse 40 = .ok (.ireturn, 1) := by decide +kernel
theorem dX10_waits_0 : decode cX10_waits 0 = .ok (.aload_n 0, 1) := by decide +kernel
theorem dX10_waits_1 : decode cX10_waits 1 = .ok (.iload_n 1, 1) := by decide +kernel
theorem dX10_waits_2 : decode cX10_waits 2 = .ok (.invokevirtual 112, 3) := by decide +kernel
theorem dX10_waits_5 : decode cX10_waits 5 = .ok (.ifCond .ne 5, 3) := by decide +kernel
theorem dX10_waits_8 : decode cX10_waits 8 = .ok (.iconst (-1), 1) := by decide +kernel
theorem dX10_waits_9 : decode cX10_waits 9 = .ok (.ireturn, 1) := by decide +kernel
theorem dX10_waits_10 : decode cX10_waits 10 = .ok (.aload_n 0, 1) := by decide +kernel
theorem dX10_waits_11 : decode cX10_waits 11 = .ok (.getfield 23, 3) := by decide +kernel
theorem dX10_waits_14 : decode cX10_waits 14 = .ok (.iload_n 1, 1) := by decide +kernel
theorem dX10_waits_15 : decode cX10_waits 15 = .ok (.aaload, 1) := by decide +kernel
theorem dX10_waits_16 : decode cX10_waits 16 = .ok (.getfield 115, 3) := by decide +kernel
theorem dX10_waits_19 : decode cX10_waits 19 = .ok (.istore_n 3, 1) := by decide +kernel
theorem dX10_waits_20 : decode cX10_waits 20 = .ok (.aload_n 0, 1) := by decide +kernel
theorem dX10_waits_21 : decode cX10_waits 21 = .ok (.getfield 23, 3) := by decide +kernel
theorem dX10_waits_24 : decode cX10_waits 24 = .ok (.iload_n 1, 1) := by decide +kernel
theorem dX10_waits_25 : decode cX10_waits 25 = .ok (.aaload, 1) := by decide +kernel
theorem dX10_waits_26 : decode cX10_waits 26 = .ok (.iload_n 2, 1) := by decide +kernel
theorem dX10_waits_27 : decode cX10_waits 27 = .ok (.putfield 115, 3) := by decide +kernel
theorem dX10_waits_30 : decode cX10_waits 30 = .ok (.iload_n 3, 1) := by decide +kernel
theorem dX10_waits_31 : decode cX10_waits 31 = .ok (.iload_n 2, 1) := by decide +kernel
theorem dX10_waits_32 : decode cX10_waits 32 = .ok (.if_icmp .eq 7, 3) := by decide +kernel
theorem dX10_waits_35 : decode cX10_waits 35 = .ok (.iconst 1, 1) := by decide +kernel
theorem dX10_waits_36 : decode cX10_waits 36 = .ok (.goto 4, 3) := by decide +kernel
theorem dX10_waits_39 : decode cX10_waits 39 = .ok (.iconst 0, 1) := by decide +kernel
theorem dX10_waits_40 : decode cX10_waits 40 = .ok (.invokestatic 119, 3) := by decide +kernel
theorem dX10_waits_43 : decode cX10_waits 43 = .ok (.ireturn, 1) := by decide +kernel
theorem dX10_surety_0 : decode cX10_surety 0 = .ok (.iload_n 2, 1) := by decide +kernel
theorem dX10_surety_1 : decode cX10_surety 1 = .ok (.iconst (-1), 1) := by decide +kernel
theorem dX10_surety_2 : decode cX10_surety 2 = .ok (.if_icmp .ne 7, 3) := by decide +kernel
theorem dX10_surety_5 : decode cX10_surety 5 = .ok (.iconst 1, 1) := by decide +kernel
theorem dX10_surety_6 : decode cX10_surety 6 = .ok (.goto 4, 3) := by decide +kernel
theorem dX10_surety_9 : decode cX10_surety 9 = .ok (.iconst 0, 1) := by decide +kernel
theorem dX10_surety_10 : decode cX10_surety 10 = .ok (.istore_n 3, 1) := by decide +kernel
theorem dX10_surety_11 : decode cX10_surety 11 = .ok (.aload_n 0, 1) := by decide +kernel
theorem dX10_surety_12 : decode cX10_surety 12 = .ok (.iload_n 1, 1) := by decide +kernel
theorem dX10_surety_13 : decode cX10_surety 13 = .ok (.invokevirtual 112, 3) := by decide +kernel
theorem dX10_surety_16 : decode cX10_surety 16 = .ok (.ifCond .eq 20, 3) := by decide +kernel
theorem dX10_surety_19 : decode cX10_surety 19 = .ok (.iload_n 3, 1) := by decide +kernel
theorem dX10_surety_20 : decode cX10_surety 20 = .ok (.ifCond .ne 11, 3) := by decide +kernel
theorem dX10_surety_23 : decode cX10_surety 23 = .ok (.aload_n 0, 1) := by decide +kernel
theorem dX10_surety_24 : decode cX10_surety 24 = .ok (.iload_n 2, 1) := by decide +kernel
theorem dX10_surety_25 : decode cX10_surety 25 = .ok (.invokevirtual 112, 3) := by decide +kernel
theorem dX10_surety_28 : decode cX10_surety 28 = .ok (.ifCond .eq 8, 3) := by decide +kernel
theorem dX10_surety_31 : decode cX10_surety 31 = .ok (.iload_n 2, 1) := by decide +kernel
theorem dX10_surety_32 : decode cX10_surety 32 = .ok (.iload_n 1, 1) := by decide +kernel
theorem dX10_surety_33 : decode cX10_surety 33 = .ok (.if_icmp .ne 5, 3) := by decide +kernel
theorem dX10_surety_36 : decode cX10_surety 36 = .ok (.iconst (-1), 1) := by decide +kernel
theorem dX10_surety_37 : decode cX10_surety 37 = .ok (.ireturn, 1) := by decide +kernel
theorem dX10_surety_38 : decode cX10_surety 38 = .ok (.aload_n 0, 1) := by decide +kernel
theorem dX10_surety_39 : decode cX10_surety 39 = .ok (.getfield 23, 3) := by decide +kernel
theorem dX10_surety_42 : decode cX10_surety 42 = .ok (.iload_n 1, 1) := by decide +kernel
theorem dX10_surety_43 : decode cX10_surety 43 = .ok (.aaload, 1) := by decide +kernel
theorem dX10_surety_44 : decode cX10_surety 44 = .ok (.getfield 123, 3) := by decide +kernel
theorem dX10_surety_47 : decode cX10_surety 47 = .ok (.istore 4, 2) := by decide +kernel
theorem dX10_surety_49 : decode cX10_surety 49 = .ok (.aload_n 0, 1) := by decide +kernel
theorem dX10_surety_50 : decode cX10_surety 50 = .ok (.getfield 23, 3) := by decide +kernel
theorem dX10_surety_53 : decode cX10_surety 53 = .ok (.iload_n 1, 1) := by decide +kernel
theorem dX10_surety_54 : decode cX10_surety 54 = .ok (.aaload, 1) := by decide +kernel
theorem dX10_surety_55 : decode cX10_surety 55 = .ok (.iload_n 3, 1) := by decide +kernel
theorem dX10_surety_56 : decode cX10_surety 56 = .ok (.ifCond .eq 8, 3) := by decide +kernel
theorem dX10_surety_59 : decode cX10_surety 59 = .ok (.bipush (-2), 2) := by decide +kernel
theorem dX10_surety_61 : decode cX10_surety 61 = .ok (.goto 4, 3) := by decide +kernel
theorem dX10_surety_64 : decode cX10_surety 64 = .ok (.iload_n 2, 1) := by decide +kernel
theorem dX10_surety_65 : decode cX10_surety 65 = .ok (.putfield 123, 3) := by decide +kernel
theorem dX10_surety_68 : decode cX10_surety 68 = .ok (.iload 4, 2) := by decide +kernel
theorem dX10_surety_70 : decode cX10_surety 70 = .ok (.ireturn, 1) := by decide +kernel
theorem dX10_step_0 : decode cX10_step 0 = .ok (.iload_n 1, 1) := by decide +kernel
theorem dX10_step_1 : decode cX10_step 1 = .ok (.iconst 1, 1) := by decide +kernel
theorem dX10_step_2 : decode cX10_step 2 = .ok (.if_icmp .lt 9, 3) := by decide +kernel
theorem dX10_step_5 : decode cX10_step 5 = .ok (.iload_n 1, 1) := by decide +kernel
theorem dX10_step_6 : decode cX10_step 6 = .ok (.bipush 100, 2) := by decide +kernel
theorem dX10_step_8 : decode cX10_step 8 = .ok (.if_icmp .le 5, 3) := by decide +kernel
theorem dX10_step_11 : decode cX10_step 11 = .ok (.iconst (-1), 1) := by decide +kernel
theorem dX10_step_12 : decode cX10_step 12 = .ok (.ireturn, 1) := by decide +kernel
theorem dX10_step_13 : decode cX10_step 13 = .ok (.aload_n 0, 1) := by decide +kernel
theorem dX10_step_14 : decode cX10_step 14 = .ok (.getfield 58, 3) := by decide +kernel
theorem dX10_step_17 : decode cX10_step 17 = .ok (.istore_n 2, 1) := by decide +kernel
theorem dX10_step_18 : decode cX10_step 18 = .ok (.aload_n 0, 1) := by decide +kernel
theorem dX10_step_19 : decode cX10_step 19 = .ok (.iload_n 1, 1) := by decide +kernel
theorem dX10_step_20 : decode cX10_step 20 = .ok (.putfield 58, 3) := by decide +kernel
theorem dX10_step_23 : decode cX10_step 23 = .ok (.iload_n 2, 1) := by decide +kernel
theorem dX10_step_24 : decode cX10_step 24 = .ok (.ireturn, 1) := by decide +kernel
theorem dX10_look_0 : decode cX10_look 0 = .ok (.iload_n 1, 1) := by decide +kernel
theorem dX10_look_1 : decode cX10_look 1 = .ok (.invokestatic 77, 3) := by decide +kernel
theorem dX10_look_4 : decode cX10_look 4 = .ok (.ifCond .ne 5, 3) := by decide +kernel
theorem dX10_look_7 : decode cX10_look 7 = .ok (.iconst (-1), 1) := by decide +kernel
theorem dX10_look_8 : decode cX10_look 8 = .ok (.ireturn, 1) := by decide +kernel
theorem dX10_look_9 : decode cX10_look 9 = .ok (.aload_n 0, 1) := by decide +kernel
theorem dX10_look_10 : decode cX10_look 10 = .ok (.getfield 17, 3) := by decide +kernel
theorem dX10_look_13 : decode cX10_look 13 = .ok (.iload_n 1, 1) := by decide +kernel
theorem dX10_look_14 : decode cX10_look 14 = .ok (.aaload, 1) := by decide +kernel
theorem dX10_look_15 : decode cX10_look 15 = .ok (.astore_n 3, 1) := by decide +kernel
theorem dX10_look_16 : decode cX10_look 16 = .ok (.iload_n 2, 1) := by decide +kernel
theorem dX10_look_17 : decode cX10_look 17 = .ok (.tableswitch 93 0 7 #[47, 52, 57, 65, 70, 75, 80, 85], 47) := by decide +kernel
theorem dX10_look_64 : decode cX10_look 64 = .ok (.aload_n 3, 1) := by decide +kernel
theorem dX10_look_65 : decode cX10_look 65 = .ok (.getfield 92, 3) := by decide +kernel
theorem dX10_look_68 : decode cX10_look 68 = .ok (.ireturn, 1) := by decide +kernel
theorem dX10_look_69 : decode cX10_look 69 = .ok (.aload_n 3, 1) := by decide +kernel
theorem dX10_look_70 : decode cX10_look 70 = .ok (.getfield 89, 3) := by decide +kernel
theorem dX10_look_73 : decode cX10_look 73 = .ok (.ireturn, 1) := by decide +kernel
theorem dX10_look_74 : decode cX10_look 74 = .ok (.aload_n 3, 1) := by decide +kernel
theorem dX10_look_75 : decode cX10_look 75 = .ok (.getfield 95, 3) := by decide +kernel
theorem dX10_look_78 : decode cX10_look 78 = .ok (.invokevirtual 126, 3) := by decide +kernel
theorem dX10_look_81 : decode cX10_look 81 = .ok (.ireturn, 1) := by decide +kernel
theorem dX10_look_82 : decode cX10_look 82 = .ok (.aload_n 3, 1) := by decide +kernel
theorem dX10_look_83 : decode cX10_look 83 = .ok (.invokevirtual 130, 3) := by decide +kernel
theorem dX10_look_86 : decode cX10_look 86 = .ok (.ireturn, 1) := by decide +kernel
theorem dX10_look_87 : decode cX10_look 87 = .ok (.aload_n 3, 1) := by decide +kernel
theorem dX10_look_88 : decode cX10_look 88 = .ok (.getfield 133, 3) := by decide +kernel
theorem dX10_look_91 : decode cX10_look 91 = .ok (.ireturn, 1) := by decide +kernel
theorem dX10_look_92 : decode cX10_look 92 = .ok (.aload_n 3, 1) := by decide +kernel
theorem dX10_look_93 : decode cX10_look 93 = .ok (.getfield 136, 3) := by decide +kernel
theorem dX10_look_96 : decode cX10_look 96 = .ok (.ireturn, 1) := by decide +kernel
theorem dX10_look_97 : decode cX10_look 97 = .ok (.aload_n 3, 1) := by decide +kernel
theorem dX10_look_98 : decode cX10_look 98 = .ok (.getfield 139, 3) := by decide +kernel
theorem dX10_look_101 : decode cX10_look 101 = .ok (.ireturn, 1) := by decide +kernel
theorem dX10_look_102 : decode cX10_look 102 = .ok (.aload_n 3, 1) := by decide +kernel
theorem dX10_look_103 : decode cX10_look 103 = .ok (.invokevirtual 142, 3) := by decide +kernel
theorem dX10_look_106 : decode cX10_look 106 = .ok (.invokestatic 119, 3) := by decide +kernel
theorem dX10_look_109 : decode cX10_look 109 = .ok (.ireturn, 1) := by decide +kernel
theorem dX10_look_110 : decode cX10_look 110 = .ok (.iconst (-1), 1) := by decide +kernel
theorem dX10_look_111 : decode cX10_look 111 = .ok (.ireturn, 1) := by decide +kernel
theorem dX10_about_0 : decode cX10_about 0 = .ok (.aload_n 0, 1) := by decide +kernel
theorem dX10_about_1 : decode cX10_about 1 = .ok (.iload_n 1, 1) := by decide +kernel
theorem dX10_about_2 : decode cX10_about 2 = .ok (.invokevirtual 112, 3) := by decide +kernel
theorem dX10_about_5 : decode cX10_about 5 = .ok (.ifCond .ne 5, 3) := by decide +kernel
theorem dX10_about_8 : decode cX10_about 8 = .ok (.iconst (-1), 1) := by decide +kernel
theorem dX10_about_9 : decode cX10_about 9 = .ok (.ireturn, 1) := by decide +kernel
theorem dX10_about_10 : decode cX10_about 10 = .ok (.aload_n 0, 1) := by decide +kernel
theorem dX10_about_11 : decode cX10_about 11 = .ok (.getfield 23, 3) := by decide +kernel
theorem dX10_about_14 : decode cX10_about 14 = .ok (.iload_n 1, 1) := by decide +kernel
theorem dX10_about_15 : decode cX10_about 15 = .ok (.aaload, 1) := by decide +kernel
theorem dX10_about_16 : decode cX10_about 16 = .ok (.astore_n 3, 1) := by decide +kernel
theorem dX10_about_17 : decode cX10_about 17 = .ok (.iload_n 2, 1) := by decide +kernel
theorem dX10_about_18 : decode cX10_about 18 = .ok (.tableswitch 90 0 7 #[46, 51, 56, 61, 66, 72, 77, 82], 46) := by decide +kernel
theorem dX10_about_64 : decode cX10_about 64 = .ok (.aload_n 3, 1) := by decide +kernel
theorem dX10_about_65 : decode cX10_about 65 = .ok (.getfield 103, 3) := by decide +kernel
theorem dX10_about_68 : decode cX10_about 68 = .ok (.ireturn, 1) := by decide +kernel
theorem dX10_about_69 : decode cX10_about 69 = .ok (.aload_n 3, 1) := by decide +kernel
theorem dX10_about_70 : decode cX10_about 70 = .ok (.getfield 106, 3) := by decide +kernel
theorem dX10_about_73 : decode cX10_about 73 = .ok (.ireturn, 1) := by decide +kernel
theorem dX10_about_74 : decode cX10_about 74 = .ok (.aload_n 3, 1) := by decide +kernel
theorem dX10_about_75 : decode cX10_about 75 = .ok (.getfield 109, 3) := by decide +kernel
theorem dX10_about_78 : decode cX10_about 78 = .ok (.ireturn, 1) := by decide +kernel
theorem dX10_about_79 : decode cX10_about 79 = .ok (.aload_n 3, 1) := by decide +kernel
theorem dX10_about_80 : decode cX10_about 80 = .ok (.invokevirtual 145, 3) := by decide +kernel
theorem dX10_about_83 : decode cX10_about 83 = .ok (.ireturn, 1) := by decide +kernel
theorem dX10_about_84 : decode cX10_about 84 = .ok (.aload_n 0, 1) := by decide +kernel
theorem dX10_about_85 : decode cX10_about 85 = .ok (.iload_n 1, 1) := by decide +kernel
theorem dX10_about_86 : decode cX10_about 86 = .ok (.invokevirtual 148, 3) := by decide +kernel
theorem dX10_about_89 : decode cX10_about 89 = .ok (.ireturn, 1) := by decide +kernel
theorem dX10_about_90 : decode cX10_about 90 = .ok (.aload_n 3, 1) := by decide +kernel
theorem dX10_about_91 : decode cX10_about 91 = .ok (.getfield 152, 3) := by decide +kernel
theorem dX10_about_94 : decode cX10_about 94 = .ok (.ireturn, 1) := by decide +kernel
theorem dX10_about_95 : decode cX10_about 95 = .ok (.aload_n 3, 1) := by decide +kernel
theorem dX10_about_96 : decode cX10_about 96 = .ok (.getfield 155, 3) := by decide +kernel
theorem dX10_about_99 : decode cX10_about 99 = .ok (.ireturn, 1) := by decide +kernel
theorem dX10_about_100 : decode cX10_about 100 = .ok (.aload_n 3, 1) := by decide +kernel
theorem dX10_about_101 : decode cX10_about 101 = .ok (.getfield 115, 3) := by decide +kernel
theorem dX10_about_104 : decode cX10_about 104 = .ok (.invokestatic 119, 3) := by decide +kernel
theorem dX10_about_107 : decode cX10_about 107 = .ok (.ireturn, 1) := by decide +kernel
theorem dX10_about_108 : decode cX10_about 108 = .ok (.iconst (-1), 1) := by decide +kernel
theorem dX10_about_109 : decode cX10_about 109 = .ok (.ireturn, 1) := by decide +kernel
theorem dX10_worth_0 : decode cX10_worth 0 = .ok (.iload_n 1, 1) := by decide +kernel
theorem dX10_worth_1 : decode cX10_worth 1 = .ok (.invokestatic 77, 3) := by decide +kernel
theorem dX10_worth_4 : decode cX10_worth 4 = .ok (.ifCond .eq 11, 3) := by decide +kernel
theorem dX10_worth_7 : decode cX10_worth 7 = .ok (.aload_n 0, 1) := by decide +kernel
theorem dX10_worth_8 : decode cX10_worth 8 = .ok (.iload_n 2, 1) := by decide +kernel
theorem dX10_worth_9 : decode cX10_worth 9 = .ok (.invokevirtual 112, 3) := by decide +kernel
theorem dX10_worth_12 : decode cX10_worth 12 = .ok (.ifCond .ne 5, 3) := by decide +kernel
theorem dX10_worth_15 : decode cX10_worth 15 = .ok (.iconst (-1), 1) := by decide +kernel
theorem dX10_worth_16 : decode cX10_worth 16 = .ok (.ireturn, 1) := by decide +kernel
theorem dX10_worth_17 : decode cX10_worth 17 = .ok (.aload_n 0, 1) := by decide +kernel
theorem dX10_worth_18 : decode cX10_worth 18 = .ok (.iload_n 2, 1) := by decide +kernel
theorem dX10_worth_19 : decode cX10_worth 19 = .ok (.iload_n 1, 1) := by decide +kernel
theorem dX10_worth_20 : decode cX10_worth 20 = .ok (.invokevirtual 158, 3) := by decide +kernel
theorem dX10_worth_23 : decode cX10_worth 23 = .ok (.ireturn, 1) := by decide +kernel
theorem dX10_candle_0 : decode cX10_candle 0 = .ok (.iload_n 1, 1) := by decide +kernel
theorem dX10_candle_1 : decode cX10_candle 1 = .ok (.invokestatic 77, 3) := by decide +kernel
theorem dX10_candle_4 : decode cX10_candle 4 = .ok (.ifCond .eq 22, 3) := by decide +kernel
theorem dX10_candle_7 : decode cX10_candle 7 = .ok (.iload_n 2, 1) := by decide +kernel
theorem dX10_candle_8 : decode cX10_candle 8 = .ok (.iconst 1, 1) := by decide +kernel
theorem dX10_candle_9 : decode cX10_candle 9 = .ok (.if_icmp .lt 17, 3) := by decide +kernel
theorem dX10_candle_12 : decode cX10_candle 12 = .ok (.iload_n 2, 1) := by decide +kernel
theorem dX10_candle_13 : decode cX10_candle 13 = .ok (.bipush 60, 2) := by decide +kernel
theorem dX10_candle_15 : decode cX10_candle 15 = .ok (.if_icmp .gt 11, 3) := by decide +kernel
theorem dX10_candle_18 : decode cX10_candle 18 = .ok (.aload_n 0, 1) := by decide +kernel
theorem dX10_candle_19 : decode cX10_candle 19 = .ok (.iload_n 3, 1) := by decide +kernel
theorem dX10_candle_20 : decode cX10_candle 20 = .ok (.invokevirtual 112, 3) := by decide +kernel
theorem dX10_candle_23 : decode cX10_candle 23 = .ok (.ifCond .ne 5, 3) := by decide +kernel
theorem dX10_candle_26 : decode cX10_candle 26 = .ok (.iconst (-1), 1) := by decide +kernel
theorem dX10_candle_27 : decode cX10_candle 27 = .ok (.ireturn, 1) := by decide +kernel
theorem dX10_candle_28 : decode cX10_candle 28 = .ok (.aload_n 0, 1) := by decide +kernel
theorem dX10_candle_29 : decode cX10_candle 29 = .ok (.getfield 17, 3) := by decide +kernel
theorem dX10_candle_32 : decode cX10_candle 32 = .ok (.iload_n 1, 1) := by decide +kernel
theorem dX10_candle_33 : decode cX10_candle 33 = .ok (.aaload, 1) := by decide +kernel
theorem dX10_candle_34 : decode cX10_candle 34 = .ok (.invokevirtual 85, 3) := by decide +kernel
theorem dX10_candle_37 : decode cX10_candle 37 = .ok (.ifCond .eq 6, 3) := by decide +kernel
theorem dX10_candle_40 : decode cX10_candle 40 = .ok (.bipush (-3), 2) := by decide +kernel
theorem dX10_candle_42 : decode cX10_candle 42 = .ok (.ireturn, 1) := by decide +kernel
theorem dX10_candle_43 : decode cX10_candle 43 = .ok (.aload_n 0, 1) := by decide +kernel
theorem dX10_candle_44 : decode cX10_candle 44 = .ok (.iload_n 1, 1) := by decide +kernel
theorem dX10_candle_45 : decode cX10_candle 45 = .ok (.invokevirtual 162, 3) := by decide +kernel
theorem dX10_candle_48 : decode cX10_candle 48 = .ok (.aload_n 0, 1) := by decide +kernel
theorem dX10_candle_49 : decode cX10_candle 49 = .ok (.getfield 40, 3) := by decide +kernel
theorem dX10_candle_52 : decode cX10_candle 52 = .ok (.iload_n 2, 1) := by decide +kernel
theorem dX10_candle_53 : decode cX10_candle 53 = .ok (.iload_n 3, 1) := by decide +kernel
theorem dX10_candle_54 : decode cX10_candle 54 = .ok (.invokevirtual 166, 3) := by decide +kernel
theorem dX10_candle_57 : decode cX10_candle 57 = .ok (.aload_n 0, 1) := by decide +kernel
theorem dX10_candle_58 : decode cX10_candle 58 = .ok (.getfield 40, 3) := by decide +kernel
theorem dX10_candle_61 : decode cX10_candle 61 = .ok (.getfield 170, 3) := by decide +kernel
theorem dX10_candle_64 : decode cX10_candle 64 = .ok (.bipush (-2), 2) := by decide +kernel
theorem dX10_candle_66 : decode cX10_candle 66 = .ok (.if_icmp .ne 6, 3) := by decide +kernel
theorem dX10_candle_69 : decode cX10_candle 69 = .ok (.bipush (-4), 2) := by decide +kernel
theorem dX10_candle_71 : decode cX10_candle 71 = .ok (.ireturn, 1) := by decide +kernel
theorem dX10_candle_72 : decode cX10_candle 72 = .ok (.aload_n 0, 1) := by decide +kernel
theorem dX10_candle_73 : decode cX10_candle 73 = .ok (.dup, 1) := by decide +kernel
theorem dX10_candle_74 : decode cX10_candle 74 = .ok (.getfield 173, 3) := by decide +kernel
theorem dX10_candle_77 : decode cX10_candle 77 = .ok (.aload_n 0, 1) := by decide +kernel
theorem dX10_candle_78 : decode cX10_candle 78 = .ok (.getfield 40, 3) := by decide +kernel
theorem dX10_candle_81 : decode cX10_candle 81 = .ok (.getfield 176, 3) := by decide +kernel
theorem dX10_candle_84 : decode cX10_candle 84 = .ok (.aload_n 0, 1) := by decide +kernel
theorem dX10_candle_85 : decode cX10_candle 85 = .ok (.getfield 40, 3) := by decide +kernel
theorem dX10_candle_88 : decode cX10_candle 88 = .ok (.aload_n 0, 1) := by decide +kernel
theorem dX10_candle_89 : decode cX10_candle 89 = .ok (.getfield 40, 3) := by decide +kernel
theorem dX10_candle_92 : decode cX10_candle 92 = .ok (.invokevirtual 179, 3) := by decide +kernel
theorem dX10_candle_95 : decode cX10_candle 95 = .ok (.invokevirtual 182, 3) := by decide +kernel
theorem dX10_candle_98 : decode cX10_candle 98 = .ok (.isub, 1) := by decide +kernel
theorem dX10_candle_99 : decode cX10_candle 99 = .ok (.iadd, 1) := by decide +kernel
theorem dX10_candle_100 : decode cX10_candle 100 = .ok (.putfield 173, 3) := by decide +kernel
theorem dX10_candle_103 : decode cX10_candle 103 = .ok (.aload_n 0, 1) := by decide +kernel
theorem dX10_candle_104 : decode cX10_candle 104 = .ok (.aload_n 0, 1) := by decide +kernel
theorem dX10_candle_105 : decode cX10_candle 105 = .ok (.getfield 17, 3) := by decide +kernel
theorem dX10_candle_108 : decode cX10_candle 108 = .ok (.iload_n 1, 1) := by decide +kernel
