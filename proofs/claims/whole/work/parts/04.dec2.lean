theorem dX4_ofPair_9 : decode cX4_ofPair 9 = .ok (.iload_n 1, 1) := by decide +kernel
theorem dX4_ofPair_10 : decode cX4_ofPair 10 = .ok (.aload_n 3, 1) := by decide +kernel
theorem dX4_ofPair_11 : decode cX4_ofPair 11 = .ok (.getfield 153, 3) := by decide +kernel
theorem dX4_ofPair_14 : decode cX4_ofPair 14 = .ok (.if_icmp .lt 5, 3) := by decide +kernel
theorem dX4_ofPair_17 : decode cX4_ofPair 17 = .ok (.iconst (-1), 1) := by decide +kernel
theorem dX4_ofPair_18 : decode cX4_ofPair 18 = .ok (.ireturn, 1) := by decide +kernel
theorem dX4_ofPair_19 : decode cX4_ofPair 19 = .ok (.iload_n 2, 1) := by decide +kernel
theorem dX4_ofPair_20 : decode cX4_ofPair 20 = .ok (.tableswitch 59 0 3 #[32, 39, 46, 53], 32) := by decide +kernel
theorem dX4_ofPair_52 : decode cX4_ofPair 52 = .ok (.aload_n 3, 1) := by decide +kernel
theorem dX4_ofPair_53 : decode cX4_ofPair 53 = .ok (.getfield 156, 3) := by decide +kernel
theorem dX4_ofPair_56 : decode cX4_ofPair 56 = .ok (.iload_n 1, 1) := by decide +kernel
theorem dX4_ofPair_57 : decode cX4_ofPair 57 = .ok (.iaload, 1) := by decide +kernel
theorem dX4_ofPair_58 : decode cX4_ofPair 58 = .ok (.ireturn, 1) := by decide +kernel
theorem dX4_ofPair_59 : decode cX4_ofPair 59 = .ok (.aload_n 3, 1) := by decide +kernel
theorem dX4_ofPair_60 : decode cX4_ofPair 60 = .ok (.getfield 159, 3) := by decide +kernel
theorem dX4_ofPair_63 : decode cX4_ofPair 63 = .ok (.iload_n 1, 1) := by decide +kernel
theorem dX4_ofPair_64 : decode cX4_ofPair 64 = .ok (.iaload, 1) := by decide +kernel
theorem dX4_ofPair_65 : decode cX4_ofPair 65 = .ok (.ireturn, 1) := by decide +kernel
theorem dX4_ofPair_66 : decode cX4_ofPair 66 = .ok (.aload_n 3, 1) := by decide +kernel
theorem dX4_ofPair_67 : decode cX4_ofPair 67 = .ok (.getfield 162, 3) := by decide +kernel
theorem dX4_ofPair_70 : decode cX4_ofPair 70 = .ok (.iload_n 1, 1) := by decide +kernel
theorem dX4_ofPair_71 : decode cX4_ofPair 71 = .ok (.iaload, 1) := by decide +kernel
theorem dX4_ofPair_72 : decode cX4_ofPair 72 = .ok (.ireturn, 1) := by decide +kernel
theorem dX4_ofPair_73 : decode cX4_ofPair 73 = .ok (.aload_n 3, 1) := by decide +kernel
theorem dX4_ofPair_74 : decode cX4_ofPair 74 = .ok (.iload_n 1, 1) := by decide +kernel
theorem dX4_ofPair_75 : decode cX4_ofPair 75 = .ok (.invokevirtual 165, 3) := by decide +kernel
theorem dX4_ofPair_78 : decode cX4_ofPair 78 = .ok (.ireturn, 1) := by decide +kernel
theorem dX4_ofPair_79 : decode cX4_ofPair 79 = .ok (.bipush (-2), 2) := by decide +kernel
theorem dX4_ofPair_81 : decode cX4_ofPair 81 = .ok (.ireturn, 1) := by decide +kernel
theorem dX4_cost_0 : decode cX4_cost 0 = .ok (.iload_n 1, 1) := by decide +kernel
theorem dX4_cost_1 : decode cX4_cost 1 = .ok (.invokestatic 168, 3) := by decide +kernel
theorem dX4_cost_4 : decode cX4_cost 4 = .ok (.ifCond .ne 6, 3) := by decide +kernel
theorem dX4_cost_7 : decode cX4_cost 7 = .ok (.bipush (-2), 2) := by decide +kernel
theorem dX4_cost_9 : decode cX4_cost 9 = .ok (.ireturn, 1) := by decide +kernel
theorem dX4_cost_10 : decode cX4_cost 10 = .ok (.aload_n 0, 1) := by decide +kernel
theorem dX4_cost_11 : decode cX4_cost 11 = .ok (.getfield 20, 3) := by decide +kernel
theorem dX4_cost_14 : decode cX4_cost 14 = .ok (.iload_n 1, 1) := by decide +kernel
theorem dX4_cost_15 : decode cX4_cost 15 = .ok (.iload_n 2, 1) := by decide +kernel
theorem dX4_cost_16 : decode cX4_cost 16 = .ok (.iload_n 3, 1) := by decide +kernel
theorem dX4_cost_17 : decode cX4_cost 17 = .ok (.invokevirtual 171, 3) := by decide +kernel
theorem dX4_cost_20 : decode cX4_cost 20 = .ok (.ifCond .eq 16, 3) := by decide +kernel
theorem dX4_cost_23 : decode cX4_cost 23 = .ok (.aload_n 0, 1) := by decide +kernel
theorem dX4_cost_24 : decode cX4_cost 24 = .ok (.getfield 20, 3) := by decide +kernel
theorem dX4_cost_27 : decode cX4_cost 27 = .ok (.iload_n 1, 1) := by decide +kernel
theorem dX4_cost_28 : decode cX4_cost 28 = .ok (.iload_n 2, 1) := by decide +kernel
theorem dX4_cost_29 : decode cX4_cost 29 = .ok (.iload_n 3, 1) := by decide +kernel
theorem dX4_cost_30 : decode cX4_cost 30 = .ok (.invokevirtual 175, 3) := by decide +kernel
theorem dX4_cost_33 : decode cX4_cost 33 = .ok (.goto 4, 3) := by decide +kernel
theorem dX4_cost_36 : decode cX4_cost 36 = .ok (.iconst (-1), 1) := by decide +kernel
theorem dX4_cost_37 : decode cX4_cost 37 = .ok (.ireturn, 1) := by decide +kernel
theorem dX4_day_0 : decode cX4_day 0 = .ok (.aload_n 0, 1) := by decide +kernel
theorem dX4_day_1 : decode cX4_day 1 = .ok (.iconst 0, 1) := by decide +kernel
theorem dX4_day_2 : decode cX4_day 2 = .ok (.putfield 52, 3) := by decide +kernel
theorem dX4_day_5 : decode cX4_day 5 = .ok (.iload_n 1, 1) := by decide +kernel
theorem dX4_day_6 : decode cX4_day 6 = .ok (.invokestatic 56, 3) := by decide +kernel
theorem dX4_day_9 : decode cX4_day 9 = .ok (.ifCond .ne 5, 3) := by decide +kernel
theorem dX4_day_12 : decode cX4_day 12 = .ok (.iconst (-1), 1) := by decide +kernel
theorem dX4_day_13 : decode cX4_day 13 = .ok (.ireturn, 1) := by decide +kernel
theorem dX4_day_14 : decode cX4_day 14 = .ok (.iload_n 2, 1) := by decide +kernel
theorem dX4_day_15 : decode cX4_day 15 = .ok (.invokestatic 60, 3) := by decide +kernel
theorem dX4_day_18 : decode cX4_day 18 = .ok (.ifCond .eq 23, 3) := by decide +kernel
theorem dX4_day_21 : decode cX4_day 21 = .ok (.iload 4, 2) := by decide +kernel
theorem dX4_day_23 : decode cX4_day 23 = .ok (.ifCond .lt 18, 3) := by decide +kernel
theorem dX4_day_26 : decode cX4_day 26 = .ok (.iload 4, 2) := by decide +kernel
theorem dX4_day_28 : decode cX4_day 28 = .ok (.bipush 20, 2) := by decide +kernel
theorem dX4_day_30 : decode cX4_day 30 = .ok (.if_icmp .gt 11, 3) := by decide +kernel
theorem dX4_day_33 : decode cX4_day 33 = .ok (.iload 5, 2) := by decide +kernel
theorem dX4_day_35 : decode cX4_day 35 = .ok (.invokestatic 179, 3) := by decide +kernel
theorem dX4_day_38 : decode cX4_day 38 = .ok (.ifCond .ne 6, 3) := by decide +kernel
theorem dX4_day_41 : decode cX4_day 41 = .ok (.bipush (-2), 2) := by decide +kernel
theorem dX4_day_43 : decode cX4_day 43 = .ok (.ireturn, 1) := by decide +kernel
theorem dX4_day_44 : decode cX4_day 44 = .ok (.aload_n 0, 1) := by decide +kernel
theorem dX4_day_45 : decode cX4_day 45 = .ok (.getfield 13, 3) := by decide +kernel
theorem dX4_day_48 : decode cX4_day 48 = .ok (.iload_n 1, 1) := by decide +kernel
theorem dX4_day_49 : decode cX4_day 49 = .ok (.aaload, 1) := by decide +kernel
theorem dX4_day_50 : decode cX4_day 50 = .ok (.astore 6, 2) := by decide +kernel
theorem dX4_day_52 : decode cX4_day 52 = .ok (.aload 6, 2) := by decide +kernel
theorem dX4_day_54 : decode cX4_day 54 = .ok (.iload_n 2, 1) := by decide +kernel
theorem dX4_day_55 : decode cX4_day 55 = .ok (.invokevirtual 63, 3) := by decide +kernel
theorem dX4_day_58 : decode cX4_day 58 = .ok (.istore 7, 2) := by decide +kernel
theorem dX4_day_60 : decode cX4_day 60 = .ok (.iload 7, 2) := by decide +kernel
theorem dX4_day_62 : decode cX4_day 62 = .ok (.ifCond .ne 19, 3) := by decide +kernel
theorem dX4_day_65 : decode cX4_day 65 = .ok (.aload 6, 2) := by decide +kernel
theorem dX4_day_67 : decode cX4_day 67 = .ok (.iload_n 3, 1) := by decide +kernel
theorem dX4_day_68 : decode cX4_day 68 = .ok (.iconst 2, 1) := by decide +kernel
theorem dX4_day_69 : decode cX4_day 69 = .ok (.iload 4, 2) := by decide +kernel
theorem dX4_day_71 : decode cX4_day 71 = .ok (.imul, 1) := by decide +kernel
theorem dX4_day_72 : decode cX4_day 72 = .ok (.invokevirtual 67, 3) := by decide +kernel
theorem dX4_day_75 : decode cX4_day 75 = .ok (.ifCond .ne 6, 3) := by decide +kernel
theorem dX4_day_78 : decode cX4_day 78 = .ok (.iconst 3, 1) := by decide +kernel
theorem dX4_day_79 : decode cX4_day 79 = .ok (.istore 7, 2) := by decide +kernel
theorem dX4_day_81 : decode cX4_day 81 = .ok (.iload 7, 2) := by decide +kernel
theorem dX4_day_83 : decode cX4_day 83 = .ok (.ifCond .eq 10, 3) := by decide +kernel
theorem dX4_day_86 : decode cX4_day 86 = .ok (.aload_n 0, 1) := by decide +kernel
theorem dX4_day_87 : decode cX4_day 87 = .ok (.iload 7, 2) := by decide +kernel
theorem dX4_day_89 : decode cX4_day 89 = .ok (.invokevirtual 71, 3) := by decide +kernel
theorem dX4_day_92 : decode cX4_day 92 = .ok (.ireturn, 1) := by decide +kernel
theorem dX4_day_93 : decode cX4_day 93 = .ok (.aload_n 0, 1) := by decide +kernel
theorem dX4_day_94 : decode cX4_day 94 = .ok (.getfield 20, 3) := by decide +kernel
theorem dX4_day_97 : decode cX4_day 97 = .ok (.invokevirtual 132, 3) := by decide +kernel
theorem dX4_day_100 : decode cX4_day 100 = .ok (.ifCond .ne 6, 3) := by decide +kernel
theorem dX4_day_103 : decode cX4_day 103 = .ok (.bipush (-3), 2) := by decide +kernel
theorem dX4_day_105 : decode cX4_day 105 = .ok (.ireturn, 1) := by decide +kernel
theorem dX4_day_106 : decode cX4_day 106 = .ok (.aload 6, 2) := by decide +kernel
theorem dX4_day_108 : decode cX4_day 108 = .ok (.iload_n 3, 1) := by decide +kernel
theorem dX4_day_109 : decode cX4_day 109 = .ok (.iload 4, 2) := by decide +kernel
theorem dX4_day_111 : decode cX4_day 111 = .ok (.invokestatic 182, 3) := by decide +kernel
theorem dX4_day_114 : decode cX4_day 114 = .ok (.ifCond .ne 6, 3) := by decide +kernel
theorem dX4_day_117 : decode cX4_day 117 = .ok (.bipush (-2), 2) := by decide +kernel
theorem dX4_day_119 : decode cX4_day 119 = .ok (.ireturn, 1) := by decide +kernel
theorem dX4_day_120 : decode cX4_day 120 = .ok (.aload_n 0, 1) := by decide +kernel
theorem dX4_day_121 : decode cX4_day 121 = .ok (.aload_n 0, 1) := by decide +kernel
theorem dX4_day_122 : decode cX4_day 122 = .ok (.aload 6, 2) := by decide +kernel
theorem dX4_day_124 : decode cX4_day 124 = .ok (.iload_n 3, 1) := by decide +kernel
theorem dX4_day_125 : decode cX4_day 125 = .ok (.iload 4, 2) := by decide +kernel
theorem dX4_day_127 : decode cX4_day 127 = .ok (.invokevirtual 186, 3) := by decide +kernel
theorem dX4_day_130 : decode cX4_day 130 = .ok (.iload 5, 2) := by decide +kernel
theorem dX4_day_132 : decode cX4_day 132 = .ok (.invokevirtual 190, 3) := by decide +kernel
theorem dX4_day_135 : decode cX4_day 135 = .ok (.ireturn, 1) := by decide +kernel
theorem dX4_by_0 : decode cX4_by 0 = .ok (.iconst 2, 1) := by decide +kernel
theorem dX4_by_1 : decode cX4_by 1 = .ok (.iload_n 1, 1) := by decide +kernel
theorem dX4_by_2 : decode cX4_by 2 = .ok (.invokestatic 136, 3) := by decide +kernel
theorem dX4_by_5 : decode cX4_by 5 = .ok (.ifCond .ne 6, 3) := by decide +kernel
theorem dX4_by_8 : decode cX4_by 8 = .ok (.bipush (-2), 2) := by decide +kernel
theorem dX4_by_10 : decode cX4_by 10 = .ok (.ireturn, 1) := by decide +kernel
theorem dX4_by_11 : decode cX4_by 11 = .ok (.aload_n 0, 1) := by decide +kernel
theorem dX4_by_12 : decode cX4_by 12 = .ok (.getfield 20, 3) := by decide +kernel
theorem dX4_by_15 : decode cX4_by 15 = .ok (.invokevirtual 132, 3) := by decide +kernel
theorem dX4_by_18 : decode cX4_by 18 = .ok (.ifCond .ne 6, 3) := by decide +kernel
theorem dX4_by_21 : decode cX4_by 21 = .ok (.bipush (-3), 2) := by decide +kernel
theorem dX4_by_23 : decode cX4_by 23 = .ok (.ireturn, 1) := by decide +kernel
theorem dX4_by_24 : decode cX4_by 24 = .ok (.aload_n 0, 1) := by decide +kernel
theorem dX4_by_25 : decode cX4_by 25 = .ok (.getfield 34, 3) := by decide +kernel
theorem dX4_by_28 : decode cX4_by 28 = .ok (.aload_n 0, 1) := by decide +kernel
theorem dX4_by_29 : decode cX4_by 29 = .ok (.getfield 20, 3) := by decide +kernel
theorem dX4_by_32 : decode cX4_by 32 = .ok (.invokevirtual 194, 3) := by decide +kernel
theorem dX4_by_35 : decode cX4_by 35 = .ok (.aload_n 0, 1) := by decide +kernel
theorem dX4_by_36 : decode cX4_by 36 = .ok (.getfield 34, 3) := by decide +kernel
theorem dX4_by_39 : decode cX4_by 39 = .ok (.iload_n 1, 1) := by decide +kernel
theorem dX4_by_40 : decode cX4_by 40 = .ok (.invokevirtual 197, 3) := by decide +kernel
theorem dX4_by_43 : decode cX4_by 43 = .ok (.ireturn, 1) := by decide +kernel
theorem dX4_enough_0 : decode cX4_enough 0 = .ok (.aload_n 0, 1) := by decide +kernel
theorem dX4_enough_1 : decode cX4_enough 1 = .ok (.getfield 20, 3) := by decide +kernel
theorem dX4_enough_4 : decode cX4_enough 4 = .ok (.invokevirtual 132, 3) := by decide +kernel
theorem dX4_enough_7 : decode cX4_enough 7 = .ok (.ifCond .ne 6, 3) := by decide +kernel
theorem dX4_enough_10 : decode cX4_enough 10 = .ok (.bipush (-3), 2) := by decide +kernel
theorem dX4_enough_12 : decode cX4_enough 12 = .ok (.ireturn, 1) := by decide +kernel
theorem dX4_enough_13 : decode cX4_enough 13 = .ok (.aload_n 0, 1) := by decide +kernel
theorem dX4_enough_14 : decode cX4_enough 14 = .ok (.getfield 34, 3) := by decide +kernel
theorem dX4_enough_17 : decode cX4_enough 17 = .ok (.aload_n 0, 1) := by decide +kernel
theorem dX4_enough_18 : decode cX4_enough 18 = .ok (.getfield 20, 3) := by decide +kernel
theorem dX4_enough_21 : decode cX4_enough 21 = .ok (.invokevirtual 194, 3) := by decide +kernel
theorem dX4_enough_24 : decode cX4_enough 24 = .ok (.aload_n 0, 1) := by decide +kernel
theorem dX4_enough_25 : decode cX4_enough 25 = .ok (.getfield 34, 3) := by decide +kernel
theorem dX4_enough_28 : decode cX4_enough 28 = .ok (.bipush 7, 2) := by decide +kernel
theorem dX4_enough_30 : decode cX4_enough 30 = .ok (.invokevirtual 197, 3) := by decide +kernel
theorem dX4_enough_33 : decode cX4_enough 33 = .ok (.istore_n 1, 1) := by decide +kernel
theorem dX4_enough_34 : decode cX4_enough 34 = .ok (.iconst 0, 1) := by decide +kernel
theorem dX4_enough_35 : decode cX4_enough 35 = .ok (.istore_n 2, 1) := by decide +kernel
theorem dX4_enough_36 : decode cX4_enough 36 = .ok (.iload_n 2, 1) := by decide +kernel
theorem dX4_enough_37 : decode cX4_enough 37 = .ok (.bipush 7, 2) := by decide +kernel
theorem dX4_enough_39 : decode cX4_enough 39 = .ok (.if_icmp .ge 21, 3) := by decide +kernel
theorem dX4_enough_42 : decode cX4_enough 42 = .ok (.aload_n 0, 1) := by decide +kernel
theorem dX4_enough_43 : decode cX4_enough 43 = .ok (.getfield 34, 3) := by decide +kernel
theorem dX4_enough_46 : decode cX4_enough 46 = .ok (.iload_n 2, 1) := by decide +kernel
theorem dX4_enough_47 : decode cX4_enough 47 = .ok (.invokevirtual 197, 3) := by decide +kernel
theorem dX4_enough_50 : decode cX4_enough 50 = .ok (.iload_n 1, 1) := by decide +kernel
theorem dX4_enough_51 : decode cX4_enough 51 = .ok (.if_icmp .eq 9, 3) := by decide +kernel
theorem dX4_enough_54 : decode cX4_enough 54 = .ok (.iinc 2 1, 3) := by decide +kernel
theorem dX4_enough_57 : decode cX4_enough 57 = .ok (.goto (-21), 3) := by decide +kernel
theorem dX4_enough_60 : decode cX4_enough 60 = .ok (.iload_n 2, 1) := by decide +kernel
theorem dX4_enough_61 : decode cX4_enough 61 = .ok (.ireturn, 1) := by decide +kernel
theorem dX4_reading_0 : decode cX4_reading 0 = .ok (.aload_n 0, 1) := by decide +kernel
theorem dX4_reading_1 : decode cX4_reading 1 = .ok (.getfield 20, 3) := by decide +kernel
theorem dX4_reading_4 : decode cX4_reading 4 = .ok (.invokevirtual 132, 3) := by decide +kernel
theorem dX4_reading_7 : decode cX4_reading 7 = .ok (.ifCond .ne 6, 3) := by decide +kernel
theorem dX4_reading_10 : decode cX4_reading 10 = .ok (.bipush (-3), 2) := by decide +kernel
theorem dX4_reading_12 : decode cX4_reading 12 = .ok (.ireturn, 1) := by decide +kernel
theorem dX4_reading_13 : decode cX4_reading 13 = .ok (.iconst 2, 1) := by decide +kernel
theorem dX4_reading_14 : decode cX4_reading 14 = .ok (.iload_n 1, 1) := by decide +kernel
theorem dX4_reading_15 : decode cX4_reading 15 = .ok (.invokestatic 136, 3) := by decide +kernel
theorem dX4_reading_18 : decode cX4_reading 18 = .ok (.ifCond .eq 20, 3) := by decide +kernel
theorem dX4_reading_21 : decode cX4_reading 21 = .ok (.iload_n 2, 1) := by decide +kernel
theorem dX4_reading_22 : decode cX4_reading 22 = .ok (.bipush (-9), 2) := by decide +kernel
theorem dX4_reading_24 : decode cX4_reading 24 = .ok (.if_icmp .eq 17, 3) := by decide +kernel
theorem dX4_reading_27 : decode cX4_reading 27 = .ok (.iload_n 2, 1) := by decide +kernel
theorem dX4_reading_28 : decode cX4_reading 28 = .ok (.ifCond .lt 10, 3) := by decide +kernel
theorem dX4_reading_31 : decode cX4_reading 31 = .ok (.iload_n 2, 1) := by decide +kernel
theorem dX4_reading_32 : decode cX4_reading 32 = .ok (.sipush 500, 3) := by decide +kernel
theorem dX4_reading_35 : decode cX4_reading 35 = .ok (.if_icmp .le 6, 3) := by decide +kernel
theorem dX4_reading_38 : decode cX4_reading 38 = .ok (.bipush (-2), 2) := by decide +kernel
theorem dX4_reading_40 : decode cX4_reading 40 = .ok (.ireturn, 1) := by decide +kernel
theorem dX4_reading_41 : decode cX4_reading 41 = .ok (.aload_n 0, 1) := by decide +kernel
theorem dX4_reading_42 : decode cX4_reading 42 = .ok (.getfield 82, 3) := by decide +kernel
theorem dX4_reading_45 : decode cX4_reading 45 = .ok (.bipush 8, 2) := by decide +kernel
theorem dX4_reading_47 : decode cX4_reading 47 = .ok (.if_icmp .lt 6, 3) := by decide +kernel
theorem dX4_reading_50 : decode cX4_reading 50 = .ok (.bipush (-4), 2) := by decide +kernel
theorem dX4_reading_52 : decode cX4_reading 52 = .ok (.ireturn, 1) := by decide +kernel
theorem dX4_reading_53 : decode cX4_reading 53 = .ok (.aload_n 0, 1) := by decide +kernel
theorem dX4_reading_54 : decode cX4_reading 54 = .ok (.getfield 44, 3) := by decide +kernel
theorem dX4_reading_57 : decode cX4_reading 57 = .ok (.aload_n 0, 1) := by decide +kernel
theorem dX4_reading_58 : decode cX4_reading 58 = .ok (.getfield 82, 3) := by decide +kernel
theorem dX4_reading_61 : decode cX4_reading 61 = .ok (.iload_n 1, 1) := by decide +kernel
theorem dX4_reading_62 : decode cX4_reading 62 = .ok (.iastore, 1) := by decide +kernel
theorem dX4_reading_63 : decode cX4_reading 63 = .ok (.aload_n 0, 1) := by decide +kernel
theorem dX4_reading_64 : decode cX4_reading 64 = .ok (.getfield 48, 3) := by decide +kernel
theorem dX4_reading_67 : decode cX4_reading 67 = .ok (.aload_n 0, 1) := by decide +kernel
theorem dX4_reading_68 : decode cX4_reading 68 = .ok (.getfield 82, 3) := by decide +kernel
theorem dX4_reading_71 : decode cX4_reading 71 = .ok (.iload_n 2, 1) := by decide +kernel
theorem dX4_reading_72 : decode cX4_reading 72 = .ok (.iastore, 1) := by decide +kernel
theorem dX4_reading_73 : decode cX4_reading 73 = .ok (.aload_n 0, 1) := by decide +kernel
theorem dX4_reading_74 : decode cX4_reading 74 = .ok (.dup, 1) := by decide +kernel
theorem dX4_reading_75 : decode cX4_reading 75 = .ok (.getfield 82, 3) := by decide +kernel
theorem dX4_reading_78 : decode cX4_reading 78 = .ok (.iconst 1, 1) := by decide +kernel
theorem dX4_reading_79 : decode cX4_reading 79 = .ok (.iadd, 1) := by decide +kernel
theorem dX4_reading_80 : decode cX4_reading 80 = .ok (.putfield 82, 3) := by decide +kernel
theorem dX4_reading_83 : decode cX4_reading 83 = .ok (.aload_n 0, 1) := by decide +kernel
theorem dX4_reading_84 : decode cX4_reading 84 = .ok (.getfield 82, 3) := by decide +kernel
theorem dX4_reading_87 : decode cX4_reading 87 = .ok (.iconst 1, 1) := by decide +kernel
theorem dX4_reading_88 : decode cX4_reading 88 = .ok (.isub, 1) := by decide +kernel
theorem dX4_reading_89 : decode cX4_reading 89 = .ok (.ireturn, 1) := by decide +kernel
theorem dX4_back_0 : decode cX4_back 0 = .ok (.iload_n 1, 1) := by decide +kernel
theorem dX4_back_1 : decode cX4_back 1 = .ok (.ifCond .lt 11, 3) := by decide +kernel
theorem dX4_back_4 : decode cX4_back 4 = .ok (.iload_n 1, 1) := by decide +kernel
theorem dX4_back_5 : decode cX4_back 5 = .ok (.aload_n 0, 1) := by decide +kernel
theorem dX4_back_6 : decode cX4_back 6 = .ok (.getfield 82, 3) := by decide +kernel
theorem dX4_back_9 : decode cX4_back 9 = .ok (.if_icmp .le 6, 3) := by decide +kernel
theorem dX4_back_12 : decode cX4_back 12 = .ok (.bipush (-2), 2) := by decide +kernel
theorem dX4_back_14 : decode cX4_back 14 = .ok (.ireturn, 1) := by decide +kernel
theorem dX4_back_15 : decode cX4_back 15 = .ok (.aload_n 0, 1) := by decide +kernel
theorem dX4_back_16 : decode cX4_back 16 = .ok (.dup, 1) := by decide +kernel
theorem dX4_back_17 : decode cX4_back 17 = .ok (.getfield 82, 3) := by decide +kernel
theorem dX4_back_20 : decode cX4_back 20 = .ok (.iload_n 1, 1) := by decide +kernel
theorem dX4_back_21 : decode cX4_back 21 = .ok (.isub, 1) := by decide +kernel
theorem dX4_back_22 : decode cX4_back 22 = .ok (.putfield 82, 3) := by decide +kernel
theorem dX4_back_25 : decode cX4_back 25 = .ok (.aload_n 0, 1) := by decide +kernel
theorem dX4_back_26 : decode cX4_back 26 = .ok (.getfield 82, 3) := by decide +kernel
theorem dX4_back_29 : decode cX4_back 29 = .ok (.ireturn, 1) := by decide +kernel
theorem dX4_kinds_0 : decode cX4_kinds 0 = .ok (.aload_n 0, 1) := by decide +kernel
theorem dX4_kinds_1 : decode cX4_kinds 1 = .ok (.getfield 20, 3) := by decide +kernel
theorem dX4_kinds_4 : decode cX4_kinds 4 = .ok (.iload_n 1, 1) := by decide +kernel
theorem dX4_kinds_5 : decode cX4_kinds 5 = .ok (.invokevirtual 95, 3) := by decide +kernel
theorem dX4_kinds_8 : decode cX4_kinds 8 = .ok (.ifCond .ne 5, 3) := by decide +kernel
theorem dX4_kinds_11 : decode cX4_kinds 11 = .ok (.iconst (-1), 1) := by decide +kernel
theorem dX4_kinds_12 : decode cX4_kinds 12 = .ok (.ireturn, 1) := by decide +kernel
theorem dX4_kinds_13 : decode cX4_kinds 13 = .ok (.aload_n 0, 1) := by decide +kernel
theorem dX4_kinds_14 : decode cX4_kinds 14 = .ok (.getfield 24, 3) := by decide +kernel
theorem dX4_kinds_17 : decode cX4_kinds 17 = .ok (.aload_n 0, 1) := by decide +kernel
theorem dX4_kinds_18 : decode cX4_kinds 18 = .ok (.getfield 20, 3) := by decide +kernel
theorem dX4_kinds_21 : decode cX4_kinds 21 = .ok (.invokevirtual 78, 3) := by decide +kernel
theorem dX4_kinds_24 : decode cX4_kinds 24 = .ok (.iconst 0, 1) := by decide +kernel
theorem dX4_kinds_25 : decode cX4_kinds 25 = .ok (.istore_n 2, 1) := by decide +kernel
theorem dX4_kinds_26 : decode cX4_kinds 26 = .ok (.iconst 0, 1) := by decide +kernel
theorem dX4_kinds_27 : decode cX4_kinds 27 = .ok (.istore_n 3, 1) := by decide +kernel
theorem dX4_kinds_28 : decode cX4_kinds 28 = .ok (.iload_n 3, 1) := by decide +kernel
theorem dX4_kinds_29 : decode cX4_kinds 29 = .ok (.iconst 3, 1) := by decide +kernel
theorem dX4_kinds_30 : decode cX4_kinds 30 = .ok (.if_icmp .ge 32, 3) := by decide +kernel
theorem dX4_kinds_33 : decode cX4_kinds 33 = .ok (.aload_n 0, 1) := by decide +kernel
theorem dX4_kinds_34 : decode cX4_kinds 34 = .ok (.getfield 24, 3) := by decide +kernel
theorem dX4_kinds_37 : decode cX4_kinds 37 = .ok (.getfield 98, 3) := by decide +kernel
theorem dX4_kinds_40 : decode cX4_kinds 40 = .ok (.iload_n 1, 1) := by decide +kernel
theorem dX4_kinds_41 : decode cX4_kinds 41 = .ok (.iload_n 3, 1) := by decide +kernel
theorem dX4_kinds_42 : decode cX4_kinds 42 = .ok (.iastore, 1) := by decide +kernel
theorem dX4_kinds_43 : decode cX4_kinds 43 = .ok (.aload_n 0, 1) := by decide +kernel
theorem dX4_kinds_44 : decode cX4_kinds 44 = .ok (.invokevirtual 200, 3) := by decide +kernel
theorem dX4_kinds_47 : decode cX4_kinds 47 = .ok (.ifCond .eq 9, 3) := by decide +kernel
theorem dX4_kinds_50 : decode cX4_kinds 50 = .ok (.iload_n 2, 1) := by decide +kernel
theorem dX4_kinds_51 : decode cX4_kinds 51 = .ok (.iconst 1, 1) := by decide +kernel
theorem dX4_kinds_52 : decode cX4_kinds 52 = .ok (.iload_n 3, 1) := by decide +kernel
theorem dX4_kinds_53 : decode cX4_kinds 53 = .ok (.ishl, 1) := by decide +kernel
theorem dX4_kinds_54 : decode cX4_kinds 54 = .ok (.ior, 1) := by decide +kernel
theorem dX4_kinds_55 : decode cX4_kinds 55 = .ok (.istore_n 2, 1) := by decide +kernel
theorem dX4_kinds_56 : decode cX4_kinds 56 = .ok (.iinc 3 1, 3) := by decide +kernel
theorem dX4_kinds_59 : decode cX4_kinds 59 = .ok (.goto (-31), 3) := by decide +kernel
theorem dX4_kinds_62 : decode cX4_kinds 62 = .ok (.iload_n 2, 1) := by decide +kernel
theorem dX4_kinds_63 : decode cX4_kinds 63 = .ok (.ireturn, 1) := by decide +kernel
theorem dX4_letterings_0 : decode cX4_letterings 0 = .ok (.aload_n 0, 1) := by decide +kernel
theorem dX4_letterings_1 : decode cX4_letterings 1 = .ok (.getfield 20, 3) := by decide +kernel
theorem dX4_letterings_4 : decode cX4_letterings 4 = .ok (.iload_n 1, 1) := by decide +kernel
theorem dX4_letterings_5 : decode cX4_letterings 5 = .ok (.invokevirtual 95, 3) := by decide +kernel
theorem dX4_letterings_8 : decode cX4_letterings 8 = .ok (.ifCond .ne 5, 3) := by decide +kernel
theorem dX4_letterings_11 : decode cX4_letterings 11 = .ok (.iconst (-1), 1) := by decide +kernel
theorem dX4_letterings_12 : decode cX4_letterings 12 = .ok (.ireturn, 1) := by decide +kernel
theorem dX4_letterings_13 : decode cX4_letterings 13 = .ok (.aload_n 0, 1) := by decide +kernel
theorem dX4_letterings_14 : decode cX4_letterings 14 = .ok (.getfield 24, 3) := by decide +kernel
theorem dX4_letterings_17 : decode cX4_letterings 17 = .ok (.aload_n 0, 1) := by decide +kernel
theorem dX4_letterings_18 : decode cX4_letterings 18 = .ok (.getfield 20, 3) := by decide +kernel
theorem dX4_letterings_21 : decode cX4_letterings 21 = .ok (.invokevirtual 78, 3) := by decide +kernel
theorem dX4_letterings_24 : decode cX4_letterings 24 = .ok (.iconst 0, 1) := by decide +kernel
theorem dX4_letterings_25 : decode cX4_letterings 25 = .ok (.istore_n 2, 1) := by decide +kernel
theorem dX4_letterings_26 : decode cX4_letterings 26 = .ok (.iconst 1, 1) := by decide +kernel
theorem dX4_letterings_27 : decode cX4_letterings 27 = .ok (.istore_n 3, 1) := by decide +kernel
theorem dX4_letterings_28 : decode cX4_letterings 28 = .ok (.iload_n 3, 1) := by decide +kernel
theorem dX4_letterings_29 : decode cX4_letterings 29 = .ok (.bipush 9, 2) := by decide +kernel
theorem dX4_letterings_31 : decode cX4_letterings 31 = .ok (.if_icmp .gt 32, 3) := by decide +kernel
theorem dX4_letterings_34 : decode cX4_letterings 34 = .ok (.aload_n 0, 1) := by decide +kernel
theorem dX4_letterings_35 : decode cX4_letterings 35 = .ok (.getfield 24, 3) := by decide +kernel
theorem dX4_letterings_38 : decode cX4_letterings 38 = .ok (.getfield 101, 3) := by decide +kernel
theorem dX4_letterings_41 : decode cX4_letterings 41 = .ok (.iload_n 1, 1) := by decide +kernel
theorem dX4_letterings_42 : decode cX4_letterings 42 = .ok (.iload_n 3, 1) := by decide +kernel
theorem dX4_letterings_43 : decode cX4_letterings 43 = .ok (.iastore, 1) := by decide +kernel
theorem dX4_letterings_44 : decode cX4_letterings 44 = .ok (.aload_n 0, 1) := by decide +kernel
theorem dX4_letterings_45 : decode cX4_letterings 45 = .ok (.invokevirtual 200, 3) := by decide +kernel
theorem dX4_letterings_48 : decode cX4_letterings 48 = .ok (.ifCond .eq 9, 3) := by decide +kernel
theorem dX4_letterings_51 : decode cX4_letterings 51 = .ok (.iload_n 2, 1) := by decide +kernel
theorem dX4_letterings_52 : decode cX4_letterings 52 = .ok (.iconst 1, 1) := by decide +kernel
theorem dX4_letterings_53 : decode cX4_letterings 53 = .ok (.iload_n 3, 1) := by decide +kernel
theorem dX4_letterings_54 : decode cX4_letterings 54 = .ok (.ishl, 1) := by decide +kernel
theorem dX4_letterings_55 : decode cX4_letterings 55 = .ok (.ior, 1) := by decide +kernel
theorem dX4_letterings_56 : decode cX4_letterings 56 = .ok (.istore_n 2, 1) := by decide +kernel
theorem dX4_letterings_57 : decode cX4_letterings 57 = .ok (.iinc 3 1, 3) := by decide +kernel
theorem dX4_letterings_60 : decode cX4_letterings 60 = .ok (.goto (-32), 3) := by decide +kernel
theorem dX4_letterings_63 : decode cX4_letterings 63 = .ok (.iload_n 2, 1) := by decide +kernel
theorem dX4_letterings_64 : decode cX4_letterings 64 = .ok (.ireturn, 1) := by decide +kernel
theorem dX4_odds_0 : decode cX4_odds 0 = .ok (.iload_n 1, 1) := by decide +kernel
theorem dX4_odds_1 : decode cX4_odds 1 = .ok (.invokestatic 168, 3) := by decide +kernel
theorem dX4_odds_4 : decode cX4_odds 4 = .ok (.ifCond .eq 12, 3) := by decide +kernel
theorem dX4_odds_7 : decode cX4_odds 7 = .ok (.iload_n 2, 1) := by decide +kernel
theorem dX4_odds_8 : decode cX4_odds 8 = .ok (.ifCond .lt 8, 3) := by decide +kernel
theorem dX4_odds_11 : decode cX4_odds 11 = .ok (.iload_n 2, 1) := by decide +kernel
theorem dX4_odds_12 : decode cX4_odds 12 = .ok (.iconst 1, 1) := by decide +kernel
theorem dX4_odds_13 : decode cX4_odds 13 = .ok (.if_icmp .le 7, 3) := by decide +kernel
theorem dX4_odds_16 : decode cX4_odds 16 = .ok (.ldc2_w 203, 3) := by decide +kernel
theorem dX4_odds_19 : decode cX4_odds 19 = .ok (.lreturn, 1) := by decide +kernel
theorem dX4_odds_20 : decode cX4_odds 20 = .ok (.aload_n 0, 1) := by decide +kernel
theorem dX4_odds_21 : decode cX4_odds 21 = .ok (.invokevirtual 110, 3) := by decide +kernel
theorem dX4_odds_24 : decode cX4_odds 24 = .ok (.astore_n 3, 1) := by decide +kernel
theorem dX4_odds_25 : decode cX4_odds 25 = .ok (.aload_n 3, 1) := by decide +kernel
theorem dX4_odds_26 : decode cX4_odds 26 = .ok (.getfield 153, 3) := by decide +kernel
theorem dX4_odds_29 : decode cX4_odds 29 = .ok (.istore 4, 2) := by decide +kernel
theorem dX4_odds_31 : decode cX4_odds 31 = .ok (.iload 4, 2) := by decide +kernel
theorem dX4_odds_33 : decode cX4_odds 33 = .ok (.iconst 1, 1) := by decide +kernel
theorem dX4_odds_34 : decode cX4_odds 34 = .ok (.if_icmp .ge 7, 3) := by decide +kernel
theorem dX4_odds_37 : decode cX4_odds 37 = .ok (.ldc2_w 203, 3) := by decide +kernel
theorem dX4_odds_40 : decode cX4_odds 40 = .ok (.lreturn, 1) := by decide +kernel
theorem dX4_odds_41 : decode cX4_odds 41 = .ok (.aload_n 3, 1) := by decide +kernel
theorem dX4_odds_42 : decode cX4_odds 42 = .ok (.iload_n 1, 1) := by decide +kernel
theorem dX4_odds_43 : decode cX4_odds 43 = .ok (.invokevirtual 205, 3) := by decide +kernel
theorem dX4_odds_46 : decode cX4_odds 46 = .ok (.istore 5, 2) := by decide +kernel
theorem dX4_odds_48 : decode cX4_odds 48 = .ok (.iload 5, 2) := by decide +kernel
theorem dX4_odds_50 : decode cX4_odds 50 = .ok (.iload 4, 2) := by decide +kernel
theorem dX4_odds_52 : decode cX4_odds 52 = .ok (.invokestatic 208, 3) := by decide +kernel
theorem dX4_odds_55 : decode cX4_odds 55 = .ok (.istore 6, 2) := by decide +kernel
theorem dX4_odds_57 : decode cX4_odds 57 = .ok (.iload_n 2, 1) := by decide +kernel
theorem dX4_odds_58 : decode cX4_odds 58 = .ok (.ifCond .ne 12, 3) := by decide +kernel
theorem dX4_odds_61 : decode cX4_odds 61 = .ok (.iload 5, 2) := by decide +kernel
theorem dX4_odds_63 : decode cX4_odds 63 = .ok (.iload 6, 2) := by decide +kernel
theorem dX4_odds_65 : decode cX4_odds 65 = .ok (.idiv, 1) := by decide +kernel
theorem dX4_odds_66 : decode cX4_odds 66 = .ok (.i2l, 1) := by decide +kernel
theorem dX4_odds_67 : decode cX4_odds 67 = .ok (.goto 9, 3) := by decide +kernel
theorem dX4_odds_70 : decode cX4_odds 70 = .ok (.iload 4, 2) := by decide +kernel
theorem dX4_odds_72 : decode cX4_odds 72 = .ok (.iload 6, 2) := by decide +kernel
theorem dX4_odds_74 : decode cX4_odds 74 = .ok (.idiv, 1) := by decide +kernel
theorem dX4_odds_75 : decode cX4_odds 75 = .ok (.i2l, 1) := by decide +kernel
theorem dX4_odds_76 : decode cX4_odds 76 = .ok (.lreturn, 1) := by decide +kernel
theorem dX4_sheet_0 : decode cX4_sheet 0 = .ok (.aload_n 0, 1) := by decide +kernel
theorem dX4_sheet_1 : decode cX4_sheet 1 = .ok (.iconst 0, 1) := by decide +kernel
theorem dX4_sheet_2 : decode cX4_sheet 2 = .ok (.putfield 52, 3) := by decide +kernel
theorem dX4_sheet_5 : decode cX4_sheet 5 = .ok (.iload_n 1, 1) := by decide +kernel
theorem dX4_sheet_6 : decode cX4_sheet 6 = .ok (.invokestatic 56, 3) := by decide +kernel
theorem dX4_sheet_9 : decode cX4_sheet 9 = .ok (.ifCond .ne 5, 3) := by decide +kernel
theorem dX4_sheet_12 : decode cX4_sheet 12 = .ok (.iconst (-1), 1) := by decide +kernel
theorem dX4_sheet_13 : decode cX4_sheet 13 = .ok (.ireturn, 1) := by decide +kernel
theorem dX4_sheet_14 : decode cX4_sheet 14 = .ok (.iload_n 2, 1) := by decide +kernel
theorem dX4_sheet_15 : decode cX4_sheet 15 = .ok (.invokestatic 60, 3) := by decide +kernel
theorem dX4_sheet_18 : decode cX4_sheet 18 = .ok (.ifCond .eq 9, 3) := by decide +kernel
theorem dX4_sheet_21 : decode cX4_sheet 21 = .ok (.iload_n 3, 1) := by decide +kernel
theorem dX4_sheet_22 : decode cX4_sheet 22 = .ok (.bipush 60, 2) := by decide +kernel
theorem dX4_sheet_24 : decode cX4_sheet 24 = .ok (.if_icmp .le 6, 3) := by decide +kernel
theorem dX4_sheet_27 : decode cX4_sheet 27 = .ok (.bipush (-2), 2) := by decide +kernel
theorem dX4_sheet_29 : decode cX4_sheet 29 = .ok (.ireturn, 1) := by decide +kernel
theorem dX4_sheet_30 : decode cX4_sheet 30 = .ok (.iload_n 3, 1) := by decide +kernel
theorem dX4_sheet_31 : decode cX4_sheet 31 = .ok (.ifCond .ge 9, 3) := by decide +kernel
theorem dX4_sheet_34 : decode cX4_sheet 34 = .ok (.aload_n 0, 1) := by decide +kernel
theorem dX4_sheet_35 : decode cX4_sheet 35 = .ok (.iconst 4, 1) := by decide +kernel
theorem dX4_sheet_36 : decode cX4_sheet 36 = .ok (.invokevirtual 71, 3) := by decide +kernel
theorem dX4_sheet_39 : decode cX4_sheet 39 = .ok (.ireturn, 1) := by decide +kernel
theorem dX4_sheet_40 : decode cX4_sheet 40 = .ok (.aload_n 0, 1) := by decide +kernel
theorem dX4_sheet_41 : decode cX4_sheet 41 = .ok (.getfield 13, 3) := by decide +kernel
theorem dX4_sheet_44 : decode cX4_sheet 44 = .ok (.iload_n 1, 1) := by decide +kernel
theorem dX4_sheet_45 : decode cX4_sheet 45 = .ok (.aaload, 1) := by decide +kernel
theorem dX4_sheet_46 : decode cX4_sheet 46 = .ok (.iload_n 2, 1) := by decide +kernel
theorem dX4_sheet_47 : decode cX4_sheet 47 = .ok (.iload_n 3, 1) := by decide +kernel
theorem dX4_sheet_48 : decode cX4_sheet 48 = .ok (.invokevirtual 211, 3) := by decide +kernel
theorem dX4_sheet_51 : decode cX4_sheet 51 = .ok (.iconst 1, 1) := by decide +kernel
theorem dX4_sheet_52 : decode cX4_sheet 52 = .ok (.ireturn, 1) := by decide +kernel
theorem dX4_lose_0 : decode cX4_lose 0 = .ok (.iload_n 1, 1) := by decide +kernel
theorem dX4_lose_1 : decode cX4_lose 1 = .ok (.invokestatic 56, 3) := by decide +kernel
theorem dX4_lose_4 : decode cX4_lose 4 = .ok (.ifCond .ne 5, 3) := by decide +kernel
theorem dX4_lose_7 : decode cX4_lose 7 = .ok (.iconst (-1), 1) := by decide +kernel
theorem dX4_lose_8 : decode cX4_lose 8 = .ok (.ireturn, 1) := by decide +kernel
theorem dX4_lose_9 : decode cX4_lose 9 = .ok (.aload_n 0, 1) := by decide +kernel
theorem dX4_lose_10 : decode cX4_lose 10 = .ok (.getfield 13, 3) := by decide +kernel
theorem dX4_lose_13 : decode cX4_lose 13 = .ok (.iload_n 1, 1) := by decide +kernel
theorem dX4_lose_14 : decode cX4_lose 14 = .ok (.aaload, 1) := by decide +kernel
theorem dX4_lose_15 : decode cX4_lose 15 = .ok (.getfield 214, 3) := by decide +kernel
theorem dX4_lose_18 : decode cX4_lose 18 = .ok (.istore_n 2, 1) := by decide +kernel
theorem dX4_lose_19 : decode cX4_lose 19 = .ok (.aload_n 0, 1) := by decide +kernel
theorem dX4_lose_20 : decode cX4_lose 20 = .ok (.getfield 13, 3) := by decide +kernel
theorem dX4_lose_23 : decode cX4_lose 23 = .ok (.iload_n 1, 1) := by decide +kernel
theorem dX4_lose_24 : decode cX4_lose 24 = .ok (.aaload, 1) := by decide +kernel
theorem dX4_lose_25 : decode cX4_lose 25 = .ok (.iconst 0, 1) := by decide +kernel
theorem dX4_lose_26 : decode cX4_lose 26 = .ok (.putfield 214, 3) := by decide +kernel
theorem dX4_lose_29 : decode cX4_lose 29 = .ok (.iload_n 2, 1) := by decide +kernel
theorem dX4_lose_30 : decode cX4_lose 30 = .ok (.ifCond .eq 7, 3) := by decide +kernel
theorem dX4_lose_33 : decode cX4_lose 33 = .ok (.iconst 1, 1) := by decide +kernel
theorem dX4_lose_34 : decode cX4_lose 34 = .ok (.goto 4, 3) := by decide +kernel
theorem dX4_lose_37 : decode cX4_lose 37 = .ok (.iconst 0, 1) := by decide +kernel
theorem dX4_lose_38 : decode cX4_lose 38 = .ok (.ireturn, 1) := by decide +kernel
theorem dX4_put_0 : decode cX4_put 0 = .ok (.aload_n 0, 1) := by decide +kernel
theorem dX4_put_1 : decode cX4_put 1 = .ok (.iconst 0, 1) := by decide +kernel
theorem dX4_put_2 : decode cX4_put 2 = .ok (.putfield 52, 3) := by decide +kernel
theorem dX4_put_5 : decode cX4_put 5 = .ok (.iload_n 1, 1) := by decide +kernel
theorem dX4_put_6 : decode cX4_put 6 = .ok (.invokestatic 56, 3) := by decide +kernel
theorem dX4_put_9 : decode cX4_put 9 = .ok (.ifCond .ne 5, 3) := by decide +kernel
theorem dX4_put_12 : decode cX4_put 12 = .ok (.iconst (-1), 1) := by decide +kernel
theorem dX4_put_13 : decode cX4_put 13 = .ok (.ireturn, 1) := by decide +kernel
theorem dX4_put_14 : decode cX4_put 14 = .ok (.aload_n 0, 1) := by decide +kernel
theorem dX4_put_15 : decode cX4_put 15 = .ok (.getfield 13, 3) := by decide +kernel
theorem dX4_put_18 : decode cX4_put 18 = .ok (.iload_n 1, 1) := by decide +kernel
theorem dX4_put_19 : decode cX4_put 19 = .ok (.aaload, 1) := by decide +kernel
theorem dX4_put_20 : decode cX4_put 20 = .ok (.astore 4, 2) := by decide +kernel
theorem dX4_put_22 : decode cX4_put 22 = .ok (.aload 4, 2) := by decide +kernel
theorem dX4_put_24 : decode cX4_put 24 = .ok (.getfield 214, 3) := by decide +kernel
theorem dX4_put_27 : decode cX4_put 27 = .ok (.ifCond .ne 9, 3) := by decide +kernel
theorem dX4_put_30 : decode cX4_put 30 = .ok (.aload_n 0, 1) := by decide +kernel
theorem dX4_put_31 : decode cX4_put 31 = .ok (.iconst 1, 1) := by decide +kernel
theorem dX4_put_32 : decode cX4_put 32 = .ok (.invokevirtual 71, 3) := by decide +kernel
theorem dX4_put_35 : decode cX4_put 35 = .ok (.ireturn, 1) := by decide +kernel
theorem dX4_put_36 : decode cX4_put 36 = .ok (.aload 4, 2) := by decide +kernel
theorem dX4_put_38 : decode cX4_put 38 = .ok (.iload_n 2, 1) := by decide +kernel
theorem dX4_put_39 : decode cX4_put 39 = .ok (.iconst 1, 1) := by decide +kernel
theorem dX4_put_40 : decode cX4_put 40 = .ok (.invokevirtual 67, 3) := by decide +kernel
theorem dX4_put_43 : decode cX4_put 43 = .ok (.ifCond .ne 9, 3) := by decide +kernel
theorem dX4_put_46 : decode cX4_put 46 = .ok (.aload_n 0, 1) := by decide +kernel
theorem dX4_put_47 : decode cX4_put 47 = .ok (.iconst 3, 1) := by decide +kernel
theorem dX4_put_48 : decode cX4_put 48 = .ok (.invokevirtual 71, 3) := by decide +kernel
theorem dX4_put_51 : decode cX4_put 51 = .ok (.ireturn, 1) := by decide +kernel
theorem dX4_put_52 : decode cX4_put 52 = .ok (.aload 4, 2) := by decide +kernel
theorem dX4_put_54 : decode cX4_put 54 = .ok (.getfield 217, 3) := by decide +kernel
theorem dX4_put_57 : decode cX4_put 57 = .ok (.iload_n 2, 1) := by decide +kernel
theorem dX4_put_58 : decode cX4_put 58 = .ok (.aload 4, 2) := by decide +kernel
theorem dX4_put_60 : decode cX4_put 60 = .ok (.iload_n 3, 1) := by decide +kernel
theorem dX4_put_61 : decode cX4_put 61 = .ok (.invokevirtual 220, 3) := by decide +kernel
theorem dX4_put_64 : decode cX4_put 64 = .ok (.iastore, 1) := by decide +kernel
theorem dX4_put_65 : decode cX4_put 65 = .ok (.iconst 1, 1) := by decide +kernel
theorem dX4_put_66 : decode cX4_put 66 = .ok (.ireturn, 1) := by decide +kernel
theorem dX4_cell_0 : decode cX4_cell 0 = .ok (.aload_n 0, 1) := by decide +kernel
theorem dX4_cell_1 : decode cX4_cell 1 = .ok (.iconst 0, 1) := by decide +kernel
theorem dX4_cell_2 : decode cX4_cell 2 = .ok (.putfield 52, 3) := by decide +kernel
theorem dX4_cell_5 : decode cX4_cell 5 = .ok (.iload_n 1, 1) := by decide +kernel
theorem dX4_cell_6 : decode cX4_cell 6 = .ok (.invokestatic 56, 3) := by decide +kernel
theorem dX4_cell_9 : decode cX4_cell 9 = .ok (.ifCond .eq 10, 3) := by decide +kernel
theorem dX4_cell_12 : decode cX4_cell 12 = .ok (.iload_n 3, 1) := by decide +kernel
theorem dX4_cell_13 : decode cX4_cell 13 = .ok (.invokestatic 60, 3) := by decide +kernel
theorem dX4_cell_16 : decode cX4_cell 16 = .ok (.ifCond .ne 7, 3) := by decide +kernel
theorem dX4_cell_19 : decode cX4_cell 19 = .ok (.ldc2_w 203, 3) := by decide +kernel
theorem dX4_cell_22 : decode cX4_cell 22 = .ok (.lreturn, 1) := by decide +kernel
theorem dX4_cell_23 : decode cX4_cell 23 = .ok (.aload_n 0, 1) := by decide +kernel
theorem dX4_cell_24 : decode cX4_cell 24 = .ok (.getfield 13, 3) := by decide +kernel
theorem dX4_cell_27 : decode cX4_cell 27 = .ok (.iload_n 1, 1) := by decide +kernel
theorem dX4_cell_28 : decode cX4_cell 28 = .ok (.aaload, 1) := by decide +kernel
theorem dX4_cell_29 : decode cX4_cell 29 = .ok (.astore 4, 2) := by decide +kernel
theorem dX4_cell_31 : decode cX4_cell 31 = .ok (.aload_n 0, 1) := by decide +kernel
theorem dX4_cell_32 : decode cX4_cell 32 = .ok (.aload 4, 2) := by decide +kernel
theorem dX4_cell_34 : decode cX4_cell 34 = .ok (.iload_n 3, 1) := by decide +kernel
theorem dX4_cell_35 : decode cX4_cell 35 = .ok (.invokevirtual 63, 3) := by decide +kernel
theorem dX4_cell_38 : decode cX4_cell 38 = .ok (.putfield 52, 3) := by decide +kernel
theorem dX4_cell_41 : decode cX4_cell 41 = .ok (.aload_n 0, 1) := by decide +kernel
theorem dX4_cell_42 : decode cX4_cell 42 = .ok (.getfield 52, 3) := by decide +kernel
theorem dX4_cell_45 : decode cX4_cell 45 = .ok (.ifCond .ne 18, 3) := by decide +kernel
theorem dX4_cell_48 : decode cX4_cell 48 = .ok (.aload 4, 2) := by decide +kernel
theorem dX4_cell_50 : decode cX4_cell 50 = .ok (.iload_n 2, 1) := by decide +kernel
theorem dX4_cell_51 : decode cX4_cell 51 = .ok (.iconst 1, 1) := by decide +kernel
theorem dX4_cell_52 : decode cX4_cell 52 = .ok (.invokevirtual 67, 3) := by decide +kernel
theorem dX4_cell_55 : decode cX4_cell 55 = .ok (.ifCond .ne 8, 3) := by decide +kernel
theorem dX4_cell_58 : decode cX4_cell 58 = .ok (.aload_n 0, 1) := by decide +kernel
theorem dX4_cell_59 : decode cX4_cell 59 = .ok (.iconst 3, 1) := by decide +kernel
theorem dX4_cell_60 : decode cX4_cell 60 = .ok (.putfield 52, 3) := by decide +kernel
theorem dX4_cell_63 : decode cX4_cell 63 = .ok (.aload_n 0, 1) := by decide +kernel
theorem dX4_cell_64 : decode cX4_cell 64 = .ok (.getfield 52, 3) := by decide +kernel
theorem dX4_cell_67 : decode cX4_cell 67 = .ok (.ifCond .ne 14, 3) := by decide +kernel
theorem dX4_cell_70 : decode cX4_cell 70 = .ok (.aload 4, 2) := by decide +kernel
theorem dX4_cell_72 : decode cX4_cell 72 = .ok (.getfield 217, 3) := by decide +kernel
theorem dX4_cell_75 : decode cX4_cell 75 = .ok (.iload_n 2, 1) := by decide +kernel
theorem dX4_cell_76 : decode cX4_cell 76 = .ok (.iaload, 1) := by decide +kernel
theorem dX4_cell_77 : decode cX4_cell 77 = .ok (.i2l, 1) := by decide +kernel
theorem dX4_cell_78 : decode cX4_cell 78 = .ok (.goto 6, 3) := by decide +kernel
theorem dX4_cell_81 : decode cX4_cell 81 = .ok (.ldc2_w 203, 3) := by decide +kernel
theorem dX4_cell_84 : decode cX4_cell 84 = .ok (.lreturn, 1) := by decide +kernel
theorem dX4_copy_0 : decode cX4_copy 0 = .ok (.aload_n 0, 1) := by decide +kernel
theorem dX4_copy_1 : decode cX4_copy 1 = .ok (.iconst 0, 1) := by decide +kernel
theorem dX4_copy_2 : decode cX4_copy 2 = .ok (.putfield 52, 3) := by decide +kernel
theorem dX4_copy_5 : decode cX4_copy 5 = .ok (.iload_n 1, 1) := by decide +kernel
theorem dX4_copy_6 : decode cX4_copy 6 = .ok (.invokestatic 56, 3) := by decide +kernel
theorem dX4_copy_9 : decode cX4_copy 9 = .ok (.ifCond .eq 10, 3) := by decide +kernel
theorem dX4_copy_12 : decode cX4_copy 12 = .ok (.iload_n 3, 1) := by decide +kernel
theorem dX4_copy_13 : decode cX4_copy 13 = .ok (.invokestatic 56, 3) := by decide +kernel
theorem dX4_copy_16 : decode cX4_copy 16 = .ok (.ifCond .ne 5, 3) := by decide +kernel
theorem dX4_copy_19 : decode cX4_copy 19 = .ok (.iconst (-1), 1) := by decide +kernel
theorem dX4_copy_20 : decode cX4_copy 20 = .ok (.ireturn, 1) := by decide +kernel
theorem dX4_copy_21 : decode cX4_copy 21 = .ok (.aload_n 0, 1) := by decide +kernel
theorem dX4_copy_22 : decode cX4_copy 22 = .ok (.getfield 13, 3) := by decide +kernel
theorem dX4_copy_25 : decode cX4_copy 25 = .ok (.iload_n 1, 1) := by decide +kernel
theorem dX4_copy_26 : decode cX4_copy 26 = .ok (.aaload, 1) := by decide +kernel
theorem dX4_copy_27 : decode cX4_copy 27 = .ok (.astore 6, 2) := by decide +kernel
theorem dX4_copy_29 : decode cX4_copy 29 = .ok (.aload_n 0, 1) := by decide +kernel
theorem dX4_copy_30 : decode cX4_copy 30 = .ok (.getfield 13, 3) := by decide +kernel
theorem dX4_copy_33 : decode cX4_copy 33 = .ok (.iload_n 3, 1) := by decide +kernel
theorem dX4_copy_34 : decode cX4_copy 34 = .ok (.aaload, 1) := by decide +kernel
theorem dX4_copy_35 : decode cX4_copy 35 = .ok (.astore 7, 2) := by decide +kernel
theorem dX4_copy_37 : decode cX4_copy 37 = .ok (.aload 6, 2) := by decide +kernel
theorem dX4_copy_39 : decode cX4_copy 39 = .ok (.getfield 214, 3) := by decide +kernel
theorem dX4_copy_42 : decode cX4_copy 42 = .ok (.ifCond .eq 11, 3) := by decide +kernel
theorem dX4_copy_45 : decode cX4_copy 45 = .ok (.aload 7, 2) := by decide +kernel
theorem dX4_copy_47 : decode cX4_copy 47 = .ok (.getfield 214, 3) := by decide +kernel
theorem dX4_copy_50 : decode cX4_copy 50 = .ok (.ifCond .ne 9, 3) := by decide +kernel
theorem dX4_copy_53 : decode cX4_copy 53 = .ok (.aload_n 0, 1) := by decide +kernel
theorem dX4_copy_54 : decode cX4_copy 54 = .ok (.iconst 1, 1) := by decide +kernel
theorem dX4_copy_55 : decode cX4_copy 55 = .ok (.invokevirtual 71, 3) := by decide +kernel
theorem dX4_copy_58 : decode cX4_copy 58 = .ok (.ireturn, 1) := by decide +kernel
theorem dX4_copy_59 : decode cX4_copy 59 = .ok (.aload 6, 2) := by decide +kernel
theorem dX4_copy_61 : decode cX4_copy 61 = .ok (.getfield 223, 3) := by decide +kernel
theorem dX4_copy_64 : decode cX4_copy 64 = .ok (.aload 7, 2) := by decide +kernel
theorem dX4_copy_66 : decode cX4_copy 66 = .ok (.getfield 223, 3) := by decide +kernel
theorem dX4_copy_69 : decode cX4_copy 69 = .ok (.if_icmp .eq 9, 3) := by decide +kernel
theorem dX4_copy_72 : decode cX4_copy 72 = .ok (.aload_n 0, 1) := by decide +kernel
theorem dX4_copy_73 : decode cX4_copy 73 = .ok (.iconst 2, 1) := by decide +kernel
theorem dX4_copy_74 : decode cX4_copy 74 = .ok (.invokevirtual 71, 3) := by decide +kernel
theorem dX4_copy_77 : decode cX4_copy 77 = .ok (.ireturn, 1) := by decide +kernel
theorem dX4_copy_78 : decode cX4_copy 78 = .ok (.aload 6, 2) := by decide +kernel
theorem dX4_copy_80 : decode cX4_copy 80 = .ok (.iload_n 2, 1) := by decide +kernel
theorem dX4_copy_81 : decode cX4_copy 81 = .ok (.iload 5, 2) := by decide +kernel
theorem dX4_copy_83 : decode cX4_copy 83 = .ok (.invokevirtual 67, 3) := by decide +kernel
theorem dX4_copy_86 : decode cX4_copy 86 = .ok (.ifCond .eq 15, 3) := by decide +kernel
theorem dX4_copy_89 : decode cX4_copy 89 = .ok (.aload 7, 2) := by decide +kernel
theorem dX4_copy_91 : decode cX4_copy 91 = .ok (.iload 4, 2) := by decide +kernel
theorem dX4_copy_93 : decode cX4_copy 93 = .ok (.iload 5, 2) := by decide +kernel
theorem dX4_copy_95 : decode cX4_copy 95 = .ok (.invokevirtual 67, 3) := by decide +kernel
theorem dX4_copy_98 : decode cX4_copy 98 = .ok (.ifCond .ne 9, 3) := by decide +kernel
theorem dX4_copy_101 : decode cX4_copy 101 = .ok (.aload_n 0, 1) := by decide +kernel
theorem dX4_copy_102 : decode cX4_copy 102 = .ok (.iconst 3, 1) := by decide +kernel
theorem dX4_copy_103 : decode cX4_copy 103 = .ok (.invokevirtual 71, 3) := by decide +kernel
theorem dX4_copy_106 : decode cX4_copy 106 = .ok (.ireturn, 1) := by decide +kernel
theorem dX4_copy_107 : decode cX4_copy 107 = .ok (.aload 6, 2) := by decide +kernel
theorem dX4_copy_109 : decode cX4_copy 109 = .ok (.getfield 217, 3) := by decide +kernel
theorem dX4_copy_112 : decode cX4_copy 112 = .ok (.iload_n 2, 1) := by decide +kernel
theorem dX4_copy_113 : decode cX4_copy 113 = .ok (.aload 7, 2) := by decide +kernel
theorem dX4_copy_115 : decode cX4_copy 115 = .ok (.getfield 217, 3) := by decide +kernel
theorem dX4_copy_118 : decode cX4_copy 118 = .ok (.iload 4, 2) := by decide +kernel
theorem dX4_copy_120 : decode cX4_copy 120 = .ok (.iload 5, 2) := by decide +kernel
theorem dX4_copy_122 : decode cX4_copy 122 = .ok (.invokestatic 226, 3) := by decide +kernel
theorem dX4_copy_125 : decode cX4_copy 125 = .ok (.iload 5, 2) := by decide +kernel
theorem dX4_copy_127 : decode cX4_copy 127 = .ok (.ireturn, 1) := by decide +kernel
theorem dX4_tell_0 : decode cX4_tell 0 = .ok (.aload_n 0, 1) := by decide +kernel
theorem dX4_tell_1 : decode cX4_tell 1 = .ok (.getfield 20, 3) := by decide +kernel
theorem dX4_tell_4 : decode cX4_tell 4 = .ok (.iload_n 1, 1) := by decide +kernel
theorem dX4_tell_5 : decode cX4_tell 5 = .ok (.invokevirtual 95, 3) := by decide +kernel
theorem dX4_tell_8 : decode cX4_tell 8 = .ok (.ifCond .ne 5, 3) := by decide +kernel
theorem dX4_tell_11 : decode cX4_tell 11 = .ok (.iconst (-1), 1) := by decide +kernel
theorem dX4_tell_12 : decode cX4_tell 12 = .ok (.ireturn, 1) := by decide +kernel
theorem dX4_tell_13 : decode cX4_tell 13 = .ok (.aload_n 0, 1) := by decide +kernel
theorem dX4_tell_14 : decode cX4_tell 14 = .ok (.getfield 20, 3) := by decide +kernel
theorem dX4_tell_17 : decode cX4_tell 17 = .ok (.getfield 98, 3) := by decide +kernel
theorem dX4_tell_20 : decode cX4_tell 20 = .ok (.iload_n 1, 1) := by decide +kernel
theorem dX4_tell_21 : decode cX4_tell 21 = .ok (.iaload, 1) := by decide +kernel
theorem dX4_tell_22 : decode cX4_tell 22 = .ok (.lookupswitch 38 #[(1, 32), (2, 26)], 26) := by decide +kernel
theorem dX4_tell_48 : decode cX4_tell 48 = .ok (.aload_n 0, 1) := by decide +kernel
theorem dX4_tell_49 : decode cX4_tell 49 = .ok (.iload_n 1, 1) := by decide +kernel
theorem dX4_tell_50 : decode cX4_tell 50 = .ok (.invokevirtual 232, 3) := by decide +kernel
theorem dX4_tell_53 : decode cX4_tell 53 = .ok (.ireturn, 1) := by decide +kernel
theorem dX4_tell_54 : decode cX4_tell 54 = .ok (.aload_n 0, 1) := by decide +kernel
theorem dX4_tell_55 : decode cX4_tell 55 = .ok (.iload_n 1, 1) := by decide +kernel
theorem dX4_tell_56 : decode cX4_tell 56 = .ok (.invokevirtual 235, 3) := by decide +kernel
theorem dX4_tell_59 : decode cX4_tell 59 = .ok (.ireturn, 1) := by decide +kernel
theorem dX4_tell_60 : decode cX4_tell 60 = .ok (.aload_n 0, 1) := by decide +kernel
theorem dX4_tell_61 : decode cX4_tell 61 = .ok (.iload_n 1, 1) := by decide +kernel
theorem dX4_tell_62 : decode cX4_tell 62 = .ok (.invokevirtual 238, 3) := by decide +kernel
theorem dX4_tell_65 : decode cX4_tell 65 = .ok (.ireturn, 1) := by decide +kernel
theorem dX4_read_0 : decode cX4_read 0 = .ok (.aload_n 0, 1) := by decide +kernel
theorem dX4_read_1 : decode cX4_read 1 = .ok (.getfield 20, 3) := by decide +kernel
theorem dX4_read_4 : decode cX4_read 4 = .ok (.iload_n 1, 1) := by decide +kernel
theorem dX4_read_5 : decode cX4_read 5 = .ok (.invokevirtual 95, 3) := by decide +kernel
theorem dX4_read_8 : decode cX4_read 8 = .ok (.ifCond .ne 5, 3) := by decide +kernel
theorem dX4_read_11 : decode cX4_read 11 = .ok (.iconst (-1), 1) := by decide +kernel
theorem dX4_read_12 : decode cX4_read 12 = .ok (.ireturn, 1) := by decide +kernel
theorem dX4_read_13 : decode cX4_read 13 = .ok (.aload_n 0, 1) := by decide +kernel
theorem dX4_read_14 : decode cX4_read 14 = .ok (.getfield 20, 3) := by decide +kernel
theorem dX4_read_17 : decode cX4_read 17 = .ok (.getfield 98, 3) := by decide +kernel
theorem dX4_read_20 : decode cX4_read 20 = .ok (.iload_n 1, 1) := by decide +kernel
theorem dX4_read_21 : decode cX4_read 21 = .ok (.iaload, 1) := by decide +kernel
theorem dX4_read_22 : decode cX4_read 22 = .ok (.iconst 2, 1) := by decide +kernel
theorem dX4_read_23 : decode cX4_read 23 = .ok (.if_icmp .ne 11, 3) := by decide +kernel
theorem dX4_read_26 : decode cX4_read 26 = .ok (.aload_n 0, 1) := by decide +kernel
theorem dX4_read_27 : decode cX4_read 27 = .ok (.iload_n 1, 1) := by decide +kernel
theorem dX4_read_28 : decode cX4_read 28 = .ok (.invokevirtual 241, 3) := by decide +kernel
theorem dX4_read_31 : decode cX4_read 31 = .ok (.goto 8, 3) := by decide +kernel
theorem dX4_read_34 : decode cX4_read 34 = .ok (.aload_n 0, 1) := by decide +kernel
theorem dX4_read_35 : decode cX4_read 35 = .ok (.iload_n 1, 1) := by decide +kernel
theorem dX4_read_36 : decode cX4_read 36 = .ok (.invokevirtual 244, 3) := by decide +kernel
theorem dX4_read_39 : decode cX4_read 39 = .ok (.ireturn, 1) := by decide +kernel
theorem dX4_as_0 : decode cX4_as 0 = .ok (.aload_n 0, 1) := by decide +kernel
theorem dX4_as_1 : decode cX4_as 1 = .ok (.iconst 0, 1) := by decide +kernel
theorem dX4_as_2 : decode cX4_as 2 = .ok (.putfield 52, 3) := by decide +kernel
theorem dX4_as_5 : decode cX4_as 5 = .ok (.aload_n 0, 1) := by decide +kernel
theorem dX4_as_6 : decode cX4_as 6 = .ok (.getfield 20, 3) := by decide +kernel
theorem dX4_as_9 : decode cX4_as 9 = .ok (.iload_n 1, 1) := by decide +kernel
theorem dX4_as_10 : decode cX4_as 10 = .ok (.invokevirtual 95, 3) := by decide +kernel
theorem dX4_as_13 : decode cX4_as 13 = .ok (.ifCond .ne 5, 3) := by decide +kernel
theorem dX4_as_16 : decode cX4_as 16 = .ok (.iconst (-1), 1) := by decide +kernel
theorem dX4_as_17 : decode cX4_as 17 = .ok (.ireturn, 1) := by decide +kernel
theorem dX4_as_18 : decode cX4_as 18 = .ok (.iload_n 2, 1) := by decide +kernel
theorem dX4_as_19 : decode cX4_as 19 = .ok (.ifCond .lt 8, 3) := by decide +kernel
theorem dX4_as_22 : decode cX4_as 22 = .ok (.iload_n 2, 1) := by decide +kernel
theorem dX4_as_23 : decode cX4_as 23 = .ok (.iconst 2, 1) := by decide +kernel
theorem dX4_as_24 : decode cX4_as 24 = .ok (.if_icmp .le 6, 3) := by decide +kernel
theorem dX4_as_27 : decode cX4_as 27 = .ok (.bipush (-2), 2) := by decide +kernel
theorem dX4_as_29 : decode cX4_as 29 = .ok (.ireturn, 1) := by decide +kernel
theorem dX4_as_30 : decode cX4_as 30 = .ok (.aload_n 0, 1) := by decide +kernel
theorem dX4_as_31 : decode cX4_as 31 = .ok (.getfield 20, 3) := by decide +kernel
theorem dX4_as_34 : decode cX4_as 34 = .ok (.getfield 98, 3) := by decide +kernel
theorem dX4_as_37 : decode cX4_as 37 = .ok (.iload_n 1, 1) := by decide +kernel
theorem dX4_as_38 : decode cX4_as 38 = .ok (.iaload, 1) := by decide +kernel
theorem dX4_as_39 : decode cX4_as 39 = .ok (.iload_n 2, 1) := by decide +kernel
theorem dX4_as_40 : decode cX4_as 40 = .ok (.if_icmp .lt 7, 3) := by decide +kernel
theorem dX4_as_43 : decode cX4_as 43 = .ok (.iconst 1, 1) := by decide +kernel
theorem dX4_as_44 : decode cX4_as 44 = .ok (.goto 8, 3) := by decide +kernel
theorem dX4_as_47 : decode cX4_as 47 = .ok (.aload_n 0, 1) := by decide +kernel
theorem dX4_as_48 : decode cX4_as 48 = .ok (.iconst 2, 1) := by decide +kernel
theorem dX4_as_49 : decode cX4_as 49 = .ok (.invokevirtual 71, 3) := by decide +kernel
theorem dX4_as_52 : decode cX4_as 52 = .ok (.ireturn, 1) := by decide +kernel
theorem dX4_trace_0 : decode cX4_trace 0 = .ok (.aload_n 0, 1) := by decide +kernel
theorem dX4_trace_1 : decode cX4_trace 1 = .ok (.getfield 247, 3) := by decide +kernel
theorem dX4_trace_4 : decode cX4_trace 4 = .ok (.ireturn, 1) := by decide +kernel
theorem dX4_fault_0 : decode cX4_fault 0 = .ok (.aload_n 0, 1) := by decide +kernel
theorem dX4_fault_1 : decode cX4_fault 1 = .ok (.getfield 52, 3) := by decide +kernel
theorem dX4_fault_4 : decode cX4_fault 4 = .ok (.ireturn, 1) := by decide +kernel
theorem dX4_many_0 : decode cX4_many 0 = .ok (.iload_n 1, 1) := by decide +kernel
theorem dX4_many_1 : decode cX4_many 1 = .ok (.tableswitch 84 0 5 #[39, 47, 55, 63, 71, 79], 39) := by decide +kernel
theorem dX4_many_40 : decode cX4_many 40 = .ok (.aload_n 0, 1) := by decide +kernel
theorem dX4_many_41 : decode cX4_many 41 = .ok (.getfield 20, 3) := by decide +kernel
theorem dX4_many_44 : decode cX4_many 44 = .ok (.getfield 89, 3) := by decide +kernel
theorem dX4_many_47 : decode cX4_many 47 = .ok (.ireturn, 1) := by decide +kernel
theorem dX4_many_48 : decode cX4_many 48 = .ok (.aload_n 0, 1) := by decide +kernel
theorem dX4_many_49 : decode cX4_many 49 = .ok (.getfield 20, 3) := by decide +kernel
theorem dX4_many_52 : decode cX4_many 52 = .ok (.getfield 92, 3) := by decide +kernel
theorem dX4_many_55 : decode cX4_many 55 = .ok (.ireturn, 1) := by decide +kernel
theorem dX4_many_56 : decode cX4_many 56 = .ok (.aload_n 0, 1) := by decide +kernel
theorem dX4_many_57 : decode cX4_many 57 = .ok (.getfield 20, 3) := by decide +kernel
theorem dX4_many_60 : decode cX4_many 60 = .ok (.getfield 250, 3) := by decide +kernel
theorem dX4_many_63 : decode cX4_many 63 = .ok (.ireturn, 1) := by decide +kernel
theorem dX4_many_64 : decode cX4_many 64 = .ok (.aload_n 0, 1) := by decide +kernel
theorem dX4_many_65 : decode cX4_many 65 = .ok (.getfield 20, 3) := by decide +kernel
theorem dX4_many_68 : decode cX4_many 68 = .ok (.getfield 253, 3) := by decide +kernel
theorem dX4_many_71 : decode cX4_many 71 = .ok (.ireturn, 1) := by decide +kernel
theorem dX4_many_72 : decode cX4_many 72 = .ok (.aload_n 0, 1) := by decide +kernel
theorem dX4_many_73 : decode cX4_many 73 = .ok (.getfield 20, 3) := by decide +kernel
theorem dX4_many_76 : decode cX4_many 76 = .ok (.getfield 256, 3) := by decide +kernel
theorem dX4_many_79 : decode cX4_many 79 = .ok (.ireturn, 1) := by decide +kernel
theorem dX4_many_80 : decode cX4_many 80 = .ok (.aload_n 0, 1) := by decide +kernel
theorem dX4_many_81 : decode cX4_many 81 = .ok (.getfield 82, 3) := by decide +kernel
theorem dX4_many_84 : decode cX4_many 84 = .ok (.ireturn, 1) := by decide +kernel
theorem dX4_many_85 : decode cX4_many 85 = .ok (.bipush (-2), 2) := by decide +kernel
theorem dX4_many_87 : decode cX4_many 87 = .ok (.ireturn, 1) := by decide +kernel
theorem dX4_isSheet_0 : decode cX4_isSheet 0 = .ok (.iload_n 0, 1) := by decide +kernel
theorem dX4_isSheet_1 : decode cX4_isSheet 1 = .ok (.ifCond .lt 12, 3) := by decide +kernel
theorem dX4_isSheet_4 : decode cX4_isSheet 4 = .ok (.iload_n 0, 1) := by decide +kernel
theorem dX4_isSheet_5 : decode cX4_isSheet 5 = .ok (.iconst 4, 1) := by decide +kernel
theorem dX4_isSheet_6 : decode cX4_isSheet 6 = .ok (.if_icmp .ge 7, 3) := by decide +kernel
theorem dX4_isSheet_9 : decode cX4_isSheet 9 = .ok (.iconst 1, 1) := by decide +kernel
theorem dX4_isSheet_10 : decode cX4_isSheet 10 = .ok (.goto 4, 3) := by decide +kernel
theorem dX4_isSheet_13 : decode cX4_isSheet 13 = .ok (.iconst 0, 1) := by decide +kernel
theorem dX4_isSheet_14 : decode cX4_isSheet 14 = .ok (.ireturn, 1) := by decide +kernel
theorem dX4_isLane_0 : decode cX4_isLane 0 = .ok (.iload_n 0, 1) := by decide +kernel
theorem dX4_isLane_1 : decode cX4_isLane 1 = .ok (.ifCond .lt 12, 3) := by decide +kernel
theorem dX4_isLane_4 : decode cX4_isLane 4 = .ok (.iload_n 0, 1) := by decide +kernel
theorem dX4_isLane_5 : decode cX4_isLane 5 = .ok (.iconst 3, 1) := by decide +kernel
theorem dX4_isLane_6 : decode cX4_isLane 6 = .ok (.if_icmp .ge 7, 3) := by decide +kernel
theorem dX4_isLane_9 : decode cX4_isLane 9 = .ok (.iconst 1, 1) := by decide +kernel
theorem dX4_isLane_10 : decode cX4_isLane 10 = .ok (.goto 4, 3) := by decide +kernel
theorem dX4_isLane_13 : decode cX4_isLane 13 = .ok (.iconst 0, 1) := by decide +kernel
theorem dX4_isLane_14 : decode cX4_isLane 14 = .ok (.ireturn, 1) := by decide +kernel
theorem dX4_isSort_0 : decode cX4_isSort 0 = .ok (.iload_n 0, 1) := by decide +kernel
theorem dX4_isSort_1 : decode cX4_isSort 1 = .ok (.ifCond .lt 12, 3) := by decide +kernel
theorem dX4_isSort_4 : decode cX4_isSort 4 = .ok (.iload_n 0, 1) := by decide +kernel
theorem dX4_isSort_5 : decode cX4_isSort 5 = .ok (.iconst 5, 1) := by decide +kernel
theorem dX4_isSort_6 : decode cX4_isSort 6 = .ok (.if_icmp .ge 7, 3) := by decide +kernel
theorem dX4_isSort_9 : decode cX4_isSort 9 = .ok (.iconst 1, 1) := by decide +kernel
theorem dX4_isSort_10 : decode cX4_isSort 10 = .ok (.goto 4, 3) := by decide +kernel
theorem dX4_isSort_13 : decode cX4_isSort 13 = .ok (.iconst 0, 1) := by decide +kernel
theorem dX4_isSort_14 : decode cX4_isSort 14 = .ok (.ireturn, 1) := by decide +kernel
theorem dX4_isLetters_0 : decode cX4_isLetters 0 = .ok (.iload_n 0, 1) := by decide +kernel
theorem dX4_isLetters_1 : decode cX4_isLetters 1 = .ok (.iconst 1, 1) := by decide +kernel
theorem dX4_isLetters_2 : decode cX4_isLetters 2 = .ok (.if_icmp .lt 13, 3) := by decide +kernel
theorem dX4_isLetters_5 : decode cX4_isLetters 5 = .ok (.iload_n 0, 1) := by decide +kernel
theorem dX4_isLetters_6 : decode cX4_isLetters 6 = .ok (.bipush 9, 2) := by decide +kernel
theorem dX4_isLetters_8 : decode cX4_isLetters 8 = .ok (.if_icmp .gt 7, 3) := by decide +kernel
theorem dX4_isLetters_11 : decode cX4_isLetters 11 = .ok (.iconst 1, 1) := by decide +kernel
theorem dX4_isLetters_12 : decode cX4_isLetters 12 = .ok (.goto 4, 3) := by decide +kernel
theorem dX4_isLetters_15 : decode cX4_isLetters 15 = .ok (.iconst 0, 1) := by decide +kernel
theorem dX4_isLetters_16 : decode cX4_isLetters 16 = .ok (.ireturn, 1) := by decide +kernel
theorem dX4_isPrice_0 : decode cX4_isPrice 0 = .ok (.iload_n 1, 1) := by decide +kernel
theorem dX4_isPrice_1 : decode cX4_isPrice 1 = .ok (.ifCond .lt 23, 3) := by decide +kernel
theorem dX4_isPrice_4 : decode cX4_isPrice 4 = .ok (.iload_n 1, 1) := by decide +kernel
theorem dX4_isPrice_5 : decode cX4_isPrice 5 = .ok (.iload_n 0, 1) := by decide +kernel
theorem dX4_isPrice_6 : decode cX4_isPrice 6 = .ok (.iconst 2, 1) := by decide +kernel
theorem dX4_isPrice_7 : decode cX4_isPrice 7 = .ok (.if_icmp .ne 8, 3) := by decide +kernel
theorem dX4_isPrice_10 : decode cX4_isPrice 10 = .ok (.bipush 7, 2) := by decide +kernel
theorem dX4_isPrice_12 : decode cX4_isPrice 12 = .ok (.goto 5, 3) := by decide +kernel
theorem dX4_isPrice_15 : decode cX4_isPrice 15 = .ok (.bipush 9, 2) := by decide +kernel
theorem dX4_isPrice_17 : decode cX4_isPrice 17 = .ok (.if_icmp .gt 7, 3) := by decide +kernel
theorem dX4_isPrice_20 : decode cX4_isPrice 20 = .ok (.iconst 1, 1) := by decide +kernel
theorem dX4_isPrice_21 : decode cX4_isPrice 21 = .ok (.goto 4, 3) := by decide +kernel
theorem dX4_isPrice_24 : decode cX4_isPrice 24 = .ok (.iconst 0, 1) := by decide +kernel
theorem dX4_isPrice_25 : decode cX4_isPrice 25 = .ok (.ireturn, 1) := by decide +kernel
theorem dX4_isAskedOfDay_0 : decode cX4_isAskedOfDay 0 = .ok (.iload_n 0, 1) := by decide +kernel
theorem dX4_isAskedOfDay_1 : decode cX4_isAskedOfDay 1 = .ok (.ifCond .lt 8, 3) := by decide +kernel
theorem dX4_isAskedOfDay_4 : decode cX4_isAskedOfDay 4 = .ok (.iload_n 0, 1) := by decide +kernel
theorem dX4_isAskedOfDay_5 : decode cX4_isAskedOfDay 5 = .ok (.iconst 4, 1) := by decide +kernel
theorem dX4_isAskedOfDay_6 : decode cX4_isAskedOfDay 6 = .ok (.if_icmp .le 15, 3) := by decide +kernel
theorem dX4_isAskedOfDay_9 : decode cX4_isAskedOfDay 9 = .ok (.iload_n 0, 1) := by decide +kernel
theorem dX4_isAskedOfDay_10 : decode cX4_isAskedOfDay 10 = .ok (.bipush 10, 2) := by decide +kernel
theorem dX4_isAskedOfDay_12 : decode cX4_isAskedOfDay 12 = .ok (.if_icmp .lt 13, 3) := by decide +kernel
theorem dX4_isAskedOfDay_15 : decode cX4_isAskedOfDay 15 = .ok (.iload_n 0, 1) := by decide +kernel
theorem dX4_isAskedOfDay_16 : decode cX4_isAskedOfDay 16 = .ok (.bipush 17, 2) := by decide +kernel
theorem dX4_isAskedOfDay_18 : decode cX4_isAskedOfDay 18 = .ok (.if_icmp .ge 7, 3) := by decide +kernel
theorem dX4_isAskedOfDay_21 : decode cX4_isAskedOfDay 21 = .ok (.iconst 1, 1) := by decide +kernel
theorem dX4_isAskedOfDay_22 : decode cX4_isAskedOfDay 22 = .ok (.goto 4, 3) := by decide +kernel
theorem dX4_isAskedOfDay_25 : decode cX4_isAskedOfDay 25 = .ok (.iconst 0, 1) := by decide +kernel
theorem dX4_isAskedOfDay_26 : decode cX4_isAskedOfDay 26 = .ok (.ireturn, 1) := by decide +kernel
theorem dX4_isAct_0 : decode cX4_isAct 0 = .ok (.iload_n 1, 1) := by decide +kernel
theorem dX4_isAct_1 : decode cX4_isAct 1 = .ok (.bipush 20, 2) := by decide +kernel
theorem dX4_isAct_3 : decode cX4_isAct 3 = .ok (.if_icmp .lt 18, 3) := by decide +kernel
theorem dX4_isAct_6 : decode cX4_isAct 6 = .ok (.iload_n 1, 1) := by decide +kernel
theorem dX4_isAct_7 : decode cX4_isAct 7 = .ok (.bipush 22, 2) := by decide +kernel
theorem dX4_isAct_9 : decode cX4_isAct 9 = .ok (.if_icmp .gt 12, 3) := by decide +kernel
theorem dX4_isAct_12 : decode cX4_isAct 12 = .ok (.iload_n 1, 1) := by decide +kernel
theorem dX4_isAct_13 : decode cX4_isAct 13 = .ok (.bipush 20, 2) := by decide +kernel
theorem dX4_isAct_15 : decode cX4_isAct 15 = .ok (.isub, 1) := by decide +kernel
theorem dX4_isAct_16 : decode cX4_isAct 16 = .ok (.iload_n 0, 1) := by decide +kernel
theorem dX4_isAct_17 : decode cX4_isAct 17 = .ok (.invokestatic 136, 3) := by decide +kernel
theorem dX4_isAct_20 : decode cX4_isAct 20 = .ok (.ireturn, 1) := by decide +kernel
theorem dX4_isAct_21 : decode cX4_isAct 21 = .ok (.iload_n 1, 1) := by decide +kernel
theorem dX4_isAct_22 : decode cX4_isAct 22 = .ok (.ifCond .lt 13, 3) := by decide +kernel
theorem dX4_isAct_25 : decode cX4_isAct 25 = .ok (.iload_n 1, 1) := by decide +kernel
theorem dX4_isAct_26 : decode cX4_isAct 26 = .ok (.bipush 7, 2) := by decide +kernel
theorem dX4_isAct_28 : decode cX4_isAct 28 = .ok (.if_icmp .ge 7, 3) := by decide +kernel
theorem dX4_isAct_31 : decode cX4_isAct 31 = .ok (.iconst 1, 1) := by decide +kernel
theorem dX4_isAct_32 : decode cX4_isAct 32 = .ok (.goto 4, 3) := by decide +kernel
theorem dX4_isAct_35 : decode cX4_isAct 35 = .ok (.iconst 0, 1) := by decide +kernel
theorem dX4_isAct_36 : decode cX4_isAct 36 = .ok (.istore_n 2, 1) := by decide +kernel
theorem dX4_isAct_37 : decode cX4_isAct 37 = .ok (.iload_n 1, 1) := by decide +kernel
theorem dX4_isAct_38 : decode cX4_isAct 38 = .ok (.bipush 10, 2) := by decide +kernel
theorem dX4_isAct_40 : decode cX4_isAct 40 = .ok (.if_icmp .lt 13, 3) := by decide +kernel
theorem dX4_isAct_43 : decode cX4_isAct 43 = .ok (.iload_n 1, 1) := by decide +kernel
theorem dX4_isAct_44 : decode cX4_isAct 44 = .ok (.bipush 17, 2) := by decide +kernel
theorem dX4_isAct_46 : decode cX4_isAct 46 = .ok (.if_icmp .ge 7, 3) := by decide +kernel
theorem dX4_isAct_49 : decode cX4_isAct 49 = .ok (.iconst 1, 1) := by decide +kernel
theorem dX4_isAct_50 : decode cX4_isAct 50 = .ok (.goto 4, 3) := by decide +kernel
theorem dX4_isAct_53 : decode cX4_isAct 53 = .ok (.iconst 0, 1) := by decide +kernel
theorem dX4_isAct_54 : decode cX4_isAct 54 = .ok (.istore_n 3, 1) := by decide +kernel
theorem dX4_isAct_55 : decode cX4_isAct 55 = .ok (.iload_n 2, 1) := by decide +kernel
theorem dX4_isAct_56 : decode cX4_isAct 56 = .ok (.ifCond .ne 7, 3) := by decide +kernel
theorem dX4_isAct_59 : decode cX4_isAct 59 = .ok (.iload_n 3, 1) := by decide +kernel
theorem dX4_isAct_60 : decode cX4_isAct 60 = .ok (.ifCond .eq 14, 3) := by decide +kernel
theorem dX4_isAct_63 : decode cX4_isAct 63 = .ok (.iload_n 0, 1) := by decide +kernel
theorem dX4_isAct_64 : decode cX4_isAct 64 = .ok (.invokestatic 129, 3) := by decide +kernel
theorem dX4_isAct_67 : decode cX4_isAct 67 = .ok (.ifCond .eq 7, 3) := by decide +kernel
theorem dX4_isAct_70 : decode cX4_isAct 70 = .ok (.iconst 1, 1) := by decide +kernel
theorem dX4_isAct_71 : decode cX4_isAct 71 = .ok (.goto 4, 3) := by decide +kernel
theorem dX4_isAct_74 : decode cX4_isAct 74 = .ok (.iconst 0, 1) := by decide +kernel
theorem dX4_isAct_75 : decode cX4_isAct 75 = .ok (.ireturn, 1) := by decide +kernel
theorem dX4_areActs_0 : decode cX4_areActs 0 = .ok (.iconst 0, 1) := by decide +kernel
theorem dX4_areActs_1 : decode cX4_areActs 1 = .ok (.istore_n 3, 1) := by decide +kernel
theorem dX4_areActs_2 : decode cX4_areActs 2 = .ok (.iload_n 3, 1) := by decide +kernel
theorem dX4_areActs_3 : decode cX4_areActs 3 = .ok (.iload_n 2, 1) := by decide +kernel
theorem dX4_areActs_4 : decode cX4_areActs 4 = .ok (.if_icmp .ge 39, 3) := by decide +kernel
theorem dX4_areActs_7 : decode cX4_areActs 7 = .ok (.aload_n 0, 1) := by decide +kernel
theorem dX4_areActs_8 : decode cX4_areActs 8 = .ok (.getfield 217, 3) := by decide +kernel
theorem dX4_areActs_11 : decode cX4_areActs 11 = .ok (.iload_n 1, 1) := by decide +kernel
theorem dX4_areActs_12 : decode cX4_areActs 12 = .ok (.iconst 2, 1) := by decide +kernel
theorem dX4_areActs_13 : decode cX4_areActs 13 = .ok (.iload_n 3, 1) := by decide +kernel
theorem dX4_areActs_14 : decode cX4_areActs 14 = .ok (.imul, 1) := by decide +kernel
theorem dX4_areActs_15 : decode cX4_areActs 15 = .ok (.iadd, 1) := by decide +kernel
theorem dX4_areActs_16 : decode cX4_areActs 16 = .ok (.iaload, 1) := by decide +kernel
theorem dX4_areActs_17 : decode cX4_areActs 17 = .ok (.aload_n 0, 1) := by decide +kernel
theorem dX4_areActs_18 : decode cX4_areActs 18 = .ok (.getfield 217, 3) := by decide +kernel
theorem dX4_areActs_21 : decode cX4_areActs 21 = .ok (.iload_n 1, 1) := by decide +kernel
theorem dX4_areActs_22 : decode cX4_areActs 22 = .ok (.iconst 2, 1) := by decide +kernel
theorem dX4_areActs_23 : decode cX4_areActs 23 = .ok (.iload_n 3, 1) := by decide +kernel
theorem dX4_areActs_24 : decode cX4_areActs 24 = .ok (.imul, 1) := by decide +kernel
theorem dX4_areActs_25 : decode cX4_areActs 25 = .ok (.iadd, 1) := by decide +kernel
theorem dX4_areActs_26 : decode cX4_areActs 26 = .ok (.iconst 1, 1) := by decide +kernel
theorem dX4_areActs_27 : decode cX4_areActs 27 = .ok (.iadd, 1) := by decide +kernel
theorem dX4_areActs_28 : decode cX4_areActs 28 = .ok (.iaload, 1) := by decide +kernel
theorem dX4_areActs_29 : decode cX4_areActs 29 = .ok (.invokestatic 259, 3) := by decide +kernel
theorem dX4_areActs_32 : decode cX4_areActs 32 = .ok (.ifCond .ne 5, 3) := by decide +kernel
theorem dX4_areActs_35 : decode cX4_areActs 35 = .ok (.iconst 0, 1) := by decide +kernel
theorem dX4_areActs_36 : decode cX4_areActs 36 = .ok (.ireturn, 1) := by decide +kernel
theorem dX4_areActs_37 : decode cX4_areActs 37 = .ok (.iinc 3 1, 3) := by decide +kernel
theorem dX4_areActs_40 : decode cX4_areActs 40 = .ok (.goto (-38), 3) := by decide +kernel
theorem dX4_areActs_43 : decode cX4_areActs 43 = .ok (.iconst 1, 1) := by decide +kernel
theorem dX4_areActs_44 : decode cX4_areActs 44 = .ok (.ireturn, 1) := by decide +kernel
theorem dX4_failed_0 : decode cX4_failed 0 = .ok (.aload_n 0, 1) := by decide +kernel
theorem dX4_failed_1 : decode cX4_failed 1 = .ok (.iload_n 1, 1) := by decide +kernel
theorem dX4_failed_2 : decode cX4_failed 2 = .ok (.putfield 52, 3) := by decide +kernel
theorem dX4_failed_5 : decode cX4_failed 5 = .ok (.bipush (-10), 2) := by decide +kernel
theorem dX4_failed_7 : decode cX4_failed 7 = .ok (.iload_n 1, 1) := by decide +kernel
theorem dX4_failed_8 : decode cX4_failed 8 = .ok (.isub, 1) := by decide +kernel
theorem dX4_failed_9 : decode cX4_failed 9 = .ok (.ireturn, 1) := by decide +kernel
theorem dX4_alignmentOfNow_0 : decode cX4_alignmentOfNow 0 = .ok (.aload_n 0, 1) := by decide +kernel
theorem dX4_alignmentOfNow_1 : decode cX4_alignmentOfNow 1 = .ok (.getfield 85, 3) := by decide +kernel
theorem dX4_alignmentOfNow_4 : decode cX4_alignmentOfNow 4 = .ok (.ifCond .ne 19, 3) := by decide +kernel
theorem dX4_alignmentOfNow_7 : decode cX4_alignmentOfNow 7 = .ok (.aload_n 0, 1) := by decide +kernel
theorem dX4_alignmentOfNow_8 : decode cX4_alignmentOfNow 8 = .ok (.getfield 30, 3) := by decide +kernel
theorem dX4_alignmentOfNow_11 : decode cX4_alignmentOfNow 11 = .ok (.aload_n 0, 1) := by decide +kernel
theorem dX4_alignmentOfNow_12 : decode cX4_alignmentOfNow 12 = .ok (.getfield 20, 3) := by decide +kernel
theorem dX4_alignmentOfNow_15 : decode cX4_alignmentOfNow 15 = .ok (.invokevirtual 262, 3) := by decide +kernel
theorem dX4_alignmentOfNow_18 : decode cX4_alignmentOfNow 18 = .ok (.aload_n 0, 1) := by decide +kernel
theorem dX4_alignmentOfNow_19 : decode cX4_alignmentOfNow 19 = .ok (.iconst 1, 1) := by decide +kernel
theorem dX4_alignmentOfNow_20 : decode cX4_alignmentOfNow 20 = .ok (.putfield 85, 3) := by decide +kernel
theorem dX4_alignmentOfNow_23 : decode cX4_alignmentOfNow 23 = .ok (.aload_n 0, 1) := by decide +kernel
theorem dX4_alignmentOfNow_24 : decode cX4_alignmentOfNow 24 = .ok (.getfield 30, 3) := by decide +kernel
theorem dX4_alignmentOfNow_27 : decode cX4_alignmentOfNow 27 = .ok (.areturn, 1) := by decide +kernel
theorem dX4_supposeDay_0 : decode cX4_supposeDay 0 = .ok (.aload_n 0, 1) := by decide +kernel
theorem dX4_supposeDay_1 : decode cX4_supposeDay 1 = .ok (.getfield 24, 3) := by decide +kernel
theorem dX4_supposeDay_4 : decode cX4_supposeDay 4 = .ok (.aload_n 0, 1) := by decide +kernel
theorem dX4_supposeDay_5 : decode cX4_supposeDay 5 = .ok (.getfield 20, 3) := by decide +kernel
theorem dX4_supposeDay_8 : decode cX4_supposeDay 8 = .ok (.invokevirtual 78, 3) := by decide +kernel
theorem dX4_supposeDay_11 : decode cX4_supposeDay 11 = .ok (.iconst 0, 1) := by decide +kernel
theorem dX4_supposeDay_12 : decode cX4_supposeDay 12 = .ok (.istore 4, 2) := by decide +kernel
theorem dX4_supposeDay_14 : decode cX4_supposeDay 14 = .ok (.iload 4, 2) := by decide +kernel
theorem dX4_supposeDay_16 : decode cX4_supposeDay 16 = .ok (.iload_n 3, 1) := by decide +kernel
theorem dX4_supposeDay_17 : decode cX4_supposeDay 17 = .ok (.if_icmp .ge 46, 3) := by decide +kernel
theorem dX4_supposeDay_20 : decode cX4_supposeDay 20 = .ok (.aload_n 0, 1) := by decide +kernel
theorem dX4_supposeDay_21 : decode cX4_supposeDay 21 = .ok (.getfield 24, 3) := by decide +kernel
theorem dX4_supposeDay_24 : decode cX4_supposeDay 24 = .ok (.aload_n 1, 1) := by decide +kernel
theorem dX4_supposeDay_25 : decode cX4_supposeDay 25 = .ok (.getfield 217, 3) := by decide +kernel
theorem dX4_supposeDay_28 : decode cX4_supposeDay 28 = .ok (.iload_n 2, 1) := by decide +kernel
theorem dX4_supposeDay_29 : decode cX4_supposeDay 29 = .ok (.iconst 2, 1) := by decide +kernel
theorem dX4_supposeDay_30 : decode cX4_supposeDay 30 = .ok (.iload 4, 2) := by decide +kernel
theorem dX4_supposeDay_32 : decode cX4_supposeDay 32 = .ok (.imul, 1) := by decide +kernel
theorem dX4_supposeDay_33 : decode cX4_supposeDay 33 = .ok (.iadd, 1) := by decide +kernel
theorem dX4_supposeDay_34 : decode cX4_supposeDay 34 = .ok (.iaload, 1) := by decide +kernel
theorem dX4_supposeDay_35 : decode cX4_supposeDay 35 = .ok (.aload_n 1, 1) := by decide +kernel
theorem dX4_supposeDay_36 : decode cX4_supposeDay 36 = .ok (.getfield 217, 3) := by decide +kernel
theorem dX4_supposeDay_39 : decode cX4_supposeDay 39 = .ok (.iload_n 2, 1) := by decide +kernel
theorem dX4_supposeDay_40 : decode cX4_supposeDay 40 = .ok (.iconst 2, 1) := by decide +kernel
theorem dX4_supposeDay_41 : decode cX4_supposeDay 41 = .ok (.iload 4, 2) := by decide +kernel
theorem dX4_supposeDay_43 : decode cX4_supposeDay 43 = .ok (.imul, 1) := by decide +kernel
theorem dX4_supposeDay_44 : decode cX4_supposeDay 44 = .ok (.iadd, 1) := by decide +kernel
theorem dX4_supposeDay_45 : decode cX4_supposeDay 45 = .ok (.iconst 1, 1) := by decide +kernel
theorem dX4_supposeDay_46 : decode cX4_supposeDay 46 = .ok (.iadd, 1) := by decide +kernel
theorem dX4_supposeDay_47 : decode cX4_supposeDay 47 = .ok (.iaload, 1) := by decide +kernel
theorem dX4_supposeDay_48 : decode cX4_supposeDay 48 = .ok (.invokevirtual 265, 3) := by decide +kernel
theorem dX4_supposeDay_51 : decode cX4_supposeDay 51 = .ok (.ifCond .ne 6, 3) := by decide +kernel
theorem dX4_supposeDay_54 : decode cX4_supposeDay 54 = .ok (.iload 4, 2) := by decide +kernel
theorem dX4_supposeDay_56 : decode cX4_supposeDay 56 = .ok (.ireturn, 1) := by decide +kernel
theorem dX4_supposeDay_57 : decode cX4_supposeDay 57 = .ok (.iinc 4 1, 3) := by decide +kernel
theorem dX4_supposeDay_60 : decode cX4_supposeDay 60 = .ok (.goto (-46), 3) := by decide +kernel
theorem dX4_supposeDay_63 : decode cX4_supposeDay 63 = .ok (.bipush (-9), 2) := by decide +kernel
theorem dX4_supposeDay_65 : decode cX4_supposeDay 65 = .ok (.ireturn, 1) := by decide +kernel
theorem dX4_answerOfDay_0 : decode cX4_answerOfDay 0 = .ok (.iload_n 2, 1) := by decide +kernel
theorem dX4_answerOfDay_1 : decode cX4_answerOfDay 1 = .ok (.iconst 1, 1) := by decide +kernel
theorem dX4_answerOfDay_2 : decode cX4_answerOfDay 2 = .ok (.if_icmp .ne 5, 3) := by decide +kernel
theorem dX4_answerOfDay_5 : decode cX4_answerOfDay 5 = .ok (.iload_n 1, 1) := by decide +kernel
theorem dX4_answerOfDay_6 : decode cX4_answerOfDay 6 = .ok (.ireturn, 1) := by decide +kernel
theorem dX4_answerOfDay_7 : decode cX4_answerOfDay 7 = .ok (.iload_n 1, 1) := by decide +kernel
theorem dX4_answerOfDay_8 : decode cX4_answerOfDay 8 = .ok (.bipush (-9), 2) := by decide +kernel
theorem dX4_answerOfDay_10 : decode cX4_answerOfDay 10 = .ok (.if_icmp .eq 8, 3) := by decide +kernel
theorem dX4_answerOfDay_13 : decode cX4_answerOfDay 13 = .ok (.bipush (-100), 2) := by decide +kernel
theorem dX4_answerOfDay_15 : decode cX4_answerOfDay 15 = .ok (.iload_n 1, 1) := by decide +kernel
theorem dX4_answerOfDay_16 : decode cX4_answerOfDay 16 = .ok (.isub, 1) := by decide +kernel
theorem dX4_answerOfDay_17 : decode cX4_answerOfDay 17 = .ok (.ireturn, 1) := by decide +kernel
theorem dX4_answerOfDay_18 : decode cX4_answerOfDay 18 = .ok (.iload_n 2, 1) := by decide +kernel
theorem dX4_answerOfDay_19 : decode cX4_answerOfDay 19 = .ok (.bipush 10, 2) := by decide +kernel
theorem dX4_answerOfDay_21 : decode cX4_answerOfDay 21 = .ok (.if_icmp .lt 20, 3) := by decide +kernel
theorem dX4_answerOfDay_24 : decode cX4_answerOfDay 24 = .ok (.aload_n 0, 1) := by decide +kernel
theorem dX4_answerOfDay_25 : decode cX4_answerOfDay 25 = .ok (.getfield 24, 3) := by decide +kernel
theorem dX4_answerOfDay_28 : decode cX4_answerOfDay 28 = .ok (.iload_n 2, 1) := by decide +kernel
theorem dX4_answerOfDay_29 : decode cX4_answerOfDay 29 = .ok (.bipush 10, 2) := by decide +kernel
theorem dX4_answerOfDay_31 : decode cX4_answerOfDay 31 = .ok (.isub, 1) := by decide +kernel
theorem dX4_answerOfDay_32 : decode cX4_answerOfDay 32 = .ok (.invokevirtual 95, 3) := by decide +kernel
theorem dX4_answerOfDay_35 : decode cX4_answerOfDay 35 = .ok (.ifCond .ne 6, 3) := by decide +kernel
theorem dX4_answerOfDay_38 : decode cX4_answerOfDay 38 = .ok (.bipush (-9), 2) := by decide +kernel
theorem dX4_answerOfDay_40 : decode cX4_answerOfDay 40 = .ok (.ireturn, 1) := by decide +kernel
theorem dX4_answerOfDay_41 : decode cX4_answerOfDay 41 = .ok (.aload_n 0, 1) := by decide +kernel
theorem dX4_answerOfDay_42 : decode cX4_answerOfDay 42 = .ok (.getfield 34, 3) := by decide +kernel
theorem dX4_answerOfDay_45 : decode cX4_answerOfDay 45 = .ok (.aload_n 0, 1) := by decide +kernel
theorem dX4_answerOfDay_46 : decode cX4_answerOfDay 46 = .ok (.getfield 24, 3) := by decide +kernel
theorem dX4_answerOfDay_49 : decode cX4_answerOfDay 49 = .ok (.invokevirtual 262, 3) := by decide +kernel
theorem dX4_answerOfDay_52 : decode cX4_answerOfDay 52 = .ok (.iload_n 2, 1) := by decide +kernel
theorem dX4_answerOfDay_53 : decode cX4_answerOfDay 53 = .ok (.bipush 10, 2) := by decide +kernel
theorem dX4_answerOfDay_55 : decode cX4_answerOfDay 55 = .ok (.if_icmp .lt 15, 3) := by decide +kernel
theorem dX4_answerOfDay_58 : decode cX4_answerOfDay 58 = .ok (.aload_n 0, 1) := by decide +kernel
theorem dX4_answerOfDay_59 : decode cX4_answerOfDay 59 = .ok (.getfield 34, 3) := by decide +kernel
theorem dX4_answerOfDay_62 : decode cX4_answerOfDay 62 = .ok (.iload_n 2, 1) := by decide +kernel
theorem dX4_answerOfDay_63 : decode cX4_answerOfDay 63 = .ok (.bipush 10, 2) := by decide +kernel
theorem dX4_answerOfDay_65 : decode cX4_answerOfDay 65 = .ok (.isub, 1) := by decide +kernel
theorem dX4_answerOfDay_66 : decode cX4_answerOfDay 66 = .ok (.invokevirtual 114, 3) := by decide +kernel
theorem dX4_answerOfDay_69 : decode cX4_answerOfDay 69 = .ok (.ireturn, 1) := by decide +kernel
theorem dX4_answerOfDay_70 : decode cX4_answerOfDay 70 = .ok (.aload_n 0, 1) := by decide +kernel
theorem dX4_answerOfDay_71 : decode cX4_answerOfDay 71 = .ok (.getfield 34, 3) := by decide +kernel
theorem dX4_answerOfDay_74 : decode cX4_answerOfDay 74 = .ok (.iload_n 2, 1) := by decide +kernel
theorem dX4_answerOfDay_75 : decode cX4_answerOfDay 75 = .ok (.ifCond .ne 7, 3) := by decide +kernel
theorem dX4_answerOfDay_78 : decode cX4_answerOfDay 78 = .ok (.iconst 0, 1) := by decide +kernel
theorem dX4_answerOfDay_79 : decode cX4_answerOfDay 79 = .ok (.goto 6, 3) := by decide +kernel
theorem dX4_answerOfDay_82 : decode cX4_answerOfDay 82 = .ok (.iload_n 2, 1) := by decide +kernel
theorem dX4_answerOfDay_83 : decode cX4_answerOfDay 83 = .ok (.iconst 1, 1) := by decide +kernel
theorem dX4_answerOfDay_84 : decode cX4_answerOfDay 84 = .ok (.isub, 1) := by decide +kernel
theorem dX4_answerOfDay_85 : decode cX4_answerOfDay 85 = .ok (.invokevirtual 150, 3) := by decide +kernel
theorem dX4_answerOfDay_88 : decode cX4_answerOfDay 88 = .ok (.ireturn, 1) := by decide +kernel
theorem dX4_readingsHoldIfSupposed_0 : decode cX4_readingsHoldIfSupposed 0 = .ok (.aload_n 0, 1) := by decide +kernel
theorem dX4_readingsHoldIfSupposed_1 : decode cX4_readingsHoldIfSupposed 1 = .ok (.getfield 34, 3) := by decide +kernel
theorem dX4_readingsHoldIfSupposed_4 : decode cX4_readingsHoldIfSupposed 4 = .ok (.aload_n 0, 1) := by decide +kernel
theorem dX4_readingsHoldIfSupposed_5 : decode cX4_readingsHoldIfSupposed 5 = .ok (.getfield 24, 3) := by decide +kernel
theorem dX4_readingsHoldIfSupposed_8 : decode cX4_readingsHoldIfSupposed 8 = .ok (.invokevirtual 194, 3) := by decide +kernel
theorem dX4_readingsHoldIfSupposed_11 : decode cX4_readingsHoldIfSupposed 11 = .ok (.iconst 0, 1) := by decide +kernel
theorem dX4_readingsHoldIfSupposed_12 : decode cX4_readingsHoldIfSupposed 12 = .ok (.istore_n 1, 1) := by decide +kernel
theorem dX4_readingsHoldIfSupposed_13 : decode cX4_readingsHoldIfSupposed 13 = .ok (.iload_n 1, 1) := by decide +kernel
theorem dX4_readingsHoldIfSupposed_14 : decode cX4_readingsHoldIfSupposed 14 = .ok (.aload_n 0, 1) := by decide +kernel
theorem dX4_readingsHoldIfSupposed_15 : decode cX4_readingsHoldIfSupposed 15 = .ok (.getfield 82, 3) := by decide +kernel
theorem dX4_readingsHoldIfSupposed_18 : decode cX4_readingsHoldIfSupposed 18 = .ok (.if_icmp .ge 33, 3) := by decide +kernel
theorem dX4_readingsHoldIfSupposed_21 : decode cX4_readingsHoldIfSupposed 21 = .ok (.aload_n 0, 1) := by decide +kernel
theorem dX4_readingsHoldIfSupposed_22 : decode cX4_readingsHoldIfSupposed 22 = .ok (.getfield 34, 3) := by decide +kernel
theorem dX4_readingsHoldIfSupposed_25 : decode cX4_readingsHoldIfSupposed 25 = .ok (.aload_n 0, 1) := by decide +kernel
theorem dX4_readingsHoldIfSupposed_26 : decode cX4_readingsHoldIfSupposed 26 = .ok (.getfield 44, 3) := by decide +kernel
theorem dX4_readingsHoldIfSupposed_29 : decode cX4_readingsHoldIfSupposed 29 = .ok (.iload_n 1, 1) := by decide +kernel
theorem dX4_readingsHoldIfSupposed_30 : decode cX4_readingsHoldIfSupposed 30 = .ok (.iaload, 1) := by decide +kernel
theorem dX4_readingsHoldIfSupposed_31 : decode cX4_readingsHoldIfSupposed 31 = .ok (.invokevirtual 197, 3) := by decide +kernel
theorem dX4_readingsHoldIfSupposed_34 : decode cX4_readingsHoldIfSupposed 34 = .ok (.aload_n 0, 1) := by decide +kernel
theorem dX4_readingsHoldIfSupposed_35 : decode cX4_readingsHoldIfSupposed 35 = .ok (.getfield 48, 3) := by decide +kernel
theorem dX4_readingsHoldIfSupposed_38 : decode cX4_readingsHoldIfSupposed 38 = .ok (.iload_n 1, 1) := by decide +kernel
theorem dX4_readingsHoldIfSupposed_39 : decode cX4_readingsHoldIfSupposed 39 = .ok (.iaload, 1) := by decide +kernel
theorem dX4_readingsHoldIfSupposed_40 : decode cX4_readingsHoldIfSupposed 40 = .ok (.if_icmp .eq 5, 3) := by decide +kernel
theorem dX4_readingsHoldIfSupposed_43 : decode cX4_readingsHoldIfSupposed 43 = .ok (.iconst 0, 1) := by decide +kernel
theorem dX4_readingsHoldIfSupposed_44 : decode cX4_readingsHoldIfSupposed 44 = .ok (.ireturn, 1) := by decide +kernel
theorem dX4_readingsHoldIfSupposed_45 : decode cX4_readingsHoldIfSupposed 45 = .ok (.iinc 1 1, 3) := by decide +kernel
theorem dX4_readingsHoldIfSupposed_48 : decode cX4_readingsHoldIfSupposed 48 = .ok (.goto (-35), 3) := by decide +kernel
theorem dX4_readingsHoldIfSupposed_51 : decode cX4_readingsHoldIfSupposed 51 = .ok (.iconst 1, 1) := by decide +kernel
theorem dX4_readingsHoldIfSupposed_52 : decode cX4_readingsHoldIfSupposed 52 = .ok (.ireturn, 1) := by decide +kernel
theorem dX4_commonDivisor_0 : decode cX4_commonDivisor 0 = .ok (.iload_n 1, 1) := by decide +kernel
theorem dX4_commonDivisor_1 : decode cX4_commonDivisor 1 = .ok (.istore_n 2, 1) := by decide +kernel
theorem dX4_commonDivisor_2 : decode cX4_commonDivisor 2 = .ok (.iload_n 2, 1) := by decide +kernel
theorem dX4_commonDivisor_3 : decode cX4_commonDivisor 3 = .ok (.iconst 1, 1) := by decide +kernel
theorem dX4_commonDivisor_4 : decode cX4_commonDivisor 4 = .ok (.if_icmp .le 21, 3) := by decide +kernel
theorem dX4_commonDivisor_7 : decode cX4_commonDivisor 7 = .ok (.iload_n 0, 1) := by decide +kernel
theorem dX4_commonDivisor_8 : decode cX4_commonDivisor 8 = .ok (.iload_n 2, 1) := by decide +kernel
theorem dX4_commonDivisor_9 : decode cX4_commonDivisor 9 = .ok (.irem, 1) := by decide +kernel
theorem dX4_commonDivisor_10 : decode cX4_commonDivisor 10 = .ok (.ifCond .ne 9, 3) := by decide +kernel
theorem dX4_commonDivisor_13 : decode cX4_commonDivisor 13 = .ok (.iload_n 1, 1) := by decide +kernel
theorem dX4_commonDivisor_14 : decode cX4_commonDivisor 14 = .ok (.iload_n 2, 1) := by decide +kernel
theorem dX4_commonDivisor_15 : decode cX4_commonDivisor 15 = .ok (.irem, 1) := by decide +kernel
theorem dX4_commonDivisor_16 : decode cX4_commonDivisor 16 = .ok (.ifCond .eq 9, 3) := by decide +kernel
theorem dX4_commonDivisor_19 : decode cX4_commonDivisor 19 = .ok (.iinc 2 (-1), 3) := by decide +kernel
theorem dX4_commonDivisor_22 : decode cX4_commonDivisor 22 = .ok (.goto (-20), 3) := by decide +kernel
theorem dX4_commonDivisor_25 : decode cX4_commonDivisor 25 = .ok (.iload_n 2, 1) := by decide +kernel
theorem dX4_commonDivisor_26 : decode cX4_commonDivisor 26 = .ok (.ireturn, 1) := by decide +kernel
theorem dX4_leaveTrace_0 : decode cX4_leaveTrace 0 = .ok (.aload_n 0, 1) := by decide +kernel
theorem dX4_leaveTrace_1 : decode cX4_leaveTrace 1 = .ok (.bipush 31, 2) := by decide +kernel
theorem dX4_leaveTrace_3 : decode cX4_leaveTrace 3 = .ok (.aload_n 0, 1) := by decide +kernel
theorem dX4_leaveTrace_4 : decode cX4_leaveTrace 4 = .ok (.getfield 247, 3) := by decide +kernel
theorem dX4_leaveTrace_7 : decode cX4_leaveTrace 7 = .ok (.imul, 1) := by decide +kernel
theorem dX4_leaveTrace_8 : decode cX4_leaveTrace 8 = .ok (.iload_n 1, 1) := by decide +kernel
theorem dX4_leaveTrace_9 : decode cX4_leaveTrace 9 = .ok (.iadd, 1) := by decide +kernel
theorem dX4_leaveTrace_10 : decode cX4_leaveTrace 10 = .ok (.putfield 247, 3) := by decide +kernel
theorem dX4_leaveTrace_13 : decode cX4_leaveTrace 13 = .ok (.return_, 1) := by decide +kernel
theorem dX4_plainBody_0 : decode cX4_plainBody 0 = .ok (.aload_n 0, 1) := by decide +kernel
theorem dX4_plainBody_1 : decode cX4_plainBody 1 = .ok (.iconst 1, 1) := by decide +kernel
theorem dX4_plainBody_2 : decode cX4_plainBody 2 = .ok (.invokevirtual 268, 3) := by decide +kernel
theorem dX4_plainBody_5 : decode cX4_plainBody 5 = .ok (.aload_n 0, 1) := by decide +kernel
theorem dX4_plainBody_6 : decode cX4_plainBody 6 = .ok (.getfield 20, 3) := by decide +kernel
theorem dX4_plainBody_9 : decode cX4_plainBody 9 = .ok (.getfield 101, 3) := by decide +kernel
theorem dX4_plainBody_12 : decode cX4_plainBody 12 = .ok (.iload_n 1, 1) := by decide +kernel
theorem dX4_plainBody_13 : decode cX4_plainBody 13 = .ok (.iaload, 1) := by decide +kernel
theorem dX4_plainBody_14 : decode cX4_plainBody 14 = .ok (.ireturn, 1) := by decide +kernel
theorem dX4_longBody_0 : decode cX4_longBody 0 = .ok (.aload_n 0, 1) := by decide +kernel
theorem dX4_longBody_1 : decode cX4_longBody 1 = .ok (.iconst 2, 1) := by decide +kernel
theorem dX4_longBody_2 : decode cX4_longBody 2 = .ok (.invokevirtual 268, 3) := by decide +kernel
theorem dX4_longBody_5 : decode cX4_longBody 5 = .ok (.aload_n 0, 1) := by decide +kernel
theorem dX4_longBody_6 : decode cX4_longBody 6 = .ok (.iload_n 1, 1) := by decide +kernel
theorem dX4_longBody_7 : decode cX4_longBody 7 = .ok (.invokevirtual 238, 3) := by decide +kernel
theorem dX4_longBody_10 : decode cX4_longBody 10 = .ok (.bipush 100, 2) := by decide +kernel
theorem dX4_longBody_12 : decode cX4_longBody 12 = .ok (.iadd, 1) := by decide +kernel
theorem dX4_longBody_13 : decode cX4_longBody 13 = .ok (.ireturn, 1) := by decide +kernel
theorem dX4_doubleBody_0 : decode cX4_doubleBody 0 = .ok (.aload_n 0, 1) := by decide +kernel
theorem dX4_doubleBody_1 : decode cX4_doubleBody 1 = .ok (.iconst 3, 1) := by decide +kernel
theorem dX4_doubleBody_2 : decode cX4_doubleBody 2 = .ok (.invokevirtual 268, 3) := by decide +kernel
theorem dX4_doubleBody_5 : decode cX4_doubleBody 5 = .ok (.aload_n 0, 1) := by decide +kernel
theorem dX4_doubleBody_6 : decode cX4_doubleBody 6 = .ok (.iload_n 1, 1) := by decide +kernel
theorem dX4_doubleBody_7 : decode cX4_doubleBody 7 = .ok (.invokevirtual 235, 3) := by decide +kernel
theorem dX4_doubleBody_10 : decode cX4_doubleBody 10 = .ok (.istore_n 2, 1) := by decide +kernel
theorem dX4_doubleBody_11 : decode cX4_doubleBody 11 = .ok (.iload_n 2, 1) := by decide +kernel
theorem dX4_doubleBody_12 : decode cX4_doubleBody 12 = .ok (.aload_n 0, 1) := by decide +kernel
theorem dX4_doubleBody_13 : decode cX4_doubleBody 13 = .ok (.iload_n 1, 1) := by decide +kernel
theorem dX4_doubleBody_14 : decode cX4_doubleBody 14 = .ok (.invokevirtual 238, 3) := by decide +kernel
theorem dX4_doubleBody_17 : decode cX4_doubleBody 17 = .ok (.iadd, 1) := by decide +kernel
theorem dX4_doubleBody_18 : decode cX4_doubleBody 18 = .ok (.ireturn, 1) := by decide +kernel
theorem dX4_lentBody_0 : decode cX4_lentBody 0 = .ok (.aload_n 0, 1) := by decide +kernel
theorem dX4_lentBody_1 : decode cX4_lentBody 1 = .ok (.iconst 4, 1) := by decide +kernel
theorem dX4_lentBody_2 : decode cX4_lentBody 2 = .ok (.invokevirtual 268, 3) := by decide +kernel
theorem dX4_lentBody_5 : decode cX4_lentBody 5 = .ok (.aload_n 0, 1) := by decide +kernel
theorem dX4_lentBody_6 : decode cX4_lentBody 6 = .ok (.getfield 20, 3) := by decide +kernel
theorem dX4_lentBody_9 : decode cX4_lentBody 9 = .ok (.getfield 107, 3) := by decide +kernel
theorem dX4_lentBody_12 : decode cX4_lentBody 12 = .ok (.iload_n 1, 1) := by decide +kernel
theorem dX4_lentBody_13 : decode cX4_lentBody 13 = .ok (.iaload, 1) := by decide +kernel
theorem dX4_lentBody_14 : decode cX4_lentBody 14 = .ok (.ireturn, 1) := by decide +kernel
theorem dX4_doublesOwnBody_0 : decode cX4_doublesOwnBody 0 = .ok (.aload_n 0, 1) := by decide +kernel
theorem dX4_doublesOwnBody_1 : decode cX4_doublesOwnBody 1 = .ok (.iconst 5, 1) := by decide +kernel
theorem dX4_doublesOwnBody_2 : decode cX4_doublesOwnBody 2 = .ok (.invokevirtual 268, 3) := by decide +kernel
theorem dX4_doublesOwnBody_5 : decode cX4_doublesOwnBody 5 = .ok (.aload_n 0, 1) := by decide +kernel
theorem dX4_doublesOwnBody_6 : decode cX4_doublesOwnBody 6 = .ok (.iload_n 1, 1) := by decide +kernel
theorem dX4_doublesOwnBody_7 : decode cX4_doublesOwnBody 7 = .ok (.invokevirtual 244, 3) := by decide +kernel
theorem dX4_doublesOwnBody_10 : decode cX4_doublesOwnBody 10 = .ok (.bipush 80, 2) := by decide +kernel
theorem dX4_doublesOwnBody_12 : decode cX4_doublesOwnBody 12 = .ok (.iadd, 1) := by decide +kernel
theorem dX4_doublesOwnBody_13 : decode cX4_doublesOwnBody 13 = .ok (.ireturn, 1) := by decide +kernel
theorem dX5_init_0 : decode cX5_init 0 = .ok (.aload_n 0, 1) := by decide +kernel
theorem dX5_init_1 : decode cX5_init 1 = .ok (.invokespecial 1, 3) := by decide +kernel
theorem dX5_init_4 : decode cX5_init 4 = .ok (.aload_n 0, 1) := by decide +kernel
theorem dX5_init_5 : decode cX5_init 5 = .ok (.iconst 4, 1) := by decide +kernel
theorem dX5_init_6 : decode cX5_init 6 = .ok (.newarray .int, 2) := by decide +kernel
theorem dX5_init_8 : decode cX5_init 8 = .ok (.dup, 1) := by decide +kernel
theorem dX5_init_9 : decode cX5_init 9 = .ok (.iconst 0, 1) := by decide +kernel
theorem dX5_init_10 : decode cX5_init 10 = .ok (.bipush (-9), 2) := by decide +kernel
theorem dX5_init_12 : decode cX5_init 12 = .ok (.iastore, 1) := by decide +kernel
theorem dX5_init_13 : decode cX5_init 13 = .ok (.dup, 1) := by decide +kernel
theorem dX5_init_14 : decode cX5_init 14 = .ok (.iconst 1, 1) := by decide +kernel
theorem dX5_init_15 : decode cX5_init 15 = .ok (.bipush (-9), 2) := by decide +kernel
theorem dX5_init_17 : decode cX5_init 17 = .ok (.iastore, 1) := by decide +kernel
theorem dX5_init_18 : decode cX5_init 18 = .ok (.dup, 1) := by decide +kernel
theorem dX5_init_19 : decode cX5_init 19 = .ok (.iconst 2, 1) := by decide +kernel
theorem dX5_init_20 : decode cX5_init 20 = .ok (.bipush (-9), 2) := by decide +kernel
theorem dX5_init_22 : decode cX5_init 22 = .ok (.iastore, 1) := by decide +kernel
theorem dX5_init_23 : decode cX5_init 23 = .ok (.dup, 1) := by decide +kernel
theorem dX5_init_24 : decode cX5_init 24 = .ok (.iconst 3, 1) := by decide +kernel
theorem dX5_init_25 : decode cX5_init 25 = .ok (.bipush (-9), 2) := by decide +kernel
theorem dX5_init_27 : decode cX5_init 27 = .ok (.iastore, 1) := by decide +kernel
theorem dX5_init_28 : decode cX5_init 28 = .ok (.putfield 9, 3) := by decide +kernel
theorem dX5_init_31 : decode cX5_init 31 = .ok (.aload_n 0, 1) := by decide +kernel
theorem dX5_init_32 : decode cX5_init 32 = .ok (.iconst 4, 1) := by decide +kernel
theorem dX5_init_33 : decode cX5_init 33 = .ok (.newarray .int, 2) := by decide +kernel
theorem dX5_init_35 : decode cX5_init 35 = .ok (.putfield 13, 3) := by decide +kernel
theorem dX5_init_38 : decode cX5_init 38 = .ok (.aload_n 0, 1) := by decide +kernel
theorem dX5_init_39 : decode cX5_init 39 = .ok (.sipush 240, 3) := by decide +kernel
theorem dX5_init_42 : decode cX5_init 42 = .ok (.newarray .int, 2) := by decide +kernel
theorem dX5_init_44 : decode cX5_init 44 = .ok (.putfield 16, 3) := by decide +kernel
theorem dX5_init_47 : decode cX5_init 47 = .ok (.aload_n 0, 1) := by decide +kernel
theorem dX5_init_48 : decode cX5_init 48 = .ok (.bipush 7, 2) := by decide +kernel
theorem dX5_init_50 : decode cX5_init 50 = .ok (.newarray .int, 2) := by decide +kernel
theorem dX5_init_52 : decode cX5_init 52 = .ok (.putfield 19, 3) := by decide +kernel
theorem dX5_init_55 : decode cX5_init 55 = .ok (.aload_n 0, 1) := by decide +kernel
theorem dX5_init_56 : decode cX5_init 56 = .ok (.bipush 7, 2) := by decide +kernel
theorem dX5_init_58 : decode cX5_init 58 = .ok (.newarray .int, 2) := by decide +kernel
theorem dX5_init_60 : decode cX5_init 60 = .ok (.putfield 22, 3) := by decide +kernel
theorem dX5_init_63 : decode cX5_init 63 = .ok (.aload_n 0, 1) := by decide +kernel
theorem dX5_init_64 : decode cX5_init 64 = .ok (.bipush 7, 2) := by decide +kernel
theorem dX5_init_66 : decode cX5_init 66 = .ok (.newarray .int, 2) := by decide +kernel
theorem dX5_init_68 : decode cX5_init 68 = .ok (.putfield 25, 3) := by decide +kernel
theorem dX5_init_71 : decode cX5_init 71 = .ok (.aload_n 0, 1) := by decide +kernel
theorem dX5_init_72 : decode cX5_init 72 = .ok (.bipush 7, 2) := by decide +kernel
theorem dX5_init_74 : decode cX5_init 74 = .ok (.newarray .int, 2) := by decide +kernel
theorem dX5_init_76 : decode cX5_init 76 = .ok (.putfield 28, 3) := by decide +kernel
theorem dX5_init_79 : decode cX5_init 79 = .ok (.aload_n 0, 1) := by decide +kernel
theorem dX5_init_80 : decode cX5_init 80 = .ok (.bipush 7, 2) := by decide +kernel
theorem dX5_init_82 : decode cX5_init 82 = .ok (.newarray .int, 2) := by decide +kernel
theorem dX5_init_84 : decode cX5_init 84 = .ok (.putfield 31, 3) := by decide +kernel
theorem dX5_init_87 : decode cX5_init 87 = .ok (.aload_n 0, 1) := by decide +kernel
theorem dX5_init_88 : decode cX5_init 88 = .ok (.bipush 7, 2) := by decide +kernel
theorem dX5_init_90 : decode cX5_init 90 = .ok (.newarray .int, 2) := by decide +kernel
theorem dX5_init_92 : decode cX5_init 92 = .ok (.putfield 34, 3) := by decide +kernel
theorem dX5_init_95 : decode cX5_init 95 = .ok (.aload_n 0, 1) := by decide +kernel
theorem dX5_init_96 : decode cX5_init 96 = .ok (.bipush 14, 2) := by decide +kernel
theorem dX5_init_98 : decode cX5_init 98 = .ok (.newarray .int, 2) := by decide +kernel
theorem dX5_init_100 : decode cX5_init 100 = .ok (.putfield 37, 3) := by decide +kernel
theorem dX5_init_103 : decode cX5_init 103 = .ok (.aload_n 0, 1) := by decide +kernel
theorem dX5_init_104 : decode cX5_init 104 = .ok (.bipush 14, 2) := by decide +kernel
theorem dX5_init_106 : decode cX5_init 106 = .ok (.newarray .int, 2) := by decide +kernel
theorem dX5_init_108 : decode cX5_init 108 = .ok (.putfield 40, 3) := by decide +kernel
theorem dX5_init_111 : decode cX5_init 111 = .ok (.aload_n 0, 1) := by decide +kernel
theorem dX5_init_112 : decode cX5_init 112 = .ok (.bipush 64, 2) := by decide +kernel
theorem dX5_init_114 : decode cX5_init 114 = .ok (.newarray .int, 2) := by decide +kernel
theorem dX5_init_116 : decode cX5_init 116 = .ok (.putfield 43, 3) := by decide +kernel
theorem dX5_init_119 : decode cX5_init 119 = .ok (.aload_n 0, 1) := by decide +kernel
theorem dX5_init_120 : decode cX5_init 120 = .ok (.bipush 64, 2) := by decide +kernel
theorem dX5_init_122 : decode cX5_init 122 = .ok (.newarray .int, 2) := by decide +kernel
theorem dX5_init_124 : decode cX5_init 124 = .ok (.putfield 46, 3) := by decide +kernel
theorem dX5_init_127 : decode cX5_init 127 = .ok (.aload_n 0, 1) := by decide +kernel
theorem dX5_init_128 : decode cX5_init 128 = .ok (.bipush 64, 2) := by decide +kernel
theorem dX5_init_130 : decode cX5_init 130 = .ok (.newarray .int, 2) := by decide +kernel
theorem dX5_init_132 : decode cX5_init 132 = .ok (.putfield 49, 3) := by decide +kernel
theorem dX5_init_135 : decode cX5_init 135 = .ok (.aload_n 0, 1) := by decide +kernel
theorem dX5_init_136 : decode cX5_init 136 = .ok (.bipush 14, 2) := by decide +kernel
theorem dX5_init_138 : decode cX5_init 138 = .ok (.newarray .int, 2) := by decide +kernel
theorem dX5_init_140 : decode cX5_init 140 = .ok (.putfield 52, 3) := by decide +kernel
theorem dX5_init_143 : decode cX5_init 143 = .ok (.aload_n 0, 1) := by decide +kernel
theorem dX5_init_144 : decode cX5_init 144 = .ok (.bipush 14, 2) := by decide +kernel
theorem dX5_init_146 : decode cX5_init 146 = .ok (.newarray .int, 2) := by decide +kernel
theorem dX5_init_148 : decode cX5_init 148 = .ok (.putfield 55, 3) := by decide +kernel
theorem dX5_init_151 : decode cX5_init 151 = .ok (.aload_n 0, 1) := by decide +kernel
theorem dX5_init_152 : decode cX5_init 152 = .ok (.bipush 14, 2) := by decide +kernel
theorem dX5_init_154 : decode cX5_init 154 = .ok (.newarray .int, 2) := by decide +kernel
theorem dX5_init_156 : decode cX5_init 156 = .ok (.putfield 58, 3) := by decide +kernel
theorem dX5_init_159 : decode cX5_init 159 = .ok (.aload_n 0, 1) := by decide +kernel
theorem dX5_init_160 : decode cX5_init 160 = .ok (.bipush 17, 2) := by decide +kernel
theorem dX5_init_162 : decode cX5_init 162 = .ok (.newarray .int, 2) := by decide +kernel
theorem dX5_init_164 : decode cX5_init 164 = .ok (.putfield 61, 3) := by decide +kernel
theorem dX5_init_167 : decode cX5_init 167 = .ok (.aload_n 0, 1) := by decide +kernel
theorem dX5_init_168 : decode cX5_init 168 = .ok (.bipush 8, 2) := by decide +kernel
theorem dX5_init_170 : decode cX5_init 170 = .ok (.newarray .int, 2) := by decide +kernel
theorem dX5_init_172 : decode cX5_init 172 = .ok (.putfield 64, 3) := by decide +kernel
theorem dX5_init_175 : decode cX5_init 175 = .ok (.aload_n 0, 1) := by decide +kernel
theorem dX5_init_176 : decode cX5_init 176 = .ok (.bipush 8, 2) := by decide +kernel
theorem dX5_init_178 : decode cX5_init 178 = .ok (.newarray .int, 2) := by decide +kernel
theorem dX5_init_180 : decode cX5_init 180 = .ok (.putfield 67, 3) := by decide +kernel
theorem dX5_init_183 : decode cX5_init 183 = .ok (.return_, 1) := by decide +kernel
theorem dX5_fails_0 : decode cX5_fails 0 = .ok (.aload_n 0, 1) := by decide +kernel
theorem dX5_fails_1 : decode cX5_fails 1 = .ok (.iload_n 1, 1) := by decide +kernel
theorem dX5_fails_2 : decode cX5_fails 2 = .ok (.putfield 70, 3) := by decide +kernel
theorem dX5_fails_5 : decode cX5_fails 5 = .ok (.bipush (-10), 2) := by decide +kernel
theorem dX5_fails_7 : decode cX5_fails 7 = .ok (.iload_n 1, 1) := by decide +kernel
theorem dX5_fails_8 : decode cX5_fails 8 = .ok (.isub, 1) := by decide +kernel
theorem dX5_fails_9 : decode cX5_fails 9 = .ok (.ireturn, 1) := by decide +kernel
theorem dX5_lost_0 : decode cX5_lost 0 = .ok (.aload_n 0, 1) := by decide +kernel
theorem dX5_lost_1 : decode cX5_lost 1 = .ok (.iload_n 1, 1) := by decide +kernel
theorem dX5_lost_2 : decode cX5_lost 2 = .ok (.putfield 70, 3) := by decide +kernel
theorem dX5_lost_5 : decode cX5_lost 5 = .ok (.ldc2_w 74, 3) := by decide +kernel
theorem dX5_lost_8 : decode cX5_lost 8 = .ok (.lreturn, 1) := by decide +kernel
theorem dX5_within_0 : decode cX5_within 0 = .ok (.iload_n 0, 1) := by decide +kernel
theorem dX5_within_1 : decode cX5_within 1 = .ok (.iload_n 1, 1) := by decide +kernel
theorem dX5_within_2 : decode cX5_within 2 = .ok (.if_icmp .lt 12, 3) := by decide +kernel
theorem dX5_within_5 : decode cX5_within 5 = .ok (.iload_n 0, 1) := by decide +kernel
theorem dX5_within_6 : decode cX5_within 6 = .ok (.iload_n 2, 1) := by decide +kernel
theorem dX5_within_7 : decode cX5_within 7 = .ok (.if_icmp .gt 7, 3) := by decide +kernel
theorem dX5_within_10 : decode cX5_within 10 = .ok (.iconst 1, 1) := by decide +kernel
theorem dX5_within_11 : decode cX5_within 11 = .ok (.goto 4, 3) := by decide +kernel
theorem dX5_within_14 : decode cX5_within 14 = .ok (.iconst 0, 1) := by decide +kernel
theorem dX5_within_15 : decode cX5_within 15 = .ok (.ireturn, 1) := by decide +kernel
theorem dX5_isSheet_0 : decode cX5_isSheet 0 = .ok (.iload_n 0, 1) := by decide +kernel
theorem dX5_isSheet_1 : decode cX5_isSheet 1 = .ok (.iconst 0, 1) := by decide +kernel
theorem dX5_isSheet_2 : decode cX5_isSheet 2 = .ok (.iconst 3, 1) := by decide +kernel
theorem dX5_isSheet_3 : decode cX5_isSheet 3 = .ok (.invokestatic 76, 3) := by decide +kernel
theorem dX5_isSheet_6 : decode cX5_isSheet 6 = .ok (.ireturn, 1) := by decide +kernel
theorem dX5_isSort_0 : decode cX5_isSort 0 = .ok (.iload_n 0, 1) := by decide +kernel
theorem dX5_isSort_1 : decode cX5_isSort 1 = .ok (.iconst 0, 1) := by decide +kernel
theorem dX5_isSort_2 : decode cX5_isSort 2 = .ok (.iconst 2, 1) := by decide +kernel
theorem dX5_isSort_3 : decode cX5_isSort 3 = .ok (.invokestatic 76, 3) := by decide +kernel
theorem dX5_isSort_6 : decode cX5_isSort 6 = .ok (.ireturn, 1) := by decide +kernel
theorem dX5_against_0 : decode cX5_against 0 = .ok (.aload_n 0, 1) := by decide +kernel
theorem dX5_against_1 : decode cX5_against 1 = .ok (.getfield 9, 3) := by decide +kernel
theorem dX5_against_4 : decode cX5_against 4 = .ok (.iload_n 1, 1) := by decide +kernel
theorem dX5_against_5 : decode cX5_against 5 = .ok (.iaload, 1) := by decide +kernel
theorem dX5_against_6 : decode cX5_against 6 = .ok (.bipush (-9), 2) := by decide +kernel
theorem dX5_against_8 : decode cX5_against 8 = .ok (.if_icmp .eq 15, 3) := by decide +kernel
theorem dX5_against_11 : decode cX5_against 11 = .ok (.aload_n 0, 1) := by decide +kernel
theorem dX5_against_12 : decode cX5_against 12 = .ok (.getfield 9, 3) := by decide +kernel
theorem dX5_against_15 : decode cX5_against 15 = .ok (.iload_n 1, 1) := by decide +kernel
theorem dX5_against_16 : decode cX5_against 16 = .ok (.iaload, 1) := by decide +kernel
theorem dX5_against_17 : decode cX5_against 17 = .ok (.iload_n 2, 1) := by decide +kernel
theorem dX5_against_18 : decode cX5_against 18 = .ok (.if_icmp .eq 5, 3) := by decide +kernel
theorem dX5_against_21 : decode cX5_against 21 = .ok (.iconst 2, 1) := by decide +kernel
theorem dX5_against_22 : decode cX5_against 22 = .ok (.ireturn, 1) := by decide +kernel
theorem dX5_against_23 : decode cX5_against 23 = .ok (.aload_n 0, 1) := by decide +kernel
theorem dX5_against_24 : decode cX5_against 24 = .ok (.getfield 9, 3) := by decide +kernel
theorem dX5_against_27 : decode cX5_against 27 = .ok (.iload_n 1, 1) := by decide +kernel
theorem dX5_against_28 : decode cX5_against 28 = .ok (.iaload, 1) := by decide +kernel
theorem dX5_against_29 : decode cX5_against 29 = .ok (.bipush (-9), 2) := by decide +kernel
theorem dX5_against_31 : decode cX5_against 31 = .ok (.if_icmp .ne 5, 3) := by decide +kernel
theorem dX5_against_34 : decode cX5_against 34 = .ok (.iconst 1, 1) := by decide +kernel
theorem dX5_against_35 : decode cX5_against 35 = .ok (.ireturn, 1) := by decide +kernel
theorem dX5_against_36 : decode cX5_against 36 = .ok (.iload 4, 2) := by decide +kernel
theorem dX5_against_38 : decode cX5_against 38 = .ok (.ifCond .ge 5, 3) := by decide +kernel
theorem dX5_against_41 : decode cX5_against 41 = .ok (.iconst 4, 1) := by decide +kernel
theorem dX5_against_42 : decode cX5_against 42 = .ok (.ireturn, 1) := by decide +kernel
theorem dX5_against_43 : decode cX5_against 43 = .ok (.iload_n 3, 1) := by decide +kernel
theorem dX5_against_44 : decode cX5_against 44 = .ok (.ifCond .lt 26, 3) := by decide +kernel
theorem dX5_against_47 : decode cX5_against 47 = .ok (.iload_n 3, 1) := by decide +kernel
theorem dX5_against_48 : decode cX5_against 48 = .ok (.aload_n 0, 1) := by decide +kernel
theorem dX5_against_49 : decode cX5_against 49 = .ok (.getfield 13, 3) := by decide +kernel
theorem dX5_against_52 : decode cX5_against 52 = .ok (.iload_n 1, 1) := by decide +kernel
theorem dX5_against_53 : decode cX5_against 53 = .ok (.iaload, 1) := by decide +kernel
theorem dX5_against_54 : decode cX5_against 54 = .ok (.if_icmp .gt 16, 3) := by decide +kernel
theorem dX5_against_57 : decode cX5_against 57 = .ok (.iload 4, 2) := by decide +kernel
theorem dX5_against_59 : decode cX5_against 59 = .ok (.aload_n 0, 1) := by decide +kernel
theorem dX5_against_60 : decode cX5_against 60 = .ok (.getfield 13, 3) := by decide +kernel
theorem dX5_against_63 : decode cX5_against 63 = .ok (.iload_n 1, 1) := by decide +kernel
theorem dX5_against_64 : decode cX5_against 64 = .ok (.iaload, 1) := by decide +kernel
theorem dX5_against_65 : decode cX5_against 65 = .ok (.iload_n 3, 1) := by decide +kernel
theorem dX5_against_66 : decode cX5_against 66 = .ok (.isub, 1) := by decide +kernel
theorem dX5_against_67 : decode cX5_against 67 = .ok (.if_icmp .le 7, 3) := by decide +kernel
theorem dX5_against_70 : decode cX5_against 70 = .ok (.iconst 3, 1) := by decide +kernel
theorem dX5_against_71 : decode cX5_against 71 = .ok (.goto 4, 3) := by decide +kernel
theorem dX5_against_74 : decode cX5_against 74 = .ok (.iconst 0, 1) := by decide +kernel
theorem dX5_against_75 : decode cX5_against 75 = .ok (.ireturn, 1) := by decide +kernel
theorem dX5_isLeft_0 : decode cX5_isLeft 0 = .ok (.iload_n 1, 1) := by decide +kernel
theorem dX5_isLeft_1 : decode cX5_isLeft 1 = .ok (.ifCond .lt 15, 3) := by decide +kernel
theorem dX5_isLeft_4 : decode cX5_isLeft 4 = .ok (.iload_n 1, 1) := by decide +kernel
theorem dX5_isLeft_5 : decode cX5_isLeft 5 = .ok (.aload_n 0, 1) := by decide +kernel
theorem dX5_isLeft_6 : decode cX5_isLeft 6 = .ok (.getfield 80, 3) := by decide +kernel
theorem dX5_isLeft_9 : decode cX5_isLeft 9 = .ok (.if_icmp .ge 7, 3) := by decide +kernel
theorem dX5_isLeft_12 : decode cX5_isLeft 12 = .ok (.iconst 1, 1) := by decide +kernel
theorem dX5_isLeft_13 : decode cX5_isLeft 13 = .ok (.goto 4, 3) := by decide +kernel
theorem dX5_isLeft_16 : decode cX5_isLeft 16 = .ok (.iconst 0, 1) := by decide +kernel
theorem dX5_isLeft_17 : decode cX5_isLeft 17 = .ok (.ireturn, 1) := by decide +kernel
theorem dX5_isRight_0 : decode cX5_isRight 0 = .ok (.iload_n 1, 1) := by decide +kernel
theorem dX5_isRight_1 : decode cX5_isRight 1 = .ok (.ifCond .lt 15, 3) := by decide +kernel
theorem dX5_isRight_4 : decode cX5_isRight 4 = .ok (.iload_n 1, 1) := by decide +kernel
theorem dX5_isRight_5 : decode cX5_isRight 5 = .ok (.aload_n 0, 1) := by decide +kernel
theorem dX5_isRight_6 : decode cX5_isRight 6 = .ok (.getfield 83, 3) := by decide +kernel
theorem dX5_isRight_9 : decode cX5_isRight 9 = .ok (.if_icmp .ge 7, 3) := by decide +kernel
theorem dX5_isRight_12 : decode cX5_isRight 12 = .ok (.iconst 1, 1) := by decide +kernel
theorem dX5_isRight_13 : decode cX5_isRight 13 = .ok (.goto 4, 3) := by decide +kernel
theorem dX5_isRight_16 : decode cX5_isRight 16 = .ok (.iconst 0, 1) := by decide +kernel
theorem dX5_isRight_17 : decode cX5_isRight 17 = .ok (.ireturn, 1) := by decide +kernel
theorem dX5_isSign_0 : decode cX5_isSign 0 = .ok (.aload_n 0, 1) := by decide +kernel
theorem dX5_isSign_1 : decode cX5_isSign 1 = .ok (.getfield 86, 3) := by decide +kernel
theorem dX5_isSign_4 : decode cX5_isSign 4 = .ok (.iload_n 1, 1) := by decide +kernel
theorem dX5_isSign_5 : decode cX5_isSign 5 = .ok (.if_icmp .ge 16, 3) := by decide +kernel
theorem dX5_isSign_8 : decode cX5_isSign 8 = .ok (.aload_n 0, 1) := by decide +kernel
theorem dX5_isSign_9 : decode cX5_isSign 9 = .ok (.getfield 16, 3) := by decide +kernel
theorem dX5_isSign_12 : decode cX5_isSign 12 = .ok (.aload_n 0, 1) := by decide +kernel
theorem dX5_isSign_13 : decode cX5_isSign 13 = .ok (.getfield 86, 3) := by decide +kernel
theorem dX5_isSign_16 : decode cX5_isSign 16 = .ok (.iaload, 1) := by decide +kernel
theorem dX5_isSign_17 : decode cX5_isSign 17 = .ok (.iload_n 2, 1) := by decide +kernel
theorem dX5_isSign_18 : decode cX5_isSign 18 = .ok (.if_icmp .eq 5, 3) := by decide +kernel
theorem dX5_isSign_21 : decode cX5_isSign 21 = .ok (.iconst 0, 1) := by decide +kernel
theorem dX5_isSign_22 : decode cX5_isSign 22 = .ok (.ireturn, 1) := by decide +kernel
theorem dX5_isSign_23 : decode cX5_isSign 23 = .ok (.aload_n 0, 1) := by decide +kernel
theorem dX5_isSign_24 : decode cX5_isSign 24 = .ok (.dup, 1) := by decide +kernel
theorem dX5_isSign_25 : decode cX5_isSign 25 = .ok (.getfield 86, 3) := by decide +kernel
theorem dX5_isSign_28 : decode cX5_isSign 28 = .ok (.iconst 1, 1) := by decide +kernel
theorem dX5_isSign_29 : decode cX5_isSign 29 = .ok (.iadd, 1) := by decide +kernel
theorem dX5_isSign_30 : decode cX5_isSign 30 = .ok (.putfield 86, 3) := by decide +kernel
theorem dX5_isSign_33 : decode cX5_isSign 33 = .ok (.iconst 1, 1) := by decide +kernel
theorem dX5_isSign_34 : decode cX5_isSign 34 = .ok (.ireturn, 1) := by decide +kernel
theorem dX5_books_0 : decode cX5_books 0 = .ok (.aload_n 0, 1) := by decide +kernel
theorem dX5_books_1 : decode cX5_books 1 = .ok (.iconst 0, 1) := by decide +kernel
theorem dX5_books_2 : decode cX5_books 2 = .ok (.putfield 70, 3) := by decide +kernel
theorem dX5_books_5 : decode cX5_books 5 = .ok (.iload_n 1, 1) := by decide +kernel
theorem dX5_books_6 : decode cX5_books 6 = .ok (.invokestatic 89, 3) := by decide +kernel
theorem dX5_books_9 : decode cX5_books 9 = .ok (.ifCond .ne 5, 3) := by decide +kernel
theorem dX5_books_12 : decode cX5_books 12 = .ok (.iconst (-1), 1) := by decide +kernel
theorem dX5_books_13 : decode cX5_books 13 = .ok (.ireturn, 1) := by decide +kernel
theorem dX5_books_14 : decode cX5_books 14 = .ok (.iload_n 2, 1) := by decide +kernel
theorem dX5_books_15 : decode cX5_books 15 = .ok (.invokestatic 93, 3) := by decide +kernel
theorem dX5_books_18 : decode cX5_books 18 = .ok (.ifCond .ne 6, 3) := by decide +kernel
theorem dX5_books_21 : decode cX5_books 21 = .ok (.bipush (-2), 2) := by decide +kernel
theorem dX5_books_23 : decode cX5_books 23 = .ok (.ireturn, 1) := by decide +kernel
theorem dX5_books_24 : decode cX5_books 24 = .ok (.aload_n 0, 1) := by decide +kernel
theorem dX5_books_25 : decode cX5_books 25 = .ok (.iload_n 1, 1) := by decide +kernel
theorem dX5_books_26 : decode cX5_books 26 = .ok (.iload_n 2, 1) := by decide +kernel
theorem dX5_books_27 : decode cX5_books 27 = .ok (.iload_n 3, 1) := by decide +kernel
theorem dX5_books_28 : decode cX5_books 28 = .ok (.iload 4, 2) := by decide +kernel
theorem dX5_books_30 : decode cX5_books 30 = .ok (.invokevirtual 96, 3) := by decide +kernel
theorem dX5_books_33 : decode cX5_books 33 = .ok (.istore 5, 2) := by decide +kernel
theorem dX5_books_35 : decode cX5_books 35 = .ok (.iload 5, 2) := by decide +kernel
theorem dX5_books_37 : decode cX5_books 37 = .ok (.ifCond .eq 10, 3) := by decide +kernel
theorem dX5_books_40 : decode cX5_books 40 = .ok (.aload_n 0, 1) := by decide +kernel
theorem dX5_books_41 : decode cX5_books 41 = .ok (.iload 5, 2) := by decide +kernel
theorem dX5_books_43 : decode cX5_books 43 = .ok (.invokevirtual 100, 3) := by decide +kernel
theorem dX5_books_46 : decode cX5_books 46 = .ok (.ireturn, 1) := by decide +kernel
theorem dX5_books_47 : decode cX5_books 47 = .ok (.bipush 60, 2) := by decide +kernel
theorem dX5_books_49 : decode cX5_books 49 = .ok (.iload_n 1, 1) := by decide +kernel
theorem dX5_books_50 : decode cX5_books 50 = .ok (.imul, 1) := by decide +kernel
theorem dX5_books_51 : decode cX5_books 51 = .ok (.iload_n 3, 1) := by decide +kernel
theorem dX5_books_52 : decode cX5_books 52 = .ok (.iadd, 1) := by decide +kernel
theorem dX5_books_53 : decode cX5_books 53 = .ok (.istore 6, 2) := by decide +kernel
theorem dX5_books_55 : decode cX5_books 55 = .ok (.aload_n 0, 1) := by decide +kernel
theorem dX5_books_56 : decode cX5_books 56 = .ok (.iload 6, 2) := by decide +kernel
theorem dX5_books_58 : decode cX5_books 58 = .ok (.putfield 86, 3) := by decide +kernel
theorem dX5_books_61 : decode cX5_books 61 = .ok (.aload_n 0, 1) := by decide +kernel
theorem dX5_books_62 : decode cX5_books 62 = .ok (.iload 6, 2) := by decide +kernel
theorem dX5_books_64 : decode cX5_books 64 = .ok (.iload 4, 2) := by decide +kernel
theorem dX5_books_66 : decode cX5_books 66 = .ok (.iadd, 1) := by decide +kernel
theorem dX5_books_67 : decode cX5_books 67 = .ok (.invokevirtual 104, 3) := by decide +kernel
theorem dX5_books_70 : decode cX5_books 70 = .ok (.ifCond .ne 14, 3) := by decide +kernel
theorem dX5_books_73 : decode cX5_books 73 = .ok (.bipush (-100), 2) := by decide +kernel
theorem dX5_books_75 : decode cX5_books 75 = .ok (.aload_n 0, 1) := by decide +kernel
theorem dX5_books_76 : decode cX5_books 76 = .ok (.getfield 86, 3) := by decide +kernel
theorem dX5_books_79 : decode cX5_books 79 = .ok (.iload 6, 2) := by decide +kernel
theorem dX5_books_81 : decode cX5_books 81 = .ok (.isub, 1) := by decide +kernel
theorem dX5_books_82 : decode cX5_books 82 = .ok (.isub, 1) := by decide +kernel
theorem dX5_books_83 : decode cX5_books 83 = .ok (.ireturn, 1) := by decide +kernel
theorem dX5_books_84 : decode cX5_books 84 = .ok (.aload_n 0, 1) := by decide +kernel
theorem dX5_books_85 : decode cX5_books 85 = .ok (.aload_n 0, 1) := by decide +kernel
theorem dX5_books_86 : decode cX5_books 86 = .ok (.getfield 107, 3) := by decide +kernel
theorem dX5_books_89 : decode cX5_books 89 = .ok (.putfield 80, 3) := by decide +kernel
theorem dX5_books_92 : decode cX5_books 92 = .ok (.aload_n 0, 1) := by decide +kernel
theorem dX5_books_93 : decode cX5_books 93 = .ok (.aload_n 0, 1) := by decide +kernel
theorem dX5_books_94 : decode cX5_books 94 = .ok (.getfield 110, 3) := by decide +kernel
theorem dX5_books_97 : decode cX5_books 97 = .ok (.putfield 83, 3) := by decide +kernel
theorem dX5_books_100 : decode cX5_books 100 = .ok (.iconst 0, 1) := by decide +kernel
theorem dX5_books_101 : decode cX5_books 101 = .ok (.istore 7, 2) := by decide +kernel
theorem dX5_books_103 : decode cX5_books 103 = .ok (.iload 7, 2) := by decide +kernel
theorem dX5_books_105 : decode cX5_books 105 = .ok (.bipush 7, 2) := by decide +kernel
theorem dX5_books_107 : decode cX5_books 107 = .ok (.if_icmp .ge 85, 3) := by decide +kernel
theorem dX5_books_110 : decode cX5_books 110 = .ok (.aload_n 0, 1) := by decide +kernel
theorem dX5_books_111 : decode cX5_books 111 = .ok (.getfield 19, 3) := by decide +kernel
theorem dX5_books_114 : decode cX5_books 114 = .ok (.iload 7, 2) := by decide +kernel
theorem dX5_books_116 : decode cX5_books 116 = .ok (.aload_n 0, 1) := by decide +kernel
theorem dX5_books_117 : decode cX5_books 117 = .ok (.getfield 34, 3) := by decide +kernel
theorem dX5_books_120 : decode cX5_books 120 = .ok (.iload 7, 2) := by decide +kernel
theorem dX5_books_122 : decode cX5_books 122 = .ok (.iaload, 1) := by decide +kernel
theorem dX5_books_123 : decode cX5_books 123 = .ok (.iastore, 1) := by decide +kernel
theorem dX5_books_124 : decode cX5_books 124 = .ok (.aload_n 0, 1) := by decide +kernel
theorem dX5_books_125 : decode cX5_books 125 = .ok (.getfield 22, 3) := by decide +kernel
theorem dX5_books_128 : decode cX5_books 128 = .ok (.iload 7, 2) := by decide +kernel
theorem dX5_books_130 : decode cX5_books 130 = .ok (.aload_n 0, 1) := by decide +kernel
theorem dX5_books_131 : decode cX5_books 131 = .ok (.getfield 37, 3) := by decide +kernel
theorem dX5_books_134 : decode cX5_books 134 = .ok (.iload 7, 2) := by decide +kernel
theorem dX5_books_136 : decode cX5_books 136 = .ok (.iaload, 1) := by decide +kernel
theorem dX5_books_137 : decode cX5_books 137 = .ok (.iastore, 1) := by decide +kernel
theorem dX5_books_138 : decode cX5_books 138 = .ok (.aload_n 0, 1) := by decide +kernel
theorem dX5_books_139 : decode cX5_books 139 = .ok (.getfield 25, 3) := by decide +kernel
theorem dX5_books_142 : decode cX5_books 142 = .ok (.iload 7, 2) := by decide +kernel
theorem dX5_books_144 : decode cX5_books 144 = .ok (.aload_n 0, 1) := by decide +kernel
theorem dX5_books_145 : decode cX5_books 145 = .ok (.getfield 40, 3) := by decide +kernel
theorem dX5_books_148 : decode cX5_books 148 = .ok (.iload 7, 2) := by decide +kernel
theorem dX5_books_150 : decode cX5_books 150 = .ok (.iaload, 1) := by decide +kernel
theorem dX5_books_151 : decode cX5_books 151 = .ok (.iastore, 1) := by decide +kernel
theorem dX5_books_152 : decode cX5_books 152 = .ok (.aload_n 0, 1) := by decide +kernel
theorem dX5_books_153 : decode cX5_books 153 = .ok (.getfield 28, 3) := by decide +kernel
theorem dX5_books_156 : decode cX5_books 156 = .ok (.iload 7, 2) := by decide +kernel
theorem dX5_books_158 : decode cX5_books 158 = .ok (.aload_n 0, 1) := by decide +kernel
theorem dX5_books_159 : decode cX5_books 159 = .ok (.getfield 37, 3) := by decide +kernel
theorem dX5_books_162 : decode cX5_books 162 = .ok (.bipush 7, 2) := by decide +kernel
theorem dX5_books_164 : decode cX5_books 164 = .ok (.iload 7, 2) := by decide +kernel
theorem dX5_books_166 : decode cX5_books 166 = .ok (.iadd, 1) := by decide +kernel
theorem dX5_books_167 : decode cX5_books 167 = .ok (.iaload, 1) := by decide +kernel
theorem dX5_books_168 : decode cX5_books 168 = .ok (.iastore, 1) := by decide +kernel
theorem dX5_books_169 : decode cX5_books 169 = .ok (.aload_n 0, 1) := by decide +kernel
theorem dX5_books_170 : decode cX5_books 170 = .ok (.getfield 31, 3) := by decide +kernel
theorem dX5_books_173 : decode cX5_books 173 = .ok (.iload 7, 2) := by decide +kernel
theorem dX5_books_175 : decode cX5_books 175 = .ok (.aload_n 0, 1) := by decide +kernel
theorem dX5_books_176 : decode cX5_books 176 = .ok (.getfield 40, 3) := by decide +kernel
theorem dX5_books_179 : decode cX5_books 179 = .ok (.bipush 7, 2) := by decide +kernel
theorem dX5_books_181 : decode cX5_books 181 = .ok (.iload 7, 2) := by decide +kernel
theorem dX5_books_183 : decode cX5_books 183 = .ok (.iadd, 1) := by decide +kernel
theorem dX5_books_184 : decode cX5_books 184 = .ok (.iaload, 1) := by decide +kernel
theorem dX5_books_185 : decode cX5_books 185 = .ok (.iastore, 1) := by decide +kernel
theorem dX5_books_186 : decode cX5_books 186 = .ok (.iinc 7 1, 3) := by decide +kernel
theorem dX5_books_189 : decode cX5_books 189 = .ok (.goto (-86), 3) := by decide +kernel
theorem dX5_books_192 : decode cX5_books 192 = .ok (.aload_n 0, 1) := by decide +kernel
theorem dX5_books_193 : decode cX5_books 193 = .ok (.iconst 4, 1) := by decide +kernel
theorem dX5_books_194 : decode cX5_books 194 = .ok (.putfield 113, 3) := by decide +kernel
theorem dX5_books_197 : decode cX5_books 197 = .ok (.aload_n 0, 1) := by decide +kernel
theorem dX5_books_198 : decode cX5_books 198 = .ok (.iconst 1, 1) := by decide +kernel
theorem dX5_books_199 : decode cX5_books 199 = .ok (.putfield 116, 3) := by decide +kernel
theorem dX5_books_202 : decode cX5_books 202 = .ok (.aload_n 0, 1) := by decide +kernel
theorem dX5_books_203 : decode cX5_books 203 = .ok (.bipush 7, 2) := by decide +kernel
theorem dX5_books_205 : decode cX5_books 205 = .ok (.putfield 119, 3) := by decide +kernel
theorem dX5_books_208 : decode cX5_books 208 = .ok (.aload_n 0, 1) := by decide +kernel
theorem dX5_books_209 : decode cX5_books 209 = .ok (.iconst 0, 1) := by decide +kernel
theorem dX5_books_210 : decode cX5_books 210 = .ok (.putfield 122, 3) := by decide +kernel
theorem dX5_books_213 : decode cX5_books 213 = .ok (.aload_n 0, 1) := by decide +kernel
theorem dX5_books_214 : decode cX5_books 214 = .ok (.getfield 80, 3) := by decide +kernel
theorem dX5_books_217 : decode cX5_books 217 = .ok (.aload_n 0, 1) := by decide +kernel
theorem dX5_books_218 : decode cX5_books 218 = .ok (.getfield 83, 3) := by decide +kernel
theorem dX5_books_221 : decode cX5_books 221 = .ok (.iadd, 1) := by decide +kernel
theorem dX5_books_222 : decode cX5_books 222 = .ok (.ireturn, 1) := by decide +kernel
theorem dX5_readAll_0 : decode cX5_readAll 0 = .ok (.aload_n 0, 1) := by decide +kernel
theorem dX5_readAll_1 : decode cX5_readAll 1 = .ok (.iconst 0, 1) := by decide +kernel
theorem dX5_readAll_2 : decode cX5_readAll 2 = .ok (.putfield 107, 3) := by decide +kernel
theorem dX5_readAll_5 : decode cX5_readAll 5 = .ok (.aload_n 0, 1) := by decide +kernel
theorem dX5_readAll_6 : decode cX5_readAll 6 = .ok (.iconst 0, 1) := by decide +kernel
theorem dX5_readAll_7 : decode cX5_readAll 7 = .ok (.putfield 110, 3) := by decide +kernel
theorem dX5_readAll_10 : decode cX5_readAll 10 = .ok (.aload_n 0, 1) := by decide +kernel
theorem dX5_readAll_11 : decode cX5_readAll 11 = .ok (.iload_n 1, 1) := by decide +kernel
theorem dX5_readAll_12 : decode cX5_readAll 12 = .ok (.bipush 98, 2) := by decide +kernel
theorem dX5_readAll_14 : decode cX5_readAll 14 = .ok (.invokevirtual 125, 3) := by decide +kernel
theorem dX5_readAll_17 : decode cX5_readAll 17 = .ok (.ifCond .ne 5, 3) := by decide +kernel
theorem dX5_readAll_20 : decode cX5_readAll 20 = .ok (.iconst 0, 1) := by decide +kernel
theorem dX5_readAll_21 : decode cX5_readAll 21 = .ok (.ireturn, 1) := by decide +kernel
theorem dX5_readAll_22 : decode cX5_readAll 22 = .ok (.aload_n 0, 1) := by decide +kernel
theorem dX5_readAll_23 : decode cX5_readAll 23 = .ok (.getfield 107, 3) := by decide +kernel
theorem dX5_readAll_26 : decode cX5_readAll 26 = .ok (.ifCond .eq 34, 3) := by decide +kernel
theorem dX5_readAll_29 : decode cX5_readAll 29 = .ok (.aload_n 0, 1) := by decide +kernel
theorem dX5_readAll_30 : decode cX5_readAll 30 = .ok (.getfield 107, 3) := by decide +kernel
theorem dX5_readAll_33 : decode cX5_readAll 33 = .ok (.bipush 7, 2) := by decide +kernel
theorem dX5_readAll_35 : decode cX5_readAll 35 = .ok (.if_icmp .ge 70, 3) := by decide +kernel
theorem dX5_readAll_38 : decode cX5_readAll 38 = .ok (.aload_n 0, 1) := by decide +kernel
theorem dX5_readAll_39 : decode cX5_readAll 39 = .ok (.getfield 86, 3) := by decide +kernel
theorem dX5_readAll_42 : decode cX5_readAll 42 = .ok (.iload_n 1, 1) := by decide +kernel
theorem dX5_readAll_43 : decode cX5_readAll 43 = .ok (.if_icmp .ge 62, 3) := by decide +kernel
theorem dX5_readAll_46 : decode cX5_readAll 46 = .ok (.aload_n 0, 1) := by decide +kernel
theorem dX5_readAll_47 : decode cX5_readAll 47 = .ok (.getfield 16, 3) := by decide +kernel
theorem dX5_readAll_50 : decode cX5_readAll 50 = .ok (.aload_n 0, 1) := by decide +kernel
theorem dX5_readAll_51 : decode cX5_readAll 51 = .ok (.getfield 86, 3) := by decide +kernel
theorem dX5_readAll_54 : decode cX5_readAll 54 = .ok (.iaload, 1) := by decide +kernel
theorem dX5_readAll_55 : decode cX5_readAll 55 = .ok (.bipush 59, 2) := by decide +kernel
theorem dX5_readAll_57 : decode cX5_readAll 57 = .ok (.if_icmp .ne 48, 3) := by decide +kernel
theorem dX5_readAll_60 : decode cX5_readAll 60 = .ok (.aload_n 0, 1) := by decide +kernel
theorem dX5_readAll_61 : decode cX5_readAll 61 = .ok (.iload_n 1, 1) := by decide +kernel
theorem dX5_readAll_62 : decode cX5_readAll 62 = .ok (.bipush 59, 2) := by decide +kernel
theorem dX5_readAll_64 : decode cX5_readAll 64 = .ok (.invokevirtual 125, 3) := by decide +kernel
theorem dX5_readAll_67 : decode cX5_readAll 67 = .ok (.ifCond .eq 23, 3) := by decide +kernel
theorem dX5_readAll_70 : decode cX5_readAll 70 = .ok (.aload_n 0, 1) := by decide +kernel
theorem dX5_readAll_71 : decode cX5_readAll 71 = .ok (.iload_n 1, 1) := by decide +kernel
theorem dX5_readAll_72 : decode cX5_readAll 72 = .ok (.invokevirtual 129, 3) := by decide +kernel
theorem dX5_readAll_75 : decode cX5_readAll 75 = .ok (.ifCond .eq 15, 3) := by decide +kernel
theorem dX5_readAll_78 : decode cX5_readAll 78 = .ok (.aload_n 0, 1) := by decide +kernel
theorem dX5_readAll_79 : decode cX5_readAll 79 = .ok (.iload_n 1, 1) := by decide +kernel
theorem dX5_readAll_80 : decode cX5_readAll 80 = .ok (.aload_n 0, 1) := by decide +kernel
theorem dX5_readAll_81 : decode cX5_readAll 81 = .ok (.getfield 107, 3) := by decide +kernel
theorem dX5_readAll_84 : decode cX5_readAll 84 = .ok (.invokevirtual 132, 3) := by decide +kernel
theorem dX5_readAll_87 : decode cX5_readAll 87 = .ok (.ifCond .ne 5, 3) := by decide +kernel
theorem dX5_readAll_90 : decode cX5_readAll 90 = .ok (.iconst 0, 1) := by decide +kernel
theorem dX5_readAll_91 : decode cX5_readAll 91 = .ok (.ireturn, 1) := by decide +kernel
theorem dX5_readAll_92 : decode cX5_readAll 92 = .ok (.aload_n 0, 1) := by decide +kernel
theorem dX5_readAll_93 : decode cX5_readAll 93 = .ok (.dup, 1) := by decide +kernel
theorem dX5_readAll_94 : decode cX5_readAll 94 = .ok (.getfield 107, 3) := by decide +kernel
theorem dX5_readAll_97 : decode cX5_readAll 97 = .ok (.iconst 1, 1) := by decide +kernel
theorem dX5_readAll_98 : decode cX5_readAll 98 = .ok (.iadd, 1) := by decide +kernel
theorem dX5_readAll_99 : decode cX5_readAll 99 = .ok (.putfield 107, 3) := by decide +kernel
theorem dX5_readAll_102 : decode cX5_readAll 102 = .ok (.goto (-80), 3) := by decide +kernel
theorem dX5_readAll_105 : decode cX5_readAll 105 = .ok (.aload_n 0, 1) := by decide +kernel
theorem dX5_readAll_106 : decode cX5_readAll 106 = .ok (.getfield 110, 3) := by decide +kernel
theorem dX5_readAll_109 : decode cX5_readAll 109 = .ok (.ifCond .eq 20, 3) := by decide +kernel
theorem dX5_readAll_112 : decode cX5_readAll 112 = .ok (.aload_n 0, 1) := by decide +kernel
theorem dX5_readAll_113 : decode cX5_readAll 113 = .ok (.getfield 110, 3) := by decide +kernel
theorem dX5_readAll_116 : decode cX5_readAll 116 = .ok (.bipush 7, 2) := by decide +kernel
theorem dX5_readAll_118 : decode cX5_readAll 118 = .ok (.if_icmp .ge 51, 3) := by decide +kernel
theorem dX5_readAll_121 : decode cX5_readAll 121 = .ok (.aload_n 0, 1) := by decide +kernel
theorem dX5_readAll_122 : decode cX5_readAll 122 = .ok (.getfield 86, 3) := by decide +kernel
theorem dX5_readAll_125 : decode cX5_readAll 125 = .ok (.iload_n 1, 1) := by decide +kernel
theorem dX5_readAll_126 : decode cX5_readAll 126 = .ok (.if_icmp .ge 43, 3) := by decide +kernel
theorem dX5_readAll_129 : decode cX5_readAll 129 = .ok (.aload_n 0, 1) := by decide +kernel
theorem dX5_readAll_130 : decode cX5_readAll 130 = .ok (.iload_n 1, 1) := by decide +kernel
theorem dX5_readAll_131 : decode cX5_readAll 131 = .ok (.bipush 44, 2) := by decide +kernel
theorem dX5_readAll_133 : decode cX5_readAll 133 = .ok (.invokevirtual 125, 3) := by decide +kernel
theorem dX5_readAll_136 : decode cX5_readAll 136 = .ok (.ifCond .eq 18, 3) := by decide +kernel
theorem dX5_readAll_139 : decode cX5_readAll 139 = .ok (.aload_n 0, 1) := by decide +kernel
theorem dX5_readAll_140 : decode cX5_readAll 140 = .ok (.iload_n 1, 1) := by decide +kernel
theorem dX5_readAll_141 : decode cX5_readAll 141 = .ok (.bipush 7, 2) := by decide +kernel
theorem dX5_readAll_143 : decode cX5_readAll 143 = .ok (.aload_n 0, 1) := by decide +kernel
theorem dX5_readAll_144 : decode cX5_readAll 144 = .ok (.getfield 110, 3) := by decide +kernel
theorem dX5_readAll_147 : decode cX5_readAll 147 = .ok (.iadd, 1) := by decide +kernel
theorem dX5_readAll_148 : decode cX5_readAll 148 = .ok (.invokevirtual 132, 3) := by decide +kernel
theorem dX5_readAll_151 : decode cX5_readAll 151 = .ok (.ifCond .ne 5, 3) := by decide +kernel
theorem dX5_readAll_154 : decode cX5_readAll 154 = .ok (.iconst 0, 1) := by decide +kernel
theorem dX5_readAll_155 : decode cX5_readAll 155 = .ok (.ireturn, 1) := by decide +kernel
theorem dX5_readAll_156 : decode cX5_readAll 156 = .ok (.aload_n 0, 1) := by decide +kernel
theorem dX5_readAll_157 : decode cX5_readAll 157 = .ok (.dup, 1) := by decide +kernel
theorem dX5_readAll_158 : decode cX5_readAll 158 = .ok (.getfield 110, 3) := by decide +kernel
theorem dX5_readAll_161 : decode cX5_readAll 161 = .ok (.iconst 1, 1) := by decide +kernel
theorem dX5_readAll_162 : decode cX5_readAll 162 = .ok (.iadd, 1) := by decide +kernel
theorem dX5_readAll_163 : decode cX5_readAll 163 = .ok (.putfield 110, 3) := by decide +kernel
theorem dX5_readAll_166 : decode cX5_readAll 166 = .ok (.goto (-61), 3) := by decide +kernel
theorem dX5_readAll_169 : decode cX5_readAll 169 = .ok (.aload_n 0, 1) := by decide +kernel
theorem dX5_readAll_170 : decode cX5_readAll 170 = .ok (.getfield 86, 3) := by decide +kernel
theorem dX5_readAll_173 : decode cX5_readAll 173 = .ok (.iload_n 1, 1) := by decide +kernel
theorem dX5_readAll_174 : decode cX5_readAll 174 = .ok (.if_icmp .ne 7, 3) := by decide +kernel
theorem dX5_readAll_177 : decode cX5_readAll 177 = .ok (.iconst 1, 1) := by decide +kernel
theorem dX5_readAll_178 : decode cX5_readAll 178 = .ok (.goto 4, 3) := by decide +kernel
theorem dX5_readAll_181 : decode cX5_readAll 181 = .ok (.iconst 0, 1) := by decide +kernel
theorem dX5_readAll_182 : decode cX5_readAll 182 = .ok (.ireturn, 1) := by decide +kernel
theorem dX5_readKindNext_0 : decode cX5_readKindNext 0 = .ok (.aload_n 0, 1) := by decide +kernel
theorem dX5_readKindNext_1 : decode cX5_readKindNext 1 = .ok (.getfield 86, 3) := by decide +kernel
theorem dX5_readKindNext_4 : decode cX5_readKindNext 4 = .ok (.iload_n 1, 1) := by decide +kernel
theorem dX5_readKindNext_5 : decode cX5_readKindNext 5 = .ok (.if_icmp .ge 15, 3) := by decide +kernel
theorem dX5_readKindNext_8 : decode cX5_readKindNext 8 = .ok (.aload_n 0, 1) := by decide +kernel
theorem dX5_readKindNext_9 : decode cX5_readKindNext 9 = .ok (.getfield 16, 3) := by decide +kernel
theorem dX5_readKindNext_12 : decode cX5_readKindNext 12 = .ok (.aload_n 0, 1) := by decide +kernel
theorem dX5_readKindNext_13 : decode cX5_readKindNext 13 = .ok (.getfield 86, 3) := by decide +kernel
theorem dX5_readKindNext_16 : decode cX5_readKindNext 16 = .ok (.iaload, 1) := by decide +kernel
theorem dX5_readKindNext_17 : decode cX5_readKindNext 17 = .ok (.goto 4, 3) := by decide +kernel
theorem dX5_readKindNext_20 : decode cX5_readKindNext 20 = .ok (.iconst 0, 1) := by decide +kernel
theorem dX5_readKindNext_21 : decode cX5_readKindNext 21 = .ok (.istore_n 2, 1) := by decide +kernel
theorem dX5_readKindNext_22 : decode cX5_readKindNext 22 = .ok (.aload_n 0, 1) := by decide +kernel
theorem dX5_readKindNext_23 : decode cX5_readKindNext 23 = .ok (.getfield 34, 3) := by decide +kernel
theorem dX5_readKindNext_26 : decode cX5_readKindNext 26 = .ok (.aload_n 0, 1) := by decide +kernel
theorem dX5_readKindNext_27 : decode cX5_readKindNext 27 = .ok (.getfield 107, 3) := by decide +kernel
theorem dX5_readKindNext_30 : decode cX5_readKindNext 30 = .ok (.iload_n 2, 1) := by decide +kernel
theorem dX5_readKindNext_31 : decode cX5_readKindNext 31 = .ok (.bipush 80, 2) := by decide +kernel
theorem dX5_readKindNext_33 : decode cX5_readKindNext 33 = .ok (.if_icmp .ne 7, 3) := by decide +kernel
theorem dX5_readKindNext_36 : decode cX5_readKindNext 36 = .ok (.iconst 0, 1) := by decide +kernel
theorem dX5_readKindNext_37 : decode cX5_readKindNext 37 = .ok (.goto 25, 3) := by decide +kernel
theorem dX5_readKindNext_40 : decode cX5_readKindNext 40 = .ok (.iload_n 2, 1) := by decide +kernel
theorem dX5_readKindNext_41 : decode cX5_readKindNext 41 = .ok (.bipush 76, 2) := by decide +kernel
theorem dX5_readKindNext_43 : decode cX5_readKindNext 43 = .ok (.if_icmp .ne 7, 3) := by decide +kernel
theorem dX5_readKindNext_46 : decode cX5_readKindNext 46 = .ok (.iconst 1, 1) := by decide +kernel
theorem dX5_readKindNext_47 : decode cX5_readKindNext 47 = .ok (.goto 15, 3) := by decide +kernel
theorem dX5_readKindNext_50 : decode cX5_readKindNext 50 = .ok (.iload_n 2, 1) := by decide +kernel
theorem dX5_readKindNext_51 : decode cX5_readKindNext 51 = .ok (.bipush 68, 2) := by decide +kernel
theorem dX5_readKindNext_53 : decode cX5_readKindNext 53 = .ok (.if_icmp .ne 7, 3) := by decide +kernel
theorem dX5_readKindNext_56 : decode cX5_readKindNext 56 = .ok (.iconst 2, 1) := by decide +kernel
theorem dX5_readKindNext_57 : decode cX5_readKindNext 57 = .ok (.goto 5, 3) := by decide +kernel
theorem dX5_readKindNext_60 : decode cX5_readKindNext 60 = .ok (.bipush (-9), 2) := by decide +kernel
theorem dX5_readKindNext_62 : decode cX5_readKindNext 62 = .ok (.iastore, 1) := by decide +kernel
theorem dX5_readKindNext_63 : decode cX5_readKindNext 63 = .ok (.aload_n 0, 1) := by decide +kernel
theorem dX5_readKindNext_64 : decode cX5_readKindNext 64 = .ok (.getfield 34, 3) := by decide +kernel
theorem dX5_readKindNext_67 : decode cX5_readKindNext 67 = .ok (.aload_n 0, 1) := by decide +kernel
theorem dX5_readKindNext_68 : decode cX5_readKindNext 68 = .ok (.getfield 107, 3) := by decide +kernel
theorem dX5_readKindNext_71 : decode cX5_readKindNext 71 = .ok (.iaload, 1) := by decide +kernel
theorem dX5_readKindNext_72 : decode cX5_readKindNext 72 = .ok (.bipush (-9), 2) := by decide +kernel
theorem dX5_readKindNext_74 : decode cX5_readKindNext 74 = .ok (.if_icmp .ne 5, 3) := by decide +kernel
theorem dX5_readKindNext_77 : decode cX5_readKindNext 77 = .ok (.iconst 0, 1) := by decide +kernel
theorem dX5_readKindNext_78 : decode cX5_readKindNext 78 = .ok (.ireturn, 1) := by decide +kernel
theorem dX5_readKindNext_79 : decode cX5_readKindNext 79 = .ok (.aload_n 0, 1) := by decide +kernel
theorem dX5_readKindNext_80 : decode cX5_readKindNext 80 = .ok (.dup, 1) := by decide +kernel
theorem dX5_readKindNext_81 : decode cX5_readKindNext 81 = .ok (.getfield 86, 3) := by decide +kernel
theorem dX5_readKindNext_84 : decode cX5_readKindNext 84 = .ok (.iconst 1, 1) := by decide +kernel
theorem dX5_readKindNext_85 : decode cX5_readKindNext 85 = .ok (.iadd, 1) := by decide +kernel
theorem dX5_readKindNext_86 : decode cX5_readKindNext 86 = .ok (.putfield 86, 3) := by decide +kernel
theorem dX5_readKindNext_89 : decode cX5_readKindNext 89 = .ok (.iconst 1, 1) := by decide +kernel
theorem dX5_readKindNext_90 : decode cX5_readKindNext 90 = .ok (.ireturn, 1) := by decide +kernel
theorem dX5_readSentence_0 : decode cX5_readSentence 0 = .ok (.aload_n 0, 1) := by decide +kernel
theorem dX5_readSentence_1 : decode cX5_readSentence 1 = .ok (.getfield 86, 3) := by decide +kernel
theorem dX5_readSentence_4 : decode cX5_readSentence 4 = .ok (.iload_n 1, 1) := by decide +kernel
theorem dX5_readSentence_5 : decode cX5_readSentence 5 = .ok (.if_icmp .ge 22, 3) := by decide +kernel
theorem dX5_readSentence_8 : decode cX5_readSentence 8 = .ok (.aload_n 0, 1) := by decide +kernel
theorem dX5_readSentence_9 : decode cX5_readSentence 9 = .ok (.getfield 16, 3) := by decide +kernel
theorem dX5_readSentence_12 : decode cX5_readSentence 12 = .ok (.aload_n 0, 1) := by decide +kernel
theorem dX5_readSentence_13 : decode cX5_readSentence 13 = .ok (.getfield 86, 3) := by decide +kernel
theorem dX5_readSentence_16 : decode cX5_readSentence 16 = .ok (.iaload, 1) := by decide +kernel
theorem dX5_readSentence_17 : decode cX5_readSentence 17 = .ok (.bipush 49, 2) := by decide +kernel
theorem dX5_readSentence_19 : decode cX5_readSentence 19 = .ok (.bipush 57, 2) := by decide +kernel
theorem dX5_readSentence_21 : decode cX5_readSentence 21 = .ok (.invokestatic 76, 3) := by decide +kernel
theorem dX5_readSentence_24 : decode cX5_readSentence 24 = .ok (.ifCond .ne 5, 3) := by decide +kernel
theorem dX5_readSentence_27 : decode cX5_readSentence 27 = .ok (.iconst 0, 1) := by decide +kernel
theorem dX5_readSentence_28 : decode cX5_readSentence 28 = .ok (.ireturn, 1) := by decide +kernel
theorem dX5_readSentence_29 : decode cX5_readSentence 29 = .ok (.aload_n 0, 1) := by decide +kernel
theorem dX5_readSentence_30 : decode cX5_readSentence 30 = .ok (.getfield 37, 3) := by decide +kernel
theorem dX5_readSentence_33 : decode cX5_readSentence 33 = .ok (.iload_n 2, 1) := by decide +kernel
theorem dX5_readSentence_34 : decode cX5_readSentence 34 = .ok (.aload_n 0, 1) := by decide +kernel
theorem dX5_readSentence_35 : decode cX5_readSentence 35 = .ok (.getfield 16, 3) := by decide +kernel
theorem dX5_readSentence_38 : decode cX5_readSentence 38 = .ok (.aload_n 0, 1) := by decide +kernel
theorem dX5_readSentence_39 : decode cX5_readSentence 39 = .ok (.getfield 86, 3) := by decide +kernel
theorem dX5_readSentence_42 : decode cX5_readSentence 42 = .ok (.iaload, 1) := by decide +kernel
theorem dX5_readSentence_43 : decode cX5_readSentence 43 = .ok (.bipush 48, 2) := by decide +kernel
theorem dX5_readSentence_45 : decode cX5_readSentence 45 = .ok (.isub, 1) := by decide +kernel
theorem dX5_readSentence_46 : decode cX5_readSentence 46 = .ok (.iastore, 1) := by decide +kernel
theorem dX5_readSentence_47 : decode cX5_readSentence 47 = .ok (.aload_n 0, 1) := by decide +kernel
theorem dX5_readSentence_48 : decode cX5_readSentence 48 = .ok (.dup, 1) := by decide +kernel
theorem dX5_readSentence_49 : decode cX5_readSentence 49 = .ok (.getfield 86, 3) := by decide +kernel
theorem dX5_readSentence_52 : decode cX5_readSentence 52 = .ok (.iconst 1, 1) := by decide +kernel
theorem dX5_readSentence_53 : decode cX5_readSentence 53 = .ok (.iadd, 1) := by decide +kernel
theorem dX5_readSentence_54 : decode cX5_readSentence 54 = .ok (.putfield 86, 3) := by decide +kernel
theorem dX5_readSentence_57 : decode cX5_readSentence 57 = .ok (.aload_n 0, 1) := by decide +kernel
theorem dX5_readSentence_58 : decode cX5_readSentence 58 = .ok (.getfield 86, 3) := by decide +kernel
theorem dX5_readSentence_61 : decode cX5_readSentence 61 = .ok (.iload_n 1, 1) := by decide +kernel
theorem dX5_readSentence_62 : decode cX5_readSentence 62 = .ok (.if_icmp .ge 36, 3) := by decide +kernel
theorem dX5_readSentence_65 : decode cX5_readSentence 65 = .ok (.aload_n 0, 1) := by decide +kernel
theorem dX5_readSentence_66 : decode cX5_readSentence 66 = .ok (.getfield 16, 3) := by decide +kernel
theorem dX5_readSentence_69 : decode cX5_readSentence 69 = .ok (.aload_n 0, 1) := by decide +kernel
theorem dX5_readSentence_70 : decode cX5_readSentence 70 = .ok (.getfield 86, 3) := by decide +kernel
theorem dX5_readSentence_73 : decode cX5_readSentence 73 = .ok (.iaload, 1) := by decide +kernel
theorem dX5_readSentence_74 : decode cX5_readSentence 74 = .ok (.bipush 45, 2) := by decide +kernel
theorem dX5_readSentence_76 : decode cX5_readSentence 76 = .ok (.if_icmp .eq 24, 3) := by decide +kernel
theorem dX5_readSentence_79 : decode cX5_readSentence 79 = .ok (.aload_n 0, 1) := by decide +kernel
theorem dX5_readSentence_80 : decode cX5_readSentence 80 = .ok (.getfield 16, 3) := by decide +kernel
theorem dX5_readSentence_83 : decode cX5_readSentence 83 = .ok (.aload_n 0, 1) := by decide +kernel
theorem dX5_readSentence_84 : decode cX5_readSentence 84 = .ok (.getfield 86, 3) := by decide +kernel
theorem dX5_readSentence_87 : decode cX5_readSentence 87 = .ok (.iaload, 1) := by decide +kernel
theorem dX5_readSentence_88 : decode cX5_readSentence 88 = .ok (.bipush 97, 2) := by decide +kernel
theorem dX5_readSentence_90 : decode cX5_readSentence 90 = .ok (.bipush 100, 2) := by decide +kernel
theorem dX5_readSentence_92 : decode cX5_readSentence 92 = .ok (.invokestatic 76, 3) := by decide +kernel
theorem dX5_readSentence_95 : decode cX5_readSentence 95 = .ok (.ifCond .ne 5, 3) := by decide +kernel
theorem dX5_readSentence_98 : decode cX5_readSentence 98 = .ok (.iconst 0, 1) := by decide +kernel
theorem dX5_readSentence_99 : decode cX5_readSentence 99 = .ok (.ireturn, 1) := by decide +kernel
theorem dX5_readSentence_100 : decode cX5_readSentence 100 = .ok (.aload_n 0, 1) := by decide +kernel
theorem dX5_readSentence_101 : decode cX5_readSentence 101 = .ok (.getfield 40, 3) := by decide +kernel
theorem dX5_readSentence_104 : decode cX5_readSentence 104 = .ok (.iload_n 2, 1) := by decide +kernel
theorem dX5_readSentence_105 : decode cX5_readSentence 105 = .ok (.aload_n 0, 1) := by decide +kernel
theorem dX5_readSentence_106 : decode cX5_readSentence 106 = .ok (.getfield 16, 3) := by decide +kernel
theorem dX5_readSentence_109 : decode cX5_readSentence 109 = .ok (.aload_n 0, 1) := by decide +kernel
theorem dX5_readSentence_110 : decode cX5_readSentence 110 = .ok (.getfield 86, 3) := by decide +kernel
theorem dX5_readSentence_113 : decode cX5_readSentence 113 = .ok (.iaload, 1) := by decide +kernel
theorem dX5_readSentence_114 : decode cX5_readSentence 114 = .ok (.bipush 45, 2) := by decide +kernel
theorem dX5_readSentence_116 : decode cX5_readSentence 116 = .ok (.if_icmp .ne 7, 3) := by decide +kernel
theorem dX5_readSentence_119 : decode cX5_readSentence 119 = .ok (.iconst 4, 1) := by decide +kernel
theorem dX5_readSentence_120 : decode cX5_readSentence 120 = .ok (.goto 15, 3) := by decide +kernel
theorem dX5_readSentence_123 : decode cX5_readSentence 123 = .ok (.aload_n 0, 1) := by decide +kernel
theorem dX5_readSentence_124 : decode cX5_readSentence 124 = .ok (.getfield 16, 3) := by decide +kernel
theorem dX5_readSentence_127 : decode cX5_readSentence 127 = .ok (.aload_n 0, 1) := by decide +kernel
theorem dX5_readSentence_128 : decode cX5_readSentence 128 = .ok (.getfield 86, 3) := by decide +kernel
theorem dX5_readSentence_131 : decode cX5_readSentence 131 = .ok (.iaload, 1) := by decide +kernel
theorem dX5_readSentence_132 : decode cX5_readSentence 132 = .ok (.bipush 97, 2) := by decide +kernel
theorem dX5_readSentence_134 : decode cX5_readSentence 134 = .ok (.isub, 1) := by decide +kernel
theorem dX5_readSentence_135 : decode cX5_readSentence 135 = .ok (.iastore, 1) := by decide +kernel
theorem dX5_readSentence_136 : decode cX5_readSentence 136 = .ok (.aload_n 0, 1) := by decide +kernel
theorem dX5_readSentence_137 : decode cX5_readSentence 137 = .ok (.dup, 1) := by decide +kernel
theorem dX5_readSentence_138 : decode cX5_readSentence 138 = .ok (.getfield 86, 3) := by decide +kernel
theorem dX5_readSentence_141 : decode cX5_readSentence 141 = .ok (.iconst 1, 1) := by decide +kernel
theorem dX5_readSentence_142 : decode cX5_readSentence 142 = .ok (.iadd, 1) := by decide +kernel
theorem dX5_readSentence_143 : decode cX5_readSentence 143 = .ok (.putfield 86, 3) := by decide +kernel
theorem dX5_readSentence_146 : decode cX5_readSentence 146 = .ok (.iconst 1, 1) := by decide +kernel
theorem dX5_readSentence_147 : decode cX5_readSentence 147 = .ok (.ireturn, 1) := by decide +kernel
theorem dX5_lengthOf_0 : decode cX5_lengthOf 0 = .ok (.aload_n 0, 1) := by decide +kernel
theorem dX5_lengthOf_1 : decode cX5_lengthOf 1 = .ok (.getfield 19, 3) := by decide +kernel
theorem dX5_lengthOf_4 : decode cX5_lengthOf 4 = .ok (.iload_n 1, 1) := by decide +kernel
theorem dX5_lengthOf_5 : decode cX5_lengthOf 5 = .ok (.iaload, 1) := by decide +kernel
theorem dX5_lengthOf_6 : decode cX5_lengthOf 6 = .ok (.ifCond .ne 12, 3) := by decide +kernel
theorem dX5_lengthOf_9 : decode cX5_lengthOf 9 = .ok (.aload_n 0, 1) := by decide +kernel
theorem dX5_lengthOf_10 : decode cX5_lengthOf 10 = .ok (.getfield 22, 3) := by decide +kernel
theorem dX5_lengthOf_13 : decode cX5_lengthOf 13 = .ok (.iload_n 1, 1) := by decide +kernel
theorem dX5_lengthOf_14 : decode cX5_lengthOf 14 = .ok (.iaload, 1) := by decide +kernel
theorem dX5_lengthOf_15 : decode cX5_lengthOf 15 = .ok (.goto 32, 3) := by decide +kernel
theorem dX5_lengthOf_18 : decode cX5_lengthOf 18 = .ok (.aload_n 0, 1) := by decide +kernel
theorem dX5_lengthOf_19 : decode cX5_lengthOf 19 = .ok (.getfield 19, 3) := by decide +kernel
theorem dX5_lengthOf_22 : decode cX5_lengthOf 22 = .ok (.iload_n 1, 1) := by decide +kernel
theorem dX5_lengthOf_23 : decode cX5_lengthOf 23 = .ok (.iaload, 1) := by decide +kernel
theorem dX5_lengthOf_24 : decode cX5_lengthOf 24 = .ok (.iconst 1, 1) := by decide +kernel
theorem dX5_lengthOf_25 : decode cX5_lengthOf 25 = .ok (.if_icmp .ne 14, 3) := by decide +kernel
theorem dX5_lengthOf_28 : decode cX5_lengthOf 28 = .ok (.aload_n 0, 1) := by decide +kernel
theorem dX5_lengthOf_29 : decode cX5_lengthOf 29 = .ok (.getfield 22, 3) := by decide +kernel
theorem dX5_lengthOf_32 : decode cX5_lengthOf 32 = .ok (.iload_n 1, 1) := by decide +kernel
theorem dX5_lengthOf_33 : decode cX5_lengthOf 33 = .ok (.iaload, 1) := by decide +kernel
theorem dX5_lengthOf_34 : decode cX5_lengthOf 34 = .ok (.iconst 1, 1) := by decide +kernel
theorem dX5_lengthOf_35 : decode cX5_lengthOf 35 = .ok (.iadd, 1) := by decide +kernel
theorem dX5_lengthOf_36 : decode cX5_lengthOf 36 = .ok (.goto 11, 3) := by decide +kernel
theorem dX5_lengthOf_39 : decode cX5_lengthOf 39 = .ok (.iconst 2, 1) := by decide +kernel
theorem dX5_lengthOf_40 : decode cX5_lengthOf 40 = .ok (.aload_n 0, 1) := by decide +kernel
theorem dX5_lengthOf_41 : decode cX5_lengthOf 41 = .ok (.getfield 22, 3) := by decide +kernel
theorem dX5_lengthOf_44 : decode cX5_lengthOf 44 = .ok (.iload_n 1, 1) := by decide +kernel
theorem dX5_lengthOf_45 : decode cX5_lengthOf 45 = .ok (.iaload, 1) := by decide +kernel
theorem dX5_lengthOf_46 : decode cX5_lengthOf 46 = .ok (.imul, 1) := by decide +kernel
theorem dX5_lengthOf_47 : decode cX5_lengthOf 47 = .ok (.ireturn, 1) := by decide +kernel
theorem dX5_leftsOf_0 : decode cX5_leftsOf 0 = .ok (.iload_n 0, 1) := by decide +kernel
theorem dX5_leftsOf_1 : decode cX5_leftsOf 1 = .ok (.iconst 2, 1) := by decide +kernel
theorem dX5_leftsOf_2 : decode cX5_leftsOf 2 = .ok (.if_icmp .ne 7, 3) := by decide +kernel
theorem dX5_leftsOf_5 : decode cX5_leftsOf 5 = .ok (.iconst 0, 1) := by decide +kernel
theorem dX5_leftsOf_6 : decode cX5_leftsOf 6 = .ok (.goto 13, 3) := by decide +kernel
theorem dX5_leftsOf_9 : decode cX5_leftsOf 9 = .ok (.iload_n 0, 1) := by decide +kernel
theorem dX5_leftsOf_10 : decode cX5_leftsOf 10 = .ok (.iconst 3, 1) := by decide +kernel
theorem dX5_leftsOf_11 : decode cX5_leftsOf 11 = .ok (.if_icmp .ne 7, 3) := by decide +kernel
theorem dX5_leftsOf_14 : decode cX5_leftsOf 14 = .ok (.iconst 2, 1) := by decide +kernel
theorem dX5_leftsOf_15 : decode cX5_leftsOf 15 = .ok (.goto 4, 3) := by decide +kernel
theorem dX5_leftsOf_18 : decode cX5_leftsOf 18 = .ok (.iconst 1, 1) := by decide +kernel
theorem dX5_leftsOf_19 : decode cX5_leftsOf 19 = .ok (.ireturn, 1) := by decide +kernel
theorem dX5_rightsOf_0 : decode cX5_rightsOf 0 = .ok (.iload_n 0, 1) := by decide +kernel
theorem dX5_rightsOf_1 : decode cX5_rightsOf 1 = .ok (.iconst 1, 1) := by decide +kernel
theorem dX5_rightsOf_2 : decode cX5_rightsOf 2 = .ok (.if_icmp .ne 7, 3) := by decide +kernel
theorem dX5_rightsOf_5 : decode cX5_rightsOf 5 = .ok (.iconst 0, 1) := by decide +kernel
theorem dX5_rightsOf_6 : decode cX5_rightsOf 6 = .ok (.goto 13, 3) := by decide +kernel
theorem dX5_rightsOf_9 : decode cX5_rightsOf 9 = .ok (.iload_n 0, 1) := by decide +kernel
theorem dX5_rightsOf_10 : decode cX5_rightsOf 10 = .ok (.iconst 4, 1) := by decide +kernel
theorem dX5_rightsOf_11 : decode cX5_rightsOf 11 = .ok (.if_icmp .ne 7, 3) := by decide +kernel
theorem dX5_rightsOf_14 : decode cX5_rightsOf 14 = .ok (.iconst 2, 1) := by decide +kernel
theorem dX5_rightsOf_15 : decode cX5_rightsOf 15 = .ok (.goto 4, 3) := by decide +kernel
theorem dX5_rightsOf_18 : decode cX5_rightsOf 18 = .ok (.iconst 1, 1) := by decide +kernel
theorem dX5_rightsOf_19 : decode cX5_rightsOf 19 = .ok (.ireturn, 1) := by decide +kernel
theorem dX5_anchorSet_0 : decode cX5_anchorSet 0 = .ok (.iload_n 0, 1) := by decide +kernel
theorem dX5_anchorSet_1 : decode cX5_anchorSet 1 = .ok (.iconst 4, 1) := by decide +kernel
theorem dX5_anchorSet_2 : decode cX5_anchorSet 2 = .ok (.if_icmp .ne 7, 3) := by decide +kernel
theorem dX5_anchorSet_5 : decode cX5_anchorSet 5 = .ok (.iconst 0, 1) := by decide +kernel
theorem dX5_anchorSet_6 : decode cX5_anchorSet 6 = .ok (.goto 6, 3) := by decide +kernel
theorem dX5_anchorSet_9 : decode cX5_anchorSet 9 = .ok (.iconst 1, 1) := by decide +kernel
theorem dX5_anchorSet_10 : decode cX5_anchorSet 10 = .ok (.iload_n 0, 1) := by decide +kernel
theorem dX5_anchorSet_11 : decode cX5_anchorSet 11 = .ok (.ishl, 1) := by decide +kernel
theorem dX5_anchorSet_12 : decode cX5_anchorSet 12 = .ok (.ireturn, 1) := by decide +kernel
theorem dX5_costOf_0 : decode cX5_costOf 0 = .ok (.iload_n 1, 1) := by decide +kernel
theorem dX5_costOf_1 : decode cX5_costOf 1 = .ok (.iconst 1, 1) := by decide +kernel
theorem dX5_costOf_2 : decode cX5_costOf 2 = .ok (.if_icmp .ne 14, 3) := by decide +kernel
theorem dX5_costOf_5 : decode cX5_costOf 5 = .ok (.aload_n 0, 1) := by decide +kernel
theorem dX5_costOf_6 : decode cX5_costOf 6 = .ok (.getfield 113, 3) := by decide +kernel
theorem dX5_costOf_9 : decode cX5_costOf 9 = .ok (.aload_n 0, 1) := by decide +kernel
theorem dX5_costOf_10 : decode cX5_costOf 10 = .ok (.iload_n 2, 1) := by decide +kernel
theorem dX5_costOf_11 : decode cX5_costOf 11 = .ok (.invokevirtual 135, 3) := by decide +kernel
theorem dX5_costOf_14 : decode cX5_costOf 14 = .ok (.iadd, 1) := by decide +kernel
theorem dX5_costOf_15 : decode cX5_costOf 15 = .ok (.ireturn, 1) := by decide +kernel
theorem dX5_costOf_16 : decode cX5_costOf 16 = .ok (.iload_n 1, 1) := by decide +kernel
theorem dX5_costOf_17 : decode cX5_costOf 17 = .ok (.iconst 2, 1) := by decide +kernel
theorem dX5_costOf_18 : decode cX5_costOf 18 = .ok (.if_icmp .ne 15, 3) := by decide +kernel
theorem dX5_costOf_21 : decode cX5_costOf 21 = .ok (.aload_n 0, 1) := by decide +kernel
theorem dX5_costOf_22 : decode cX5_costOf 22 = .ok (.getfield 113, 3) := by decide +kernel
theorem dX5_costOf_25 : decode cX5_costOf 25 = .ok (.aload_n 0, 1) := by decide +kernel
theorem dX5_costOf_26 : decode cX5_costOf 26 = .ok (.getfield 28, 3) := by decide +kernel
theorem dX5_costOf_29 : decode cX5_costOf 29 = .ok (.iload_n 3, 1) := by decide +kernel
theorem dX5_costOf_30 : decode cX5_costOf 30 = .ok (.iaload, 1) := by decide +kernel
theorem dX5_costOf_31 : decode cX5_costOf 31 = .ok (.iadd, 1) := by decide +kernel
theorem dX5_costOf_32 : decode cX5_costOf 32 = .ok (.ireturn, 1) := by decide +kernel
theorem dX5_costOf_33 : decode cX5_costOf 33 = .ok (.iconst 0, 1) := by decide +kernel
theorem dX5_costOf_34 : decode cX5_costOf 34 = .ok (.istore 4, 2) := by decide +kernel
theorem dX5_costOf_36 : decode cX5_costOf 36 = .ok (.iconst 0, 1) := by decide +kernel
theorem dX5_costOf_37 : decode cX5_costOf 37 = .ok (.istore 5, 2) := by decide +kernel
theorem dX5_costOf_39 : decode cX5_costOf 39 = .ok (.iconst 0, 1) := by decide +kernel
theorem dX5_costOf_40 : decode cX5_costOf 40 = .ok (.istore 6, 2) := by decide +kernel
theorem dX5_costOf_42 : decode cX5_costOf 42 = .ok (.iload_n 2, 1) := by decide +kernel
theorem dX5_costOf_43 : decode cX5_costOf 43 = .ok (.istore 7, 2) := by decide +kernel
theorem dX5_costOf_45 : decode cX5_costOf 45 = .ok (.iload 7, 2) := by decide +kernel
theorem dX5_costOf_47 : decode cX5_costOf 47 = .ok (.iload_n 2, 1) := by decide +kernel
theorem dX5_costOf_48 : decode cX5_costOf 48 = .ok (.iload_n 1, 1) := by decide +kernel
theorem dX5_costOf_49 : decode cX5_costOf 49 = .ok (.invokestatic 138, 3) := by decide +kernel
theorem dX5_costOf_52 : decode cX5_costOf 52 = .ok (.iadd, 1) := by decide +kernel
theorem dX5_costOf_53 : decode cX5_costOf 53 = .ok (.if_icmp .ge 35, 3) := by decide +kernel
theorem dX5_costOf_56 : decode cX5_costOf 56 = .ok (.iload 4, 2) := by decide +kernel
theorem dX5_costOf_58 : decode cX5_costOf 58 = .ok (.aload_n 0, 1) := by decide +kernel
theorem dX5_costOf_59 : decode cX5_costOf 59 = .ok (.iload 7, 2) := by decide +kernel
theorem dX5_costOf_61 : decode cX5_costOf 61 = .ok (.invokevirtual 135, 3) := by decide +kernel
theorem dX5_costOf_64 : decode cX5_costOf 64 = .ok (.iadd, 1) := by decide +kernel
theorem dX5_costOf_65 : decode cX5_costOf 65 = .ok (.istore 4, 2) := by decide +kernel
theorem dX5_costOf_67 : decode cX5_costOf 67 = .ok (.iload 5, 2) := by decide +kernel
theorem dX5_costOf_69 : decode cX5_costOf 69 = .ok (.aload_n 0, 1) := by decide +kernel
theorem dX5_costOf_70 : decode cX5_costOf 70 = .ok (.getfield 25, 3) := by decide +kernel
theorem dX5_costOf_73 : decode cX5_costOf 73 = .ok (.iload 7, 2) := by decide +kernel
theorem dX5_costOf_75 : decode cX5_costOf 75 = .ok (.iaload, 1) := by decide +kernel
theorem dX5_costOf_76 : decode cX5_costOf 76 = .ok (.invokestatic 141, 3) := by decide +kernel
theorem dX5_costOf_79 : decode cX5_costOf 79 = .ok (.ior, 1) := by decide +kernel
theorem dX5_costOf_80 : decode cX5_costOf 80 = .ok (.istore 5, 2) := by decide +kernel
theorem dX5_costOf_82 : decode cX5_costOf 82 = .ok (.iinc 7 1, 3) := by decide +kernel
