theorem dX5_costOf_85 : decode cX5_costOf 85 = .ok (.goto (-40), 3) := by decide +kernel
theorem dX5_costOf_88 : decode cX5_costOf 88 = .ok (.iload_n 3, 1) := by decide +kernel
theorem dX5_costOf_89 : decode cX5_costOf 89 = .ok (.istore 7, 2) := by decide +kernel
theorem dX5_costOf_91 : decode cX5_costOf 91 = .ok (.iload 7, 2) := by decide +kernel
theorem dX5_costOf_93 : decode cX5_costOf 93 = .ok (.iload_n 3, 1) := by decide +kernel
theorem dX5_costOf_94 : decode cX5_costOf 94 = .ok (.iload_n 1, 1) := by decide +kernel
theorem dX5_costOf_95 : decode cX5_costOf 95 = .ok (.invokestatic 144, 3) := by decide +kernel
theorem dX5_costOf_98 : decode cX5_costOf 98 = .ok (.iadd, 1) := by decide +kernel
theorem dX5_costOf_99 : decode cX5_costOf 99 = .ok (.if_icmp .ge 36, 3) := by decide +kernel
theorem dX5_costOf_102 : decode cX5_costOf 102 = .ok (.iload 4, 2) := by decide +kernel
theorem dX5_costOf_104 : decode cX5_costOf 104 = .ok (.aload_n 0, 1) := by decide +kernel
theorem dX5_costOf_105 : decode cX5_costOf 105 = .ok (.getfield 28, 3) := by decide +kernel
theorem dX5_costOf_108 : decode cX5_costOf 108 = .ok (.iload 7, 2) := by decide +kernel
theorem dX5_costOf_110 : decode cX5_costOf 110 = .ok (.iaload, 1) := by decide +kernel
theorem dX5_costOf_111 : decode cX5_costOf 111 = .ok (.isub, 1) := by decide +kernel
theorem dX5_costOf_112 : decode cX5_costOf 112 = .ok (.istore 4, 2) := by decide +kernel
theorem dX5_costOf_114 : decode cX5_costOf 114 = .ok (.iload 6, 2) := by decide +kernel
theorem dX5_costOf_116 : decode cX5_costOf 116 = .ok (.aload_n 0, 1) := by decide +kernel
theorem dX5_costOf_117 : decode cX5_costOf 117 = .ok (.getfield 31, 3) := by decide +kernel
theorem dX5_costOf_120 : decode cX5_costOf 120 = .ok (.iload 7, 2) := by decide +kernel
theorem dX5_costOf_122 : decode cX5_costOf 122 = .ok (.iaload, 1) := by decide +kernel
theorem dX5_costOf_123 : decode cX5_costOf 123 = .ok (.invokestatic 141, 3) := by decide +kernel
theorem dX5_costOf_126 : decode cX5_costOf 126 = .ok (.ior, 1) := by decide +kernel
theorem dX5_costOf_127 : decode cX5_costOf 127 = .ok (.istore 6, 2) := by decide +kernel
theorem dX5_costOf_129 : decode cX5_costOf 129 = .ok (.iinc 7 1, 3) := by decide +kernel
theorem dX5_costOf_132 : decode cX5_costOf 132 = .ok (.goto (-41), 3) := by decide +kernel
theorem dX5_costOf_135 : decode cX5_costOf 135 = .ok (.iload 4, 2) := by decide +kernel
theorem dX5_costOf_137 : decode cX5_costOf 137 = .ok (.ifCond .ge 9, 3) := by decide +kernel
theorem dX5_costOf_140 : decode cX5_costOf 140 = .ok (.iload 4, 2) := by decide +kernel
theorem dX5_costOf_142 : decode cX5_costOf 142 = .ok (.ineg, 1) := by decide +kernel
theorem dX5_costOf_143 : decode cX5_costOf 143 = .ok (.goto 5, 3) := by decide +kernel
theorem dX5_costOf_146 : decode cX5_costOf 146 = .ok (.iload 4, 2) := by decide +kernel
theorem dX5_costOf_148 : decode cX5_costOf 148 = .ok (.iload 5, 2) := by decide +kernel
theorem dX5_costOf_150 : decode cX5_costOf 150 = .ok (.iload 6, 2) := by decide +kernel
theorem dX5_costOf_152 : decode cX5_costOf 152 = .ok (.if_icmp .ne 7, 3) := by decide +kernel
theorem dX5_costOf_155 : decode cX5_costOf 155 = .ok (.iconst 0, 1) := by decide +kernel
theorem dX5_costOf_156 : decode cX5_costOf 156 = .ok (.goto 4, 3) := by decide +kernel
theorem dX5_costOf_159 : decode cX5_costOf 159 = .ok (.iconst 3, 1) := by decide +kernel
theorem dX5_costOf_160 : decode cX5_costOf 160 = .ok (.iadd, 1) := by decide +kernel
theorem dX5_costOf_161 : decode cX5_costOf 161 = .ok (.iload_n 1, 1) := by decide +kernel
theorem dX5_costOf_162 : decode cX5_costOf 162 = .ok (.iconst 2, 1) := by decide +kernel
theorem dX5_costOf_163 : decode cX5_costOf 163 = .ok (.if_icmp .le 10, 3) := by decide +kernel
theorem dX5_costOf_166 : decode cX5_costOf 166 = .ok (.aload_n 0, 1) := by decide +kernel
theorem dX5_costOf_167 : decode cX5_costOf 167 = .ok (.getfield 116, 3) := by decide +kernel
theorem dX5_costOf_170 : decode cX5_costOf 170 = .ok (.goto 4, 3) := by decide +kernel
theorem dX5_costOf_173 : decode cX5_costOf 173 = .ok (.iconst 0, 1) := by decide +kernel
theorem dX5_costOf_174 : decode cX5_costOf 174 = .ok (.iadd, 1) := by decide +kernel
theorem dX5_costOf_175 : decode cX5_costOf 175 = .ok (.ireturn, 1) := by decide +kernel
theorem dX5_isStand_0 : decode cX5_isStand 0 = .ok (.iload_n 1, 1) := by decide +kernel
theorem dX5_isStand_1 : decode cX5_isStand 1 = .ok (.aload_n 0, 1) := by decide +kernel
theorem dX5_isStand_2 : decode cX5_isStand 2 = .ok (.getfield 80, 3) := by decide +kernel
theorem dX5_isStand_5 : decode cX5_isStand 5 = .ok (.if_icmp .gt 29, 3) := by decide +kernel
theorem dX5_isStand_8 : decode cX5_isStand 8 = .ok (.iload_n 2, 1) := by decide +kernel
theorem dX5_isStand_9 : decode cX5_isStand 9 = .ok (.aload_n 0, 1) := by decide +kernel
theorem dX5_isStand_10 : decode cX5_isStand 10 = .ok (.getfield 83, 3) := by decide +kernel
theorem dX5_isStand_13 : decode cX5_isStand 13 = .ok (.if_icmp .gt 21, 3) := by decide +kernel
theorem dX5_isStand_16 : decode cX5_isStand 16 = .ok (.iload_n 1, 1) := by decide +kernel
theorem dX5_isStand_17 : decode cX5_isStand 17 = .ok (.iload_n 2, 1) := by decide +kernel
theorem dX5_isStand_18 : decode cX5_isStand 18 = .ok (.isub, 1) := by decide +kernel
theorem dX5_isStand_19 : decode cX5_isStand 19 = .ok (.iload_n 3, 1) := by decide +kernel
theorem dX5_isStand_20 : decode cX5_isStand 20 = .ok (.if_icmp .gt 14, 3) := by decide +kernel
theorem dX5_isStand_23 : decode cX5_isStand 23 = .ok (.iload_n 2, 1) := by decide +kernel
theorem dX5_isStand_24 : decode cX5_isStand 24 = .ok (.iload_n 1, 1) := by decide +kernel
theorem dX5_isStand_25 : decode cX5_isStand 25 = .ok (.isub, 1) := by decide +kernel
theorem dX5_isStand_26 : decode cX5_isStand 26 = .ok (.iload_n 3, 1) := by decide +kernel
theorem dX5_isStand_27 : decode cX5_isStand 27 = .ok (.if_icmp .gt 7, 3) := by decide +kernel
theorem dX5_isStand_30 : decode cX5_isStand 30 = .ok (.iconst 1, 1) := by decide +kernel
theorem dX5_isStand_31 : decode cX5_isStand 31 = .ok (.goto 4, 3) := by decide +kernel
theorem dX5_isStand_34 : decode cX5_isStand 34 = .ok (.iconst 0, 1) := by decide +kernel
theorem dX5_isStand_35 : decode cX5_isStand 35 = .ok (.ireturn, 1) := by decide +kernel
theorem dX5_comes_0 : decode cX5_comes 0 = .ok (.iload_n 2, 1) := by decide +kernel
theorem dX5_comes_1 : decode cX5_comes 1 = .ok (.ldc 147, 2) := by decide +kernel
theorem dX5_comes_3 : decode cX5_comes 3 = .ok (.if_icmp .lt 4, 3) := by decide +kernel
theorem dX5_comes_6 : decode cX5_comes 6 = .ok (.return_, 1) := by decide +kernel
theorem dX5_comes_7 : decode cX5_comes 7 = .ok (.iload_n 2, 1) := by decide +kernel
theorem dX5_comes_8 : decode cX5_comes 8 = .ok (.aload_n 0, 1) := by decide +kernel
theorem dX5_comes_9 : decode cX5_comes 9 = .ok (.getfield 43, 3) := by decide +kernel
theorem dX5_comes_12 : decode cX5_comes 12 = .ok (.iload_n 1, 1) := by decide +kernel
theorem dX5_comes_13 : decode cX5_comes 13 = .ok (.iaload, 1) := by decide +kernel
theorem dX5_comes_14 : decode cX5_comes 14 = .ok (.if_icmp .ge 32, 3) := by decide +kernel
theorem dX5_comes_17 : decode cX5_comes 17 = .ok (.aload_n 0, 1) := by decide +kernel
theorem dX5_comes_18 : decode cX5_comes 18 = .ok (.getfield 46, 3) := by decide +kernel
theorem dX5_comes_21 : decode cX5_comes 21 = .ok (.iload_n 1, 1) := by decide +kernel
theorem dX5_comes_22 : decode cX5_comes 22 = .ok (.aload_n 0, 1) := by decide +kernel
theorem dX5_comes_23 : decode cX5_comes 23 = .ok (.getfield 43, 3) := by decide +kernel
theorem dX5_comes_26 : decode cX5_comes 26 = .ok (.iload_n 1, 1) := by decide +kernel
theorem dX5_comes_27 : decode cX5_comes 27 = .ok (.iaload, 1) := by decide +kernel
theorem dX5_comes_28 : decode cX5_comes 28 = .ok (.iastore, 1) := by decide +kernel
theorem dX5_comes_29 : decode cX5_comes 29 = .ok (.aload_n 0, 1) := by decide +kernel
theorem dX5_comes_30 : decode cX5_comes 30 = .ok (.getfield 43, 3) := by decide +kernel
theorem dX5_comes_33 : decode cX5_comes 33 = .ok (.iload_n 1, 1) := by decide +kernel
theorem dX5_comes_34 : decode cX5_comes 34 = .ok (.iload_n 2, 1) := by decide +kernel
theorem dX5_comes_35 : decode cX5_comes 35 = .ok (.iastore, 1) := by decide +kernel
theorem dX5_comes_36 : decode cX5_comes 36 = .ok (.aload_n 0, 1) := by decide +kernel
theorem dX5_comes_37 : decode cX5_comes 37 = .ok (.getfield 49, 3) := by decide +kernel
theorem dX5_comes_40 : decode cX5_comes 40 = .ok (.iload_n 1, 1) := by decide +kernel
theorem dX5_comes_41 : decode cX5_comes 41 = .ok (.iload_n 3, 1) := by decide +kernel
theorem dX5_comes_42 : decode cX5_comes 42 = .ok (.iastore, 1) := by decide +kernel
theorem dX5_comes_43 : decode cX5_comes 43 = .ok (.goto 50, 3) := by decide +kernel
theorem dX5_comes_46 : decode cX5_comes 46 = .ok (.iload_n 2, 1) := by decide +kernel
theorem dX5_comes_47 : decode cX5_comes 47 = .ok (.aload_n 0, 1) := by decide +kernel
theorem dX5_comes_48 : decode cX5_comes 48 = .ok (.getfield 43, 3) := by decide +kernel
theorem dX5_comes_51 : decode cX5_comes 51 = .ok (.iload_n 1, 1) := by decide +kernel
theorem dX5_comes_52 : decode cX5_comes 52 = .ok (.iaload, 1) := by decide +kernel
theorem dX5_comes_53 : decode cX5_comes 53 = .ok (.if_icmp .ne 23, 3) := by decide +kernel
theorem dX5_comes_56 : decode cX5_comes 56 = .ok (.aload_n 0, 1) := by decide +kernel
theorem dX5_comes_57 : decode cX5_comes 57 = .ok (.getfield 49, 3) := by decide +kernel
theorem dX5_comes_60 : decode cX5_comes 60 = .ok (.iload_n 1, 1) := by decide +kernel
theorem dX5_comes_61 : decode cX5_comes 61 = .ok (.dup2, 1) := by decide +kernel
theorem dX5_comes_62 : decode cX5_comes 62 = .ok (.iaload, 1) := by decide +kernel
theorem dX5_comes_63 : decode cX5_comes 63 = .ok (.iload_n 3, 1) := by decide +kernel
theorem dX5_comes_64 : decode cX5_comes 64 = .ok (.iadd, 1) := by decide +kernel
theorem dX5_comes_65 : decode cX5_comes 65 = .ok (.iastore, 1) := by decide +kernel
theorem dX5_comes_66 : decode cX5_comes 66 = .ok (.aload_n 0, 1) := by decide +kernel
theorem dX5_comes_67 : decode cX5_comes 67 = .ok (.getfield 46, 3) := by decide +kernel
theorem dX5_comes_70 : decode cX5_comes 70 = .ok (.iload_n 1, 1) := by decide +kernel
theorem dX5_comes_71 : decode cX5_comes 71 = .ok (.iload_n 2, 1) := by decide +kernel
theorem dX5_comes_72 : decode cX5_comes 72 = .ok (.iastore, 1) := by decide +kernel
theorem dX5_comes_73 : decode cX5_comes 73 = .ok (.goto 20, 3) := by decide +kernel
theorem dX5_comes_76 : decode cX5_comes 76 = .ok (.iload_n 2, 1) := by decide +kernel
theorem dX5_comes_77 : decode cX5_comes 77 = .ok (.aload_n 0, 1) := by decide +kernel
theorem dX5_comes_78 : decode cX5_comes 78 = .ok (.getfield 46, 3) := by decide +kernel
theorem dX5_comes_81 : decode cX5_comes 81 = .ok (.iload_n 1, 1) := by decide +kernel
theorem dX5_comes_82 : decode cX5_comes 82 = .ok (.iaload, 1) := by decide +kernel
theorem dX5_comes_83 : decode cX5_comes 83 = .ok (.if_icmp .ge 10, 3) := by decide +kernel
theorem dX5_comes_86 : decode cX5_comes 86 = .ok (.aload_n 0, 1) := by decide +kernel
theorem dX5_comes_87 : decode cX5_comes 87 = .ok (.getfield 46, 3) := by decide +kernel
theorem dX5_comes_90 : decode cX5_comes 90 = .ok (.iload_n 1, 1) := by decide +kernel
theorem dX5_comes_91 : decode cX5_comes 91 = .ok (.iload_n 2, 1) := by decide +kernel
theorem dX5_comes_92 : decode cX5_comes 92 = .ok (.iastore, 1) := by decide +kernel
theorem dX5_comes_93 : decode cX5_comes 93 = .ok (.return_, 1) := by decide +kernel
theorem dX5_findStand_0 : decode cX5_findStand 0 = .ok (.bipush 8, 2) := by decide +kernel
theorem dX5_findStand_2 : decode cX5_findStand 2 = .ok (.iload_n 1, 1) := by decide +kernel
theorem dX5_findStand_3 : decode cX5_findStand 3 = .ok (.imul, 1) := by decide +kernel
theorem dX5_findStand_4 : decode cX5_findStand 4 = .ok (.iload_n 2, 1) := by decide +kernel
theorem dX5_findStand_5 : decode cX5_findStand 5 = .ok (.iadd, 1) := by decide +kernel
theorem dX5_findStand_6 : decode cX5_findStand 6 = .ok (.istore 4, 2) := by decide +kernel
theorem dX5_findStand_8 : decode cX5_findStand 8 = .ok (.aload_n 0, 1) := by decide +kernel
theorem dX5_findStand_9 : decode cX5_findStand 9 = .ok (.getfield 43, 3) := by decide +kernel
theorem dX5_findStand_12 : decode cX5_findStand 12 = .ok (.iload 4, 2) := by decide +kernel
theorem dX5_findStand_14 : decode cX5_findStand 14 = .ok (.ldc 147, 2) := by decide +kernel
theorem dX5_findStand_16 : decode cX5_findStand 16 = .ok (.iastore, 1) := by decide +kernel
theorem dX5_findStand_17 : decode cX5_findStand 17 = .ok (.aload_n 0, 1) := by decide +kernel
theorem dX5_findStand_18 : decode cX5_findStand 18 = .ok (.getfield 46, 3) := by decide +kernel
theorem dX5_findStand_21 : decode cX5_findStand 21 = .ok (.iload 4, 2) := by decide +kernel
theorem dX5_findStand_23 : decode cX5_findStand 23 = .ok (.ldc 147, 2) := by decide +kernel
theorem dX5_findStand_25 : decode cX5_findStand 25 = .ok (.iastore, 1) := by decide +kernel
theorem dX5_findStand_26 : decode cX5_findStand 26 = .ok (.aload_n 0, 1) := by decide +kernel
theorem dX5_findStand_27 : decode cX5_findStand 27 = .ok (.getfield 49, 3) := by decide +kernel
theorem dX5_findStand_30 : decode cX5_findStand 30 = .ok (.iload 4, 2) := by decide +kernel
theorem dX5_findStand_32 : decode cX5_findStand 32 = .ok (.iconst 0, 1) := by decide +kernel
theorem dX5_findStand_33 : decode cX5_findStand 33 = .ok (.iastore, 1) := by decide +kernel
theorem dX5_findStand_34 : decode cX5_findStand 34 = .ok (.aload_n 0, 1) := by decide +kernel
theorem dX5_findStand_35 : decode cX5_findStand 35 = .ok (.iload_n 1, 1) := by decide +kernel
theorem dX5_findStand_36 : decode cX5_findStand 36 = .ok (.iload_n 2, 1) := by decide +kernel
theorem dX5_findStand_37 : decode cX5_findStand 37 = .ok (.iload_n 3, 1) := by decide +kernel
theorem dX5_findStand_38 : decode cX5_findStand 38 = .ok (.invokevirtual 148, 3) := by decide +kernel
theorem dX5_findStand_41 : decode cX5_findStand 41 = .ok (.ifCond .ne 4, 3) := by decide +kernel
theorem dX5_findStand_44 : decode cX5_findStand 44 = .ok (.return_, 1) := by decide +kernel
theorem dX5_findStand_45 : decode cX5_findStand 45 = .ok (.iload_n 1, 1) := by decide +kernel
theorem dX5_findStand_46 : decode cX5_findStand 46 = .ok (.aload_n 0, 1) := by decide +kernel
theorem dX5_findStand_47 : decode cX5_findStand 47 = .ok (.getfield 80, 3) := by decide +kernel
theorem dX5_findStand_50 : decode cX5_findStand 50 = .ok (.if_icmp .ne 28, 3) := by decide +kernel
theorem dX5_findStand_53 : decode cX5_findStand 53 = .ok (.iload_n 2, 1) := by decide +kernel
theorem dX5_findStand_54 : decode cX5_findStand 54 = .ok (.aload_n 0, 1) := by decide +kernel
theorem dX5_findStand_55 : decode cX5_findStand 55 = .ok (.getfield 83, 3) := by decide +kernel
theorem dX5_findStand_58 : decode cX5_findStand 58 = .ok (.if_icmp .ne 20, 3) := by decide +kernel
theorem dX5_findStand_61 : decode cX5_findStand 61 = .ok (.aload_n 0, 1) := by decide +kernel
theorem dX5_findStand_62 : decode cX5_findStand 62 = .ok (.getfield 43, 3) := by decide +kernel
theorem dX5_findStand_65 : decode cX5_findStand 65 = .ok (.iload 4, 2) := by decide +kernel
theorem dX5_findStand_67 : decode cX5_findStand 67 = .ok (.iconst 0, 1) := by decide +kernel
theorem dX5_findStand_68 : decode cX5_findStand 68 = .ok (.iastore, 1) := by decide +kernel
theorem dX5_findStand_69 : decode cX5_findStand 69 = .ok (.aload_n 0, 1) := by decide +kernel
theorem dX5_findStand_70 : decode cX5_findStand 70 = .ok (.getfield 49, 3) := by decide +kernel
theorem dX5_findStand_73 : decode cX5_findStand 73 = .ok (.iload 4, 2) := by decide +kernel
theorem dX5_findStand_75 : decode cX5_findStand 75 = .ok (.iconst 1, 1) := by decide +kernel
theorem dX5_findStand_76 : decode cX5_findStand 76 = .ok (.iastore, 1) := by decide +kernel
theorem dX5_findStand_77 : decode cX5_findStand 77 = .ok (.return_, 1) := by decide +kernel
theorem dX5_findStand_78 : decode cX5_findStand 78 = .ok (.iconst 0, 1) := by decide +kernel
theorem dX5_findStand_79 : decode cX5_findStand 79 = .ok (.istore 5, 2) := by decide +kernel
theorem dX5_findStand_81 : decode cX5_findStand 81 = .ok (.iload 5, 2) := by decide +kernel
theorem dX5_findStand_83 : decode cX5_findStand 83 = .ok (.iconst 5, 1) := by decide +kernel
theorem dX5_findStand_84 : decode cX5_findStand 84 = .ok (.if_icmp .ge 121, 3) := by decide +kernel
theorem dX5_findStand_87 : decode cX5_findStand 87 = .ok (.iload_n 1, 1) := by decide +kernel
theorem dX5_findStand_88 : decode cX5_findStand 88 = .ok (.iload 5, 2) := by decide +kernel
theorem dX5_findStand_90 : decode cX5_findStand 90 = .ok (.invokestatic 138, 3) := by decide +kernel
theorem dX5_findStand_93 : decode cX5_findStand 93 = .ok (.iadd, 1) := by decide +kernel
theorem dX5_findStand_94 : decode cX5_findStand 94 = .ok (.istore 6, 2) := by decide +kernel
theorem dX5_findStand_96 : decode cX5_findStand 96 = .ok (.iload_n 2, 1) := by decide +kernel
theorem dX5_findStand_97 : decode cX5_findStand 97 = .ok (.iload 5, 2) := by decide +kernel
theorem dX5_findStand_99 : decode cX5_findStand 99 = .ok (.invokestatic 144, 3) := by decide +kernel
theorem dX5_findStand_102 : decode cX5_findStand 102 = .ok (.iadd, 1) := by decide +kernel
theorem dX5_findStand_103 : decode cX5_findStand 103 = .ok (.istore 7, 2) := by decide +kernel
theorem dX5_findStand_105 : decode cX5_findStand 105 = .ok (.aload_n 0, 1) := by decide +kernel
theorem dX5_findStand_106 : decode cX5_findStand 106 = .ok (.iload 6, 2) := by decide +kernel
theorem dX5_findStand_108 : decode cX5_findStand 108 = .ok (.iload 7, 2) := by decide +kernel
theorem dX5_findStand_110 : decode cX5_findStand 110 = .ok (.iload_n 3, 1) := by decide +kernel
theorem dX5_findStand_111 : decode cX5_findStand 111 = .ok (.invokevirtual 148, 3) := by decide +kernel
theorem dX5_findStand_114 : decode cX5_findStand 114 = .ok (.ifCond .eq 85, 3) := by decide +kernel
theorem dX5_findStand_117 : decode cX5_findStand 117 = .ok (.bipush 8, 2) := by decide +kernel
theorem dX5_findStand_119 : decode cX5_findStand 119 = .ok (.iload 6, 2) := by decide +kernel
theorem dX5_findStand_121 : decode cX5_findStand 121 = .ok (.imul, 1) := by decide +kernel
theorem dX5_findStand_122 : decode cX5_findStand 122 = .ok (.iload 7, 2) := by decide +kernel
theorem dX5_findStand_124 : decode cX5_findStand 124 = .ok (.iadd, 1) := by decide +kernel
theorem dX5_findStand_125 : decode cX5_findStand 125 = .ok (.istore 8, 2) := by decide +kernel
theorem dX5_findStand_127 : decode cX5_findStand 127 = .ok (.aload_n 0, 1) := by decide +kernel
theorem dX5_findStand_128 : decode cX5_findStand 128 = .ok (.iload 5, 2) := by decide +kernel
theorem dX5_findStand_130 : decode cX5_findStand 130 = .ok (.iload_n 1, 1) := by decide +kernel
theorem dX5_findStand_131 : decode cX5_findStand 131 = .ok (.iload_n 2, 1) := by decide +kernel
theorem dX5_findStand_132 : decode cX5_findStand 132 = .ok (.invokevirtual 151, 3) := by decide +kernel
theorem dX5_findStand_135 : decode cX5_findStand 135 = .ok (.istore 9, 2) := by decide +kernel
theorem dX5_findStand_137 : decode cX5_findStand 137 = .ok (.aload_n 0, 1) := by decide +kernel
theorem dX5_findStand_138 : decode cX5_findStand 138 = .ok (.iload 4, 2) := by decide +kernel
theorem dX5_findStand_140 : decode cX5_findStand 140 = .ok (.iload 9, 2) := by decide +kernel
theorem dX5_findStand_142 : decode cX5_findStand 142 = .ok (.aload_n 0, 1) := by decide +kernel
theorem dX5_findStand_143 : decode cX5_findStand 143 = .ok (.getfield 43, 3) := by decide +kernel
theorem dX5_findStand_146 : decode cX5_findStand 146 = .ok (.iload 8, 2) := by decide +kernel
theorem dX5_findStand_148 : decode cX5_findStand 148 = .ok (.iaload, 1) := by decide +kernel
theorem dX5_findStand_149 : decode cX5_findStand 149 = .ok (.iadd, 1) := by decide +kernel
theorem dX5_findStand_150 : decode cX5_findStand 150 = .ok (.aload_n 0, 1) := by decide +kernel
theorem dX5_findStand_151 : decode cX5_findStand 151 = .ok (.getfield 49, 3) := by decide +kernel
theorem dX5_findStand_154 : decode cX5_findStand 154 = .ok (.iload 8, 2) := by decide +kernel
theorem dX5_findStand_156 : decode cX5_findStand 156 = .ok (.iaload, 1) := by decide +kernel
theorem dX5_findStand_157 : decode cX5_findStand 157 = .ok (.invokevirtual 155, 3) := by decide +kernel
theorem dX5_findStand_160 : decode cX5_findStand 160 = .ok (.aload_n 0, 1) := by decide +kernel
theorem dX5_findStand_161 : decode cX5_findStand 161 = .ok (.iload 4, 2) := by decide +kernel
theorem dX5_findStand_163 : decode cX5_findStand 163 = .ok (.aload_n 0, 1) := by decide +kernel
theorem dX5_findStand_164 : decode cX5_findStand 164 = .ok (.getfield 46, 3) := by decide +kernel
theorem dX5_findStand_167 : decode cX5_findStand 167 = .ok (.iload 8, 2) := by decide +kernel
theorem dX5_findStand_169 : decode cX5_findStand 169 = .ok (.iaload, 1) := by decide +kernel
theorem dX5_findStand_170 : decode cX5_findStand 170 = .ok (.aload_n 0, 1) := by decide +kernel
theorem dX5_findStand_171 : decode cX5_findStand 171 = .ok (.getfield 43, 3) := by decide +kernel
theorem dX5_findStand_174 : decode cX5_findStand 174 = .ok (.iload 8, 2) := by decide +kernel
theorem dX5_findStand_176 : decode cX5_findStand 176 = .ok (.iaload, 1) := by decide +kernel
theorem dX5_findStand_177 : decode cX5_findStand 177 = .ok (.if_icmp .ne 8, 3) := by decide +kernel
theorem dX5_findStand_180 : decode cX5_findStand 180 = .ok (.ldc 147, 2) := by decide +kernel
theorem dX5_findStand_182 : decode cX5_findStand 182 = .ok (.goto 13, 3) := by decide +kernel
theorem dX5_findStand_185 : decode cX5_findStand 185 = .ok (.iload 9, 2) := by decide +kernel
theorem dX5_findStand_187 : decode cX5_findStand 187 = .ok (.aload_n 0, 1) := by decide +kernel
theorem dX5_findStand_188 : decode cX5_findStand 188 = .ok (.getfield 46, 3) := by decide +kernel
theorem dX5_findStand_191 : decode cX5_findStand 191 = .ok (.iload 8, 2) := by decide +kernel
theorem dX5_findStand_193 : decode cX5_findStand 193 = .ok (.iaload, 1) := by decide +kernel
theorem dX5_findStand_194 : decode cX5_findStand 194 = .ok (.iadd, 1) := by decide +kernel
theorem dX5_findStand_195 : decode cX5_findStand 195 = .ok (.iconst 1, 1) := by decide +kernel
theorem dX5_findStand_196 : decode cX5_findStand 196 = .ok (.invokevirtual 155, 3) := by decide +kernel
theorem dX5_findStand_199 : decode cX5_findStand 199 = .ok (.iinc 5 1, 3) := by decide +kernel
theorem dX5_findStand_202 : decode cX5_findStand 202 = .ok (.goto (-121), 3) := by decide +kernel
theorem dX5_findStand_205 : decode cX5_findStand 205 = .ok (.aload_n 0, 1) := by decide +kernel
theorem dX5_findStand_206 : decode cX5_findStand 206 = .ok (.getfield 46, 3) := by decide +kernel
theorem dX5_findStand_209 : decode cX5_findStand 209 = .ok (.iload 4, 2) := by decide +kernel
theorem dX5_findStand_211 : decode cX5_findStand 211 = .ok (.aload_n 0, 1) := by decide +kernel
theorem dX5_findStand_212 : decode cX5_findStand 212 = .ok (.getfield 49, 3) := by decide +kernel
theorem dX5_findStand_215 : decode cX5_findStand 215 = .ok (.iload 4, 2) := by decide +kernel
theorem dX5_findStand_217 : decode cX5_findStand 217 = .ok (.iaload, 1) := by decide +kernel
theorem dX5_findStand_218 : decode cX5_findStand 218 = .ok (.iconst 1, 1) := by decide +kernel
theorem dX5_findStand_219 : decode cX5_findStand 219 = .ok (.if_icmp .le 13, 3) := by decide +kernel
theorem dX5_findStand_222 : decode cX5_findStand 222 = .ok (.aload_n 0, 1) := by decide +kernel
theorem dX5_findStand_223 : decode cX5_findStand 223 = .ok (.getfield 43, 3) := by decide +kernel
theorem dX5_findStand_226 : decode cX5_findStand 226 = .ok (.iload 4, 2) := by decide +kernel
theorem dX5_findStand_228 : decode cX5_findStand 228 = .ok (.iaload, 1) := by decide +kernel
theorem dX5_findStand_229 : decode cX5_findStand 229 = .ok (.goto 10, 3) := by decide +kernel
theorem dX5_findStand_232 : decode cX5_findStand 232 = .ok (.aload_n 0, 1) := by decide +kernel
theorem dX5_findStand_233 : decode cX5_findStand 233 = .ok (.getfield 46, 3) := by decide +kernel
theorem dX5_findStand_236 : decode cX5_findStand 236 = .ok (.iload 4, 2) := by decide +kernel
theorem dX5_findStand_238 : decode cX5_findStand 238 = .ok (.iaload, 1) := by decide +kernel
theorem dX5_findStand_239 : decode cX5_findStand 239 = .ok (.iastore, 1) := by decide +kernel
theorem dX5_findStand_240 : decode cX5_findStand 240 = .ok (.return_, 1) := by decide +kernel
theorem dX5_findAll_0 : decode cX5_findAll 0 = .ok (.aload_n 0, 1) := by decide +kernel
theorem dX5_findAll_1 : decode cX5_findAll 1 = .ok (.getfield 80, 3) := by decide +kernel
theorem dX5_findAll_4 : decode cX5_findAll 4 = .ok (.istore_n 2, 1) := by decide +kernel
theorem dX5_findAll_5 : decode cX5_findAll 5 = .ok (.iload_n 2, 1) := by decide +kernel
theorem dX5_findAll_6 : decode cX5_findAll 6 = .ok (.ifCond .lt 31, 3) := by decide +kernel
theorem dX5_findAll_9 : decode cX5_findAll 9 = .ok (.aload_n 0, 1) := by decide +kernel
theorem dX5_findAll_10 : decode cX5_findAll 10 = .ok (.getfield 83, 3) := by decide +kernel
theorem dX5_findAll_13 : decode cX5_findAll 13 = .ok (.istore_n 3, 1) := by decide +kernel
theorem dX5_findAll_14 : decode cX5_findAll 14 = .ok (.iload_n 3, 1) := by decide +kernel
theorem dX5_findAll_15 : decode cX5_findAll 15 = .ok (.ifCond .lt 16, 3) := by decide +kernel
theorem dX5_findAll_18 : decode cX5_findAll 18 = .ok (.aload_n 0, 1) := by decide +kernel
theorem dX5_findAll_19 : decode cX5_findAll 19 = .ok (.iload_n 2, 1) := by decide +kernel
theorem dX5_findAll_20 : decode cX5_findAll 20 = .ok (.iload_n 3, 1) := by decide +kernel
theorem dX5_findAll_21 : decode cX5_findAll 21 = .ok (.iload_n 1, 1) := by decide +kernel
theorem dX5_findAll_22 : decode cX5_findAll 22 = .ok (.invokevirtual 159, 3) := by decide +kernel
theorem dX5_findAll_25 : decode cX5_findAll 25 = .ok (.iinc 3 (-1), 3) := by decide +kernel
theorem dX5_findAll_28 : decode cX5_findAll 28 = .ok (.goto (-14), 3) := by decide +kernel
theorem dX5_findAll_31 : decode cX5_findAll 31 = .ok (.iinc 2 (-1), 3) := by decide +kernel
theorem dX5_findAll_34 : decode cX5_findAll 34 = .ok (.goto (-29), 3) := by decide +kernel
theorem dX5_findAll_37 : decode cX5_findAll 37 = .ok (.aload_n 0, 1) := by decide +kernel
theorem dX5_findAll_38 : decode cX5_findAll 38 = .ok (.getfield 43, 3) := by decide +kernel
theorem dX5_findAll_41 : decode cX5_findAll 41 = .ok (.iconst 0, 1) := by decide +kernel
theorem dX5_findAll_42 : decode cX5_findAll 42 = .ok (.iaload, 1) := by decide +kernel
theorem dX5_findAll_43 : decode cX5_findAll 43 = .ok (.ldc 147, 2) := by decide +kernel
theorem dX5_findAll_45 : decode cX5_findAll 45 = .ok (.if_icmp .lt 8, 3) := by decide +kernel
theorem dX5_findAll_48 : decode cX5_findAll 48 = .ok (.bipush (-9), 2) := by decide +kernel
theorem dX5_findAll_50 : decode cX5_findAll 50 = .ok (.goto 9, 3) := by decide +kernel
theorem dX5_findAll_53 : decode cX5_findAll 53 = .ok (.aload_n 0, 1) := by decide +kernel
theorem dX5_findAll_54 : decode cX5_findAll 54 = .ok (.getfield 43, 3) := by decide +kernel
theorem dX5_findAll_57 : decode cX5_findAll 57 = .ok (.iconst 0, 1) := by decide +kernel
theorem dX5_findAll_58 : decode cX5_findAll 58 = .ok (.iaload, 1) := by decide +kernel
theorem dX5_findAll_59 : decode cX5_findAll 59 = .ok (.ireturn, 1) := by decide +kernel
theorem dX5_findBest_0 : decode cX5_findBest 0 = .ok (.aload_n 0, 1) := by decide +kernel
theorem dX5_findBest_1 : decode cX5_findBest 1 = .ok (.aload_n 0, 1) := by decide +kernel
theorem dX5_findBest_2 : decode cX5_findBest 2 = .ok (.getfield 119, 3) := by decide +kernel
theorem dX5_findBest_5 : decode cX5_findBest 5 = .ok (.invokevirtual 162, 3) := by decide +kernel
theorem dX5_findBest_8 : decode cX5_findBest 8 = .ok (.istore_n 1, 1) := by decide +kernel
theorem dX5_findBest_9 : decode cX5_findBest 9 = .ok (.aload_n 0, 1) := by decide +kernel
theorem dX5_findBest_10 : decode cX5_findBest 10 = .ok (.iconst 0, 1) := by decide +kernel
theorem dX5_findBest_11 : decode cX5_findBest 11 = .ok (.putfield 165, 3) := by decide +kernel
theorem dX5_findBest_14 : decode cX5_findBest 14 = .ok (.iconst 0, 1) := by decide +kernel
theorem dX5_findBest_15 : decode cX5_findBest 15 = .ok (.istore_n 2, 1) := by decide +kernel
theorem dX5_findBest_16 : decode cX5_findBest 16 = .ok (.iconst 0, 1) := by decide +kernel
theorem dX5_findBest_17 : decode cX5_findBest 17 = .ok (.istore_n 3, 1) := by decide +kernel
theorem dX5_findBest_18 : decode cX5_findBest 18 = .ok (.iload_n 1, 1) := by decide +kernel
theorem dX5_findBest_19 : decode cX5_findBest 19 = .ok (.bipush (-9), 2) := by decide +kernel
theorem dX5_findBest_21 : decode cX5_findBest 21 = .ok (.if_icmp .eq 99, 3) := by decide +kernel
theorem dX5_findBest_24 : decode cX5_findBest 24 = .ok (.iload_n 2, 1) := by decide +kernel
theorem dX5_findBest_25 : decode cX5_findBest 25 = .ok (.aload_n 0, 1) := by decide +kernel
theorem dX5_findBest_26 : decode cX5_findBest 26 = .ok (.getfield 80, 3) := by decide +kernel
theorem dX5_findBest_29 : decode cX5_findBest 29 = .ok (.if_icmp .lt 11, 3) := by decide +kernel
theorem dX5_findBest_32 : decode cX5_findBest 32 = .ok (.iload_n 3, 1) := by decide +kernel
theorem dX5_findBest_33 : decode cX5_findBest 33 = .ok (.aload_n 0, 1) := by decide +kernel
theorem dX5_findBest_34 : decode cX5_findBest 34 = .ok (.getfield 83, 3) := by decide +kernel
theorem dX5_findBest_37 : decode cX5_findBest 37 = .ok (.if_icmp .ge 83, 3) := by decide +kernel
theorem dX5_findBest_40 : decode cX5_findBest 40 = .ok (.iconst 0, 1) := by decide +kernel
theorem dX5_findBest_41 : decode cX5_findBest 41 = .ok (.istore 4, 2) := by decide +kernel
theorem dX5_findBest_43 : decode cX5_findBest 43 = .ok (.aload_n 0, 1) := by decide +kernel
theorem dX5_findBest_44 : decode cX5_findBest 44 = .ok (.iload 4, 2) := by decide +kernel
theorem dX5_findBest_46 : decode cX5_findBest 46 = .ok (.iload_n 2, 1) := by decide +kernel
theorem dX5_findBest_47 : decode cX5_findBest 47 = .ok (.iload_n 3, 1) := by decide +kernel
theorem dX5_findBest_48 : decode cX5_findBest 48 = .ok (.invokevirtual 168, 3) := by decide +kernel
theorem dX5_findBest_51 : decode cX5_findBest 51 = .ok (.ifCond .ne 9, 3) := by decide +kernel
theorem dX5_findBest_54 : decode cX5_findBest 54 = .ok (.iinc 4 1, 3) := by decide +kernel
theorem dX5_findBest_57 : decode cX5_findBest 57 = .ok (.goto (-14), 3) := by decide +kernel
theorem dX5_findBest_60 : decode cX5_findBest 60 = .ok (.aload_n 0, 1) := by decide +kernel
theorem dX5_findBest_61 : decode cX5_findBest 61 = .ok (.getfield 52, 3) := by decide +kernel
theorem dX5_findBest_64 : decode cX5_findBest 64 = .ok (.aload_n 0, 1) := by decide +kernel
theorem dX5_findBest_65 : decode cX5_findBest 65 = .ok (.getfield 165, 3) := by decide +kernel
theorem dX5_findBest_68 : decode cX5_findBest 68 = .ok (.iload 4, 2) := by decide +kernel
theorem dX5_findBest_70 : decode cX5_findBest 70 = .ok (.iastore, 1) := by decide +kernel
theorem dX5_findBest_71 : decode cX5_findBest 71 = .ok (.aload_n 0, 1) := by decide +kernel
theorem dX5_findBest_72 : decode cX5_findBest 72 = .ok (.getfield 55, 3) := by decide +kernel
theorem dX5_findBest_75 : decode cX5_findBest 75 = .ok (.aload_n 0, 1) := by decide +kernel
theorem dX5_findBest_76 : decode cX5_findBest 76 = .ok (.getfield 165, 3) := by decide +kernel
theorem dX5_findBest_79 : decode cX5_findBest 79 = .ok (.iload_n 2, 1) := by decide +kernel
theorem dX5_findBest_80 : decode cX5_findBest 80 = .ok (.iastore, 1) := by decide +kernel
theorem dX5_findBest_81 : decode cX5_findBest 81 = .ok (.aload_n 0, 1) := by decide +kernel
theorem dX5_findBest_82 : decode cX5_findBest 82 = .ok (.getfield 58, 3) := by decide +kernel
theorem dX5_findBest_85 : decode cX5_findBest 85 = .ok (.aload_n 0, 1) := by decide +kernel
theorem dX5_findBest_86 : decode cX5_findBest 86 = .ok (.getfield 165, 3) := by decide +kernel
theorem dX5_findBest_89 : decode cX5_findBest 89 = .ok (.iload_n 3, 1) := by decide +kernel
theorem dX5_findBest_90 : decode cX5_findBest 90 = .ok (.iastore, 1) := by decide +kernel
theorem dX5_findBest_91 : decode cX5_findBest 91 = .ok (.aload_n 0, 1) := by decide +kernel
theorem dX5_findBest_92 : decode cX5_findBest 92 = .ok (.dup, 1) := by decide +kernel
theorem dX5_findBest_93 : decode cX5_findBest 93 = .ok (.getfield 165, 3) := by decide +kernel
theorem dX5_findBest_96 : decode cX5_findBest 96 = .ok (.iconst 1, 1) := by decide +kernel
theorem dX5_findBest_97 : decode cX5_findBest 97 = .ok (.iadd, 1) := by decide +kernel
theorem dX5_findBest_98 : decode cX5_findBest 98 = .ok (.putfield 165, 3) := by decide +kernel
theorem dX5_findBest_101 : decode cX5_findBest 101 = .ok (.iload_n 2, 1) := by decide +kernel
theorem dX5_findBest_102 : decode cX5_findBest 102 = .ok (.iload 4, 2) := by decide +kernel
theorem dX5_findBest_104 : decode cX5_findBest 104 = .ok (.invokestatic 138, 3) := by decide +kernel
theorem dX5_findBest_107 : decode cX5_findBest 107 = .ok (.iadd, 1) := by decide +kernel
theorem dX5_findBest_108 : decode cX5_findBest 108 = .ok (.istore_n 2, 1) := by decide +kernel
theorem dX5_findBest_109 : decode cX5_findBest 109 = .ok (.iload_n 3, 1) := by decide +kernel
theorem dX5_findBest_110 : decode cX5_findBest 110 = .ok (.iload 4, 2) := by decide +kernel
theorem dX5_findBest_112 : decode cX5_findBest 112 = .ok (.invokestatic 144, 3) := by decide +kernel
theorem dX5_findBest_115 : decode cX5_findBest 115 = .ok (.iadd, 1) := by decide +kernel
theorem dX5_findBest_116 : decode cX5_findBest 116 = .ok (.istore_n 3, 1) := by decide +kernel
theorem dX5_findBest_117 : decode cX5_findBest 117 = .ok (.goto (-99), 3) := by decide +kernel
theorem dX5_findBest_120 : decode cX5_findBest 120 = .ok (.iload_n 1, 1) := by decide +kernel
theorem dX5_findBest_121 : decode cX5_findBest 121 = .ok (.ireturn, 1) := by decide +kernel
theorem dX5_isOnBest_0 : decode cX5_isOnBest 0 = .ok (.iload_n 2, 1) := by decide +kernel
theorem dX5_isOnBest_1 : decode cX5_isOnBest 1 = .ok (.iload_n 1, 1) := by decide +kernel
theorem dX5_isOnBest_2 : decode cX5_isOnBest 2 = .ok (.invokestatic 138, 3) := by decide +kernel
theorem dX5_isOnBest_5 : decode cX5_isOnBest 5 = .ok (.iadd, 1) := by decide +kernel
theorem dX5_isOnBest_6 : decode cX5_isOnBest 6 = .ok (.istore 4, 2) := by decide +kernel
theorem dX5_isOnBest_8 : decode cX5_isOnBest 8 = .ok (.iload_n 3, 1) := by decide +kernel
theorem dX5_isOnBest_9 : decode cX5_isOnBest 9 = .ok (.iload_n 1, 1) := by decide +kernel
theorem dX5_isOnBest_10 : decode cX5_isOnBest 10 = .ok (.invokestatic 144, 3) := by decide +kernel
theorem dX5_isOnBest_13 : decode cX5_isOnBest 13 = .ok (.iadd, 1) := by decide +kernel
theorem dX5_isOnBest_14 : decode cX5_isOnBest 14 = .ok (.istore 5, 2) := by decide +kernel
theorem dX5_isOnBest_16 : decode cX5_isOnBest 16 = .ok (.aload_n 0, 1) := by decide +kernel
theorem dX5_isOnBest_17 : decode cX5_isOnBest 17 = .ok (.iload 4, 2) := by decide +kernel
theorem dX5_isOnBest_19 : decode cX5_isOnBest 19 = .ok (.iload 5, 2) := by decide +kernel
theorem dX5_isOnBest_21 : decode cX5_isOnBest 21 = .ok (.aload_n 0, 1) := by decide +kernel
theorem dX5_isOnBest_22 : decode cX5_isOnBest 22 = .ok (.getfield 119, 3) := by decide +kernel
theorem dX5_isOnBest_25 : decode cX5_isOnBest 25 = .ok (.invokevirtual 148, 3) := by decide +kernel
theorem dX5_isOnBest_28 : decode cX5_isOnBest 28 = .ok (.ifCond .eq 42, 3) := by decide +kernel
theorem dX5_isOnBest_31 : decode cX5_isOnBest 31 = .ok (.aload_n 0, 1) := by decide +kernel
theorem dX5_isOnBest_32 : decode cX5_isOnBest 32 = .ok (.iload_n 1, 1) := by decide +kernel
theorem dX5_isOnBest_33 : decode cX5_isOnBest 33 = .ok (.iload_n 2, 1) := by decide +kernel
theorem dX5_isOnBest_34 : decode cX5_isOnBest 34 = .ok (.iload_n 3, 1) := by decide +kernel
theorem dX5_isOnBest_35 : decode cX5_isOnBest 35 = .ok (.invokevirtual 151, 3) := by decide +kernel
theorem dX5_isOnBest_38 : decode cX5_isOnBest 38 = .ok (.aload_n 0, 1) := by decide +kernel
theorem dX5_isOnBest_39 : decode cX5_isOnBest 39 = .ok (.getfield 43, 3) := by decide +kernel
theorem dX5_isOnBest_42 : decode cX5_isOnBest 42 = .ok (.bipush 8, 2) := by decide +kernel
theorem dX5_isOnBest_44 : decode cX5_isOnBest 44 = .ok (.iload 4, 2) := by decide +kernel
theorem dX5_isOnBest_46 : decode cX5_isOnBest 46 = .ok (.imul, 1) := by decide +kernel
theorem dX5_isOnBest_47 : decode cX5_isOnBest 47 = .ok (.iload 5, 2) := by decide +kernel
theorem dX5_isOnBest_49 : decode cX5_isOnBest 49 = .ok (.iadd, 1) := by decide +kernel
theorem dX5_isOnBest_50 : decode cX5_isOnBest 50 = .ok (.iaload, 1) := by decide +kernel
theorem dX5_isOnBest_51 : decode cX5_isOnBest 51 = .ok (.iadd, 1) := by decide +kernel
theorem dX5_isOnBest_52 : decode cX5_isOnBest 52 = .ok (.aload_n 0, 1) := by decide +kernel
theorem dX5_isOnBest_53 : decode cX5_isOnBest 53 = .ok (.getfield 43, 3) := by decide +kernel
theorem dX5_isOnBest_56 : decode cX5_isOnBest 56 = .ok (.bipush 8, 2) := by decide +kernel
theorem dX5_isOnBest_58 : decode cX5_isOnBest 58 = .ok (.iload_n 2, 1) := by decide +kernel
theorem dX5_isOnBest_59 : decode cX5_isOnBest 59 = .ok (.imul, 1) := by decide +kernel
theorem dX5_isOnBest_60 : decode cX5_isOnBest 60 = .ok (.iload_n 3, 1) := by decide +kernel
theorem dX5_isOnBest_61 : decode cX5_isOnBest 61 = .ok (.iadd, 1) := by decide +kernel
theorem dX5_isOnBest_62 : decode cX5_isOnBest 62 = .ok (.iaload, 1) := by decide +kernel
theorem dX5_isOnBest_63 : decode cX5_isOnBest 63 = .ok (.if_icmp .ne 7, 3) := by decide +kernel
theorem dX5_isOnBest_66 : decode cX5_isOnBest 66 = .ok (.iconst 1, 1) := by decide +kernel
theorem dX5_isOnBest_67 : decode cX5_isOnBest 67 = .ok (.goto 4, 3) := by decide +kernel
theorem dX5_isOnBest_70 : decode cX5_isOnBest 70 = .ok (.iconst 0, 1) := by decide +kernel
theorem dX5_isOnBest_71 : decode cX5_isOnBest 71 = .ok (.ireturn, 1) := by decide +kernel
theorem dX5_pairedWith_0 : decode cX5_pairedWith 0 = .ok (.iconst 0, 1) := by decide +kernel
theorem dX5_pairedWith_1 : decode cX5_pairedWith 1 = .ok (.istore_n 3, 1) := by decide +kernel
theorem dX5_pairedWith_2 : decode cX5_pairedWith 2 = .ok (.iconst 0, 1) := by decide +kernel
theorem dX5_pairedWith_3 : decode cX5_pairedWith 3 = .ok (.istore 4, 2) := by decide +kernel
theorem dX5_pairedWith_5 : decode cX5_pairedWith 5 = .ok (.iload 4, 2) := by decide +kernel
theorem dX5_pairedWith_7 : decode cX5_pairedWith 7 = .ok (.aload_n 0, 1) := by decide +kernel
theorem dX5_pairedWith_8 : decode cX5_pairedWith 8 = .ok (.getfield 165, 3) := by decide +kernel
theorem dX5_pairedWith_11 : decode cX5_pairedWith 11 = .ok (.if_icmp .ge 144, 3) := by decide +kernel
theorem dX5_pairedWith_14 : decode cX5_pairedWith 14 = .ok (.iload_n 1, 1) := by decide +kernel
theorem dX5_pairedWith_15 : decode cX5_pairedWith 15 = .ok (.ifCond .ne 13, 3) := by decide +kernel
theorem dX5_pairedWith_18 : decode cX5_pairedWith 18 = .ok (.aload_n 0, 1) := by decide +kernel
theorem dX5_pairedWith_19 : decode cX5_pairedWith 19 = .ok (.getfield 55, 3) := by decide +kernel
theorem dX5_pairedWith_22 : decode cX5_pairedWith 22 = .ok (.iload 4, 2) := by decide +kernel
theorem dX5_pairedWith_24 : decode cX5_pairedWith 24 = .ok (.iaload, 1) := by decide +kernel
theorem dX5_pairedWith_25 : decode cX5_pairedWith 25 = .ok (.goto 10, 3) := by decide +kernel
theorem dX5_pairedWith_28 : decode cX5_pairedWith 28 = .ok (.aload_n 0, 1) := by decide +kernel
theorem dX5_pairedWith_29 : decode cX5_pairedWith 29 = .ok (.getfield 58, 3) := by decide +kernel
theorem dX5_pairedWith_32 : decode cX5_pairedWith 32 = .ok (.iload 4, 2) := by decide +kernel
theorem dX5_pairedWith_34 : decode cX5_pairedWith 34 = .ok (.iaload, 1) := by decide +kernel
theorem dX5_pairedWith_35 : decode cX5_pairedWith 35 = .ok (.istore 5, 2) := by decide +kernel
theorem dX5_pairedWith_37 : decode cX5_pairedWith 37 = .ok (.iload_n 1, 1) := by decide +kernel
theorem dX5_pairedWith_38 : decode cX5_pairedWith 38 = .ok (.ifCond .ne 16, 3) := by decide +kernel
theorem dX5_pairedWith_41 : decode cX5_pairedWith 41 = .ok (.aload_n 0, 1) := by decide +kernel
theorem dX5_pairedWith_42 : decode cX5_pairedWith 42 = .ok (.getfield 52, 3) := by decide +kernel
theorem dX5_pairedWith_45 : decode cX5_pairedWith 45 = .ok (.iload 4, 2) := by decide +kernel
theorem dX5_pairedWith_47 : decode cX5_pairedWith 47 = .ok (.iaload, 1) := by decide +kernel
theorem dX5_pairedWith_48 : decode cX5_pairedWith 48 = .ok (.invokestatic 138, 3) := by decide +kernel
theorem dX5_pairedWith_51 : decode cX5_pairedWith 51 = .ok (.goto 13, 3) := by decide +kernel
theorem dX5_pairedWith_54 : decode cX5_pairedWith 54 = .ok (.aload_n 0, 1) := by decide +kernel
theorem dX5_pairedWith_55 : decode cX5_pairedWith 55 = .ok (.getfield 52, 3) := by decide +kernel
theorem dX5_pairedWith_58 : decode cX5_pairedWith 58 = .ok (.iload 4, 2) := by decide +kernel
theorem dX5_pairedWith_60 : decode cX5_pairedWith 60 = .ok (.iaload, 1) := by decide +kernel
theorem dX5_pairedWith_61 : decode cX5_pairedWith 61 = .ok (.invokestatic 144, 3) := by decide +kernel
theorem dX5_pairedWith_64 : decode cX5_pairedWith 64 = .ok (.istore 6, 2) := by decide +kernel
theorem dX5_pairedWith_66 : decode cX5_pairedWith 66 = .ok (.iload_n 1, 1) := by decide +kernel
theorem dX5_pairedWith_67 : decode cX5_pairedWith 67 = .ok (.ifCond .ne 13, 3) := by decide +kernel
theorem dX5_pairedWith_70 : decode cX5_pairedWith 70 = .ok (.aload_n 0, 1) := by decide +kernel
theorem dX5_pairedWith_71 : decode cX5_pairedWith 71 = .ok (.getfield 58, 3) := by decide +kernel
theorem dX5_pairedWith_74 : decode cX5_pairedWith 74 = .ok (.iload 4, 2) := by decide +kernel
theorem dX5_pairedWith_76 : decode cX5_pairedWith 76 = .ok (.iaload, 1) := by decide +kernel
theorem dX5_pairedWith_77 : decode cX5_pairedWith 77 = .ok (.goto 10, 3) := by decide +kernel
theorem dX5_pairedWith_80 : decode cX5_pairedWith 80 = .ok (.aload_n 0, 1) := by decide +kernel
theorem dX5_pairedWith_81 : decode cX5_pairedWith 81 = .ok (.getfield 55, 3) := by decide +kernel
theorem dX5_pairedWith_84 : decode cX5_pairedWith 84 = .ok (.iload 4, 2) := by decide +kernel
theorem dX5_pairedWith_86 : decode cX5_pairedWith 86 = .ok (.iaload, 1) := by decide +kernel
theorem dX5_pairedWith_87 : decode cX5_pairedWith 87 = .ok (.istore 7, 2) := by decide +kernel
theorem dX5_pairedWith_89 : decode cX5_pairedWith 89 = .ok (.iload_n 1, 1) := by decide +kernel
theorem dX5_pairedWith_90 : decode cX5_pairedWith 90 = .ok (.ifCond .ne 16, 3) := by decide +kernel
theorem dX5_pairedWith_93 : decode cX5_pairedWith 93 = .ok (.aload_n 0, 1) := by decide +kernel
theorem dX5_pairedWith_94 : decode cX5_pairedWith 94 = .ok (.getfield 52, 3) := by decide +kernel
theorem dX5_pairedWith_97 : decode cX5_pairedWith 97 = .ok (.iload 4, 2) := by decide +kernel
theorem dX5_pairedWith_99 : decode cX5_pairedWith 99 = .ok (.iaload, 1) := by decide +kernel
theorem dX5_pairedWith_100 : decode cX5_pairedWith 100 = .ok (.invokestatic 144, 3) := by decide +kernel
theorem dX5_pairedWith_103 : decode cX5_pairedWith 103 = .ok (.goto 13, 3) := by decide +kernel
theorem dX5_pairedWith_106 : decode cX5_pairedWith 106 = .ok (.aload_n 0, 1) := by decide +kernel
theorem dX5_pairedWith_107 : decode cX5_pairedWith 107 = .ok (.getfield 52, 3) := by decide +kernel
theorem dX5_pairedWith_110 : decode cX5_pairedWith 110 = .ok (.iload 4, 2) := by decide +kernel
theorem dX5_pairedWith_112 : decode cX5_pairedWith 112 = .ok (.iaload, 1) := by decide +kernel
theorem dX5_pairedWith_113 : decode cX5_pairedWith 113 = .ok (.invokestatic 138, 3) := by decide +kernel
theorem dX5_pairedWith_116 : decode cX5_pairedWith 116 = .ok (.istore 8, 2) := by decide +kernel
theorem dX5_pairedWith_118 : decode cX5_pairedWith 118 = .ok (.iload_n 3, 1) := by decide +kernel
theorem dX5_pairedWith_119 : decode cX5_pairedWith 119 = .ok (.iload_n 2, 1) := by decide +kernel
theorem dX5_pairedWith_120 : decode cX5_pairedWith 120 = .ok (.iload 5, 2) := by decide +kernel
theorem dX5_pairedWith_122 : decode cX5_pairedWith 122 = .ok (.if_icmp .lt 24, 3) := by decide +kernel
theorem dX5_pairedWith_125 : decode cX5_pairedWith 125 = .ok (.iload_n 2, 1) := by decide +kernel
theorem dX5_pairedWith_126 : decode cX5_pairedWith 126 = .ok (.iload 5, 2) := by decide +kernel
theorem dX5_pairedWith_128 : decode cX5_pairedWith 128 = .ok (.iload 6, 2) := by decide +kernel
theorem dX5_pairedWith_130 : decode cX5_pairedWith 130 = .ok (.iadd, 1) := by decide +kernel
theorem dX5_pairedWith_131 : decode cX5_pairedWith 131 = .ok (.if_icmp .ge 15, 3) := by decide +kernel
theorem dX5_pairedWith_134 : decode cX5_pairedWith 134 = .ok (.iconst 1, 1) := by decide +kernel
theorem dX5_pairedWith_135 : decode cX5_pairedWith 135 = .ok (.iload 8, 2) := by decide +kernel
theorem dX5_pairedWith_137 : decode cX5_pairedWith 137 = .ok (.ishl, 1) := by decide +kernel
theorem dX5_pairedWith_138 : decode cX5_pairedWith 138 = .ok (.iconst 1, 1) := by decide +kernel
theorem dX5_pairedWith_139 : decode cX5_pairedWith 139 = .ok (.isub, 1) := by decide +kernel
theorem dX5_pairedWith_140 : decode cX5_pairedWith 140 = .ok (.iload 7, 2) := by decide +kernel
theorem dX5_pairedWith_142 : decode cX5_pairedWith 142 = .ok (.ishl, 1) := by decide +kernel
theorem dX5_pairedWith_143 : decode cX5_pairedWith 143 = .ok (.goto 4, 3) := by decide +kernel
theorem dX5_pairedWith_146 : decode cX5_pairedWith 146 = .ok (.iconst 0, 1) := by decide +kernel
theorem dX5_pairedWith_147 : decode cX5_pairedWith 147 = .ok (.ior, 1) := by decide +kernel
theorem dX5_pairedWith_148 : decode cX5_pairedWith 148 = .ok (.istore_n 3, 1) := by decide +kernel
theorem dX5_pairedWith_149 : decode cX5_pairedWith 149 = .ok (.iinc 4 1, 3) := by decide +kernel
theorem dX5_pairedWith_152 : decode cX5_pairedWith 152 = .ok (.goto (-147), 3) := by decide +kernel
theorem dX5_pairedWith_155 : decode cX5_pairedWith 155 = .ok (.iload_n 3, 1) := by decide +kernel
theorem dX5_pairedWith_156 : decode cX5_pairedWith 156 = .ok (.ireturn, 1) := by decide +kernel
theorem dX5_ofLeft_0 : decode cX5_ofLeft 0 = .ok (.aload_n 0, 1) := by decide +kernel
theorem dX5_ofLeft_1 : decode cX5_ofLeft 1 = .ok (.iload_n 1, 1) := by decide +kernel
theorem dX5_ofLeft_2 : decode cX5_ofLeft 2 = .ok (.invokevirtual 171, 3) := by decide +kernel
theorem dX5_ofLeft_5 : decode cX5_ofLeft 5 = .ok (.ifCond .ne 5, 3) := by decide +kernel
theorem dX5_ofLeft_8 : decode cX5_ofLeft 8 = .ok (.iconst (-1), 1) := by decide +kernel
theorem dX5_ofLeft_9 : decode cX5_ofLeft 9 = .ok (.ireturn, 1) := by decide +kernel
theorem dX5_ofLeft_10 : decode cX5_ofLeft 10 = .ok (.iload_n 2, 1) := by decide +kernel
theorem dX5_ofLeft_11 : decode cX5_ofLeft 11 = .ok (.tableswitch 72 0 4 #[33, 40, 47, 53, 60], 33) := by decide +kernel
theorem dX5_ofLeft_44 : decode cX5_ofLeft 44 = .ok (.aload_n 0, 1) := by decide +kernel
theorem dX5_ofLeft_45 : decode cX5_ofLeft 45 = .ok (.getfield 19, 3) := by decide +kernel
theorem dX5_ofLeft_48 : decode cX5_ofLeft 48 = .ok (.iload_n 1, 1) := by decide +kernel
theorem dX5_ofLeft_49 : decode cX5_ofLeft 49 = .ok (.iaload, 1) := by decide +kernel
theorem dX5_ofLeft_50 : decode cX5_ofLeft 50 = .ok (.ireturn, 1) := by decide +kernel
theorem dX5_ofLeft_51 : decode cX5_ofLeft 51 = .ok (.aload_n 0, 1) := by decide +kernel
theorem dX5_ofLeft_52 : decode cX5_ofLeft 52 = .ok (.getfield 22, 3) := by decide +kernel
theorem dX5_ofLeft_55 : decode cX5_ofLeft 55 = .ok (.iload_n 1, 1) := by decide +kernel
theorem dX5_ofLeft_56 : decode cX5_ofLeft 56 = .ok (.iaload, 1) := by decide +kernel
theorem dX5_ofLeft_57 : decode cX5_ofLeft 57 = .ok (.ireturn, 1) := by decide +kernel
theorem dX5_ofLeft_58 : decode cX5_ofLeft 58 = .ok (.aload_n 0, 1) := by decide +kernel
theorem dX5_ofLeft_59 : decode cX5_ofLeft 59 = .ok (.iload_n 1, 1) := by decide +kernel
theorem dX5_ofLeft_60 : decode cX5_ofLeft 60 = .ok (.invokevirtual 135, 3) := by decide +kernel
theorem dX5_ofLeft_63 : decode cX5_ofLeft 63 = .ok (.ireturn, 1) := by decide +kernel
theorem dX5_ofLeft_64 : decode cX5_ofLeft 64 = .ok (.aload_n 0, 1) := by decide +kernel
theorem dX5_ofLeft_65 : decode cX5_ofLeft 65 = .ok (.getfield 25, 3) := by decide +kernel
theorem dX5_ofLeft_68 : decode cX5_ofLeft 68 = .ok (.iload_n 1, 1) := by decide +kernel
theorem dX5_ofLeft_69 : decode cX5_ofLeft 69 = .ok (.iaload, 1) := by decide +kernel
theorem dX5_ofLeft_70 : decode cX5_ofLeft 70 = .ok (.ireturn, 1) := by decide +kernel
theorem dX5_ofLeft_71 : decode cX5_ofLeft 71 = .ok (.aload_n 0, 1) := by decide +kernel
theorem dX5_ofLeft_72 : decode cX5_ofLeft 72 = .ok (.invokevirtual 174, 3) := by decide +kernel
theorem dX5_ofLeft_75 : decode cX5_ofLeft 75 = .ok (.pop, 1) := by decide +kernel
theorem dX5_ofLeft_76 : decode cX5_ofLeft 76 = .ok (.aload_n 0, 1) := by decide +kernel
theorem dX5_ofLeft_77 : decode cX5_ofLeft 77 = .ok (.iconst 0, 1) := by decide +kernel
theorem dX5_ofLeft_78 : decode cX5_ofLeft 78 = .ok (.iload_n 1, 1) := by decide +kernel
theorem dX5_ofLeft_79 : decode cX5_ofLeft 79 = .ok (.invokevirtual 178, 3) := by decide +kernel
theorem dX5_ofLeft_82 : decode cX5_ofLeft 82 = .ok (.ireturn, 1) := by decide +kernel
theorem dX5_ofLeft_83 : decode cX5_ofLeft 83 = .ok (.bipush (-2), 2) := by decide +kernel
theorem dX5_ofLeft_85 : decode cX5_ofLeft 85 = .ok (.ireturn, 1) := by decide +kernel
theorem dX5_ofRight_0 : decode cX5_ofRight 0 = .ok (.aload_n 0, 1) := by decide +kernel
theorem dX5_ofRight_1 : decode cX5_ofRight 1 = .ok (.iload_n 1, 1) := by decide +kernel
theorem dX5_ofRight_2 : decode cX5_ofRight 2 = .ok (.invokevirtual 182, 3) := by decide +kernel
theorem dX5_ofRight_5 : decode cX5_ofRight 5 = .ok (.ifCond .ne 5, 3) := by decide +kernel
theorem dX5_ofRight_8 : decode cX5_ofRight 8 = .ok (.iconst (-1), 1) := by decide +kernel
theorem dX5_ofRight_9 : decode cX5_ofRight 9 = .ok (.ireturn, 1) := by decide +kernel
theorem dX5_ofRight_10 : decode cX5_ofRight 10 = .ok (.iload_n 2, 1) := by decide +kernel
theorem dX5_ofRight_11 : decode cX5_ofRight 11 = .ok (.iconst 2, 1) := by decide +kernel
theorem dX5_ofRight_12 : decode cX5_ofRight 12 = .ok (.if_icmp .ne 15, 3) := by decide +kernel
theorem dX5_ofRight_15 : decode cX5_ofRight 15 = .ok (.aload_n 0, 1) := by decide +kernel
theorem dX5_ofRight_16 : decode cX5_ofRight 16 = .ok (.invokevirtual 174, 3) := by decide +kernel
theorem dX5_ofRight_19 : decode cX5_ofRight 19 = .ok (.pop, 1) := by decide +kernel
theorem dX5_ofRight_20 : decode cX5_ofRight 20 = .ok (.aload_n 0, 1) := by decide +kernel
theorem dX5_ofRight_21 : decode cX5_ofRight 21 = .ok (.iconst 1, 1) := by decide +kernel
theorem dX5_ofRight_22 : decode cX5_ofRight 22 = .ok (.iload_n 1, 1) := by decide +kernel
theorem dX5_ofRight_23 : decode cX5_ofRight 23 = .ok (.invokevirtual 178, 3) := by decide +kernel
theorem dX5_ofRight_26 : decode cX5_ofRight 26 = .ok (.ireturn, 1) := by decide +kernel
theorem dX5_ofRight_27 : decode cX5_ofRight 27 = .ok (.iload_n 2, 1) := by decide +kernel
theorem dX5_ofRight_28 : decode cX5_ofRight 28 = .ok (.ifCond .ne 12, 3) := by decide +kernel
theorem dX5_ofRight_31 : decode cX5_ofRight 31 = .ok (.aload_n 0, 1) := by decide +kernel
theorem dX5_ofRight_32 : decode cX5_ofRight 32 = .ok (.getfield 28, 3) := by decide +kernel
theorem dX5_ofRight_35 : decode cX5_ofRight 35 = .ok (.iload_n 1, 1) := by decide +kernel
theorem dX5_ofRight_36 : decode cX5_ofRight 36 = .ok (.iaload, 1) := by decide +kernel
theorem dX5_ofRight_37 : decode cX5_ofRight 37 = .ok (.goto 19, 3) := by decide +kernel
theorem dX5_ofRight_40 : decode cX5_ofRight 40 = .ok (.iload_n 2, 1) := by decide +kernel
theorem dX5_ofRight_41 : decode cX5_ofRight 41 = .ok (.iconst 1, 1) := by decide +kernel
theorem dX5_ofRight_42 : decode cX5_ofRight 42 = .ok (.if_icmp .ne 12, 3) := by decide +kernel
theorem dX5_ofRight_45 : decode cX5_ofRight 45 = .ok (.aload_n 0, 1) := by decide +kernel
theorem dX5_ofRight_46 : decode cX5_ofRight 46 = .ok (.getfield 31, 3) := by decide +kernel
theorem dX5_ofRight_49 : decode cX5_ofRight 49 = .ok (.iload_n 1, 1) := by decide +kernel
theorem dX5_ofRight_50 : decode cX5_ofRight 50 = .ok (.iaload, 1) := by decide +kernel
theorem dX5_ofRight_51 : decode cX5_ofRight 51 = .ok (.goto 5, 3) := by decide +kernel
theorem dX5_ofRight_54 : decode cX5_ofRight 54 = .ok (.bipush (-2), 2) := by decide +kernel
theorem dX5_ofRight_56 : decode cX5_ofRight 56 = .ok (.ireturn, 1) := by decide +kernel
theorem dX5_letters_0 : decode cX5_letters 0 = .ok (.iload_n 1, 1) := by decide +kernel
theorem dX5_letters_1 : decode cX5_letters 1 = .ok (.iconst 0, 1) := by decide +kernel
theorem dX5_letters_2 : decode cX5_letters 2 = .ok (.iconst 1, 1) := by decide +kernel
theorem dX5_letters_3 : decode cX5_letters 3 = .ok (.invokestatic 76, 3) := by decide +kernel
theorem dX5_letters_6 : decode cX5_letters 6 = .ok (.ifCond .ne 6, 3) := by decide +kernel
theorem dX5_letters_9 : decode cX5_letters 9 = .ok (.bipush (-2), 2) := by decide +kernel
theorem dX5_letters_11 : decode cX5_letters 11 = .ok (.ireturn, 1) := by decide +kernel
theorem dX5_letters_12 : decode cX5_letters 12 = .ok (.iload_n 1, 1) := by decide +kernel
theorem dX5_letters_13 : decode cX5_letters 13 = .ok (.ifCond .ne 14, 3) := by decide +kernel
theorem dX5_letters_16 : decode cX5_letters 16 = .ok (.aload_n 0, 1) := by decide +kernel
theorem dX5_letters_17 : decode cX5_letters 17 = .ok (.iload_n 2, 1) := by decide +kernel
theorem dX5_letters_18 : decode cX5_letters 18 = .ok (.invokevirtual 171, 3) := by decide +kernel
theorem dX5_letters_21 : decode cX5_letters 21 = .ok (.ifCond .ne 16, 3) := by decide +kernel
theorem dX5_letters_24 : decode cX5_letters 24 = .ok (.goto 11, 3) := by decide +kernel
theorem dX5_letters_27 : decode cX5_letters 27 = .ok (.aload_n 0, 1) := by decide +kernel
theorem dX5_letters_28 : decode cX5_letters 28 = .ok (.iload_n 2, 1) := by decide +kernel
theorem dX5_letters_29 : decode cX5_letters 29 = .ok (.invokevirtual 182, 3) := by decide +kernel
theorem dX5_letters_32 : decode cX5_letters 32 = .ok (.ifCond .ne 5, 3) := by decide +kernel
theorem dX5_letters_35 : decode cX5_letters 35 = .ok (.iconst (-1), 1) := by decide +kernel
theorem dX5_letters_36 : decode cX5_letters 36 = .ok (.ireturn, 1) := by decide +kernel
theorem dX5_letters_37 : decode cX5_letters 37 = .ok (.iload_n 3, 1) := by decide +kernel
theorem dX5_letters_38 : decode cX5_letters 38 = .ok (.iconst 1, 1) := by decide +kernel
theorem dX5_letters_39 : decode cX5_letters 39 = .ok (.bipush 9, 2) := by decide +kernel
theorem dX5_letters_41 : decode cX5_letters 41 = .ok (.invokestatic 76, 3) := by decide +kernel
theorem dX5_letters_44 : decode cX5_letters 44 = .ok (.ifCond .ne 6, 3) := by decide +kernel
theorem dX5_letters_47 : decode cX5_letters 47 = .ok (.bipush (-2), 2) := by decide +kernel
theorem dX5_letters_49 : decode cX5_letters 49 = .ok (.ireturn, 1) := by decide +kernel
theorem dX5_letters_50 : decode cX5_letters 50 = .ok (.iload_n 1, 1) := by decide +kernel
theorem dX5_letters_51 : decode cX5_letters 51 = .ok (.ifCond .ne 12, 3) := by decide +kernel
theorem dX5_letters_54 : decode cX5_letters 54 = .ok (.aload_n 0, 1) := by decide +kernel
theorem dX5_letters_55 : decode cX5_letters 55 = .ok (.getfield 22, 3) := by decide +kernel
theorem dX5_letters_58 : decode cX5_letters 58 = .ok (.iload_n 2, 1) := by decide +kernel
theorem dX5_letters_59 : decode cX5_letters 59 = .ok (.iaload, 1) := by decide +kernel
theorem dX5_letters_60 : decode cX5_letters 60 = .ok (.goto 9, 3) := by decide +kernel
theorem dX5_letters_63 : decode cX5_letters 63 = .ok (.aload_n 0, 1) := by decide +kernel
theorem dX5_letters_64 : decode cX5_letters 64 = .ok (.getfield 28, 3) := by decide +kernel
theorem dX5_letters_67 : decode cX5_letters 67 = .ok (.iload_n 2, 1) := by decide +kernel
theorem dX5_letters_68 : decode cX5_letters 68 = .ok (.iaload, 1) := by decide +kernel
theorem dX5_letters_69 : decode cX5_letters 69 = .ok (.istore 4, 2) := by decide +kernel
theorem dX5_letters_71 : decode cX5_letters 71 = .ok (.iload_n 1, 1) := by decide +kernel
theorem dX5_letters_72 : decode cX5_letters 72 = .ok (.ifCond .ne 13, 3) := by decide +kernel
theorem dX5_letters_75 : decode cX5_letters 75 = .ok (.aload_n 0, 1) := by decide +kernel
theorem dX5_letters_76 : decode cX5_letters 76 = .ok (.getfield 22, 3) := by decide +kernel
theorem dX5_letters_79 : decode cX5_letters 79 = .ok (.iload_n 2, 1) := by decide +kernel
theorem dX5_letters_80 : decode cX5_letters 80 = .ok (.iload_n 3, 1) := by decide +kernel
theorem dX5_letters_81 : decode cX5_letters 81 = .ok (.iastore, 1) := by decide +kernel
theorem dX5_letters_82 : decode cX5_letters 82 = .ok (.goto 10, 3) := by decide +kernel
theorem dX5_letters_85 : decode cX5_letters 85 = .ok (.aload_n 0, 1) := by decide +kernel
theorem dX5_letters_86 : decode cX5_letters 86 = .ok (.getfield 28, 3) := by decide +kernel
theorem dX5_letters_89 : decode cX5_letters 89 = .ok (.iload_n 2, 1) := by decide +kernel
theorem dX5_letters_90 : decode cX5_letters 90 = .ok (.iload_n 3, 1) := by decide +kernel
theorem dX5_letters_91 : decode cX5_letters 91 = .ok (.iastore, 1) := by decide +kernel
theorem dX5_letters_92 : decode cX5_letters 92 = .ok (.iload 4, 2) := by decide +kernel
theorem dX5_letters_94 : decode cX5_letters 94 = .ok (.ireturn, 1) := by decide +kernel
theorem dX5_price_0 : decode cX5_price 0 = .ok (.iload_n 1, 1) := by decide +kernel
theorem dX5_price_1 : decode cX5_price 1 = .ok (.iconst 0, 1) := by decide +kernel
theorem dX5_price_2 : decode cX5_price 2 = .ok (.iconst 2, 1) := by decide +kernel
theorem dX5_price_3 : decode cX5_price 3 = .ok (.invokestatic 76, 3) := by decide +kernel
theorem dX5_price_6 : decode cX5_price 6 = .ok (.ifCond .ne 6, 3) := by decide +kernel
theorem dX5_price_9 : decode cX5_price 9 = .ok (.bipush (-2), 2) := by decide +kernel
theorem dX5_price_11 : decode cX5_price 11 = .ok (.ireturn, 1) := by decide +kernel
theorem dX5_price_12 : decode cX5_price 12 = .ok (.aload_n 0, 1) := by decide +kernel
theorem dX5_price_13 : decode cX5_price 13 = .ok (.getfield 80, 3) := by decide +kernel
theorem dX5_price_16 : decode cX5_price 16 = .ok (.ifCond .ne 6, 3) := by decide +kernel
theorem dX5_price_19 : decode cX5_price 19 = .ok (.bipush (-3), 2) := by decide +kernel
theorem dX5_price_21 : decode cX5_price 21 = .ok (.ireturn, 1) := by decide +kernel
theorem dX5_price_22 : decode cX5_price 22 = .ok (.iload_n 2, 1) := by decide +kernel
theorem dX5_price_23 : decode cX5_price 23 = .ok (.iconst 0, 1) := by decide +kernel
theorem dX5_price_24 : decode cX5_price 24 = .ok (.iload_n 1, 1) := by decide +kernel
theorem dX5_price_25 : decode cX5_price 25 = .ok (.iconst 2, 1) := by decide +kernel
theorem dX5_price_26 : decode cX5_price 26 = .ok (.if_icmp .ne 8, 3) := by decide +kernel
theorem dX5_price_29 : decode cX5_price 29 = .ok (.bipush 7, 2) := by decide +kernel
theorem dX5_price_31 : decode cX5_price 31 = .ok (.goto 5, 3) := by decide +kernel
theorem dX5_price_34 : decode cX5_price 34 = .ok (.bipush 9, 2) := by decide +kernel
theorem dX5_price_36 : decode cX5_price 36 = .ok (.invokestatic 76, 3) := by decide +kernel
theorem dX5_price_39 : decode cX5_price 39 = .ok (.ifCond .ne 6, 3) := by decide +kernel
theorem dX5_price_42 : decode cX5_price 42 = .ok (.bipush (-2), 2) := by decide +kernel
theorem dX5_price_44 : decode cX5_price 44 = .ok (.ireturn, 1) := by decide +kernel
theorem dX5_price_45 : decode cX5_price 45 = .ok (.iload_n 1, 1) := by decide +kernel
theorem dX5_price_46 : decode cX5_price 46 = .ok (.ifCond .ne 10, 3) := by decide +kernel
theorem dX5_price_49 : decode cX5_price 49 = .ok (.aload_n 0, 1) := by decide +kernel
theorem dX5_price_50 : decode cX5_price 50 = .ok (.getfield 113, 3) := by decide +kernel
theorem dX5_price_53 : decode cX5_price 53 = .ok (.goto 19, 3) := by decide +kernel
theorem dX5_price_56 : decode cX5_price 56 = .ok (.iload_n 1, 1) := by decide +kernel
theorem dX5_price_57 : decode cX5_price 57 = .ok (.iconst 1, 1) := by decide +kernel
theorem dX5_price_58 : decode cX5_price 58 = .ok (.if_icmp .ne 10, 3) := by decide +kernel
theorem dX5_price_61 : decode cX5_price 61 = .ok (.aload_n 0, 1) := by decide +kernel
theorem dX5_price_62 : decode cX5_price 62 = .ok (.getfield 116, 3) := by decide +kernel
theorem dX5_price_65 : decode cX5_price 65 = .ok (.goto 7, 3) := by decide +kernel
theorem dX5_price_68 : decode cX5_price 68 = .ok (.aload_n 0, 1) := by decide +kernel
theorem dX5_price_69 : decode cX5_price 69 = .ok (.getfield 119, 3) := by decide +kernel
theorem dX5_price_72 : decode cX5_price 72 = .ok (.istore_n 3, 1) := by decide +kernel
theorem dX5_price_73 : decode cX5_price 73 = .ok (.aload_n 0, 1) := by decide +kernel
theorem dX5_price_74 : decode cX5_price 74 = .ok (.iload_n 1, 1) := by decide +kernel
theorem dX5_price_75 : decode cX5_price 75 = .ok (.ifCond .ne 7, 3) := by decide +kernel
theorem dX5_price_78 : decode cX5_price 78 = .ok (.iload_n 2, 1) := by decide +kernel
theorem dX5_price_79 : decode cX5_price 79 = .ok (.goto 7, 3) := by decide +kernel
theorem dX5_price_82 : decode cX5_price 82 = .ok (.aload_n 0, 1) := by decide +kernel
theorem dX5_price_83 : decode cX5_price 83 = .ok (.getfield 113, 3) := by decide +kernel
theorem dX5_price_86 : decode cX5_price 86 = .ok (.putfield 113, 3) := by decide +kernel
theorem dX5_price_89 : decode cX5_price 89 = .ok (.aload_n 0, 1) := by decide +kernel
theorem dX5_price_90 : decode cX5_price 90 = .ok (.iload_n 1, 1) := by decide +kernel
theorem dX5_price_91 : decode cX5_price 91 = .ok (.iconst 1, 1) := by decide +kernel
theorem dX5_price_92 : decode cX5_price 92 = .ok (.if_icmp .ne 7, 3) := by decide +kernel
theorem dX5_price_95 : decode cX5_price 95 = .ok (.iload_n 2, 1) := by decide +kernel
theorem dX5_price_96 : decode cX5_price 96 = .ok (.goto 7, 3) := by decide +kernel
theorem dX5_price_99 : decode cX5_price 99 = .ok (.aload_n 0, 1) := by decide +kernel
theorem dX5_price_100 : decode cX5_price 100 = .ok (.getfield 116, 3) := by decide +kernel
theorem dX5_price_103 : decode cX5_price 103 = .ok (.putfield 116, 3) := by decide +kernel
theorem dX5_price_106 : decode cX5_price 106 = .ok (.aload_n 0, 1) := by decide +kernel
theorem dX5_price_107 : decode cX5_price 107 = .ok (.iload_n 1, 1) := by decide +kernel
theorem dX5_price_108 : decode cX5_price 108 = .ok (.iconst 2, 1) := by decide +kernel
theorem dX5_price_109 : decode cX5_price 109 = .ok (.if_icmp .ne 7, 3) := by decide +kernel
theorem dX5_price_112 : decode cX5_price 112 = .ok (.iload_n 2, 1) := by decide +kernel
theorem dX5_price_113 : decode cX5_price 113 = .ok (.goto 7, 3) := by decide +kernel
theorem dX5_price_116 : decode cX5_price 116 = .ok (.aload_n 0, 1) := by decide +kernel
theorem dX5_price_117 : decode cX5_price 117 = .ok (.getfield 119, 3) := by decide +kernel
theorem dX5_price_120 : decode cX5_price 120 = .ok (.putfield 119, 3) := by decide +kernel
theorem dX5_price_123 : decode cX5_price 123 = .ok (.iload_n 3, 1) := by decide +kernel
theorem dX5_price_124 : decode cX5_price 124 = .ok (.ireturn, 1) := by decide +kernel
theorem dX5_goesUp_0 : decode cX5_goesUp 0 = .ok (.aload_n 0, 1) := by decide +kernel
theorem dX5_goesUp_1 : decode cX5_goesUp 1 = .ok (.getfield 28, 3) := by decide +kernel
theorem dX5_goesUp_4 : decode cX5_goesUp 4 = .ok (.iload_n 1, 1) := by decide +kernel
theorem dX5_goesUp_5 : decode cX5_goesUp 5 = .ok (.iaload, 1) := by decide +kernel
theorem dX5_goesUp_6 : decode cX5_goesUp 6 = .ok (.istore_n 2, 1) := by decide +kernel
theorem dX5_goesUp_7 : decode cX5_goesUp 7 = .ok (.aload_n 0, 1) := by decide +kernel
theorem dX5_goesUp_8 : decode cX5_goesUp 8 = .ok (.getfield 31, 3) := by decide +kernel
theorem dX5_goesUp_11 : decode cX5_goesUp 11 = .ok (.iload_n 1, 1) := by decide +kernel
theorem dX5_goesUp_12 : decode cX5_goesUp 12 = .ok (.iaload, 1) := by decide +kernel
theorem dX5_goesUp_13 : decode cX5_goesUp 13 = .ok (.istore_n 3, 1) := by decide +kernel
theorem dX5_goesUp_14 : decode cX5_goesUp 14 = .ok (.aload_n 0, 1) := by decide +kernel
theorem dX5_goesUp_15 : decode cX5_goesUp 15 = .ok (.getfield 28, 3) := by decide +kernel
theorem dX5_goesUp_18 : decode cX5_goesUp 18 = .ok (.iload_n 1, 1) := by decide +kernel
theorem dX5_goesUp_19 : decode cX5_goesUp 19 = .ok (.aload_n 0, 1) := by decide +kernel
theorem dX5_goesUp_20 : decode cX5_goesUp 20 = .ok (.getfield 28, 3) := by decide +kernel
theorem dX5_goesUp_23 : decode cX5_goesUp 23 = .ok (.iload_n 1, 1) := by decide +kernel
theorem dX5_goesUp_24 : decode cX5_goesUp 24 = .ok (.iconst 1, 1) := by decide +kernel
theorem dX5_goesUp_25 : decode cX5_goesUp 25 = .ok (.isub, 1) := by decide +kernel
theorem dX5_goesUp_26 : decode cX5_goesUp 26 = .ok (.iaload, 1) := by decide +kernel
theorem dX5_goesUp_27 : decode cX5_goesUp 27 = .ok (.iastore, 1) := by decide +kernel
theorem dX5_goesUp_28 : decode cX5_goesUp 28 = .ok (.aload_n 0, 1) := by decide +kernel
theorem dX5_goesUp_29 : decode cX5_goesUp 29 = .ok (.getfield 31, 3) := by decide +kernel
theorem dX5_goesUp_32 : decode cX5_goesUp 32 = .ok (.iload_n 1, 1) := by decide +kernel
theorem dX5_goesUp_33 : decode cX5_goesUp 33 = .ok (.aload_n 0, 1) := by decide +kernel
theorem dX5_goesUp_34 : decode cX5_goesUp 34 = .ok (.getfield 31, 3) := by decide +kernel
theorem dX5_goesUp_37 : decode cX5_goesUp 37 = .ok (.iload_n 1, 1) := by decide +kernel
theorem dX5_goesUp_38 : decode cX5_goesUp 38 = .ok (.iconst 1, 1) := by decide +kernel
theorem dX5_goesUp_39 : decode cX5_goesUp 39 = .ok (.isub, 1) := by decide +kernel
theorem dX5_goesUp_40 : decode cX5_goesUp 40 = .ok (.iaload, 1) := by decide +kernel
theorem dX5_goesUp_41 : decode cX5_goesUp 41 = .ok (.iastore, 1) := by decide +kernel
theorem dX5_goesUp_42 : decode cX5_goesUp 42 = .ok (.aload_n 0, 1) := by decide +kernel
theorem dX5_goesUp_43 : decode cX5_goesUp 43 = .ok (.getfield 28, 3) := by decide +kernel
theorem dX5_goesUp_46 : decode cX5_goesUp 46 = .ok (.iload_n 1, 1) := by decide +kernel
theorem dX5_goesUp_47 : decode cX5_goesUp 47 = .ok (.iconst 1, 1) := by decide +kernel
theorem dX5_goesUp_48 : decode cX5_goesUp 48 = .ok (.isub, 1) := by decide +kernel
theorem dX5_goesUp_49 : decode cX5_goesUp 49 = .ok (.iload_n 2, 1) := by decide +kernel
theorem dX5_goesUp_50 : decode cX5_goesUp 50 = .ok (.iastore, 1) := by decide +kernel
theorem dX5_goesUp_51 : decode cX5_goesUp 51 = .ok (.aload_n 0, 1) := by decide +kernel
theorem dX5_goesUp_52 : decode cX5_goesUp 52 = .ok (.getfield 31, 3) := by decide +kernel
theorem dX5_goesUp_55 : decode cX5_goesUp 55 = .ok (.iload_n 1, 1) := by decide +kernel
theorem dX5_goesUp_56 : decode cX5_goesUp 56 = .ok (.iconst 1, 1) := by decide +kernel
theorem dX5_goesUp_57 : decode cX5_goesUp 57 = .ok (.isub, 1) := by decide +kernel
theorem dX5_goesUp_58 : decode cX5_goesUp 58 = .ok (.iload_n 3, 1) := by decide +kernel
theorem dX5_goesUp_59 : decode cX5_goesUp 59 = .ok (.iastore, 1) := by decide +kernel
theorem dX5_goesUp_60 : decode cX5_goesUp 60 = .ok (.return_, 1) := by decide +kernel
theorem dX5_move_0 : decode cX5_move 0 = .ok (.iload_n 2, 1) := by decide +kernel
theorem dX5_move_1 : decode cX5_move 1 = .ok (.iconst 1, 1) := by decide +kernel
theorem dX5_move_2 : decode cX5_move 2 = .ok (.if_icmp .ge 6, 3) := by decide +kernel
theorem dX5_move_5 : decode cX5_move 5 = .ok (.bipush (-2), 2) := by decide +kernel
theorem dX5_move_7 : decode cX5_move 7 = .ok (.ireturn, 1) := by decide +kernel
theorem dX5_move_8 : decode cX5_move 8 = .ok (.iload_n 1, 1) := by decide +kernel
theorem dX5_move_9 : decode cX5_move 9 = .ok (.ifCond .lt 21, 3) := by decide +kernel
theorem dX5_move_12 : decode cX5_move 12 = .ok (.iload_n 1, 1) := by decide +kernel
theorem dX5_move_13 : decode cX5_move 13 = .ok (.aload_n 0, 1) := by decide +kernel
theorem dX5_move_14 : decode cX5_move 14 = .ok (.getfield 83, 3) := by decide +kernel
theorem dX5_move_17 : decode cX5_move 17 = .ok (.if_icmp .ge 13, 3) := by decide +kernel
theorem dX5_move_20 : decode cX5_move 20 = .ok (.iload_n 2, 1) := by decide +kernel
theorem dX5_move_21 : decode cX5_move 21 = .ok (.aload_n 0, 1) := by decide +kernel
theorem dX5_move_22 : decode cX5_move 22 = .ok (.getfield 83, 3) := by decide +kernel
theorem dX5_move_25 : decode cX5_move 25 = .ok (.iload_n 1, 1) := by decide +kernel
theorem dX5_move_26 : decode cX5_move 26 = .ok (.isub, 1) := by decide +kernel
theorem dX5_move_27 : decode cX5_move 27 = .ok (.if_icmp .le 5, 3) := by decide +kernel
theorem dX5_move_30 : decode cX5_move 30 = .ok (.iconst (-1), 1) := by decide +kernel
theorem dX5_move_31 : decode cX5_move 31 = .ok (.ireturn, 1) := by decide +kernel
theorem dX5_move_32 : decode cX5_move 32 = .ok (.iload_n 3, 1) := by decide +kernel
theorem dX5_move_33 : decode cX5_move 33 = .ok (.iconst 0, 1) := by decide +kernel
theorem dX5_move_34 : decode cX5_move 34 = .ok (.aload_n 0, 1) := by decide +kernel
theorem dX5_move_35 : decode cX5_move 35 = .ok (.getfield 83, 3) := by decide +kernel
theorem dX5_move_38 : decode cX5_move 38 = .ok (.iload_n 2, 1) := by decide +kernel
theorem dX5_move_39 : decode cX5_move 39 = .ok (.isub, 1) := by decide +kernel
theorem dX5_move_40 : decode cX5_move 40 = .ok (.invokestatic 76, 3) := by decide +kernel
theorem dX5_move_43 : decode cX5_move 43 = .ok (.ifCond .ne 6, 3) := by decide +kernel
theorem dX5_move_46 : decode cX5_move 46 = .ok (.bipush (-2), 2) := by decide +kernel
theorem dX5_move_48 : decode cX5_move 48 = .ok (.ireturn, 1) := by decide +kernel
theorem dX5_move_49 : decode cX5_move 49 = .ok (.iload_n 1, 1) := by decide +kernel
theorem dX5_move_50 : decode cX5_move 50 = .ok (.istore 4, 2) := by decide +kernel
theorem dX5_move_52 : decode cX5_move 52 = .ok (.iload 4, 2) := by decide +kernel
theorem dX5_move_54 : decode cX5_move 54 = .ok (.iload_n 3, 1) := by decide +kernel
theorem dX5_move_55 : decode cX5_move 55 = .ok (.if_icmp .le 33, 3) := by decide +kernel
theorem dX5_move_58 : decode cX5_move 58 = .ok (.iconst 0, 1) := by decide +kernel
theorem dX5_move_59 : decode cX5_move 59 = .ok (.istore 5, 2) := by decide +kernel
theorem dX5_move_61 : decode cX5_move 61 = .ok (.iload 5, 2) := by decide +kernel
theorem dX5_move_63 : decode cX5_move 63 = .ok (.iload_n 2, 1) := by decide +kernel
theorem dX5_move_64 : decode cX5_move 64 = .ok (.if_icmp .ge 18, 3) := by decide +kernel
theorem dX5_move_67 : decode cX5_move 67 = .ok (.aload_n 0, 1) := by decide +kernel
theorem dX5_move_68 : decode cX5_move 68 = .ok (.iload 4, 2) := by decide +kernel
theorem dX5_move_70 : decode cX5_move 70 = .ok (.iload 5, 2) := by decide +kernel
theorem dX5_move_72 : decode cX5_move 72 = .ok (.iadd, 1) := by decide +kernel
theorem dX5_move_73 : decode cX5_move 73 = .ok (.invokevirtual 185, 3) := by decide +kernel
theorem dX5_move_76 : decode cX5_move 76 = .ok (.iinc 5 1, 3) := by decide +kernel
theorem dX5_move_79 : decode cX5_move 79 = .ok (.goto (-18), 3) := by decide +kernel
theorem dX5_move_82 : decode cX5_move 82 = .ok (.iinc 4 (-1), 3) := by decide +kernel
theorem dX5_move_85 : decode cX5_move 85 = .ok (.goto (-33), 3) := by decide +kernel
theorem dX5_move_88 : decode cX5_move 88 = .ok (.iload_n 1, 1) := by decide +kernel
theorem dX5_move_89 : decode cX5_move 89 = .ok (.istore 4, 2) := by decide +kernel
theorem dX5_move_91 : decode cX5_move 91 = .ok (.iload 4, 2) := by decide +kernel
theorem dX5_move_93 : decode cX5_move 93 = .ok (.iload_n 3, 1) := by decide +kernel
theorem dX5_move_94 : decode cX5_move 94 = .ok (.if_icmp .ge 32, 3) := by decide +kernel
theorem dX5_move_97 : decode cX5_move 97 = .ok (.iload_n 2, 1) := by decide +kernel
theorem dX5_move_98 : decode cX5_move 98 = .ok (.istore 5, 2) := by decide +kernel
theorem dX5_move_100 : decode cX5_move 100 = .ok (.iload 5, 2) := by decide +kernel
theorem dX5_move_102 : decode cX5_move 102 = .ok (.ifCond .le 18, 3) := by decide +kernel
theorem dX5_move_105 : decode cX5_move 105 = .ok (.aload_n 0, 1) := by decide +kernel
theorem dX5_move_106 : decode cX5_move 106 = .ok (.iload 4, 2) := by decide +kernel
theorem dX5_move_108 : decode cX5_move 108 = .ok (.iload 5, 2) := by decide +kernel
theorem dX5_move_110 : decode cX5_move 110 = .ok (.iadd, 1) := by decide +kernel
theorem dX5_move_111 : decode cX5_move 111 = .ok (.invokevirtual 185, 3) := by decide +kernel
theorem dX5_move_114 : decode cX5_move 114 = .ok (.iinc 5 (-1), 3) := by decide +kernel
theorem dX5_move_117 : decode cX5_move 117 = .ok (.goto (-17), 3) := by decide +kernel
theorem dX5_move_120 : decode cX5_move 120 = .ok (.iinc 4 1, 3) := by decide +kernel
theorem dX5_move_123 : decode cX5_move 123 = .ok (.goto (-32), 3) := by decide +kernel
theorem dX5_move_126 : decode cX5_move 126 = .ok (.iload_n 2, 1) := by decide +kernel
theorem dX5_move_127 : decode cX5_move 127 = .ok (.ireturn, 1) := by decide +kernel
theorem dX5_best_0 : decode cX5_best 0 = .ok (.iload_n 1, 1) := by decide +kernel
theorem dX5_best_1 : decode cX5_best 1 = .ok (.iconst 0, 1) := by decide +kernel
theorem dX5_best_2 : decode cX5_best 2 = .ok (.iconst 3, 1) := by decide +kernel
theorem dX5_best_3 : decode cX5_best 3 = .ok (.invokestatic 76, 3) := by decide +kernel
theorem dX5_best_6 : decode cX5_best 6 = .ok (.ifCond .ne 6, 3) := by decide +kernel
theorem dX5_best_9 : decode cX5_best 9 = .ok (.bipush (-2), 2) := by decide +kernel
theorem dX5_best_11 : decode cX5_best 11 = .ok (.ireturn, 1) := by decide +kernel
theorem dX5_best_12 : decode cX5_best 12 = .ok (.aload_n 0, 1) := by decide +kernel
theorem dX5_best_13 : decode cX5_best 13 = .ok (.getfield 80, 3) := by decide +kernel
theorem dX5_best_16 : decode cX5_best 16 = .ok (.ifCond .ne 6, 3) := by decide +kernel
theorem dX5_best_19 : decode cX5_best 19 = .ok (.bipush (-3), 2) := by decide +kernel
theorem dX5_best_21 : decode cX5_best 21 = .ok (.ireturn, 1) := by decide +kernel
theorem dX5_best_22 : decode cX5_best 22 = .ok (.aload_n 0, 1) := by decide +kernel
theorem dX5_best_23 : decode cX5_best 23 = .ok (.iload_n 1, 1) := by decide +kernel
theorem dX5_best_24 : decode cX5_best 24 = .ok (.iconst 1, 1) := by decide +kernel
theorem dX5_best_25 : decode cX5_best 25 = .ok (.if_icmp .ne 7, 3) := by decide +kernel
theorem dX5_best_28 : decode cX5_best 28 = .ok (.iconst 2, 1) := by decide +kernel
theorem dX5_best_29 : decode cX5_best 29 = .ok (.goto 22, 3) := by decide +kernel
theorem dX5_best_32 : decode cX5_best 32 = .ok (.iload_n 1, 1) := by decide +kernel
theorem dX5_best_33 : decode cX5_best 33 = .ok (.iconst 2, 1) := by decide +kernel
theorem dX5_best_34 : decode cX5_best 34 = .ok (.if_icmp .ne 7, 3) := by decide +kernel
theorem dX5_best_37 : decode cX5_best 37 = .ok (.iconst 3, 1) := by decide +kernel
theorem dX5_best_38 : decode cX5_best 38 = .ok (.goto 13, 3) := by decide +kernel
theorem dX5_best_41 : decode cX5_best 41 = .ok (.iload_n 1, 1) := by decide +kernel
theorem dX5_best_42 : decode cX5_best 42 = .ok (.iconst 3, 1) := by decide +kernel
theorem dX5_best_43 : decode cX5_best 43 = .ok (.if_icmp .ne 7, 3) := by decide +kernel
theorem dX5_best_46 : decode cX5_best 46 = .ok (.iconst 4, 1) := by decide +kernel
theorem dX5_best_47 : decode cX5_best 47 = .ok (.goto 4, 3) := by decide +kernel
theorem dX5_best_50 : decode cX5_best 50 = .ok (.iconst 0, 1) := by decide +kernel
theorem dX5_best_51 : decode cX5_best 51 = .ok (.invokevirtual 189, 3) := by decide +kernel
theorem dX5_best_54 : decode cX5_best 54 = .ok (.ireturn, 1) := by decide +kernel
theorem dX5_tellBest_0 : decode cX5_tellBest 0 = .ok (.aload_n 0, 1) := by decide +kernel
theorem dX5_tellBest_1 : decode cX5_tellBest 1 = .ok (.invokevirtual 174, 3) := by decide +kernel
theorem dX5_tellBest_4 : decode cX5_tellBest 4 = .ok (.istore_n 2, 1) := by decide +kernel
theorem dX5_tellBest_5 : decode cX5_tellBest 5 = .ok (.iload_n 1, 1) := by decide +kernel
theorem dX5_tellBest_6 : decode cX5_tellBest 6 = .ok (.iconst 4, 1) := by decide +kernel
theorem dX5_tellBest_7 : decode cX5_tellBest 7 = .ok (.if_icmp .ne 20, 3) := by decide +kernel
theorem dX5_tellBest_10 : decode cX5_tellBest 10 = .ok (.iload_n 2, 1) := by decide +kernel
theorem dX5_tellBest_11 : decode cX5_tellBest 11 = .ok (.bipush (-9), 2) := by decide +kernel
theorem dX5_tellBest_13 : decode cX5_tellBest 13 = .ok (.if_icmp .ne 7, 3) := by decide +kernel
theorem dX5_tellBest_16 : decode cX5_tellBest 16 = .ok (.iconst 0, 1) := by decide +kernel
theorem dX5_tellBest_17 : decode cX5_tellBest 17 = .ok (.goto 9, 3) := by decide +kernel
theorem dX5_tellBest_20 : decode cX5_tellBest 20 = .ok (.aload_n 0, 1) := by decide +kernel
theorem dX5_tellBest_21 : decode cX5_tellBest 21 = .ok (.getfield 49, 3) := by decide +kernel
theorem dX5_tellBest_24 : decode cX5_tellBest 24 = .ok (.iconst 0, 1) := by decide +kernel
theorem dX5_tellBest_25 : decode cX5_tellBest 25 = .ok (.iaload, 1) := by decide +kernel
theorem dX5_tellBest_26 : decode cX5_tellBest 26 = .ok (.ireturn, 1) := by decide +kernel
theorem dX5_tellBest_27 : decode cX5_tellBest 27 = .ok (.iload_n 2, 1) := by decide +kernel
theorem dX5_tellBest_28 : decode cX5_tellBest 28 = .ok (.bipush (-9), 2) := by decide +kernel
theorem dX5_tellBest_30 : decode cX5_tellBest 30 = .ok (.if_icmp .eq 19, 3) := by decide +kernel
theorem dX5_tellBest_33 : decode cX5_tellBest 33 = .ok (.iload_n 1, 1) := by decide +kernel
theorem dX5_tellBest_34 : decode cX5_tellBest 34 = .ok (.iconst 3, 1) := by decide +kernel
theorem dX5_tellBest_35 : decode cX5_tellBest 35 = .ok (.if_icmp .ne 17, 3) := by decide +kernel
theorem dX5_tellBest_38 : decode cX5_tellBest 38 = .ok (.aload_n 0, 1) := by decide +kernel
theorem dX5_tellBest_39 : decode cX5_tellBest 39 = .ok (.getfield 46, 3) := by decide +kernel
theorem dX5_tellBest_42 : decode cX5_tellBest 42 = .ok (.iconst 0, 1) := by decide +kernel
theorem dX5_tellBest_43 : decode cX5_tellBest 43 = .ok (.iaload, 1) := by decide +kernel
theorem dX5_tellBest_44 : decode cX5_tellBest 44 = .ok (.ldc 147, 2) := by decide +kernel
theorem dX5_tellBest_46 : decode cX5_tellBest 46 = .ok (.if_icmp .lt 6, 3) := by decide +kernel
theorem dX5_tellBest_49 : decode cX5_tellBest 49 = .ok (.bipush (-9), 2) := by decide +kernel
theorem dX5_tellBest_51 : decode cX5_tellBest 51 = .ok (.ireturn, 1) := by decide +kernel
theorem dX5_tellBest_52 : decode cX5_tellBest 52 = .ok (.iload_n 1, 1) := by decide +kernel
theorem dX5_tellBest_53 : decode cX5_tellBest 53 = .ok (.ifCond .ne 7, 3) := by decide +kernel
theorem dX5_tellBest_56 : decode cX5_tellBest 56 = .ok (.iload_n 2, 1) := by decide +kernel
theorem dX5_tellBest_57 : decode cX5_tellBest 57 = .ok (.goto 21, 3) := by decide +kernel
theorem dX5_tellBest_60 : decode cX5_tellBest 60 = .ok (.iload_n 1, 1) := by decide +kernel
theorem dX5_tellBest_61 : decode cX5_tellBest 61 = .ok (.iconst 2, 1) := by decide +kernel
theorem dX5_tellBest_62 : decode cX5_tellBest 62 = .ok (.if_icmp .ne 10, 3) := by decide +kernel
theorem dX5_tellBest_65 : decode cX5_tellBest 65 = .ok (.aload_n 0, 1) := by decide +kernel
theorem dX5_tellBest_66 : decode cX5_tellBest 66 = .ok (.getfield 165, 3) := by decide +kernel
theorem dX5_tellBest_69 : decode cX5_tellBest 69 = .ok (.goto 9, 3) := by decide +kernel
theorem dX5_tellBest_72 : decode cX5_tellBest 72 = .ok (.aload_n 0, 1) := by decide +kernel
theorem dX5_tellBest_73 : decode cX5_tellBest 73 = .ok (.getfield 46, 3) := by decide +kernel
theorem dX5_tellBest_76 : decode cX5_tellBest 76 = .ok (.iconst 0, 1) := by decide +kernel
theorem dX5_tellBest_77 : decode cX5_tellBest 77 = .ok (.iaload, 1) := by decide +kernel
theorem dX5_tellBest_78 : decode cX5_tellBest 78 = .ok (.ireturn, 1) := by decide +kernel
theorem dX5_ofPair_0 : decode cX5_ofPair 0 = .ok (.aload_n 0, 1) := by decide +kernel
theorem dX5_ofPair_1 : decode cX5_ofPair 1 = .ok (.invokevirtual 174, 3) := by decide +kernel
theorem dX5_ofPair_4 : decode cX5_ofPair 4 = .ok (.pop, 1) := by decide +kernel
theorem dX5_ofPair_5 : decode cX5_ofPair 5 = .ok (.iload_n 1, 1) := by decide +kernel
theorem dX5_ofPair_6 : decode cX5_ofPair 6 = .ok (.ifCond .lt 11, 3) := by decide +kernel
theorem dX5_ofPair_9 : decode cX5_ofPair 9 = .ok (.iload_n 1, 1) := by decide +kernel
theorem dX5_ofPair_10 : decode cX5_ofPair 10 = .ok (.aload_n 0, 1) := by decide +kernel
theorem dX5_ofPair_11 : decode cX5_ofPair 11 = .ok (.getfield 165, 3) := by decide +kernel
theorem dX5_ofPair_14 : decode cX5_ofPair 14 = .ok (.if_icmp .lt 5, 3) := by decide +kernel
theorem dX5_ofPair_17 : decode cX5_ofPair 17 = .ok (.iconst (-1), 1) := by decide +kernel
theorem dX5_ofPair_18 : decode cX5_ofPair 18 = .ok (.ireturn, 1) := by decide +kernel
theorem dX5_ofPair_19 : decode cX5_ofPair 19 = .ok (.iload_n 2, 1) := by decide +kernel
theorem dX5_ofPair_20 : decode cX5_ofPair 20 = .ok (.tableswitch 76 0 3 #[32, 39, 46, 53], 32) := by decide +kernel
theorem dX5_ofPair_52 : decode cX5_ofPair 52 = .ok (.aload_n 0, 1) := by decide +kernel
theorem dX5_ofPair_53 : decode cX5_ofPair 53 = .ok (.getfield 52, 3) := by decide +kernel
theorem dX5_ofPair_56 : decode cX5_ofPair 56 = .ok (.iload_n 1, 1) := by decide +kernel
theorem dX5_ofPair_57 : decode cX5_ofPair 57 = .ok (.iaload, 1) := by decide +kernel
theorem dX5_ofPair_58 : decode cX5_ofPair 58 = .ok (.ireturn, 1) := by decide +kernel
theorem dX5_ofPair_59 : decode cX5_ofPair 59 = .ok (.aload_n 0, 1) := by decide +kernel
theorem dX5_ofPair_60 : decode cX5_ofPair 60 = .ok (.getfield 55, 3) := by decide +kernel
theorem dX5_ofPair_63 : decode cX5_ofPair 63 = .ok (.iload_n 1, 1) := by decide +kernel
theorem dX5_ofPair_64 : decode cX5_ofPair 64 = .ok (.iaload, 1) := by decide +kernel
theorem dX5_ofPair_65 : decode cX5_ofPair 65 = .ok (.ireturn, 1) := by decide +kernel
theorem dX5_ofPair_66 : decode cX5_ofPair 66 = .ok (.aload_n 0, 1) := by decide +kernel
theorem dX5_ofPair_67 : decode cX5_ofPair 67 = .ok (.getfield 58, 3) := by decide +kernel
theorem dX5_ofPair_70 : decode cX5_ofPair 70 = .ok (.iload_n 1, 1) := by decide +kernel
theorem dX5_ofPair_71 : decode cX5_ofPair 71 = .ok (.iaload, 1) := by decide +kernel
theorem dX5_ofPair_72 : decode cX5_ofPair 72 = .ok (.ireturn, 1) := by decide +kernel
theorem dX5_ofPair_73 : decode cX5_ofPair 73 = .ok (.aload_n 0, 1) := by decide +kernel
theorem dX5_ofPair_74 : decode cX5_ofPair 74 = .ok (.aload_n 0, 1) := by decide +kernel
theorem dX5_ofPair_75 : decode cX5_ofPair 75 = .ok (.getfield 52, 3) := by decide +kernel
theorem dX5_ofPair_78 : decode cX5_ofPair 78 = .ok (.iload_n 1, 1) := by decide +kernel
theorem dX5_ofPair_79 : decode cX5_ofPair 79 = .ok (.iaload, 1) := by decide +kernel
theorem dX5_ofPair_80 : decode cX5_ofPair 80 = .ok (.aload_n 0, 1) := by decide +kernel
theorem dX5_ofPair_81 : decode cX5_ofPair 81 = .ok (.getfield 55, 3) := by decide +kernel
theorem dX5_ofPair_84 : decode cX5_ofPair 84 = .ok (.iload_n 1, 1) := by decide +kernel
theorem dX5_ofPair_85 : decode cX5_ofPair 85 = .ok (.iaload, 1) := by decide +kernel
theorem dX5_ofPair_86 : decode cX5_ofPair 86 = .ok (.aload_n 0, 1) := by decide +kernel
theorem dX5_ofPair_87 : decode cX5_ofPair 87 = .ok (.getfield 58, 3) := by decide +kernel
theorem dX5_ofPair_90 : decode cX5_ofPair 90 = .ok (.iload_n 1, 1) := by decide +kernel
theorem dX5_ofPair_91 : decode cX5_ofPair 91 = .ok (.iaload, 1) := by decide +kernel
theorem dX5_ofPair_92 : decode cX5_ofPair 92 = .ok (.invokevirtual 151, 3) := by decide +kernel
theorem dX5_ofPair_95 : decode cX5_ofPair 95 = .ok (.ireturn, 1) := by decide +kernel
theorem dX5_ofPair_96 : decode cX5_ofPair 96 = .ok (.bipush (-2), 2) := by decide +kernel
theorem dX5_ofPair_98 : decode cX5_ofPair 98 = .ok (.ireturn, 1) := by decide +kernel
theorem dX5_cost_0 : decode cX5_cost 0 = .ok (.iload_n 1, 1) := by decide +kernel
theorem dX5_cost_1 : decode cX5_cost 1 = .ok (.iconst 0, 1) := by decide +kernel
theorem dX5_cost_2 : decode cX5_cost 2 = .ok (.iconst 4, 1) := by decide +kernel
theorem dX5_cost_3 : decode cX5_cost 3 = .ok (.invokestatic 76, 3) := by decide +kernel
theorem dX5_cost_6 : decode cX5_cost 6 = .ok (.ifCond .ne 6, 3) := by decide +kernel
theorem dX5_cost_9 : decode cX5_cost 9 = .ok (.bipush (-2), 2) := by decide +kernel
theorem dX5_cost_11 : decode cX5_cost 11 = .ok (.ireturn, 1) := by decide +kernel
theorem dX5_cost_12 : decode cX5_cost 12 = .ok (.iload_n 1, 1) := by decide +kernel
theorem dX5_cost_13 : decode cX5_cost 13 = .ok (.iconst 2, 1) := by decide +kernel
theorem dX5_cost_14 : decode cX5_cost 14 = .ok (.if_icmp .eq 24, 3) := by decide +kernel
theorem dX5_cost_17 : decode cX5_cost 17 = .ok (.aload_n 0, 1) := by decide +kernel
theorem dX5_cost_18 : decode cX5_cost 18 = .ok (.iload_n 2, 1) := by decide +kernel
theorem dX5_cost_19 : decode cX5_cost 19 = .ok (.invokevirtual 171, 3) := by decide +kernel
theorem dX5_cost_22 : decode cX5_cost 22 = .ok (.ifCond .eq 20, 3) := by decide +kernel
theorem dX5_cost_25 : decode cX5_cost 25 = .ok (.iload_n 2, 1) := by decide +kernel
theorem dX5_cost_26 : decode cX5_cost 26 = .ok (.iload_n 1, 1) := by decide +kernel
theorem dX5_cost_27 : decode cX5_cost 27 = .ok (.invokestatic 138, 3) := by decide +kernel
theorem dX5_cost_30 : decode cX5_cost 30 = .ok (.iadd, 1) := by decide +kernel
theorem dX5_cost_31 : decode cX5_cost 31 = .ok (.aload_n 0, 1) := by decide +kernel
theorem dX5_cost_32 : decode cX5_cost 32 = .ok (.getfield 80, 3) := by decide +kernel
theorem dX5_cost_35 : decode cX5_cost 35 = .ok (.if_icmp .gt 7, 3) := by decide +kernel
theorem dX5_cost_38 : decode cX5_cost 38 = .ok (.iconst 1, 1) := by decide +kernel
theorem dX5_cost_39 : decode cX5_cost 39 = .ok (.goto 4, 3) := by decide +kernel
theorem dX5_cost_42 : decode cX5_cost 42 = .ok (.iconst 0, 1) := by decide +kernel
theorem dX5_cost_43 : decode cX5_cost 43 = .ok (.istore 4, 2) := by decide +kernel
theorem dX5_cost_45 : decode cX5_cost 45 = .ok (.iload 4, 2) := by decide +kernel
theorem dX5_cost_47 : decode cX5_cost 47 = .ok (.ifCond .eq 33, 3) := by decide +kernel
theorem dX5_cost_50 : decode cX5_cost 50 = .ok (.iload_n 1, 1) := by decide +kernel
theorem dX5_cost_51 : decode cX5_cost 51 = .ok (.iconst 1, 1) := by decide +kernel
theorem dX5_cost_52 : decode cX5_cost 52 = .ok (.if_icmp .eq 24, 3) := by decide +kernel
theorem dX5_cost_55 : decode cX5_cost 55 = .ok (.aload_n 0, 1) := by decide +kernel
theorem dX5_cost_56 : decode cX5_cost 56 = .ok (.iload_n 3, 1) := by decide +kernel
theorem dX5_cost_57 : decode cX5_cost 57 = .ok (.invokevirtual 182, 3) := by decide +kernel
theorem dX5_cost_60 : decode cX5_cost 60 = .ok (.ifCond .eq 20, 3) := by decide +kernel
theorem dX5_cost_63 : decode cX5_cost 63 = .ok (.iload_n 3, 1) := by decide +kernel
theorem dX5_cost_64 : decode cX5_cost 64 = .ok (.iload_n 1, 1) := by decide +kernel
theorem dX5_cost_65 : decode cX5_cost 65 = .ok (.invokestatic 144, 3) := by decide +kernel
theorem dX5_cost_68 : decode cX5_cost 68 = .ok (.iadd, 1) := by decide +kernel
theorem dX5_cost_69 : decode cX5_cost 69 = .ok (.aload_n 0, 1) := by decide +kernel
theorem dX5_cost_70 : decode cX5_cost 70 = .ok (.getfield 83, 3) := by decide +kernel
theorem dX5_cost_73 : decode cX5_cost 73 = .ok (.if_icmp .gt 7, 3) := by decide +kernel
theorem dX5_cost_76 : decode cX5_cost 76 = .ok (.iconst 1, 1) := by decide +kernel
theorem dX5_cost_77 : decode cX5_cost 77 = .ok (.goto 4, 3) := by decide +kernel
theorem dX5_cost_80 : decode cX5_cost 80 = .ok (.iconst 0, 1) := by decide +kernel
theorem dX5_cost_81 : decode cX5_cost 81 = .ok (.istore 4, 2) := by decide +kernel
theorem dX5_cost_83 : decode cX5_cost 83 = .ok (.iload 4, 2) := by decide +kernel
theorem dX5_cost_85 : decode cX5_cost 85 = .ok (.ifCond .eq 13, 3) := by decide +kernel
theorem dX5_cost_88 : decode cX5_cost 88 = .ok (.aload_n 0, 1) := by decide +kernel
theorem dX5_cost_89 : decode cX5_cost 89 = .ok (.iload_n 1, 1) := by decide +kernel
theorem dX5_cost_90 : decode cX5_cost 90 = .ok (.iload_n 2, 1) := by decide +kernel
theorem dX5_cost_91 : decode cX5_cost 91 = .ok (.iload_n 3, 1) := by decide +kernel
theorem dX5_cost_92 : decode cX5_cost 92 = .ok (.invokevirtual 151, 3) := by decide +kernel
theorem dX5_cost_95 : decode cX5_cost 95 = .ok (.goto 4, 3) := by decide +kernel
theorem dX5_cost_98 : decode cX5_cost 98 = .ok (.iconst (-1), 1) := by decide +kernel
theorem dX5_cost_99 : decode cX5_cost 99 = .ok (.ireturn, 1) := by decide +kernel
theorem dX5_keep_0 : decode cX5_keep 0 = .ok (.iconst 0, 1) := by decide +kernel
theorem dX5_keep_1 : decode cX5_keep 1 = .ok (.istore_n 1, 1) := by decide +kernel
theorem dX5_keep_2 : decode cX5_keep 2 = .ok (.iload_n 1, 1) := by decide +kernel
theorem dX5_keep_3 : decode cX5_keep 3 = .ok (.bipush 7, 2) := by decide +kernel
theorem dX5_keep_5 : decode cX5_keep 5 = .ok (.if_icmp .ge 36, 3) := by decide +kernel
theorem dX5_keep_8 : decode cX5_keep 8 = .ok (.aload_n 0, 1) := by decide +kernel
theorem dX5_keep_9 : decode cX5_keep 9 = .ok (.getfield 61, 3) := by decide +kernel
theorem dX5_keep_12 : decode cX5_keep 12 = .ok (.iload_n 1, 1) := by decide +kernel
theorem dX5_keep_13 : decode cX5_keep 13 = .ok (.aload_n 0, 1) := by decide +kernel
theorem dX5_keep_14 : decode cX5_keep 14 = .ok (.getfield 22, 3) := by decide +kernel
theorem dX5_keep_17 : decode cX5_keep 17 = .ok (.iload_n 1, 1) := by decide +kernel
theorem dX5_keep_18 : decode cX5_keep 18 = .ok (.iaload, 1) := by decide +kernel
theorem dX5_keep_19 : decode cX5_keep 19 = .ok (.iastore, 1) := by decide +kernel
theorem dX5_keep_20 : decode cX5_keep 20 = .ok (.aload_n 0, 1) := by decide +kernel
theorem dX5_keep_21 : decode cX5_keep 21 = .ok (.getfield 61, 3) := by decide +kernel
theorem dX5_keep_24 : decode cX5_keep 24 = .ok (.bipush 7, 2) := by decide +kernel
theorem dX5_keep_26 : decode cX5_keep 26 = .ok (.iload_n 1, 1) := by decide +kernel
theorem dX5_keep_27 : decode cX5_keep 27 = .ok (.iadd, 1) := by decide +kernel
theorem dX5_keep_28 : decode cX5_keep 28 = .ok (.aload_n 0, 1) := by decide +kernel
theorem dX5_keep_29 : decode cX5_keep 29 = .ok (.getfield 28, 3) := by decide +kernel
theorem dX5_keep_32 : decode cX5_keep 32 = .ok (.iload_n 1, 1) := by decide +kernel
theorem dX5_keep_33 : decode cX5_keep 33 = .ok (.iaload, 1) := by decide +kernel
theorem dX5_keep_34 : decode cX5_keep 34 = .ok (.iastore, 1) := by decide +kernel
theorem dX5_keep_35 : decode cX5_keep 35 = .ok (.iinc 1 1, 3) := by decide +kernel
theorem dX5_keep_38 : decode cX5_keep 38 = .ok (.goto (-36), 3) := by decide +kernel
theorem dX5_keep_41 : decode cX5_keep 41 = .ok (.aload_n 0, 1) := by decide +kernel
theorem dX5_keep_42 : decode cX5_keep 42 = .ok (.getfield 61, 3) := by decide +kernel
theorem dX5_keep_45 : decode cX5_keep 45 = .ok (.bipush 14, 2) := by decide +kernel
theorem dX5_keep_47 : decode cX5_keep 47 = .ok (.aload_n 0, 1) := by decide +kernel
theorem dX5_keep_48 : decode cX5_keep 48 = .ok (.getfield 113, 3) := by decide +kernel
theorem dX5_keep_51 : decode cX5_keep 51 = .ok (.iastore, 1) := by decide +kernel
theorem dX5_keep_52 : decode cX5_keep 52 = .ok (.aload_n 0, 1) := by decide +kernel
theorem dX5_keep_53 : decode cX5_keep 53 = .ok (.getfield 61, 3) := by decide +kernel
theorem dX5_keep_56 : decode cX5_keep 56 = .ok (.bipush 15, 2) := by decide +kernel
theorem dX5_keep_58 : decode cX5_keep 58 = .ok (.aload_n 0, 1) := by decide +kernel
theorem dX5_keep_59 : decode cX5_keep 59 = .ok (.getfield 116, 3) := by decide +kernel
theorem dX5_keep_62 : decode cX5_keep 62 = .ok (.iastore, 1) := by decide +kernel
theorem dX5_keep_63 : decode cX5_keep 63 = .ok (.aload_n 0, 1) := by decide +kernel
theorem dX5_keep_64 : decode cX5_keep 64 = .ok (.getfield 61, 3) := by decide +kernel
theorem dX5_keep_67 : decode cX5_keep 67 = .ok (.bipush 16, 2) := by decide +kernel
theorem dX5_keep_69 : decode cX5_keep 69 = .ok (.aload_n 0, 1) := by decide +kernel
theorem dX5_keep_70 : decode cX5_keep 70 = .ok (.getfield 119, 3) := by decide +kernel
theorem dX5_keep_73 : decode cX5_keep 73 = .ok (.iastore, 1) := by decide +kernel
theorem dX5_keep_74 : decode cX5_keep 74 = .ok (.return_, 1) := by decide +kernel
theorem dX5_putBack_0 : decode cX5_putBack 0 = .ok (.iconst 0, 1) := by decide +kernel
theorem dX5_putBack_1 : decode cX5_putBack 1 = .ok (.istore_n 1, 1) := by decide +kernel
theorem dX5_putBack_2 : decode cX5_putBack 2 = .ok (.iload_n 1, 1) := by decide +kernel
theorem dX5_putBack_3 : decode cX5_putBack 3 = .ok (.bipush 7, 2) := by decide +kernel
theorem dX5_putBack_5 : decode cX5_putBack 5 = .ok (.if_icmp .ge 36, 3) := by decide +kernel
theorem dX5_putBack_8 : decode cX5_putBack 8 = .ok (.aload_n 0, 1) := by decide +kernel
theorem dX5_putBack_9 : decode cX5_putBack 9 = .ok (.getfield 22, 3) := by decide +kernel
theorem dX5_putBack_12 : decode cX5_putBack 12 = .ok (.iload_n 1, 1) := by decide +kernel
theorem dX5_putBack_13 : decode cX5_putBack 13 = .ok (.aload_n 0, 1) := by decide +kernel
theorem dX5_putBack_14 : decode cX5_putBack 14 = .ok (.getfield 61, 3) := by decide +kernel
theorem dX5_putBack_17 : decode cX5_putBack 17 = .ok (.iload_n 1, 1) := by decide +kernel
theorem dX5_putBack_18 : decode cX5_putBack 18 = .ok (.iaload, 1) := by decide +kernel
theorem dX5_putBack_19 : decode cX5_putBack 19 = .ok (.iastore, 1) := by decide +kernel
theorem dX5_putBack_20 : decode cX5_putBack 20 = .ok (.aload_n 0, 1) := by decide +kernel
theorem dX5_putBack_21 : decode cX5_putBack 21 = .ok (.getfield 28, 3) := by decide +kernel
theorem dX5_putBack_24 : decode cX5_putBack 24 = .ok (.iload_n 1, 1) := by decide +kernel
theorem dX5_putBack_25 : decode cX5_putBack 25 = .ok (.aload_n 0, 1) := by decide +kernel
theorem dX5_putBack_26 : decode cX5_putBack 26 = .ok (.getfield 61, 3) := by decide +kernel
theorem dX5_putBack_29 : decode cX5_putBack 29 = .ok (.bipush 7, 2) := by decide +kernel
theorem dX5_putBack_31 : decode cX5_putBack 31 = .ok (.iload_n 1, 1) := by decide +kernel
theorem dX5_putBack_32 : decode cX5_putBack 32 = .ok (.iadd, 1) := by decide +kernel
theorem dX5_putBack_33 : decode cX5_putBack 33 = .ok (.iaload, 1) := by decide +kernel
theorem dX5_putBack_34 : decode cX5_putBack 34 = .ok (.iastore, 1) := by decide +kernel
theorem dX5_putBack_35 : decode cX5_putBack 35 = .ok (.iinc 1 1, 3) := by decide +kernel
theorem dX5_putBack_38 : decode cX5_putBack 38 = .ok (.goto (-36), 3) := by decide +kernel
theorem dX5_putBack_41 : decode cX5_putBack 41 = .ok (.aload_n 0, 1) := by decide +kernel
theorem dX5_putBack_42 : decode cX5_putBack 42 = .ok (.aload_n 0, 1) := by decide +kernel
theorem dX5_putBack_43 : decode cX5_putBack 43 = .ok (.getfield 61, 3) := by decide +kernel
theorem dX5_putBack_46 : decode cX5_putBack 46 = .ok (.bipush 14, 2) := by decide +kernel
theorem dX5_putBack_48 : decode cX5_putBack 48 = .ok (.iaload, 1) := by decide +kernel
theorem dX5_putBack_49 : decode cX5_putBack 49 = .ok (.putfield 113, 3) := by decide +kernel
theorem dX5_putBack_52 : decode cX5_putBack 52 = .ok (.aload_n 0, 1) := by decide +kernel
theorem dX5_putBack_53 : decode cX5_putBack 53 = .ok (.aload_n 0, 1) := by decide +kernel
theorem dX5_putBack_54 : decode cX5_putBack 54 = .ok (.getfield 61, 3) := by decide +kernel
theorem dX5_putBack_57 : decode cX5_putBack 57 = .ok (.bipush 15, 2) := by decide +kernel
theorem dX5_putBack_59 : decode cX5_putBack 59 = .ok (.iaload, 1) := by decide +kernel
theorem dX5_putBack_60 : decode cX5_putBack 60 = .ok (.putfield 116, 3) := by decide +kernel
theorem dX5_putBack_63 : decode cX5_putBack 63 = .ok (.aload_n 0, 1) := by decide +kernel
theorem dX5_putBack_64 : decode cX5_putBack 64 = .ok (.aload_n 0, 1) := by decide +kernel
theorem dX5_putBack_65 : decode cX5_putBack 65 = .ok (.getfield 61, 3) := by decide +kernel
theorem dX5_putBack_68 : decode cX5_putBack 68 = .ok (.bipush 16, 2) := by decide +kernel
theorem dX5_putBack_70 : decode cX5_putBack 70 = .ok (.iaload, 1) := by decide +kernel
theorem dX5_putBack_71 : decode cX5_putBack 71 = .ok (.putfield 119, 3) := by decide +kernel
theorem dX5_putBack_74 : decode cX5_putBack 74 = .ok (.return_, 1) := by decide +kernel
theorem dX5_does_0 : decode cX5_does 0 = .ok (.iload_n 2, 1) := by decide +kernel
theorem dX5_does_1 : decode cX5_does 1 = .ok (.bipush 20, 2) := by decide +kernel
theorem dX5_does_3 : decode cX5_does 3 = .ok (.if_icmp .lt 59, 3) := by decide +kernel
theorem dX5_does_6 : decode cX5_does 6 = .ok (.aload_n 0, 1) := by decide +kernel
theorem dX5_does_7 : decode cX5_does 7 = .ok (.iload_n 2, 1) := by decide +kernel
theorem dX5_does_8 : decode cX5_does 8 = .ok (.bipush 20, 2) := by decide +kernel
theorem dX5_does_10 : decode cX5_does 10 = .ok (.if_icmp .ne 7, 3) := by decide +kernel
theorem dX5_does_13 : decode cX5_does 13 = .ok (.iload_n 1, 1) := by decide +kernel
theorem dX5_does_14 : decode cX5_does 14 = .ok (.goto 7, 3) := by decide +kernel
theorem dX5_does_17 : decode cX5_does 17 = .ok (.aload_n 0, 1) := by decide +kernel
theorem dX5_does_18 : decode cX5_does 18 = .ok (.getfield 113, 3) := by decide +kernel
theorem dX5_does_21 : decode cX5_does 21 = .ok (.putfield 113, 3) := by decide +kernel
theorem dX5_does_24 : decode cX5_does 24 = .ok (.aload_n 0, 1) := by decide +kernel
theorem dX5_does_25 : decode cX5_does 25 = .ok (.iload_n 2, 1) := by decide +kernel
theorem dX5_does_26 : decode cX5_does 26 = .ok (.bipush 21, 2) := by decide +kernel
theorem dX5_does_28 : decode cX5_does 28 = .ok (.if_icmp .ne 7, 3) := by decide +kernel
theorem dX5_does_31 : decode cX5_does 31 = .ok (.iload_n 1, 1) := by decide +kernel
theorem dX5_does_32 : decode cX5_does 32 = .ok (.goto 7, 3) := by decide +kernel
theorem dX5_does_35 : decode cX5_does 35 = .ok (.aload_n 0, 1) := by decide +kernel
theorem dX5_does_36 : decode cX5_does 36 = .ok (.getfield 116, 3) := by decide +kernel
theorem dX5_does_39 : decode cX5_does 39 = .ok (.putfield 116, 3) := by decide +kernel
theorem dX5_does_42 : decode cX5_does 42 = .ok (.aload_n 0, 1) := by decide +kernel
theorem dX5_does_43 : decode cX5_does 43 = .ok (.iload_n 2, 1) := by decide +kernel
theorem dX5_does_44 : decode cX5_does 44 = .ok (.bipush 22, 2) := by decide +kernel
theorem dX5_does_46 : decode cX5_does 46 = .ok (.if_icmp .ne 7, 3) := by decide +kernel
theorem dX5_does_49 : decode cX5_does 49 = .ok (.iload_n 1, 1) := by decide +kernel
theorem dX5_does_50 : decode cX5_does 50 = .ok (.goto 7, 3) := by decide +kernel
theorem dX5_does_53 : decode cX5_does 53 = .ok (.aload_n 0, 1) := by decide +kernel
theorem dX5_does_54 : decode cX5_does 54 = .ok (.getfield 119, 3) := by decide +kernel
theorem dX5_does_57 : decode cX5_does 57 = .ok (.putfield 119, 3) := by decide +kernel
theorem dX5_does_60 : decode cX5_does 60 = .ok (.iconst 1, 1) := by decide +kernel
theorem dX5_does_61 : decode cX5_does 61 = .ok (.ireturn, 1) := by decide +kernel
theorem dX5_does_62 : decode cX5_does 62 = .ok (.iload_n 2, 1) := by decide +kernel
theorem dX5_does_63 : decode cX5_does 63 = .ok (.bipush 10, 2) := by decide +kernel
theorem dX5_does_65 : decode cX5_does 65 = .ok (.if_icmp .lt 17, 3) := by decide +kernel
theorem dX5_does_68 : decode cX5_does 68 = .ok (.aload_n 0, 1) := by decide +kernel
theorem dX5_does_69 : decode cX5_does 69 = .ok (.iload_n 2, 1) := by decide +kernel
theorem dX5_does_70 : decode cX5_does 70 = .ok (.bipush 10, 2) := by decide +kernel
theorem dX5_does_72 : decode cX5_does 72 = .ok (.isub, 1) := by decide +kernel
theorem dX5_does_73 : decode cX5_does 73 = .ok (.invokevirtual 182, 3) := by decide +kernel
theorem dX5_does_76 : decode cX5_does 76 = .ok (.ifCond .ne 16, 3) := by decide +kernel
theorem dX5_does_79 : decode cX5_does 79 = .ok (.goto 11, 3) := by decide +kernel
theorem dX5_does_82 : decode cX5_does 82 = .ok (.aload_n 0, 1) := by decide +kernel
theorem dX5_does_83 : decode cX5_does 83 = .ok (.iload_n 2, 1) := by decide +kernel
theorem dX5_does_84 : decode cX5_does 84 = .ok (.invokevirtual 171, 3) := by decide +kernel
theorem dX5_does_87 : decode cX5_does 87 = .ok (.ifCond .ne 5, 3) := by decide +kernel
theorem dX5_does_90 : decode cX5_does 90 = .ok (.iconst 0, 1) := by decide +kernel
theorem dX5_does_91 : decode cX5_does 91 = .ok (.ireturn, 1) := by decide +kernel
theorem dX5_does_92 : decode cX5_does 92 = .ok (.iload_n 2, 1) := by decide +kernel
theorem dX5_does_93 : decode cX5_does 93 = .ok (.bipush 10, 2) := by decide +kernel
theorem dX5_does_95 : decode cX5_does 95 = .ok (.if_icmp .lt 16, 3) := by decide +kernel
theorem dX5_does_98 : decode cX5_does 98 = .ok (.aload_n 0, 1) := by decide +kernel
theorem dX5_does_99 : decode cX5_does 99 = .ok (.getfield 28, 3) := by decide +kernel
theorem dX5_does_102 : decode cX5_does 102 = .ok (.iload_n 2, 1) := by decide +kernel
theorem dX5_does_103 : decode cX5_does 103 = .ok (.bipush 10, 2) := by decide +kernel
theorem dX5_does_105 : decode cX5_does 105 = .ok (.isub, 1) := by decide +kernel
theorem dX5_does_106 : decode cX5_does 106 = .ok (.iload_n 1, 1) := by decide +kernel
theorem dX5_does_107 : decode cX5_does 107 = .ok (.iastore, 1) := by decide +kernel
theorem dX5_does_108 : decode cX5_does 108 = .ok (.goto 10, 3) := by decide +kernel
theorem dX5_does_111 : decode cX5_does 111 = .ok (.aload_n 0, 1) := by decide +kernel
theorem dX5_does_112 : decode cX5_does 112 = .ok (.getfield 22, 3) := by decide +kernel
theorem dX5_does_115 : decode cX5_does 115 = .ok (.iload_n 2, 1) := by decide +kernel
theorem dX5_does_116 : decode cX5_does 116 = .ok (.iload_n 1, 1) := by decide +kernel
theorem dX5_does_117 : decode cX5_does 117 = .ok (.iastore, 1) := by decide +kernel
theorem dX5_does_118 : decode cX5_does 118 = .ok (.iconst 1, 1) := by decide +kernel
theorem dX5_does_119 : decode cX5_does 119 = .ok (.ireturn, 1) := by decide +kernel
theorem dX5_isPair_0 : decode cX5_isPair 0 = .ok (.iload_n 1, 1) := by decide +kernel
theorem dX5_isPair_1 : decode cX5_isPair 1 = .ok (.bipush 20, 2) := by decide +kernel
theorem dX5_isPair_3 : decode cX5_isPair 3 = .ok (.bipush 22, 2) := by decide +kernel
theorem dX5_isPair_5 : decode cX5_isPair 5 = .ok (.invokestatic 76, 3) := by decide +kernel
theorem dX5_isPair_8 : decode cX5_isPair 8 = .ok (.ifCond .eq 22, 3) := by decide +kernel
theorem dX5_isPair_11 : decode cX5_isPair 11 = .ok (.iload_n 0, 1) := by decide +kernel
theorem dX5_isPair_12 : decode cX5_isPair 12 = .ok (.iconst 0, 1) := by decide +kernel
theorem dX5_isPair_13 : decode cX5_isPair 13 = .ok (.iload_n 1, 1) := by decide +kernel
theorem dX5_isPair_14 : decode cX5_isPair 14 = .ok (.bipush 22, 2) := by decide +kernel
theorem dX5_isPair_16 : decode cX5_isPair 16 = .ok (.if_icmp .ne 8, 3) := by decide +kernel
theorem dX5_isPair_19 : decode cX5_isPair 19 = .ok (.bipush 7, 2) := by decide +kernel
theorem dX5_isPair_21 : decode cX5_isPair 21 = .ok (.goto 5, 3) := by decide +kernel
theorem dX5_isPair_24 : decode cX5_isPair 24 = .ok (.bipush 9, 2) := by decide +kernel
theorem dX5_isPair_26 : decode cX5_isPair 26 = .ok (.invokestatic 76, 3) := by decide +kernel
theorem dX5_isPair_29 : decode cX5_isPair 29 = .ok (.ireturn, 1) := by decide +kernel
theorem dX5_isPair_30 : decode cX5_isPair 30 = .ok (.iload_n 1, 1) := by decide +kernel
theorem dX5_isPair_31 : decode cX5_isPair 31 = .ok (.iconst 0, 1) := by decide +kernel
theorem dX5_isPair_32 : decode cX5_isPair 32 = .ok (.bipush 6, 2) := by decide +kernel
theorem dX5_isPair_34 : decode cX5_isPair 34 = .ok (.invokestatic 76, 3) := by decide +kernel
theorem dX5_isPair_37 : decode cX5_isPair 37 = .ok (.ifCond .ne 14, 3) := by decide +kernel
theorem dX5_isPair_40 : decode cX5_isPair 40 = .ok (.iload_n 1, 1) := by decide +kernel
theorem dX5_isPair_41 : decode cX5_isPair 41 = .ok (.bipush 10, 2) := by decide +kernel
theorem dX5_isPair_43 : decode cX5_isPair 43 = .ok (.bipush 16, 2) := by decide +kernel
theorem dX5_isPair_45 : decode cX5_isPair 45 = .ok (.invokestatic 76, 3) := by decide +kernel
theorem dX5_isPair_48 : decode cX5_isPair 48 = .ok (.ifCond .eq 17, 3) := by decide +kernel
theorem dX5_isPair_51 : decode cX5_isPair 51 = .ok (.iload_n 0, 1) := by decide +kernel
theorem dX5_isPair_52 : decode cX5_isPair 52 = .ok (.iconst 1, 1) := by decide +kernel
theorem dX5_isPair_53 : decode cX5_isPair 53 = .ok (.bipush 9, 2) := by decide +kernel
theorem dX5_isPair_55 : decode cX5_isPair 55 = .ok (.invokestatic 76, 3) := by decide +kernel
theorem dX5_isPair_58 : decode cX5_isPair 58 = .ok (.ifCond .eq 7, 3) := by decide +kernel
theorem dX5_isPair_61 : decode cX5_isPair 61 = .ok (.iconst 1, 1) := by decide +kernel
theorem dX5_isPair_62 : decode cX5_isPair 62 = .ok (.goto 4, 3) := by decide +kernel
theorem dX5_isPair_65 : decode cX5_isPair 65 = .ok (.iconst 0, 1) := by decide +kernel
theorem dX5_isPair_66 : decode cX5_isPair 66 = .ok (.ireturn, 1) := by decide +kernel
theorem dX5_goDay_0 : decode cX5_goDay 0 = .ok (.iconst 0, 1) := by decide +kernel
theorem dX5_goDay_1 : decode cX5_goDay 1 = .ok (.istore_n 3, 1) := by decide +kernel
theorem dX5_goDay_2 : decode cX5_goDay 2 = .ok (.iload_n 3, 1) := by decide +kernel
theorem dX5_goDay_3 : decode cX5_goDay 3 = .ok (.iload_n 2, 1) := by decide +kernel
theorem dX5_goDay_4 : decode cX5_goDay 4 = .ok (.if_icmp .ge 40, 3) := by decide +kernel
theorem dX5_goDay_7 : decode cX5_goDay 7 = .ok (.aload_n 0, 1) := by decide +kernel
theorem dX5_goDay_8 : decode cX5_goDay 8 = .ok (.aload_n 0, 1) := by decide +kernel
theorem dX5_goDay_9 : decode cX5_goDay 9 = .ok (.getfield 16, 3) := by decide +kernel
theorem dX5_goDay_12 : decode cX5_goDay 12 = .ok (.iload_n 1, 1) := by decide +kernel
theorem dX5_goDay_13 : decode cX5_goDay 13 = .ok (.iconst 2, 1) := by decide +kernel
theorem dX5_goDay_14 : decode cX5_goDay 14 = .ok (.iload_n 3, 1) := by decide +kernel
theorem dX5_goDay_15 : decode cX5_goDay 15 = .ok (.imul, 1) := by decide +kernel
theorem dX5_goDay_16 : decode cX5_goDay 16 = .ok (.iadd, 1) := by decide +kernel
theorem dX5_goDay_17 : decode cX5_goDay 17 = .ok (.iaload, 1) := by decide +kernel
theorem dX5_goDay_18 : decode cX5_goDay 18 = .ok (.aload_n 0, 1) := by decide +kernel
theorem dX5_goDay_19 : decode cX5_goDay 19 = .ok (.getfield 16, 3) := by decide +kernel
theorem dX5_goDay_22 : decode cX5_goDay 22 = .ok (.iload_n 1, 1) := by decide +kernel
theorem dX5_goDay_23 : decode cX5_goDay 23 = .ok (.iconst 2, 1) := by decide +kernel
theorem dX5_goDay_24 : decode cX5_goDay 24 = .ok (.iload_n 3, 1) := by decide +kernel
theorem dX5_goDay_25 : decode cX5_goDay 25 = .ok (.imul, 1) := by decide +kernel
theorem dX5_goDay_26 : decode cX5_goDay 26 = .ok (.iadd, 1) := by decide +kernel
theorem dX5_goDay_27 : decode cX5_goDay 27 = .ok (.iconst 1, 1) := by decide +kernel
theorem dX5_goDay_28 : decode cX5_goDay 28 = .ok (.iadd, 1) := by decide +kernel
theorem dX5_goDay_29 : decode cX5_goDay 29 = .ok (.iaload, 1) := by decide +kernel
theorem dX5_goDay_30 : decode cX5_goDay 30 = .ok (.invokevirtual 192, 3) := by decide +kernel
theorem dX5_goDay_33 : decode cX5_goDay 33 = .ok (.ifCond .ne 5, 3) := by decide +kernel
theorem dX5_goDay_36 : decode cX5_goDay 36 = .ok (.iload_n 3, 1) := by decide +kernel
theorem dX5_goDay_37 : decode cX5_goDay 37 = .ok (.ireturn, 1) := by decide +kernel
theorem dX5_goDay_38 : decode cX5_goDay 38 = .ok (.iinc 3 1, 3) := by decide +kernel
theorem dX5_goDay_41 : decode cX5_goDay 41 = .ok (.goto (-39), 3) := by decide +kernel
theorem dX5_goDay_44 : decode cX5_goDay 44 = .ok (.bipush (-9), 2) := by decide +kernel
theorem dX5_goDay_46 : decode cX5_goDay 46 = .ok (.ireturn, 1) := by decide +kernel
theorem dX5_day_0 : decode cX5_day 0 = .ok (.aload_n 0, 1) := by decide +kernel
theorem dX5_day_1 : decode cX5_day 1 = .ok (.iconst 0, 1) := by decide +kernel
theorem dX5_day_2 : decode cX5_day 2 = .ok (.putfield 70, 3) := by decide +kernel
theorem dX5_day_5 : decode cX5_day 5 = .ok (.iload_n 1, 1) := by decide +kernel
theorem dX5_day_6 : decode cX5_day 6 = .ok (.invokestatic 89, 3) := by decide +kernel
theorem dX5_day_9 : decode cX5_day 9 = .ok (.ifCond .ne 5, 3) := by decide +kernel
theorem dX5_day_12 : decode cX5_day 12 = .ok (.iconst (-1), 1) := by decide +kernel
theorem dX5_day_13 : decode cX5_day 13 = .ok (.ireturn, 1) := by decide +kernel
theorem dX5_day_14 : decode cX5_day 14 = .ok (.iload_n 2, 1) := by decide +kernel
theorem dX5_day_15 : decode cX5_day 15 = .ok (.invokestatic 93, 3) := by decide +kernel
theorem dX5_day_18 : decode cX5_day 18 = .ok (.ifCond .eq 36, 3) := by decide +kernel
theorem dX5_day_21 : decode cX5_day 21 = .ok (.iload 4, 2) := by decide +kernel
theorem dX5_day_23 : decode cX5_day 23 = .ok (.iconst 0, 1) := by decide +kernel
theorem dX5_day_24 : decode cX5_day 24 = .ok (.bipush 20, 2) := by decide +kernel
theorem dX5_day_26 : decode cX5_day 26 = .ok (.invokestatic 76, 3) := by decide +kernel
theorem dX5_day_29 : decode cX5_day 29 = .ok (.ifCond .eq 25, 3) := by decide +kernel
theorem dX5_day_32 : decode cX5_day 32 = .ok (.iload 5, 2) := by decide +kernel
theorem dX5_day_34 : decode cX5_day 34 = .ok (.iconst 0, 1) := by decide +kernel
theorem dX5_day_35 : decode cX5_day 35 = .ok (.iconst 4, 1) := by decide +kernel
theorem dX5_day_36 : decode cX5_day 36 = .ok (.invokestatic 76, 3) := by decide +kernel
theorem dX5_day_39 : decode cX5_day 39 = .ok (.ifCond .ne 18, 3) := by decide +kernel
theorem dX5_day_42 : decode cX5_day 42 = .ok (.iload 5, 2) := by decide +kernel
theorem dX5_day_44 : decode cX5_day 44 = .ok (.bipush 10, 2) := by decide +kernel
theorem dX5_day_46 : decode cX5_day 46 = .ok (.bipush 16, 2) := by decide +kernel
theorem dX5_day_48 : decode cX5_day 48 = .ok (.invokestatic 76, 3) := by decide +kernel
theorem dX5_day_51 : decode cX5_day 51 = .ok (.ifCond .ne 6, 3) := by decide +kernel
theorem dX5_day_54 : decode cX5_day 54 = .ok (.bipush (-2), 2) := by decide +kernel
theorem dX5_day_56 : decode cX5_day 56 = .ok (.ireturn, 1) := by decide +kernel
theorem dX5_day_57 : decode cX5_day 57 = .ok (.aload_n 0, 1) := by decide +kernel
theorem dX5_day_58 : decode cX5_day 58 = .ok (.iload_n 1, 1) := by decide +kernel
theorem dX5_day_59 : decode cX5_day 59 = .ok (.iload_n 2, 1) := by decide +kernel
theorem dX5_day_60 : decode cX5_day 60 = .ok (.iload_n 3, 1) := by decide +kernel
theorem dX5_day_61 : decode cX5_day 61 = .ok (.iconst 2, 1) := by decide +kernel
theorem dX5_day_62 : decode cX5_day 62 = .ok (.iload 4, 2) := by decide +kernel
theorem dX5_day_64 : decode cX5_day 64 = .ok (.imul, 1) := by decide +kernel
theorem dX5_day_65 : decode cX5_day 65 = .ok (.invokevirtual 96, 3) := by decide +kernel
theorem dX5_day_68 : decode cX5_day 68 = .ok (.istore 6, 2) := by decide +kernel
theorem dX5_day_70 : decode cX5_day 70 = .ok (.iload 6, 2) := by decide +kernel
theorem dX5_day_72 : decode cX5_day 72 = .ok (.ifCond .eq 10, 3) := by decide +kernel
theorem dX5_day_75 : decode cX5_day 75 = .ok (.aload_n 0, 1) := by decide +kernel
theorem dX5_day_76 : decode cX5_day 76 = .ok (.iload 6, 2) := by decide +kernel
theorem dX5_day_78 : decode cX5_day 78 = .ok (.invokevirtual 100, 3) := by decide +kernel
theorem dX5_day_81 : decode cX5_day 81 = .ok (.ireturn, 1) := by decide +kernel
theorem dX5_day_82 : decode cX5_day 82 = .ok (.aload_n 0, 1) := by decide +kernel
theorem dX5_day_83 : decode cX5_day 83 = .ok (.getfield 80, 3) := by decide +kernel
theorem dX5_day_86 : decode cX5_day 86 = .ok (.ifCond .ne 6, 3) := by decide +kernel
theorem dX5_day_89 : decode cX5_day 89 = .ok (.bipush (-3), 2) := by decide +kernel
theorem dX5_day_91 : decode cX5_day 91 = .ok (.ireturn, 1) := by decide +kernel
theorem dX5_day_92 : decode cX5_day 92 = .ok (.bipush 60, 2) := by decide +kernel
theorem dX5_day_94 : decode cX5_day 94 = .ok (.iload_n 1, 1) := by decide +kernel
theorem dX5_day_95 : decode cX5_day 95 = .ok (.imul, 1) := by decide +kernel
theorem dX5_day_96 : decode cX5_day 96 = .ok (.iload_n 3, 1) := by decide +kernel
theorem dX5_day_97 : decode cX5_day 97 = .ok (.iadd, 1) := by decide +kernel
theorem dX5_day_98 : decode cX5_day 98 = .ok (.istore 7, 2) := by decide +kernel
theorem dX5_day_100 : decode cX5_day 100 = .ok (.iconst 0, 1) := by decide +kernel
theorem dX5_day_101 : decode cX5_day 101 = .ok (.istore 8, 2) := by decide +kernel
theorem dX5_day_103 : decode cX5_day 103 = .ok (.iload 8, 2) := by decide +kernel
theorem dX5_day_105 : decode cX5_day 105 = .ok (.iload 4, 2) := by decide +kernel
theorem dX5_day_107 : decode cX5_day 107 = .ok (.if_icmp .ge 44, 3) := by decide +kernel
theorem dX5_day_110 : decode cX5_day 110 = .ok (.aload_n 0, 1) := by decide +kernel
theorem dX5_day_111 : decode cX5_day 111 = .ok (.getfield 16, 3) := by decide +kernel
theorem dX5_day_114 : decode cX5_day 114 = .ok (.iload 7, 2) := by decide +kernel
theorem dX5_day_116 : decode cX5_day 116 = .ok (.iconst 2, 1) := by decide +kernel
theorem dX5_day_117 : decode cX5_day 117 = .ok (.iload 8, 2) := by decide +kernel
theorem dX5_day_119 : decode cX5_day 119 = .ok (.imul, 1) := by decide +kernel
theorem dX5_day_120 : decode cX5_day 120 = .ok (.iadd, 1) := by decide +kernel
theorem dX5_day_121 : decode cX5_day 121 = .ok (.iaload, 1) := by decide +kernel
theorem dX5_day_122 : decode cX5_day 122 = .ok (.aload_n 0, 1) := by decide +kernel
theorem dX5_day_123 : decode cX5_day 123 = .ok (.getfield 16, 3) := by decide +kernel
theorem dX5_day_126 : decode cX5_day 126 = .ok (.iload 7, 2) := by decide +kernel
theorem dX5_day_128 : decode cX5_day 128 = .ok (.iconst 2, 1) := by decide +kernel
theorem dX5_day_129 : decode cX5_day 129 = .ok (.iload 8, 2) := by decide +kernel
theorem dX5_day_131 : decode cX5_day 131 = .ok (.imul, 1) := by decide +kernel
theorem dX5_day_132 : decode cX5_day 132 = .ok (.iadd, 1) := by decide +kernel
theorem dX5_day_133 : decode cX5_day 133 = .ok (.iconst 1, 1) := by decide +kernel
theorem dX5_day_134 : decode cX5_day 134 = .ok (.iadd, 1) := by decide +kernel
theorem dX5_day_135 : decode cX5_day 135 = .ok (.iaload, 1) := by decide +kernel
theorem dX5_day_136 : decode cX5_day 136 = .ok (.invokestatic 195, 3) := by decide +kernel
theorem dX5_day_139 : decode cX5_day 139 = .ok (.ifCond .ne 6, 3) := by decide +kernel
theorem dX5_day_142 : decode cX5_day 142 = .ok (.bipush (-2), 2) := by decide +kernel
theorem dX5_day_144 : decode cX5_day 144 = .ok (.ireturn, 1) := by decide +kernel
theorem dX5_day_145 : decode cX5_day 145 = .ok (.iinc 8 1, 3) := by decide +kernel
theorem dX5_day_148 : decode cX5_day 148 = .ok (.goto (-45), 3) := by decide +kernel
theorem dX5_day_151 : decode cX5_day 151 = .ok (.aload_n 0, 1) := by decide +kernel
theorem dX5_day_152 : decode cX5_day 152 = .ok (.invokevirtual 198, 3) := by decide +kernel
theorem dX5_day_155 : decode cX5_day 155 = .ok (.aload_n 0, 1) := by decide +kernel
theorem dX5_day_156 : decode cX5_day 156 = .ok (.iload 7, 2) := by decide +kernel
theorem dX5_day_158 : decode cX5_day 158 = .ok (.iload 4, 2) := by decide +kernel
theorem dX5_day_160 : decode cX5_day 160 = .ok (.invokevirtual 201, 3) := by decide +kernel
theorem dX5_day_163 : decode cX5_day 163 = .ok (.istore 8, 2) := by decide +kernel
theorem dX5_day_165 : decode cX5_day 165 = .ok (.aload_n 0, 1) := by decide +kernel
theorem dX5_day_166 : decode cX5_day 166 = .ok (.iload 5, 2) := by decide +kernel
theorem dX5_day_168 : decode cX5_day 168 = .ok (.invokevirtual 204, 3) := by decide +kernel
theorem dX5_day_171 : decode cX5_day 171 = .ok (.istore 9, 2) := by decide +kernel
theorem dX5_day_173 : decode cX5_day 173 = .ok (.aload_n 0, 1) := by decide +kernel
theorem dX5_day_174 : decode cX5_day 174 = .ok (.invokevirtual 207, 3) := by decide +kernel
theorem dX5_day_177 : decode cX5_day 177 = .ok (.iload 5, 2) := by decide +kernel
theorem dX5_day_179 : decode cX5_day 179 = .ok (.iconst 1, 1) := by decide +kernel
theorem dX5_day_180 : decode cX5_day 180 = .ok (.if_icmp .ne 8, 3) := by decide +kernel
theorem dX5_day_183 : decode cX5_day 183 = .ok (.iload 8, 2) := by decide +kernel
theorem dX5_day_185 : decode cX5_day 185 = .ok (.goto 20, 3) := by decide +kernel
theorem dX5_day_188 : decode cX5_day 188 = .ok (.iload 8, 2) := by decide +kernel
theorem dX5_day_190 : decode cX5_day 190 = .ok (.bipush (-9), 2) := by decide +kernel
theorem dX5_day_192 : decode cX5_day 192 = .ok (.if_icmp .ne 8, 3) := by decide +kernel
theorem dX5_day_195 : decode cX5_day 195 = .ok (.iload 9, 2) := by decide +kernel
theorem dX5_day_197 : decode cX5_day 197 = .ok (.goto 8, 3) := by decide +kernel
theorem dX5_day_200 : decode cX5_day 200 = .ok (.bipush (-100), 2) := by decide +kernel
theorem dX5_day_202 : decode cX5_day 202 = .ok (.iload 8, 2) := by decide +kernel
theorem dX5_day_204 : decode cX5_day 204 = .ok (.isub, 1) := by decide +kernel
theorem dX5_day_205 : decode cX5_day 205 = .ok (.ireturn, 1) := by decide +kernel
theorem dX5_tellDay_0 : decode cX5_tellDay 0 = .ok (.iload_n 1, 1) := by decide +kernel
theorem dX5_tellDay_1 : decode cX5_tellDay 1 = .ok (.bipush 10, 2) := by decide +kernel
theorem dX5_tellDay_3 : decode cX5_tellDay 3 = .ok (.if_icmp .ge 9, 3) := by decide +kernel
theorem dX5_tellDay_6 : decode cX5_tellDay 6 = .ok (.aload_n 0, 1) := by decide +kernel
theorem dX5_tellDay_7 : decode cX5_tellDay 7 = .ok (.iload_n 1, 1) := by decide +kernel
theorem dX5_tellDay_8 : decode cX5_tellDay 8 = .ok (.invokevirtual 189, 3) := by decide +kernel
theorem dX5_tellDay_11 : decode cX5_tellDay 11 = .ok (.ireturn, 1) := by decide +kernel
theorem dX5_tellDay_12 : decode cX5_tellDay 12 = .ok (.aload_n 0, 1) := by decide +kernel
theorem dX5_tellDay_13 : decode cX5_tellDay 13 = .ok (.invokevirtual 174, 3) := by decide +kernel
theorem dX5_tellDay_16 : decode cX5_tellDay 16 = .ok (.pop, 1) := by decide +kernel
theorem dX5_tellDay_17 : decode cX5_tellDay 17 = .ok (.aload_n 0, 1) := by decide +kernel
theorem dX5_tellDay_18 : decode cX5_tellDay 18 = .ok (.iload_n 1, 1) := by decide +kernel
theorem dX5_tellDay_19 : decode cX5_tellDay 19 = .ok (.bipush 10, 2) := by decide +kernel
theorem dX5_tellDay_21 : decode cX5_tellDay 21 = .ok (.isub, 1) := by decide +kernel
theorem dX5_tellDay_22 : decode cX5_tellDay 22 = .ok (.invokevirtual 171, 3) := by decide +kernel
theorem dX5_tellDay_25 : decode cX5_tellDay 25 = .ok (.ifCond .eq 15, 3) := by decide +kernel
theorem dX5_tellDay_28 : decode cX5_tellDay 28 = .ok (.aload_n 0, 1) := by decide +kernel
theorem dX5_tellDay_29 : decode cX5_tellDay 29 = .ok (.iconst 0, 1) := by decide +kernel
theorem dX5_tellDay_30 : decode cX5_tellDay 30 = .ok (.iload_n 1, 1) := by decide +kernel
theorem dX5_tellDay_31 : decode cX5_tellDay 31 = .ok (.bipush 10, 2) := by decide +kernel
theorem dX5_tellDay_33 : decode cX5_tellDay 33 = .ok (.isub, 1) := by decide +kernel
theorem dX5_tellDay_34 : decode cX5_tellDay 34 = .ok (.invokevirtual 178, 3) := by decide +kernel
theorem dX5_tellDay_37 : decode cX5_tellDay 37 = .ok (.goto 5, 3) := by decide +kernel
theorem dX5_tellDay_40 : decode cX5_tellDay 40 = .ok (.bipush (-9), 2) := by decide +kernel
theorem dX5_tellDay_42 : decode cX5_tellDay 42 = .ok (.ireturn, 1) := by decide +kernel
theorem dX5_by_0 : decode cX5_by 0 = .ok (.iload_n 1, 1) := by decide +kernel
theorem dX5_by_1 : decode cX5_by 1 = .ok (.iconst 0, 1) := by decide +kernel
theorem dX5_by_2 : decode cX5_by 2 = .ok (.bipush 7, 2) := by decide +kernel
theorem dX5_by_4 : decode cX5_by 4 = .ok (.invokestatic 76, 3) := by decide +kernel
theorem dX5_by_7 : decode cX5_by 7 = .ok (.ifCond .ne 6, 3) := by decide +kernel
theorem dX5_by_10 : decode cX5_by 10 = .ok (.bipush (-2), 2) := by decide +kernel
theorem dX5_by_12 : decode cX5_by 12 = .ok (.ireturn, 1) := by decide +kernel
theorem dX5_by_13 : decode cX5_by 13 = .ok (.aload_n 0, 1) := by decide +kernel
theorem dX5_by_14 : decode cX5_by 14 = .ok (.getfield 80, 3) := by decide +kernel
theorem dX5_by_17 : decode cX5_by 17 = .ok (.ifCond .ne 8, 3) := by decide +kernel
theorem dX5_by_20 : decode cX5_by 20 = .ok (.bipush (-3), 2) := by decide +kernel
theorem dX5_by_22 : decode cX5_by 22 = .ok (.goto 8, 3) := by decide +kernel
theorem dX5_by_25 : decode cX5_by 25 = .ok (.aload_n 0, 1) := by decide +kernel
theorem dX5_by_26 : decode cX5_by 26 = .ok (.iload_n 1, 1) := by decide +kernel
theorem dX5_by_27 : decode cX5_by 27 = .ok (.invokevirtual 162, 3) := by decide +kernel
theorem dX5_by_30 : decode cX5_by 30 = .ok (.ireturn, 1) := by decide +kernel
theorem dX5_enough_0 : decode cX5_enough 0 = .ok (.aload_n 0, 1) := by decide +kernel
theorem dX5_enough_1 : decode cX5_enough 1 = .ok (.getfield 80, 3) := by decide +kernel
theorem dX5_enough_4 : decode cX5_enough 4 = .ok (.ifCond .ne 6, 3) := by decide +kernel
theorem dX5_enough_7 : decode cX5_enough 7 = .ok (.bipush (-3), 2) := by decide +kernel
theorem dX5_enough_9 : decode cX5_enough 9 = .ok (.ireturn, 1) := by decide +kernel
theorem dX5_enough_10 : decode cX5_enough 10 = .ok (.aload_n 0, 1) := by decide +kernel
theorem dX5_enough_11 : decode cX5_enough 11 = .ok (.bipush 7, 2) := by decide +kernel
theorem dX5_enough_13 : decode cX5_enough 13 = .ok (.invokevirtual 162, 3) := by decide +kernel
theorem dX5_enough_16 : decode cX5_enough 16 = .ok (.istore_n 1, 1) := by decide +kernel
theorem dX5_enough_17 : decode cX5_enough 17 = .ok (.iconst 0, 1) := by decide +kernel
theorem dX5_enough_18 : decode cX5_enough 18 = .ok (.istore_n 2, 1) := by decide +kernel
theorem dX5_enough_19 : decode cX5_enough 19 = .ok (.aload_n 0, 1) := by decide +kernel
theorem dX5_enough_20 : decode cX5_enough 20 = .ok (.iload_n 2, 1) := by decide +kernel
theorem dX5_enough_21 : decode cX5_enough 21 = .ok (.invokevirtual 162, 3) := by decide +kernel
theorem dX5_enough_24 : decode cX5_enough 24 = .ok (.iload_n 1, 1) := by decide +kernel
theorem dX5_enough_25 : decode cX5_enough 25 = .ok (.if_icmp .eq 9, 3) := by decide +kernel
theorem dX5_enough_28 : decode cX5_enough 28 = .ok (.iinc 2 1, 3) := by decide +kernel
theorem dX5_enough_31 : decode cX5_enough 31 = .ok (.goto (-12), 3) := by decide +kernel
theorem dX5_enough_34 : decode cX5_enough 34 = .ok (.iload_n 2, 1) := by decide +kernel
theorem dX5_enough_35 : decode cX5_enough 35 = .ok (.ireturn, 1) := by decide +kernel
theorem dX5_reading_0 : decode cX5_reading 0 = .ok (.aload_n 0, 1) := by decide +kernel
theorem dX5_reading_1 : decode cX5_reading 1 = .ok (.getfield 80, 3) := by decide +kernel
theorem dX5_reading_4 : decode cX5_reading 4 = .ok (.ifCond .ne 6, 3) := by decide +kernel
theorem dX5_reading_7 : decode cX5_reading 7 = .ok (.bipush (-3), 2) := by decide +kernel
theorem dX5_reading_9 : decode cX5_reading 9 = .ok (.ireturn, 1) := by decide +kernel
theorem dX5_reading_10 : decode cX5_reading 10 = .ok (.iload_n 1, 1) := by decide +kernel
theorem dX5_reading_11 : decode cX5_reading 11 = .ok (.iconst 0, 1) := by decide +kernel
theorem dX5_reading_12 : decode cX5_reading 12 = .ok (.bipush 7, 2) := by decide +kernel
theorem dX5_reading_14 : decode cX5_reading 14 = .ok (.invokestatic 76, 3) := by decide +kernel
theorem dX5_reading_17 : decode cX5_reading 17 = .ok (.ifCond .eq 20, 3) := by decide +kernel
theorem dX5_reading_20 : decode cX5_reading 20 = .ok (.iload_n 2, 1) := by decide +kernel
theorem dX5_reading_21 : decode cX5_reading 21 = .ok (.bipush (-9), 2) := by decide +kernel
theorem dX5_reading_23 : decode cX5_reading 23 = .ok (.if_icmp .eq 17, 3) := by decide +kernel
theorem dX5_reading_26 : decode cX5_reading 26 = .ok (.iload_n 2, 1) := by decide +kernel
theorem dX5_reading_27 : decode cX5_reading 27 = .ok (.iconst 0, 1) := by decide +kernel
theorem dX5_reading_28 : decode cX5_reading 28 = .ok (.sipush 500, 3) := by decide +kernel
theorem dX5_reading_31 : decode cX5_reading 31 = .ok (.invokestatic 76, 3) := by decide +kernel
theorem dX5_reading_34 : decode cX5_reading 34 = .ok (.ifCond .ne 6, 3) := by decide +kernel
theorem dX5_reading_37 : decode cX5_reading 37 = .ok (.bipush (-2), 2) := by decide +kernel
theorem dX5_reading_39 : decode cX5_reading 39 = .ok (.ireturn, 1) := by decide +kernel
theorem dX5_reading_40 : decode cX5_reading 40 = .ok (.aload_n 0, 1) := by decide +kernel
theorem dX5_reading_41 : decode cX5_reading 41 = .ok (.getfield 122, 3) := by decide +kernel
theorem dX5_reading_44 : decode cX5_reading 44 = .ok (.bipush 8, 2) := by decide +kernel
theorem dX5_reading_46 : decode cX5_reading 46 = .ok (.if_icmp .ne 6, 3) := by decide +kernel
theorem dX5_reading_49 : decode cX5_reading 49 = .ok (.bipush (-4), 2) := by decide +kernel
theorem dX5_reading_51 : decode cX5_reading 51 = .ok (.ireturn, 1) := by decide +kernel
theorem dX5_reading_52 : decode cX5_reading 52 = .ok (.aload_n 0, 1) := by decide +kernel
theorem dX5_reading_53 : decode cX5_reading 53 = .ok (.getfield 64, 3) := by decide +kernel
theorem dX5_reading_56 : decode cX5_reading 56 = .ok (.aload_n 0, 1) := by decide +kernel
theorem dX5_reading_57 : decode cX5_reading 57 = .ok (.getfield 122, 3) := by decide +kernel
theorem dX5_reading_60 : decode cX5_reading 60 = .ok (.iload_n 1, 1) := by decide +kernel
theorem dX5_reading_61 : decode cX5_reading 61 = .ok (.iastore, 1) := by decide +kernel
theorem dX5_reading_62 : decode cX5_reading 62 = .ok (.aload_n 0, 1) := by decide +kernel
theorem dX5_reading_63 : decode cX5_reading 63 = .ok (.getfield 67, 3) := by decide +kernel
theorem dX5_reading_66 : decode cX5_reading 66 = .ok (.aload_n 0, 1) := by decide +kernel
theorem dX5_reading_67 : decode cX5_reading 67 = .ok (.getfield 122, 3) := by decide +kernel
theorem dX5_reading_70 : decode cX5_reading 70 = .ok (.iload_n 2, 1) := by decide +kernel
theorem dX5_reading_71 : decode cX5_reading 71 = .ok (.iastore, 1) := by decide +kernel
theorem dX5_reading_72 : decode cX5_reading 72 = .ok (.aload_n 0, 1) := by decide +kernel
theorem dX5_reading_73 : decode cX5_reading 73 = .ok (.dup, 1) := by decide +kernel
theorem dX5_reading_74 : decode cX5_reading 74 = .ok (.getfield 122, 3) := by decide +kernel
theorem dX5_reading_77 : decode cX5_reading 77 = .ok (.iconst 1, 1) := by decide +kernel
theorem dX5_reading_78 : decode cX5_reading 78 = .ok (.iadd, 1) := by decide +kernel
theorem dX5_reading_79 : decode cX5_reading 79 = .ok (.putfield 122, 3) := by decide +kernel
theorem dX5_reading_82 : decode cX5_reading 82 = .ok (.aload_n 0, 1) := by decide +kernel
theorem dX5_reading_83 : decode cX5_reading 83 = .ok (.getfield 122, 3) := by decide +kernel
theorem dX5_reading_86 : decode cX5_reading 86 = .ok (.iconst 1, 1) := by decide +kernel
theorem dX5_reading_87 : decode cX5_reading 87 = .ok (.isub, 1) := by decide +kernel
theorem dX5_reading_88 : decode cX5_reading 88 = .ok (.ireturn, 1) := by decide +kernel
theorem dX5_back_0 : decode cX5_back 0 = .ok (.iload_n 1, 1) := by decide +kernel
theorem dX5_back_1 : decode cX5_back 1 = .ok (.iconst 0, 1) := by decide +kernel
theorem dX5_back_2 : decode cX5_back 2 = .ok (.aload_n 0, 1) := by decide +kernel
theorem dX5_back_3 : decode cX5_back 3 = .ok (.getfield 122, 3) := by decide +kernel
theorem dX5_back_6 : decode cX5_back 6 = .ok (.invokestatic 76, 3) := by decide +kernel
theorem dX5_back_9 : decode cX5_back 9 = .ok (.ifCond .ne 6, 3) := by decide +kernel
theorem dX5_back_12 : decode cX5_back 12 = .ok (.bipush (-2), 2) := by decide +kernel
theorem dX5_back_14 : decode cX5_back 14 = .ok (.ireturn, 1) := by decide +kernel
theorem dX5_back_15 : decode cX5_back 15 = .ok (.aload_n 0, 1) := by decide +kernel
theorem dX5_back_16 : decode cX5_back 16 = .ok (.dup, 1) := by decide +kernel
theorem dX5_back_17 : decode cX5_back 17 = .ok (.getfield 122, 3) := by decide +kernel
theorem dX5_back_20 : decode cX5_back 20 = .ok (.iload_n 1, 1) := by decide +kernel
theorem dX5_back_21 : decode cX5_back 21 = .ok (.isub, 1) := by decide +kernel
theorem dX5_back_22 : decode cX5_back 22 = .ok (.putfield 122, 3) := by decide +kernel
theorem dX5_back_25 : decode cX5_back 25 = .ok (.aload_n 0, 1) := by decide +kernel
theorem dX5_back_26 : decode cX5_back 26 = .ok (.getfield 122, 3) := by decide +kernel
theorem dX5_back_29 : decode cX5_back 29 = .ok (.ireturn, 1) := by decide +kernel
theorem dX5_areSo_0 : decode cX5_areSo 0 = .ok (.iconst 0, 1) := by decide +kernel
theorem dX5_areSo_1 : decode cX5_areSo 1 = .ok (.istore_n 1, 1) := by decide +kernel
theorem dX5_areSo_2 : decode cX5_areSo 2 = .ok (.iload_n 1, 1) := by decide +kernel
theorem dX5_areSo_3 : decode cX5_areSo 3 = .ok (.aload_n 0, 1) := by decide +kernel
theorem dX5_areSo_4 : decode cX5_areSo 4 = .ok (.getfield 122, 3) := by decide +kernel
theorem dX5_areSo_7 : decode cX5_areSo 7 = .ok (.if_icmp .ge 30, 3) := by decide +kernel
theorem dX5_areSo_10 : decode cX5_areSo 10 = .ok (.aload_n 0, 1) := by decide +kernel
theorem dX5_areSo_11 : decode cX5_areSo 11 = .ok (.aload_n 0, 1) := by decide +kernel
theorem dX5_areSo_12 : decode cX5_areSo 12 = .ok (.getfield 64, 3) := by decide +kernel
theorem dX5_areSo_15 : decode cX5_areSo 15 = .ok (.iload_n 1, 1) := by decide +kernel
theorem dX5_areSo_16 : decode cX5_areSo 16 = .ok (.iaload, 1) := by decide +kernel
theorem dX5_areSo_17 : decode cX5_areSo 17 = .ok (.invokevirtual 162, 3) := by decide +kernel
theorem dX5_areSo_20 : decode cX5_areSo 20 = .ok (.aload_n 0, 1) := by decide +kernel
theorem dX5_areSo_21 : decode cX5_areSo 21 = .ok (.getfield 67, 3) := by decide +kernel
theorem dX5_areSo_24 : decode cX5_areSo 24 = .ok (.iload_n 1, 1) := by decide +kernel
theorem dX5_areSo_25 : decode cX5_areSo 25 = .ok (.iaload, 1) := by decide +kernel
theorem dX5_areSo_26 : decode cX5_areSo 26 = .ok (.if_icmp .eq 5, 3) := by decide +kernel
theorem dX5_areSo_29 : decode cX5_areSo 29 = .ok (.iconst 0, 1) := by decide +kernel
theorem dX5_areSo_30 : decode cX5_areSo 30 = .ok (.ireturn, 1) := by decide +kernel
theorem dX5_areSo_31 : decode cX5_areSo 31 = .ok (.iinc 1 1, 3) := by decide +kernel
theorem dX5_areSo_34 : decode cX5_areSo 34 = .ok (.goto (-32), 3) := by decide +kernel
theorem dX5_areSo_37 : decode cX5_areSo 37 = .ok (.iconst 1, 1) := by decide +kernel
theorem dX5_areSo_38 : decode cX5_areSo 38 = .ok (.ireturn, 1) := by decide +kernel
theorem dX5_kinds_0 : decode cX5_kinds 0 = .ok (.aload_n 0, 1) := by decide +kernel
theorem dX5_kinds_1 : decode cX5_kinds 1 = .ok (.iload_n 1, 1) := by decide +kernel
theorem dX5_kinds_2 : decode cX5_kinds 2 = .ok (.invokevirtual 171, 3) := by decide +kernel
theorem dX5_kinds_5 : decode cX5_kinds 5 = .ok (.ifCond .ne 5, 3) := by decide +kernel
theorem dX5_kinds_8 : decode cX5_kinds 8 = .ok (.iconst (-1), 1) := by decide +kernel
theorem dX5_kinds_9 : decode cX5_kinds 9 = .ok (.ireturn, 1) := by decide +kernel
theorem dX5_kinds_10 : decode cX5_kinds 10 = .ok (.aload_n 0, 1) := by decide +kernel
theorem dX5_kinds_11 : decode cX5_kinds 11 = .ok (.getfield 19, 3) := by decide +kernel
theorem dX5_kinds_14 : decode cX5_kinds 14 = .ok (.iload_n 1, 1) := by decide +kernel
theorem dX5_kinds_15 : decode cX5_kinds 15 = .ok (.iaload, 1) := by decide +kernel
theorem dX5_kinds_16 : decode cX5_kinds 16 = .ok (.istore_n 2, 1) := by decide +kernel
theorem dX5_kinds_17 : decode cX5_kinds 17 = .ok (.iconst 0, 1) := by decide +kernel
theorem dX5_kinds_18 : decode cX5_kinds 18 = .ok (.istore_n 3, 1) := by decide +kernel
theorem dX5_kinds_19 : decode cX5_kinds 19 = .ok (.iconst 0, 1) := by decide +kernel
theorem dX5_kinds_20 : decode cX5_kinds 20 = .ok (.istore 4, 2) := by decide +kernel
theorem dX5_kinds_22 : decode cX5_kinds 22 = .ok (.iload 4, 2) := by decide +kernel
theorem dX5_kinds_24 : decode cX5_kinds 24 = .ok (.iconst 3, 1) := by decide +kernel
theorem dX5_kinds_25 : decode cX5_kinds 25 = .ok (.if_icmp .ge 35, 3) := by decide +kernel
theorem dX5_kinds_28 : decode cX5_kinds 28 = .ok (.aload_n 0, 1) := by decide +kernel
theorem dX5_kinds_29 : decode cX5_kinds 29 = .ok (.getfield 19, 3) := by decide +kernel
theorem dX5_kinds_32 : decode cX5_kinds 32 = .ok (.iload_n 1, 1) := by decide +kernel
theorem dX5_kinds_33 : decode cX5_kinds 33 = .ok (.iload 4, 2) := by decide +kernel
theorem dX5_kinds_35 : decode cX5_kinds 35 = .ok (.iastore, 1) := by decide +kernel
theorem dX5_kinds_36 : decode cX5_kinds 36 = .ok (.iload_n 3, 1) := by decide +kernel
theorem dX5_kinds_37 : decode cX5_kinds 37 = .ok (.aload_n 0, 1) := by decide +kernel
theorem dX5_kinds_38 : decode cX5_kinds 38 = .ok (.invokevirtual 210, 3) := by decide +kernel
theorem dX5_kinds_41 : decode cX5_kinds 41 = .ok (.ifCond .eq 10, 3) := by decide +kernel
theorem dX5_kinds_44 : decode cX5_kinds 44 = .ok (.iconst 1, 1) := by decide +kernel
theorem dX5_kinds_45 : decode cX5_kinds 45 = .ok (.iload 4, 2) := by decide +kernel
theorem dX5_kinds_47 : decode cX5_kinds 47 = .ok (.ishl, 1) := by decide +kernel
theorem dX5_kinds_48 : decode cX5_kinds 48 = .ok (.goto 4, 3) := by decide +kernel
theorem dX5_kinds_51 : decode cX5_kinds 51 = .ok (.iconst 0, 1) := by decide +kernel
theorem dX5_kinds_52 : decode cX5_kinds 52 = .ok (.ior, 1) := by decide +kernel
theorem dX5_kinds_53 : decode cX5_kinds 53 = .ok (.istore_n 3, 1) := by decide +kernel
theorem dX5_kinds_54 : decode cX5_kinds 54 = .ok (.iinc 4 1, 3) := by decide +kernel
theorem dX5_kinds_57 : decode cX5_kinds 57 = .ok (.goto (-35), 3) := by decide +kernel
theorem dX5_kinds_60 : decode cX5_kinds 60 = .ok (.aload_n 0, 1) := by decide +kernel
theorem dX5_kinds_61 : decode cX5_kinds 61 = .ok (.getfield 19, 3) := by decide +kernel
theorem dX5_kinds_64 : decode cX5_kinds 64 = .ok (.iload_n 1, 1) := by decide +kernel
theorem dX5_kinds_65 : decode cX5_kinds 65 = .ok (.iload_n 2, 1) := by decide +kernel
theorem dX5_kinds_66 : decode cX5_kinds 66 = .ok (.iastore, 1) := by decide +kernel
theorem dX5_kinds_67 : decode cX5_kinds 67 = .ok (.iload_n 3, 1) := by decide +kernel
theorem dX5_kinds_68 : decode cX5_kinds 68 = .ok (.ireturn, 1) := by decide +kernel
theorem dX5_letterings_0 : decode cX5_letterings 0 = .ok (.aload_n 0, 1) := by decide +kernel
theorem dX5_letterings_1 : decode cX5_letterings 1 = .ok (.iload_n 1, 1) := by decide +kernel
theorem dX5_letterings_2 : decode cX5_letterings 2 = .ok (.invokevirtual 171, 3) := by decide +kernel
theorem dX5_letterings_5 : decode cX5_letterings 5 = .ok (.ifCond .ne 5, 3) := by decide +kernel
theorem dX5_letterings_8 : decode cX5_letterings 8 = .ok (.iconst (-1), 1) := by decide +kernel
theorem dX5_letterings_9 : decode cX5_letterings 9 = .ok (.ireturn, 1) := by decide +kernel
theorem dX5_letterings_10 : decode cX5_letterings 10 = .ok (.aload_n 0, 1) := by decide +kernel
theorem dX5_letterings_11 : decode cX5_letterings 11 = .ok (.getfield 22, 3) := by decide +kernel
theorem dX5_letterings_14 : decode cX5_letterings 14 = .ok (.iload_n 1, 1) := by decide +kernel
theorem dX5_letterings_15 : decode cX5_letterings 15 = .ok (.iaload, 1) := by decide +kernel
theorem dX5_letterings_16 : decode cX5_letterings 16 = .ok (.istore_n 2, 1) := by decide +kernel
theorem dX5_letterings_17 : decode cX5_letterings 17 = .ok (.iconst 0, 1) := by decide +kernel
theorem dX5_letterings_18 : decode cX5_letterings 18 = .ok (.istore_n 3, 1) := by decide +kernel
theorem dX5_letterings_19 : decode cX5_letterings 19 = .ok (.iconst 1, 1) := by decide +kernel
theorem dX5_letterings_20 : decode cX5_letterings 20 = .ok (.istore 4, 2) := by decide +kernel
theorem dX5_letterings_22 : decode cX5_letterings 22 = .ok (.iload 4, 2) := by decide +kernel
theorem dX5_letterings_24 : decode cX5_letterings 24 = .ok (.bipush 9, 2) := by decide +kernel
theorem dX5_letterings_26 : decode cX5_letterings 26 = .ok (.if_icmp .gt 35, 3) := by decide +kernel
theorem dX5_letterings_29 : decode cX5_letterings 29 = .ok (.aload_n 0, 1) := by decide +kernel
theorem dX5_letterings_30 : decode cX5_letterings 30 = .ok (.getfield 22, 3) := by decide +kernel
theorem dX5_letterings_33 : decode cX5_letterings 33 = .ok (.iload_n 1, 1) := by decide +kernel
theorem dX5_letterings_34 : decode cX5_letterings 34 = .ok (.iload 4, 2) := by decide +kernel
theorem dX5_letterings_36 : decode cX5_letterings 36 = .ok (.iastore, 1) := by decide +kernel
theorem dX5_letterings_37 : decode cX5_letterings 37 = .ok (.iload_n 3, 1) := by decide +kernel
theorem dX5_letterings_38 : decode cX5_letterings 38 = .ok (.aload_n 0, 1) := by decide +kernel
theorem dX5_letterings_39 : decode cX5_letterings 39 = .ok (.invokevirtual 210, 3) := by decide +kernel
theorem dX5_letterings_42 : decode cX5_letterings 42 = .ok (.ifCond .eq 10, 3) := by decide +kernel
theorem dX5_letterings_45 : decode cX5_letterings 45 = .ok (.iconst 1, 1) := by decide +kernel
theorem dX5_letterings_46 : decode cX5_letterings 46 = .ok (.iload 4, 2) := by decide +kernel
theorem dX5_letterings_48 : decode cX5_letterings 48 = .ok (.ishl, 1) := by decide +kernel
theorem dX5_letterings_49 : decode cX5_letterings 49 = .ok (.goto 4, 3) := by decide +kernel
theorem dX5_letterings_52 : decode cX5_letterings 52 = .ok (.iconst 0, 1) := by decide +kernel
theorem dX5_letterings_53 : decode cX5_letterings 53 = .ok (.ior, 1) := by decide +kernel
theorem dX5_letterings_54 : decode cX5_letterings 54 = .ok (.istore_n 3, 1) := by decide +kernel
theorem dX5_letterings_55 : decode cX5_letterings 55 = .ok (.iinc 4 1, 3) := by decide +kernel
theorem dX5_letterings_58 : decode cX5_letterings 58 = .ok (.goto (-36), 3) := by decide +kernel
theorem dX5_letterings_61 : decode cX5_letterings 61 = .ok (.aload_n 0, 1) := by decide +kernel
theorem dX5_letterings_62 : decode cX5_letterings 62 = .ok (.getfield 22, 3) := by decide +kernel
theorem dX5_letterings_65 : decode cX5_letterings 65 = .ok (.iload_n 1, 1) := by decide +kernel
theorem dX5_letterings_66 : decode cX5_letterings 66 = .ok (.iload_n 2, 1) := by decide +kernel
theorem dX5_letterings_67 : decode cX5_letterings 67 = .ok (.iastore, 1) := by decide +kernel
theorem dX5_letterings_68 : decode cX5_letterings 68 = .ok (.iload_n 3, 1) := by decide +kernel
theorem dX5_letterings_69 : decode cX5_letterings 69 = .ok (.ireturn, 1) := by decide +kernel
theorem dX5_inLeastTerms_0 : decode cX5_inLeastTerms 0 = .ok (.lload_n 0, 1) := by decide +kernel
theorem dX5_inLeastTerms_1 : decode cX5_inLeastTerms 1 = .ok (.lstore 5, 2) := by decide +kernel
theorem dX5_inLeastTerms_3 : decode cX5_inLeastTerms 3 = .ok (.lload_n 2, 1) := by decide +kernel
theorem dX5_inLeastTerms_4 : decode cX5_inLeastTerms 4 = .ok (.lstore 7, 2) := by decide +kernel
theorem dX5_inLeastTerms_6 : decode cX5_inLeastTerms 6 = .ok (.lload 7, 2) := by decide +kernel
theorem dX5_inLeastTerms_8 : decode cX5_inLeastTerms 8 = .ok (.lconst 0, 1) := by decide +kernel
theorem dX5_inLeastTerms_9 : decode cX5_inLeastTerms 9 = .ok (.lcmp, 1) := by decide +kernel
theorem dX5_inLeastTerms_10 : decode cX5_inLeastTerms 10 = .ok (.ifCond .eq 21, 3) := by decide +kernel
theorem dX5_inLeastTerms_13 : decode cX5_inLeastTerms 13 = .ok (.lload 5, 2) := by decide +kernel
theorem dX5_inLeastTerms_15 : decode cX5_inLeastTerms 15 = .ok (.lload 7, 2) := by decide +kernel
theorem dX5_inLeastTerms_17 : decode cX5_inLeastTerms 17 = .ok (.lrem, 1) := by decide +kernel
theorem dX5_inLeastTerms_18 : decode cX5_inLeastTerms 18 = .ok (.lstore 9, 2) := by decide +kernel
theorem dX5_inLeastTerms_20 : decode cX5_inLeastTerms 20 = .ok (.lload 7, 2) := by decide +kernel
theorem dX5_inLeastTerms_22 : decode cX5_inLeastTerms 22 = .ok (.lstore 5, 2) := by decide +kernel
theorem dX5_inLeastTerms_24 : decode cX5_inLeastTerms 24 = .ok (.lload 9, 2) := by decide +kernel
theorem dX5_inLeastTerms_26 : decode cX5_inLeastTerms 26 = .ok (.lstore 7, 2) := by decide +kernel
theorem dX5_inLeastTerms_28 : decode cX5_inLeastTerms 28 = .ok (.goto (-22), 3) := by decide +kernel
theorem dX5_inLeastTerms_31 : decode cX5_inLeastTerms 31 = .ok (.iload 4, 2) := by decide +kernel
theorem dX5_inLeastTerms_33 : decode cX5_inLeastTerms 33 = .ok (.ifCond .ne 10, 3) := by decide +kernel
theorem dX5_inLeastTerms_36 : decode cX5_inLeastTerms 36 = .ok (.lload_n 0, 1) := by decide +kernel
theorem dX5_inLeastTerms_37 : decode cX5_inLeastTerms 37 = .ok (.lload 5, 2) := by decide +kernel
theorem dX5_inLeastTerms_39 : decode cX5_inLeastTerms 39 = .ok (.ldiv, 1) := by decide +kernel
theorem dX5_inLeastTerms_40 : decode cX5_inLeastTerms 40 = .ok (.goto 7, 3) := by decide +kernel
theorem dX5_inLeastTerms_43 : decode cX5_inLeastTerms 43 = .ok (.lload_n 2, 1) := by decide +kernel
theorem dX5_inLeastTerms_44 : decode cX5_inLeastTerms 44 = .ok (.lload 5, 2) := by decide +kernel
theorem dX5_inLeastTerms_46 : decode cX5_inLeastTerms 46 = .ok (.ldiv, 1) := by decide +kernel
theorem dX5_inLeastTerms_47 : decode cX5_inLeastTerms 47 = .ok (.lreturn, 1) := by decide +kernel
theorem dX5_odds_0 : decode cX5_odds 0 = .ok (.iload_n 1, 1) := by decide +kernel
theorem dX5_odds_1 : decode cX5_odds 1 = .ok (.iconst 0, 1) := by decide +kernel
theorem dX5_odds_2 : decode cX5_odds 2 = .ok (.iconst 4, 1) := by decide +kernel
theorem dX5_odds_3 : decode cX5_odds 3 = .ok (.invokestatic 76, 3) := by decide +kernel
theorem dX5_odds_6 : decode cX5_odds 6 = .ok (.ifCond .eq 28, 3) := by decide +kernel
theorem dX5_odds_9 : decode cX5_odds 9 = .ok (.iload_n 2, 1) := by decide +kernel
theorem dX5_odds_10 : decode cX5_odds 10 = .ok (.iconst 0, 1) := by decide +kernel
theorem dX5_odds_11 : decode cX5_odds 11 = .ok (.iconst 1, 1) := by decide +kernel
theorem dX5_odds_12 : decode cX5_odds 12 = .ok (.invokestatic 76, 3) := by decide +kernel
theorem dX5_odds_15 : decode cX5_odds 15 = .ok (.ifCond .eq 19, 3) := by decide +kernel
theorem dX5_odds_18 : decode cX5_odds 18 = .ok (.aload_n 0, 1) := by decide +kernel
theorem dX5_odds_19 : decode cX5_odds 19 = .ok (.getfield 80, 3) := by decide +kernel
theorem dX5_odds_22 : decode cX5_odds 22 = .ok (.ifCond .eq 12, 3) := by decide +kernel
theorem dX5_odds_25 : decode cX5_odds 25 = .ok (.aload_n 0, 1) := by decide +kernel
theorem dX5_odds_26 : decode cX5_odds 26 = .ok (.invokevirtual 174, 3) := by decide +kernel
theorem dX5_odds_29 : decode cX5_odds 29 = .ok (.bipush (-9), 2) := by decide +kernel
theorem dX5_odds_31 : decode cX5_odds 31 = .ok (.if_icmp .ne 7, 3) := by decide +kernel
theorem dX5_odds_34 : decode cX5_odds 34 = .ok (.ldc2_w 74, 3) := by decide +kernel
theorem dX5_odds_37 : decode cX5_odds 37 = .ok (.lreturn, 1) := by decide +kernel
theorem dX5_odds_38 : decode cX5_odds 38 = .ok (.iconst 0, 1) := by decide +kernel
theorem dX5_odds_39 : decode cX5_odds 39 = .ok (.istore_n 3, 1) := by decide +kernel
theorem dX5_odds_40 : decode cX5_odds 40 = .ok (.iconst 0, 1) := by decide +kernel
theorem dX5_odds_41 : decode cX5_odds 41 = .ok (.istore 4, 2) := by decide +kernel
theorem dX5_odds_43 : decode cX5_odds 43 = .ok (.iload 4, 2) := by decide +kernel
theorem dX5_odds_45 : decode cX5_odds 45 = .ok (.aload_n 0, 1) := by decide +kernel
theorem dX5_odds_46 : decode cX5_odds 46 = .ok (.getfield 165, 3) := by decide +kernel
theorem dX5_odds_49 : decode cX5_odds 49 = .ok (.if_icmp .ge 28, 3) := by decide +kernel
theorem dX5_odds_52 : decode cX5_odds 52 = .ok (.iload_n 3, 1) := by decide +kernel
theorem dX5_odds_53 : decode cX5_odds 53 = .ok (.aload_n 0, 1) := by decide +kernel
theorem dX5_odds_54 : decode cX5_odds 54 = .ok (.getfield 52, 3) := by decide +kernel
theorem dX5_odds_57 : decode cX5_odds 57 = .ok (.iload 4, 2) := by decide +kernel
theorem dX5_odds_59 : decode cX5_odds 59 = .ok (.iaload, 1) := by decide +kernel
theorem dX5_odds_60 : decode cX5_odds 60 = .ok (.iload_n 1, 1) := by decide +kernel
theorem dX5_odds_61 : decode cX5_odds 61 = .ok (.if_icmp .ne 7, 3) := by decide +kernel
theorem dX5_odds_64 : decode cX5_odds 64 = .ok (.iconst 1, 1) := by decide +kernel
theorem dX5_odds_65 : decode cX5_odds 65 = .ok (.goto 4, 3) := by decide +kernel
theorem dX5_odds_68 : decode cX5_odds 68 = .ok (.iconst 0, 1) := by decide +kernel
theorem dX5_odds_69 : decode cX5_odds 69 = .ok (.iadd, 1) := by decide +kernel
theorem dX5_odds_70 : decode cX5_odds 70 = .ok (.istore_n 3, 1) := by decide +kernel
theorem dX5_odds_71 : decode cX5_odds 71 = .ok (.iinc 4 1, 3) := by decide +kernel
theorem dX5_odds_74 : decode cX5_odds 74 = .ok (.goto (-31), 3) := by decide +kernel
theorem dX5_odds_77 : decode cX5_odds 77 = .ok (.iload_n 3, 1) := by decide +kernel
theorem dX5_odds_78 : decode cX5_odds 78 = .ok (.i2l, 1) := by decide +kernel
theorem dX5_odds_79 : decode cX5_odds 79 = .ok (.aload_n 0, 1) := by decide +kernel
theorem dX5_odds_80 : decode cX5_odds 80 = .ok (.getfield 165, 3) := by decide +kernel
theorem dX5_odds_83 : decode cX5_odds 83 = .ok (.i2l, 1) := by decide +kernel
theorem dX5_odds_84 : decode cX5_odds 84 = .ok (.iload_n 2, 1) := by decide +kernel
theorem dX5_odds_85 : decode cX5_odds 85 = .ok (.invokestatic 214, 3) := by decide +kernel
theorem dX5_odds_88 : decode cX5_odds 88 = .ok (.lreturn, 1) := by decide +kernel
theorem dX5_sheet_0 : decode cX5_sheet 0 = .ok (.aload_n 0, 1) := by decide +kernel
theorem dX5_sheet_1 : decode cX5_sheet 1 = .ok (.iconst 0, 1) := by decide +kernel
theorem dX5_sheet_2 : decode cX5_sheet 2 = .ok (.putfield 70, 3) := by decide +kernel
theorem dX5_sheet_5 : decode cX5_sheet 5 = .ok (.iload_n 1, 1) := by decide +kernel
theorem dX5_sheet_6 : decode cX5_sheet 6 = .ok (.invokestatic 89, 3) := by decide +kernel
theorem dX5_sheet_9 : decode cX5_sheet 9 = .ok (.ifCond .ne 5, 3) := by decide +kernel
theorem dX5_sheet_12 : decode cX5_sheet 12 = .ok (.iconst (-1), 1) := by decide +kernel
theorem dX5_sheet_13 : decode cX5_sheet 13 = .ok (.ireturn, 1) := by decide +kernel
theorem dX5_sheet_14 : decode cX5_sheet 14 = .ok (.iload_n 2, 1) := by decide +kernel
theorem dX5_sheet_15 : decode cX5_sheet 15 = .ok (.invokestatic 93, 3) := by decide +kernel
theorem dX5_sheet_18 : decode cX5_sheet 18 = .ok (.ifCond .eq 9, 3) := by decide +kernel
theorem dX5_sheet_21 : decode cX5_sheet 21 = .ok (.iload_n 3, 1) := by decide +kernel
theorem dX5_sheet_22 : decode cX5_sheet 22 = .ok (.bipush 60, 2) := by decide +kernel
theorem dX5_sheet_24 : decode cX5_sheet 24 = .ok (.if_icmp .le 6, 3) := by decide +kernel
theorem dX5_sheet_27 : decode cX5_sheet 27 = .ok (.bipush (-2), 2) := by decide +kernel
theorem dX5_sheet_29 : decode cX5_sheet 29 = .ok (.ireturn, 1) := by decide +kernel
theorem dX5_sheet_30 : decode cX5_sheet 30 = .ok (.iload_n 3, 1) := by decide +kernel
theorem dX5_sheet_31 : decode cX5_sheet 31 = .ok (.ifCond .ge 9, 3) := by decide +kernel
theorem dX5_sheet_34 : decode cX5_sheet 34 = .ok (.aload_n 0, 1) := by decide +kernel
theorem dX5_sheet_35 : decode cX5_sheet 35 = .ok (.iconst 4, 1) := by decide +kernel
theorem dX5_sheet_36 : decode cX5_sheet 36 = .ok (.invokevirtual 100, 3) := by decide +kernel
theorem dX5_sheet_39 : decode cX5_sheet 39 = .ok (.ireturn, 1) := by decide +kernel
theorem dX5_sheet_40 : decode cX5_sheet 40 = .ok (.aload_n 0, 1) := by decide +kernel
theorem dX5_sheet_41 : decode cX5_sheet 41 = .ok (.getfield 9, 3) := by decide +kernel
theorem dX5_sheet_44 : decode cX5_sheet 44 = .ok (.iload_n 1, 1) := by decide +kernel
theorem dX5_sheet_45 : decode cX5_sheet 45 = .ok (.iload_n 2, 1) := by decide +kernel
theorem dX5_sheet_46 : decode cX5_sheet 46 = .ok (.iastore, 1) := by decide +kernel
theorem dX5_sheet_47 : decode cX5_sheet 47 = .ok (.aload_n 0, 1) := by decide +kernel
theorem dX5_sheet_48 : decode cX5_sheet 48 = .ok (.getfield 13, 3) := by decide +kernel
theorem dX5_sheet_51 : decode cX5_sheet 51 = .ok (.iload_n 1, 1) := by decide +kernel
theorem dX5_sheet_52 : decode cX5_sheet 52 = .ok (.iload_n 3, 1) := by decide +kernel
theorem dX5_sheet_53 : decode cX5_sheet 53 = .ok (.iastore, 1) := by decide +kernel
theorem dX5_sheet_54 : decode cX5_sheet 54 = .ok (.iconst 0, 1) := by decide +kernel
theorem dX5_sheet_55 : decode cX5_sheet 55 = .ok (.istore 4, 2) := by decide +kernel
theorem dX5_sheet_57 : decode cX5_sheet 57 = .ok (.iload 4, 2) := by decide +kernel
theorem dX5_sheet_59 : decode cX5_sheet 59 = .ok (.bipush 60, 2) := by decide +kernel
theorem dX5_sheet_61 : decode cX5_sheet 61 = .ok (.if_icmp .ge 22, 3) := by decide +kernel
theorem dX5_sheet_64 : decode cX5_sheet 64 = .ok (.aload_n 0, 1) := by decide +kernel
theorem dX5_sheet_65 : decode cX5_sheet 65 = .ok (.getfield 16, 3) := by decide +kernel
theorem dX5_sheet_68 : decode cX5_sheet 68 = .ok (.bipush 60, 2) := by decide +kernel
theorem dX5_sheet_70 : decode cX5_sheet 70 = .ok (.iload_n 1, 1) := by decide +kernel
theorem dX5_sheet_71 : decode cX5_sheet 71 = .ok (.imul, 1) := by decide +kernel
theorem dX5_sheet_72 : decode cX5_sheet 72 = .ok (.iload 4, 2) := by decide +kernel
theorem dX5_sheet_74 : decode cX5_sheet 74 = .ok (.iadd, 1) := by decide +kernel
theorem dX5_sheet_75 : decode cX5_sheet 75 = .ok (.iconst 0, 1) := by decide +kernel
theorem dX5_sheet_76 : decode cX5_sheet 76 = .ok (.iastore, 1) := by decide +kernel
theorem dX5_sheet_77 : decode cX5_sheet 77 = .ok (.iinc 4 1, 3) := by decide +kernel
theorem dX5_sheet_80 : decode cX5_sheet 80 = .ok (.goto (-23), 3) := by decide +kernel
theorem dX5_sheet_83 : decode cX5_sheet 83 = .ok (.iconst 1, 1) := by decide +kernel
theorem dX5_sheet_84 : decode cX5_sheet 84 = .ok (.ireturn, 1) := by decide +kernel
theorem dX5_lose_0 : decode cX5_lose 0 = .ok (.iload_n 1, 1) := by decide +kernel
theorem dX5_lose_1 : decode cX5_lose 1 = .ok (.invokestatic 89, 3) := by decide +kernel
theorem dX5_lose_4 : decode cX5_lose 4 = .ok (.ifCond .ne 5, 3) := by decide +kernel
theorem dX5_lose_7 : decode cX5_lose 7 = .ok (.iconst (-1), 1) := by decide +kernel
theorem dX5_lose_8 : decode cX5_lose 8 = .ok (.ireturn, 1) := by decide +kernel
theorem dX5_lose_9 : decode cX5_lose 9 = .ok (.aload_n 0, 1) := by decide +kernel
theorem dX5_lose_10 : decode cX5_lose 10 = .ok (.getfield 9, 3) := by decide +kernel
theorem dX5_lose_13 : decode cX5_lose 13 = .ok (.iload_n 1, 1) := by decide +kernel
theorem dX5_lose_14 : decode cX5_lose 14 = .ok (.iaload, 1) := by decide +kernel
theorem dX5_lose_15 : decode cX5_lose 15 = .ok (.bipush (-9), 2) := by decide +kernel
theorem dX5_lose_17 : decode cX5_lose 17 = .ok (.if_icmp .ne 7, 3) := by decide +kernel
theorem dX5_lose_20 : decode cX5_lose 20 = .ok (.iconst 0, 1) := by decide +kernel
theorem dX5_lose_21 : decode cX5_lose 21 = .ok (.goto 4, 3) := by decide +kernel
theorem dX5_lose_24 : decode cX5_lose 24 = .ok (.iconst 1, 1) := by decide +kernel
theorem dX5_lose_25 : decode cX5_lose 25 = .ok (.istore_n 2, 1) := by decide +kernel
theorem dX5_lose_26 : decode cX5_lose 26 = .ok (.aload_n 0, 1) := by decide +kernel
theorem dX5_lose_27 : decode cX5_lose 27 = .ok (.getfield 9, 3) := by decide +kernel
theorem dX5_lose_30 : decode cX5_lose 30 = .ok (.iload_n 1, 1) := by decide +kernel
theorem dX5_lose_31 : decode cX5_lose 31 = .ok (.bipush (-9), 2) := by decide +kernel
theorem dX5_lose_33 : decode cX5_lose 33 = .ok (.iastore, 1) := by decide +kernel
theorem dX5_lose_34 : decode cX5_lose 34 = .ok (.iload_n 2, 1) := by decide +kernel
theorem dX5_lose_35 : decode cX5_lose 35 = .ok (.ireturn, 1) := by decide +kernel
theorem dX5_put_0 : decode cX5_put 0 = .ok (.aload_n 0, 1) := by decide +kernel
theorem dX5_put_1 : decode cX5_put 1 = .ok (.iconst 0, 1) := by decide +kernel
theorem dX5_put_2 : decode cX5_put 2 = .ok (.putfield 70, 3) := by decide +kernel
theorem dX5_put_5 : decode cX5_put 5 = .ok (.iload_n 1, 1) := by decide +kernel
theorem dX5_put_6 : decode cX5_put 6 = .ok (.invokestatic 89, 3) := by decide +kernel
theorem dX5_put_9 : decode cX5_put 9 = .ok (.ifCond .ne 5, 3) := by decide +kernel
theorem dX5_put_12 : decode cX5_put 12 = .ok (.iconst (-1), 1) := by decide +kernel
theorem dX5_put_13 : decode cX5_put 13 = .ok (.ireturn, 1) := by decide +kernel
theorem dX5_put_14 : decode cX5_put 14 = .ok (.aload_n 0, 1) := by decide +kernel
