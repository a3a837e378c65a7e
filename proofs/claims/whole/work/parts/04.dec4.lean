theorem dX5_put_15 : decode cX5_put 15 = .ok (.getfield 9, 3) := by decide +kernel
theorem dX5_put_18 : decode cX5_put 18 = .ok (.iload_n 1, 1) := by decide +kernel
theorem dX5_put_19 : decode cX5_put 19 = .ok (.iaload, 1) := by decide +kernel
theorem dX5_put_20 : decode cX5_put 20 = .ok (.bipush (-9), 2) := by decide +kernel
theorem dX5_put_22 : decode cX5_put 22 = .ok (.if_icmp .ne 9, 3) := by decide +kernel
theorem dX5_put_25 : decode cX5_put 25 = .ok (.aload_n 0, 1) := by decide +kernel
theorem dX5_put_26 : decode cX5_put 26 = .ok (.iconst 1, 1) := by decide +kernel
theorem dX5_put_27 : decode cX5_put 27 = .ok (.invokevirtual 100, 3) := by decide +kernel
theorem dX5_put_30 : decode cX5_put 30 = .ok (.ireturn, 1) := by decide +kernel
theorem dX5_put_31 : decode cX5_put 31 = .ok (.iload_n 2, 1) := by decide +kernel
theorem dX5_put_32 : decode cX5_put 32 = .ok (.iconst 0, 1) := by decide +kernel
theorem dX5_put_33 : decode cX5_put 33 = .ok (.aload_n 0, 1) := by decide +kernel
theorem dX5_put_34 : decode cX5_put 34 = .ok (.getfield 13, 3) := by decide +kernel
theorem dX5_put_37 : decode cX5_put 37 = .ok (.iload_n 1, 1) := by decide +kernel
theorem dX5_put_38 : decode cX5_put 38 = .ok (.iaload, 1) := by decide +kernel
theorem dX5_put_39 : decode cX5_put 39 = .ok (.iconst 1, 1) := by decide +kernel
theorem dX5_put_40 : decode cX5_put 40 = .ok (.isub, 1) := by decide +kernel
theorem dX5_put_41 : decode cX5_put 41 = .ok (.invokestatic 76, 3) := by decide +kernel
theorem dX5_put_44 : decode cX5_put 44 = .ok (.ifCond .ne 9, 3) := by decide +kernel
theorem dX5_put_47 : decode cX5_put 47 = .ok (.aload_n 0, 1) := by decide +kernel
theorem dX5_put_48 : decode cX5_put 48 = .ok (.iconst 3, 1) := by decide +kernel
theorem dX5_put_49 : decode cX5_put 49 = .ok (.invokevirtual 100, 3) := by decide +kernel
theorem dX5_put_52 : decode cX5_put 52 = .ok (.ireturn, 1) := by decide +kernel
theorem dX5_put_53 : decode cX5_put 53 = .ok (.aload_n 0, 1) := by decide +kernel
theorem dX5_put_54 : decode cX5_put 54 = .ok (.getfield 16, 3) := by decide +kernel
theorem dX5_put_57 : decode cX5_put 57 = .ok (.bipush 60, 2) := by decide +kernel
theorem dX5_put_59 : decode cX5_put 59 = .ok (.iload_n 1, 1) := by decide +kernel
theorem dX5_put_60 : decode cX5_put 60 = .ok (.imul, 1) := by decide +kernel
theorem dX5_put_61 : decode cX5_put 61 = .ok (.iload_n 2, 1) := by decide +kernel
theorem dX5_put_62 : decode cX5_put 62 = .ok (.iadd, 1) := by decide +kernel
theorem dX5_put_63 : decode cX5_put 63 = .ok (.aload_n 0, 1) := by decide +kernel
theorem dX5_put_64 : decode cX5_put 64 = .ok (.getfield 9, 3) := by decide +kernel
theorem dX5_put_67 : decode cX5_put 67 = .ok (.iload_n 1, 1) := by decide +kernel
theorem dX5_put_68 : decode cX5_put 68 = .ok (.iaload, 1) := by decide +kernel
theorem dX5_put_69 : decode cX5_put 69 = .ok (.ifCond .ne 8, 3) := by decide +kernel
theorem dX5_put_72 : decode cX5_put 72 = .ok (.iload_n 3, 1) := by decide +kernel
theorem dX5_put_73 : decode cX5_put 73 = .ok (.i2b, 1) := by decide +kernel
theorem dX5_put_74 : decode cX5_put 74 = .ok (.goto 19, 3) := by decide +kernel
theorem dX5_put_77 : decode cX5_put 77 = .ok (.aload_n 0, 1) := by decide +kernel
theorem dX5_put_78 : decode cX5_put 78 = .ok (.getfield 9, 3) := by decide +kernel
theorem dX5_put_81 : decode cX5_put 81 = .ok (.iload_n 1, 1) := by decide +kernel
theorem dX5_put_82 : decode cX5_put 82 = .ok (.iaload, 1) := by decide +kernel
theorem dX5_put_83 : decode cX5_put 83 = .ok (.iconst 1, 1) := by decide +kernel
theorem dX5_put_84 : decode cX5_put 84 = .ok (.if_icmp .ne 8, 3) := by decide +kernel
theorem dX5_put_87 : decode cX5_put 87 = .ok (.iload_n 3, 1) := by decide +kernel
theorem dX5_put_88 : decode cX5_put 88 = .ok (.i2s, 1) := by decide +kernel
theorem dX5_put_89 : decode cX5_put 89 = .ok (.goto 4, 3) := by decide +kernel
theorem dX5_put_92 : decode cX5_put 92 = .ok (.iload_n 3, 1) := by decide +kernel
theorem dX5_put_93 : decode cX5_put 93 = .ok (.iastore, 1) := by decide +kernel
theorem dX5_put_94 : decode cX5_put 94 = .ok (.iconst 1, 1) := by decide +kernel
theorem dX5_put_95 : decode cX5_put 95 = .ok (.ireturn, 1) := by decide +kernel
theorem dX5_cell_0 : decode cX5_cell 0 = .ok (.aload_n 0, 1) := by decide +kernel
theorem dX5_cell_1 : decode cX5_cell 1 = .ok (.iconst 0, 1) := by decide +kernel
theorem dX5_cell_2 : decode cX5_cell 2 = .ok (.putfield 70, 3) := by decide +kernel
theorem dX5_cell_5 : decode cX5_cell 5 = .ok (.iload_n 1, 1) := by decide +kernel
theorem dX5_cell_6 : decode cX5_cell 6 = .ok (.invokestatic 89, 3) := by decide +kernel
theorem dX5_cell_9 : decode cX5_cell 9 = .ok (.ifCond .eq 10, 3) := by decide +kernel
theorem dX5_cell_12 : decode cX5_cell 12 = .ok (.iload_n 3, 1) := by decide +kernel
theorem dX5_cell_13 : decode cX5_cell 13 = .ok (.invokestatic 93, 3) := by decide +kernel
theorem dX5_cell_16 : decode cX5_cell 16 = .ok (.ifCond .ne 7, 3) := by decide +kernel
theorem dX5_cell_19 : decode cX5_cell 19 = .ok (.ldc2_w 74, 3) := by decide +kernel
theorem dX5_cell_22 : decode cX5_cell 22 = .ok (.lreturn, 1) := by decide +kernel
theorem dX5_cell_23 : decode cX5_cell 23 = .ok (.aload_n 0, 1) := by decide +kernel
theorem dX5_cell_24 : decode cX5_cell 24 = .ok (.getfield 9, 3) := by decide +kernel
theorem dX5_cell_27 : decode cX5_cell 27 = .ok (.iload_n 1, 1) := by decide +kernel
theorem dX5_cell_28 : decode cX5_cell 28 = .ok (.iaload, 1) := by decide +kernel
theorem dX5_cell_29 : decode cX5_cell 29 = .ok (.bipush (-9), 2) := by decide +kernel
theorem dX5_cell_31 : decode cX5_cell 31 = .ok (.if_icmp .eq 19, 3) := by decide +kernel
theorem dX5_cell_34 : decode cX5_cell 34 = .ok (.aload_n 0, 1) := by decide +kernel
theorem dX5_cell_35 : decode cX5_cell 35 = .ok (.getfield 9, 3) := by decide +kernel
theorem dX5_cell_38 : decode cX5_cell 38 = .ok (.iload_n 1, 1) := by decide +kernel
theorem dX5_cell_39 : decode cX5_cell 39 = .ok (.iaload, 1) := by decide +kernel
theorem dX5_cell_40 : decode cX5_cell 40 = .ok (.iload_n 3, 1) := by decide +kernel
theorem dX5_cell_41 : decode cX5_cell 41 = .ok (.if_icmp .eq 9, 3) := by decide +kernel
theorem dX5_cell_44 : decode cX5_cell 44 = .ok (.aload_n 0, 1) := by decide +kernel
theorem dX5_cell_45 : decode cX5_cell 45 = .ok (.iconst 2, 1) := by decide +kernel
theorem dX5_cell_46 : decode cX5_cell 46 = .ok (.invokevirtual 218, 3) := by decide +kernel
theorem dX5_cell_49 : decode cX5_cell 49 = .ok (.lreturn, 1) := by decide +kernel
theorem dX5_cell_50 : decode cX5_cell 50 = .ok (.aload_n 0, 1) := by decide +kernel
theorem dX5_cell_51 : decode cX5_cell 51 = .ok (.getfield 9, 3) := by decide +kernel
theorem dX5_cell_54 : decode cX5_cell 54 = .ok (.iload_n 1, 1) := by decide +kernel
theorem dX5_cell_55 : decode cX5_cell 55 = .ok (.iaload, 1) := by decide +kernel
theorem dX5_cell_56 : decode cX5_cell 56 = .ok (.bipush (-9), 2) := by decide +kernel
theorem dX5_cell_58 : decode cX5_cell 58 = .ok (.if_icmp .ne 9, 3) := by decide +kernel
theorem dX5_cell_61 : decode cX5_cell 61 = .ok (.aload_n 0, 1) := by decide +kernel
theorem dX5_cell_62 : decode cX5_cell 62 = .ok (.iconst 1, 1) := by decide +kernel
theorem dX5_cell_63 : decode cX5_cell 63 = .ok (.invokevirtual 218, 3) := by decide +kernel
theorem dX5_cell_66 : decode cX5_cell 66 = .ok (.lreturn, 1) := by decide +kernel
theorem dX5_cell_67 : decode cX5_cell 67 = .ok (.iload_n 2, 1) := by decide +kernel
theorem dX5_cell_68 : decode cX5_cell 68 = .ok (.iconst 0, 1) := by decide +kernel
theorem dX5_cell_69 : decode cX5_cell 69 = .ok (.aload_n 0, 1) := by decide +kernel
theorem dX5_cell_70 : decode cX5_cell 70 = .ok (.getfield 13, 3) := by decide +kernel
theorem dX5_cell_73 : decode cX5_cell 73 = .ok (.iload_n 1, 1) := by decide +kernel
theorem dX5_cell_74 : decode cX5_cell 74 = .ok (.iaload, 1) := by decide +kernel
theorem dX5_cell_75 : decode cX5_cell 75 = .ok (.iconst 1, 1) := by decide +kernel
theorem dX5_cell_76 : decode cX5_cell 76 = .ok (.isub, 1) := by decide +kernel
theorem dX5_cell_77 : decode cX5_cell 77 = .ok (.invokestatic 76, 3) := by decide +kernel
theorem dX5_cell_80 : decode cX5_cell 80 = .ok (.ifCond .ne 9, 3) := by decide +kernel
theorem dX5_cell_83 : decode cX5_cell 83 = .ok (.aload_n 0, 1) := by decide +kernel
theorem dX5_cell_84 : decode cX5_cell 84 = .ok (.iconst 3, 1) := by decide +kernel
theorem dX5_cell_85 : decode cX5_cell 85 = .ok (.invokevirtual 218, 3) := by decide +kernel
theorem dX5_cell_88 : decode cX5_cell 88 = .ok (.lreturn, 1) := by decide +kernel
theorem dX5_cell_89 : decode cX5_cell 89 = .ok (.aload_n 0, 1) := by decide +kernel
theorem dX5_cell_90 : decode cX5_cell 90 = .ok (.getfield 16, 3) := by decide +kernel
theorem dX5_cell_93 : decode cX5_cell 93 = .ok (.bipush 60, 2) := by decide +kernel
theorem dX5_cell_95 : decode cX5_cell 95 = .ok (.iload_n 1, 1) := by decide +kernel
theorem dX5_cell_96 : decode cX5_cell 96 = .ok (.imul, 1) := by decide +kernel
theorem dX5_cell_97 : decode cX5_cell 97 = .ok (.iload_n 2, 1) := by decide +kernel
theorem dX5_cell_98 : decode cX5_cell 98 = .ok (.iadd, 1) := by decide +kernel
theorem dX5_cell_99 : decode cX5_cell 99 = .ok (.iaload, 1) := by decide +kernel
theorem dX5_cell_100 : decode cX5_cell 100 = .ok (.i2l, 1) := by decide +kernel
theorem dX5_cell_101 : decode cX5_cell 101 = .ok (.lreturn, 1) := by decide +kernel
theorem dX5_copy_0 : decode cX5_copy 0 = .ok (.aload_n 0, 1) := by decide +kernel
theorem dX5_copy_1 : decode cX5_copy 1 = .ok (.iconst 0, 1) := by decide +kernel
theorem dX5_copy_2 : decode cX5_copy 2 = .ok (.putfield 70, 3) := by decide +kernel
theorem dX5_copy_5 : decode cX5_copy 5 = .ok (.iload_n 1, 1) := by decide +kernel
theorem dX5_copy_6 : decode cX5_copy 6 = .ok (.invokestatic 89, 3) := by decide +kernel
theorem dX5_copy_9 : decode cX5_copy 9 = .ok (.ifCond .eq 10, 3) := by decide +kernel
theorem dX5_copy_12 : decode cX5_copy 12 = .ok (.iload_n 3, 1) := by decide +kernel
theorem dX5_copy_13 : decode cX5_copy 13 = .ok (.invokestatic 89, 3) := by decide +kernel
theorem dX5_copy_16 : decode cX5_copy 16 = .ok (.ifCond .ne 5, 3) := by decide +kernel
theorem dX5_copy_19 : decode cX5_copy 19 = .ok (.iconst (-1), 1) := by decide +kernel
theorem dX5_copy_20 : decode cX5_copy 20 = .ok (.ireturn, 1) := by decide +kernel
theorem dX5_copy_21 : decode cX5_copy 21 = .ok (.aload_n 0, 1) := by decide +kernel
theorem dX5_copy_22 : decode cX5_copy 22 = .ok (.getfield 9, 3) := by decide +kernel
theorem dX5_copy_25 : decode cX5_copy 25 = .ok (.iload_n 1, 1) := by decide +kernel
theorem dX5_copy_26 : decode cX5_copy 26 = .ok (.iaload, 1) := by decide +kernel
theorem dX5_copy_27 : decode cX5_copy 27 = .ok (.bipush (-9), 2) := by decide +kernel
theorem dX5_copy_29 : decode cX5_copy 29 = .ok (.if_icmp .eq 14, 3) := by decide +kernel
theorem dX5_copy_32 : decode cX5_copy 32 = .ok (.aload_n 0, 1) := by decide +kernel
theorem dX5_copy_33 : decode cX5_copy 33 = .ok (.getfield 9, 3) := by decide +kernel
theorem dX5_copy_36 : decode cX5_copy 36 = .ok (.iload_n 3, 1) := by decide +kernel
theorem dX5_copy_37 : decode cX5_copy 37 = .ok (.iaload, 1) := by decide +kernel
theorem dX5_copy_38 : decode cX5_copy 38 = .ok (.bipush (-9), 2) := by decide +kernel
theorem dX5_copy_40 : decode cX5_copy 40 = .ok (.if_icmp .ne 9, 3) := by decide +kernel
theorem dX5_copy_43 : decode cX5_copy 43 = .ok (.aload_n 0, 1) := by decide +kernel
theorem dX5_copy_44 : decode cX5_copy 44 = .ok (.iconst 1, 1) := by decide +kernel
theorem dX5_copy_45 : decode cX5_copy 45 = .ok (.invokevirtual 100, 3) := by decide +kernel
theorem dX5_copy_48 : decode cX5_copy 48 = .ok (.ireturn, 1) := by decide +kernel
theorem dX5_copy_49 : decode cX5_copy 49 = .ok (.aload_n 0, 1) := by decide +kernel
theorem dX5_copy_50 : decode cX5_copy 50 = .ok (.getfield 9, 3) := by decide +kernel
theorem dX5_copy_53 : decode cX5_copy 53 = .ok (.iload_n 1, 1) := by decide +kernel
theorem dX5_copy_54 : decode cX5_copy 54 = .ok (.iaload, 1) := by decide +kernel
theorem dX5_copy_55 : decode cX5_copy 55 = .ok (.aload_n 0, 1) := by decide +kernel
theorem dX5_copy_56 : decode cX5_copy 56 = .ok (.getfield 9, 3) := by decide +kernel
theorem dX5_copy_59 : decode cX5_copy 59 = .ok (.iload_n 3, 1) := by decide +kernel
theorem dX5_copy_60 : decode cX5_copy 60 = .ok (.iaload, 1) := by decide +kernel
theorem dX5_copy_61 : decode cX5_copy 61 = .ok (.if_icmp .eq 9, 3) := by decide +kernel
theorem dX5_copy_64 : decode cX5_copy 64 = .ok (.aload_n 0, 1) := by decide +kernel
theorem dX5_copy_65 : decode cX5_copy 65 = .ok (.iconst 2, 1) := by decide +kernel
theorem dX5_copy_66 : decode cX5_copy 66 = .ok (.invokevirtual 100, 3) := by decide +kernel
theorem dX5_copy_69 : decode cX5_copy 69 = .ok (.ireturn, 1) := by decide +kernel
theorem dX5_copy_70 : decode cX5_copy 70 = .ok (.iload_n 2, 1) := by decide +kernel
theorem dX5_copy_71 : decode cX5_copy 71 = .ok (.ifCond .lt 38, 3) := by decide +kernel
theorem dX5_copy_74 : decode cX5_copy 74 = .ok (.iload 4, 2) := by decide +kernel
theorem dX5_copy_76 : decode cX5_copy 76 = .ok (.ifCond .lt 33, 3) := by decide +kernel
theorem dX5_copy_79 : decode cX5_copy 79 = .ok (.iload 5, 2) := by decide +kernel
theorem dX5_copy_81 : decode cX5_copy 81 = .ok (.ifCond .lt 28, 3) := by decide +kernel
theorem dX5_copy_84 : decode cX5_copy 84 = .ok (.iload_n 2, 1) := by decide +kernel
theorem dX5_copy_85 : decode cX5_copy 85 = .ok (.aload_n 0, 1) := by decide +kernel
theorem dX5_copy_86 : decode cX5_copy 86 = .ok (.getfield 13, 3) := by decide +kernel
theorem dX5_copy_89 : decode cX5_copy 89 = .ok (.iload_n 1, 1) := by decide +kernel
theorem dX5_copy_90 : decode cX5_copy 90 = .ok (.iaload, 1) := by decide +kernel
theorem dX5_copy_91 : decode cX5_copy 91 = .ok (.if_icmp .gt 18, 3) := by decide +kernel
theorem dX5_copy_94 : decode cX5_copy 94 = .ok (.iload 4, 2) := by decide +kernel
theorem dX5_copy_96 : decode cX5_copy 96 = .ok (.aload_n 0, 1) := by decide +kernel
theorem dX5_copy_97 : decode cX5_copy 97 = .ok (.getfield 13, 3) := by decide +kernel
theorem dX5_copy_100 : decode cX5_copy 100 = .ok (.iload_n 3, 1) := by decide +kernel
theorem dX5_copy_101 : decode cX5_copy 101 = .ok (.iaload, 1) := by decide +kernel
theorem dX5_copy_102 : decode cX5_copy 102 = .ok (.if_icmp .gt 7, 3) := by decide +kernel
theorem dX5_copy_105 : decode cX5_copy 105 = .ok (.iconst 1, 1) := by decide +kernel
theorem dX5_copy_106 : decode cX5_copy 106 = .ok (.goto 4, 3) := by decide +kernel
theorem dX5_copy_109 : decode cX5_copy 109 = .ok (.iconst 0, 1) := by decide +kernel
theorem dX5_copy_110 : decode cX5_copy 110 = .ok (.istore 6, 2) := by decide +kernel
theorem dX5_copy_112 : decode cX5_copy 112 = .ok (.iload 6, 2) := by decide +kernel
theorem dX5_copy_114 : decode cX5_copy 114 = .ok (.ifCond .eq 30, 3) := by decide +kernel
theorem dX5_copy_117 : decode cX5_copy 117 = .ok (.iload 5, 2) := by decide +kernel
theorem dX5_copy_119 : decode cX5_copy 119 = .ok (.aload_n 0, 1) := by decide +kernel
theorem dX5_copy_120 : decode cX5_copy 120 = .ok (.getfield 13, 3) := by decide +kernel
theorem dX5_copy_123 : decode cX5_copy 123 = .ok (.iload_n 1, 1) := by decide +kernel
theorem dX5_copy_124 : decode cX5_copy 124 = .ok (.iaload, 1) := by decide +kernel
theorem dX5_copy_125 : decode cX5_copy 125 = .ok (.iload_n 2, 1) := by decide +kernel
theorem dX5_copy_126 : decode cX5_copy 126 = .ok (.isub, 1) := by decide +kernel
theorem dX5_copy_127 : decode cX5_copy 127 = .ok (.if_icmp .gt 17, 3) := by decide +kernel
theorem dX5_copy_130 : decode cX5_copy 130 = .ok (.iload 5, 2) := by decide +kernel
theorem dX5_copy_132 : decode cX5_copy 132 = .ok (.aload_n 0, 1) := by decide +kernel
theorem dX5_copy_133 : decode cX5_copy 133 = .ok (.getfield 13, 3) := by decide +kernel
theorem dX5_copy_136 : decode cX5_copy 136 = .ok (.iload_n 3, 1) := by decide +kernel
theorem dX5_copy_137 : decode cX5_copy 137 = .ok (.iaload, 1) := by decide +kernel
theorem dX5_copy_138 : decode cX5_copy 138 = .ok (.iload 4, 2) := by decide +kernel
theorem dX5_copy_140 : decode cX5_copy 140 = .ok (.isub, 1) := by decide +kernel
theorem dX5_copy_141 : decode cX5_copy 141 = .ok (.if_icmp .le 9, 3) := by decide +kernel
theorem dX5_copy_144 : decode cX5_copy 144 = .ok (.aload_n 0, 1) := by decide +kernel
theorem dX5_copy_145 : decode cX5_copy 145 = .ok (.iconst 3, 1) := by decide +kernel
theorem dX5_copy_146 : decode cX5_copy 146 = .ok (.invokevirtual 100, 3) := by decide +kernel
theorem dX5_copy_149 : decode cX5_copy 149 = .ok (.ireturn, 1) := by decide +kernel
theorem dX5_copy_150 : decode cX5_copy 150 = .ok (.iload_n 2, 1) := by decide +kernel
theorem dX5_copy_151 : decode cX5_copy 151 = .ok (.iload 4, 2) := by decide +kernel
theorem dX5_copy_153 : decode cX5_copy 153 = .ok (.if_icmp .ge 7, 3) := by decide +kernel
theorem dX5_copy_156 : decode cX5_copy 156 = .ok (.iconst 1, 1) := by decide +kernel
theorem dX5_copy_157 : decode cX5_copy 157 = .ok (.goto 4, 3) := by decide +kernel
theorem dX5_copy_160 : decode cX5_copy 160 = .ok (.iconst 0, 1) := by decide +kernel
theorem dX5_copy_161 : decode cX5_copy 161 = .ok (.istore 7, 2) := by decide +kernel
theorem dX5_copy_163 : decode cX5_copy 163 = .ok (.iconst 0, 1) := by decide +kernel
theorem dX5_copy_164 : decode cX5_copy 164 = .ok (.istore 8, 2) := by decide +kernel
theorem dX5_copy_166 : decode cX5_copy 166 = .ok (.iload 8, 2) := by decide +kernel
theorem dX5_copy_168 : decode cX5_copy 168 = .ok (.iload 5, 2) := by decide +kernel
theorem dX5_copy_170 : decode cX5_copy 170 = .ok (.if_icmp .ge 57, 3) := by decide +kernel
theorem dX5_copy_173 : decode cX5_copy 173 = .ok (.iload 7, 2) := by decide +kernel
theorem dX5_copy_175 : decode cX5_copy 175 = .ok (.ifCond .eq 13, 3) := by decide +kernel
theorem dX5_copy_178 : decode cX5_copy 178 = .ok (.iload 5, 2) := by decide +kernel
theorem dX5_copy_180 : decode cX5_copy 180 = .ok (.iconst 1, 1) := by decide +kernel
theorem dX5_copy_181 : decode cX5_copy 181 = .ok (.isub, 1) := by decide +kernel
theorem dX5_copy_182 : decode cX5_copy 182 = .ok (.iload 8, 2) := by decide +kernel
theorem dX5_copy_184 : decode cX5_copy 184 = .ok (.isub, 1) := by decide +kernel
theorem dX5_copy_185 : decode cX5_copy 185 = .ok (.goto 5, 3) := by decide +kernel
theorem dX5_copy_188 : decode cX5_copy 188 = .ok (.iload 8, 2) := by decide +kernel
theorem dX5_copy_190 : decode cX5_copy 190 = .ok (.istore 9, 2) := by decide +kernel
theorem dX5_copy_192 : decode cX5_copy 192 = .ok (.aload_n 0, 1) := by decide +kernel
theorem dX5_copy_193 : decode cX5_copy 193 = .ok (.getfield 16, 3) := by decide +kernel
theorem dX5_copy_196 : decode cX5_copy 196 = .ok (.bipush 60, 2) := by decide +kernel
theorem dX5_copy_198 : decode cX5_copy 198 = .ok (.iload_n 3, 1) := by decide +kernel
theorem dX5_copy_199 : decode cX5_copy 199 = .ok (.imul, 1) := by decide +kernel
theorem dX5_copy_200 : decode cX5_copy 200 = .ok (.iload 4, 2) := by decide +kernel
theorem dX5_copy_202 : decode cX5_copy 202 = .ok (.iadd, 1) := by decide +kernel
theorem dX5_copy_203 : decode cX5_copy 203 = .ok (.iload 9, 2) := by decide +kernel
theorem dX5_copy_205 : decode cX5_copy 205 = .ok (.iadd, 1) := by decide +kernel
theorem dX5_copy_206 : decode cX5_copy 206 = .ok (.aload_n 0, 1) := by decide +kernel
theorem dX5_copy_207 : decode cX5_copy 207 = .ok (.getfield 16, 3) := by decide +kernel
theorem dX5_copy_210 : decode cX5_copy 210 = .ok (.bipush 60, 2) := by decide +kernel
theorem dX5_copy_212 : decode cX5_copy 212 = .ok (.iload_n 1, 1) := by decide +kernel
theorem dX5_copy_213 : decode cX5_copy 213 = .ok (.imul, 1) := by decide +kernel
theorem dX5_copy_214 : decode cX5_copy 214 = .ok (.iload_n 2, 1) := by decide +kernel
theorem dX5_copy_215 : decode cX5_copy 215 = .ok (.iadd, 1) := by decide +kernel
theorem dX5_copy_216 : decode cX5_copy 216 = .ok (.iload 9, 2) := by decide +kernel
theorem dX5_copy_218 : decode cX5_copy 218 = .ok (.iadd, 1) := by decide +kernel
theorem dX5_copy_219 : decode cX5_copy 219 = .ok (.iaload, 1) := by decide +kernel
theorem dX5_copy_220 : decode cX5_copy 220 = .ok (.iastore, 1) := by decide +kernel
theorem dX5_copy_221 : decode cX5_copy 221 = .ok (.iinc 8 1, 3) := by decide +kernel
theorem dX5_copy_224 : decode cX5_copy 224 = .ok (.goto (-58), 3) := by decide +kernel
theorem dX5_copy_227 : decode cX5_copy 227 = .ok (.iload 5, 2) := by decide +kernel
theorem dX5_copy_229 : decode cX5_copy 229 = .ok (.ireturn, 1) := by decide +kernel
theorem dX5_begins_0 : decode cX5_begins 0 = .ok (.aload_n 0, 1) := by decide +kernel
theorem dX5_begins_1 : decode cX5_begins 1 = .ok (.bipush 31, 2) := by decide +kernel
theorem dX5_begins_3 : decode cX5_begins 3 = .ok (.aload_n 0, 1) := by decide +kernel
theorem dX5_begins_4 : decode cX5_begins 4 = .ok (.getfield 222, 3) := by decide +kernel
theorem dX5_begins_7 : decode cX5_begins 7 = .ok (.imul, 1) := by decide +kernel
theorem dX5_begins_8 : decode cX5_begins 8 = .ok (.iload_n 1, 1) := by decide +kernel
theorem dX5_begins_9 : decode cX5_begins 9 = .ok (.iadd, 1) := by decide +kernel
theorem dX5_begins_10 : decode cX5_begins 10 = .ok (.putfield 222, 3) := by decide +kernel
theorem dX5_begins_13 : decode cX5_begins 13 = .ok (.return_, 1) := by decide +kernel
theorem dX5_tell_0 : decode cX5_tell 0 = .ok (.aload_n 0, 1) := by decide +kernel
theorem dX5_tell_1 : decode cX5_tell 1 = .ok (.iload_n 1, 1) := by decide +kernel
theorem dX5_tell_2 : decode cX5_tell 2 = .ok (.invokevirtual 171, 3) := by decide +kernel
theorem dX5_tell_5 : decode cX5_tell 5 = .ok (.ifCond .ne 5, 3) := by decide +kernel
theorem dX5_tell_8 : decode cX5_tell 8 = .ok (.iconst (-1), 1) := by decide +kernel
theorem dX5_tell_9 : decode cX5_tell 9 = .ok (.ireturn, 1) := by decide +kernel
theorem dX5_tell_10 : decode cX5_tell 10 = .ok (.aload_n 0, 1) := by decide +kernel
theorem dX5_tell_11 : decode cX5_tell 11 = .ok (.getfield 22, 3) := by decide +kernel
theorem dX5_tell_14 : decode cX5_tell 14 = .ok (.iload_n 1, 1) := by decide +kernel
theorem dX5_tell_15 : decode cX5_tell 15 = .ok (.iaload, 1) := by decide +kernel
theorem dX5_tell_16 : decode cX5_tell 16 = .ok (.istore_n 2, 1) := by decide +kernel
theorem dX5_tell_17 : decode cX5_tell 17 = .ok (.aload_n 0, 1) := by decide +kernel
theorem dX5_tell_18 : decode cX5_tell 18 = .ok (.getfield 19, 3) := by decide +kernel
theorem dX5_tell_21 : decode cX5_tell 21 = .ok (.iload_n 1, 1) := by decide +kernel
theorem dX5_tell_22 : decode cX5_tell 22 = .ok (.iaload, 1) := by decide +kernel
theorem dX5_tell_23 : decode cX5_tell 23 = .ok (.lookupswitch 67 #[(1, 25), (2, 40)], 25) := by decide +kernel
theorem dX5_tell_48 : decode cX5_tell 48 = .ok (.aload_n 0, 1) := by decide +kernel
theorem dX5_tell_49 : decode cX5_tell 49 = .ok (.iconst 2, 1) := by decide +kernel
theorem dX5_tell_50 : decode cX5_tell 50 = .ok (.invokevirtual 225, 3) := by decide +kernel
theorem dX5_tell_53 : decode cX5_tell 53 = .ok (.aload_n 0, 1) := by decide +kernel
theorem dX5_tell_54 : decode cX5_tell 54 = .ok (.iconst 1, 1) := by decide +kernel
theorem dX5_tell_55 : decode cX5_tell 55 = .ok (.invokevirtual 225, 3) := by decide +kernel
theorem dX5_tell_58 : decode cX5_tell 58 = .ok (.iload_n 2, 1) := by decide +kernel
theorem dX5_tell_59 : decode cX5_tell 59 = .ok (.bipush 100, 2) := by decide +kernel
theorem dX5_tell_61 : decode cX5_tell 61 = .ok (.iadd, 1) := by decide +kernel
theorem dX5_tell_62 : decode cX5_tell 62 = .ok (.ireturn, 1) := by decide +kernel
theorem dX5_tell_63 : decode cX5_tell 63 = .ok (.aload_n 0, 1) := by decide +kernel
theorem dX5_tell_64 : decode cX5_tell 64 = .ok (.iconst 3, 1) := by decide +kernel
theorem dX5_tell_65 : decode cX5_tell 65 = .ok (.invokevirtual 225, 3) := by decide +kernel
theorem dX5_tell_68 : decode cX5_tell 68 = .ok (.aload_n 0, 1) := by decide +kernel
theorem dX5_tell_69 : decode cX5_tell 69 = .ok (.iconst 2, 1) := by decide +kernel
theorem dX5_tell_70 : decode cX5_tell 70 = .ok (.invokevirtual 225, 3) := by decide +kernel
theorem dX5_tell_73 : decode cX5_tell 73 = .ok (.aload_n 0, 1) := by decide +kernel
theorem dX5_tell_74 : decode cX5_tell 74 = .ok (.iconst 1, 1) := by decide +kernel
theorem dX5_tell_75 : decode cX5_tell 75 = .ok (.invokevirtual 225, 3) := by decide +kernel
theorem dX5_tell_78 : decode cX5_tell 78 = .ok (.aload_n 0, 1) := by decide +kernel
theorem dX5_tell_79 : decode cX5_tell 79 = .ok (.iconst 1, 1) := by decide +kernel
theorem dX5_tell_80 : decode cX5_tell 80 = .ok (.invokevirtual 225, 3) := by decide +kernel
theorem dX5_tell_83 : decode cX5_tell 83 = .ok (.iconst 2, 1) := by decide +kernel
theorem dX5_tell_84 : decode cX5_tell 84 = .ok (.iload_n 2, 1) := by decide +kernel
theorem dX5_tell_85 : decode cX5_tell 85 = .ok (.imul, 1) := by decide +kernel
theorem dX5_tell_86 : decode cX5_tell 86 = .ok (.bipush 100, 2) := by decide +kernel
theorem dX5_tell_88 : decode cX5_tell 88 = .ok (.iadd, 1) := by decide +kernel
theorem dX5_tell_89 : decode cX5_tell 89 = .ok (.ireturn, 1) := by decide +kernel
theorem dX5_tell_90 : decode cX5_tell 90 = .ok (.aload_n 0, 1) := by decide +kernel
theorem dX5_tell_91 : decode cX5_tell 91 = .ok (.iconst 1, 1) := by decide +kernel
theorem dX5_tell_92 : decode cX5_tell 92 = .ok (.invokevirtual 225, 3) := by decide +kernel
theorem dX5_tell_95 : decode cX5_tell 95 = .ok (.iload_n 2, 1) := by decide +kernel
theorem dX5_tell_96 : decode cX5_tell 96 = .ok (.ireturn, 1) := by decide +kernel
theorem dX5_read_0 : decode cX5_read 0 = .ok (.aload_n 0, 1) := by decide +kernel
theorem dX5_read_1 : decode cX5_read 1 = .ok (.iload_n 1, 1) := by decide +kernel
theorem dX5_read_2 : decode cX5_read 2 = .ok (.invokevirtual 171, 3) := by decide +kernel
theorem dX5_read_5 : decode cX5_read 5 = .ok (.ifCond .ne 5, 3) := by decide +kernel
theorem dX5_read_8 : decode cX5_read 8 = .ok (.iconst (-1), 1) := by decide +kernel
theorem dX5_read_9 : decode cX5_read 9 = .ok (.ireturn, 1) := by decide +kernel
theorem dX5_read_10 : decode cX5_read 10 = .ok (.aload_n 0, 1) := by decide +kernel
theorem dX5_read_11 : decode cX5_read 11 = .ok (.getfield 19, 3) := by decide +kernel
theorem dX5_read_14 : decode cX5_read 14 = .ok (.iload_n 1, 1) := by decide +kernel
theorem dX5_read_15 : decode cX5_read 15 = .ok (.iaload, 1) := by decide +kernel
theorem dX5_read_16 : decode cX5_read 16 = .ok (.iconst 2, 1) := by decide +kernel
theorem dX5_read_17 : decode cX5_read 17 = .ok (.if_icmp .ne 8, 3) := by decide +kernel
theorem dX5_read_20 : decode cX5_read 20 = .ok (.aload_n 0, 1) := by decide +kernel
theorem dX5_read_21 : decode cX5_read 21 = .ok (.iconst 5, 1) := by decide +kernel
theorem dX5_read_22 : decode cX5_read 22 = .ok (.invokevirtual 225, 3) := by decide +kernel
theorem dX5_read_25 : decode cX5_read 25 = .ok (.aload_n 0, 1) := by decide +kernel
theorem dX5_read_26 : decode cX5_read 26 = .ok (.iconst 4, 1) := by decide +kernel
theorem dX5_read_27 : decode cX5_read 27 = .ok (.invokevirtual 225, 3) := by decide +kernel
theorem dX5_read_30 : decode cX5_read 30 = .ok (.aload_n 0, 1) := by decide +kernel
theorem dX5_read_31 : decode cX5_read 31 = .ok (.getfield 19, 3) := by decide +kernel
theorem dX5_read_34 : decode cX5_read 34 = .ok (.iload_n 1, 1) := by decide +kernel
theorem dX5_read_35 : decode cX5_read 35 = .ok (.iaload, 1) := by decide +kernel
theorem dX5_read_36 : decode cX5_read 36 = .ok (.iconst 2, 1) := by decide +kernel
theorem dX5_read_37 : decode cX5_read 37 = .ok (.if_icmp .ne 15, 3) := by decide +kernel
theorem dX5_read_40 : decode cX5_read 40 = .ok (.aload_n 0, 1) := by decide +kernel
theorem dX5_read_41 : decode cX5_read 41 = .ok (.getfield 25, 3) := by decide +kernel
theorem dX5_read_44 : decode cX5_read 44 = .ok (.iload_n 1, 1) := by decide +kernel
theorem dX5_read_45 : decode cX5_read 45 = .ok (.iaload, 1) := by decide +kernel
theorem dX5_read_46 : decode cX5_read 46 = .ok (.bipush 80, 2) := by decide +kernel
theorem dX5_read_48 : decode cX5_read 48 = .ok (.iadd, 1) := by decide +kernel
theorem dX5_read_49 : decode cX5_read 49 = .ok (.goto 9, 3) := by decide +kernel
theorem dX5_read_52 : decode cX5_read 52 = .ok (.aload_n 0, 1) := by decide +kernel
theorem dX5_read_53 : decode cX5_read 53 = .ok (.getfield 25, 3) := by decide +kernel
theorem dX5_read_56 : decode cX5_read 56 = .ok (.iload_n 1, 1) := by decide +kernel
theorem dX5_read_57 : decode cX5_read 57 = .ok (.iaload, 1) := by decide +kernel
theorem dX5_read_58 : decode cX5_read 58 = .ok (.ireturn, 1) := by decide +kernel
theorem dX5_as_0 : decode cX5_as 0 = .ok (.aload_n 0, 1) := by decide +kernel
theorem dX5_as_1 : decode cX5_as 1 = .ok (.iconst 0, 1) := by decide +kernel
theorem dX5_as_2 : decode cX5_as 2 = .ok (.putfield 70, 3) := by decide +kernel
theorem dX5_as_5 : decode cX5_as 5 = .ok (.aload_n 0, 1) := by decide +kernel
theorem dX5_as_6 : decode cX5_as 6 = .ok (.iload_n 1, 1) := by decide +kernel
theorem dX5_as_7 : decode cX5_as 7 = .ok (.invokevirtual 171, 3) := by decide +kernel
theorem dX5_as_10 : decode cX5_as 10 = .ok (.ifCond .ne 5, 3) := by decide +kernel
theorem dX5_as_13 : decode cX5_as 13 = .ok (.iconst (-1), 1) := by decide +kernel
theorem dX5_as_14 : decode cX5_as 14 = .ok (.ireturn, 1) := by decide +kernel
theorem dX5_as_15 : decode cX5_as 15 = .ok (.iload_n 2, 1) := by decide +kernel
theorem dX5_as_16 : decode cX5_as 16 = .ok (.iconst 0, 1) := by decide +kernel
theorem dX5_as_17 : decode cX5_as 17 = .ok (.iconst 2, 1) := by decide +kernel
theorem dX5_as_18 : decode cX5_as 18 = .ok (.invokestatic 76, 3) := by decide +kernel
theorem dX5_as_21 : decode cX5_as 21 = .ok (.ifCond .ne 6, 3) := by decide +kernel
theorem dX5_as_24 : decode cX5_as 24 = .ok (.bipush (-2), 2) := by decide +kernel
theorem dX5_as_26 : decode cX5_as 26 = .ok (.ireturn, 1) := by decide +kernel
theorem dX5_as_27 : decode cX5_as 27 = .ok (.aload_n 0, 1) := by decide +kernel
theorem dX5_as_28 : decode cX5_as 28 = .ok (.getfield 19, 3) := by decide +kernel
theorem dX5_as_31 : decode cX5_as 31 = .ok (.iload_n 1, 1) := by decide +kernel
theorem dX5_as_32 : decode cX5_as 32 = .ok (.iaload, 1) := by decide +kernel
theorem dX5_as_33 : decode cX5_as 33 = .ok (.iload_n 2, 1) := by decide +kernel
theorem dX5_as_34 : decode cX5_as 34 = .ok (.if_icmp .lt 7, 3) := by decide +kernel
theorem dX5_as_37 : decode cX5_as 37 = .ok (.iconst 1, 1) := by decide +kernel
theorem dX5_as_38 : decode cX5_as 38 = .ok (.goto 8, 3) := by decide +kernel
theorem dX5_as_41 : decode cX5_as 41 = .ok (.aload_n 0, 1) := by decide +kernel
theorem dX5_as_42 : decode cX5_as 42 = .ok (.iconst 2, 1) := by decide +kernel
theorem dX5_as_43 : decode cX5_as 43 = .ok (.invokevirtual 100, 3) := by decide +kernel
theorem dX5_as_46 : decode cX5_as 46 = .ok (.ireturn, 1) := by decide +kernel
theorem dX5_trace_0 : decode cX5_trace 0 = .ok (.aload_n 0, 1) := by decide +kernel
theorem dX5_trace_1 : decode cX5_trace 1 = .ok (.getfield 222, 3) := by decide +kernel
theorem dX5_trace_4 : decode cX5_trace 4 = .ok (.ireturn, 1) := by decide +kernel
theorem dX5_fault_0 : decode cX5_fault 0 = .ok (.aload_n 0, 1) := by decide +kernel
theorem dX5_fault_1 : decode cX5_fault 1 = .ok (.getfield 70, 3) := by decide +kernel
theorem dX5_fault_4 : decode cX5_fault 4 = .ok (.ireturn, 1) := by decide +kernel
theorem dX5_many_0 : decode cX5_many 0 = .ok (.iload_n 1, 1) := by decide +kernel
theorem dX5_many_1 : decode cX5_many 1 = .ok (.tableswitch 69 0 5 #[39, 44, 49, 54, 59, 64], 39) := by decide +kernel
theorem dX5_many_40 : decode cX5_many 40 = .ok (.aload_n 0, 1) := by decide +kernel
theorem dX5_many_41 : decode cX5_many 41 = .ok (.getfield 80, 3) := by decide +kernel
theorem dX5_many_44 : decode cX5_many 44 = .ok (.ireturn, 1) := by decide +kernel
theorem dX5_many_45 : decode cX5_many 45 = .ok (.aload_n 0, 1) := by decide +kernel
theorem dX5_many_46 : decode cX5_many 46 = .ok (.getfield 83, 3) := by decide +kernel
theorem dX5_many_49 : decode cX5_many 49 = .ok (.ireturn, 1) := by decide +kernel
theorem dX5_many_50 : decode cX5_many 50 = .ok (.aload_n 0, 1) := by decide +kernel
theorem dX5_many_51 : decode cX5_many 51 = .ok (.getfield 113, 3) := by decide +kernel
theorem dX5_many_54 : decode cX5_many 54 = .ok (.ireturn, 1) := by decide +kernel
theorem dX5_many_55 : decode cX5_many 55 = .ok (.aload_n 0, 1) := by decide +kernel
theorem dX5_many_56 : decode cX5_many 56 = .ok (.getfield 116, 3) := by decide +kernel
theorem dX5_many_59 : decode cX5_many 59 = .ok (.ireturn, 1) := by decide +kernel
theorem dX5_many_60 : decode cX5_many 60 = .ok (.aload_n 0, 1) := by decide +kernel
theorem dX5_many_61 : decode cX5_many 61 = .ok (.getfield 119, 3) := by decide +kernel
theorem dX5_many_64 : decode cX5_many 64 = .ok (.ireturn, 1) := by decide +kernel
theorem dX5_many_65 : decode cX5_many 65 = .ok (.aload_n 0, 1) := by decide +kernel
theorem dX5_many_66 : decode cX5_many 66 = .ok (.getfield 122, 3) := by decide +kernel
theorem dX5_many_69 : decode cX5_many 69 = .ok (.ireturn, 1) := by decide +kernel
theorem dX5_many_70 : decode cX5_many 70 = .ok (.bipush (-2), 2) := by decide +kernel
theorem dX5_many_72 : decode cX5_many 72 = .ok (.ireturn, 1) := by decide +kernel
theorem dJ9_abs_0f7a4_0 : decode cJ9_abs_0f7a4 0 = .ok (.iload_n 0, 1) := by decide +kernel
theorem dJ9_abs_0f7a4_1 : decode cJ9_abs_0f7a4 1 = .ok (.ifCond .ge 8, 3) := by decide +kernel
theorem dJ9_abs_0f7a4_4 : decode cJ9_abs_0f7a4 4 = .ok (.iload_n 0, 1) := by decide +kernel
theorem dJ9_abs_0f7a4_5 : decode cJ9_abs_0f7a4 5 = .ok (.ineg, 1) := by decide +kernel
theorem dJ9_abs_0f7a4_6 : decode cJ9_abs_0f7a4 6 = .ok (.goto 4, 3) := by decide +kernel
theorem dJ9_abs_0f7a4_9 : decode cJ9_abs_0f7a4 9 = .ok (.iload_n 0, 1) := by decide +kernel
theorem dJ9_abs_0f7a4_10 : decode cJ9_abs_0f7a4 10 = .ok (.ireturn, 1) := by decide +kernel
theorem dJ9_min_7cf53_0 : decode cJ9_min_7cf53 0 = .ok (.iload_n 0, 1) := by decide +kernel
theorem dJ9_min_7cf53_1 : decode cJ9_min_7cf53 1 = .ok (.iload_n 1, 1) := by decide +kernel
theorem dJ9_min_7cf53_2 : decode cJ9_min_7cf53 2 = .ok (.if_icmp .gt 7, 3) := by decide +kernel
theorem dJ9_min_7cf53_5 : decode cJ9_min_7cf53 5 = .ok (.iload_n 0, 1) := by decide +kernel
theorem dJ9_min_7cf53_6 : decode cJ9_min_7cf53 6 = .ok (.goto 4, 3) := by decide +kernel
theorem dJ9_min_7cf53_9 : decode cJ9_min_7cf53 9 = .ok (.iload_n 1, 1) := by decide +kernel
theorem dJ9_min_7cf53_10 : decode cJ9_min_7cf53 10 = .ok (.ireturn, 1) := by decide +kernel
theorem dJ7_fill_53178_0 : decode cJ7_fill_53178 0 = .ok (.iconst 0, 1) := by decide +kernel
theorem dJ7_fill_53178_1 : decode cJ7_fill_53178 1 = .ok (.istore_n 2, 1) := by decide +kernel
theorem dJ7_fill_53178_2 : decode cJ7_fill_53178 2 = .ok (.aload_n 0, 1) := by decide +kernel
theorem dJ7_fill_53178_3 : decode cJ7_fill_53178 3 = .ok (.arraylength, 1) := by decide +kernel
theorem dJ7_fill_53178_4 : decode cJ7_fill_53178 4 = .ok (.istore_n 3, 1) := by decide +kernel
theorem dJ7_fill_53178_5 : decode cJ7_fill_53178 5 = .ok (.iload_n 2, 1) := by decide +kernel
theorem dJ7_fill_53178_6 : decode cJ7_fill_53178 6 = .ok (.iload_n 3, 1) := by decide +kernel
theorem dJ7_fill_53178_7 : decode cJ7_fill_53178 7 = .ok (.if_icmp .ge 13, 3) := by decide +kernel
theorem dJ7_fill_53178_10 : decode cJ7_fill_53178 10 = .ok (.aload_n 0, 1) := by decide +kernel
theorem dJ7_fill_53178_11 : decode cJ7_fill_53178 11 = .ok (.iload_n 2, 1) := by decide +kernel
theorem dJ7_fill_53178_12 : decode cJ7_fill_53178 12 = .ok (.iload_n 1, 1) := by decide +kernel
theorem dJ7_fill_53178_13 : decode cJ7_fill_53178 13 = .ok (.iastore, 1) := by decide +kernel
theorem dJ7_fill_53178_14 : decode cJ7_fill_53178 14 = .ok (.iinc 2 1, 3) := by decide +kernel
theorem dJ7_fill_53178_17 : decode cJ7_fill_53178 17 = .ok (.goto (-12), 3) := by decide +kernel
theorem dJ7_fill_53178_20 : decode cJ7_fill_53178 20 = .ok (.return_, 1) := by decide +kernel
theorem dL_law_0 : decode cL_law 0 = .ok (.new 7, 3) := by decide +kernel
theorem dL_law_3 : decode cL_law 3 = .ok (.dup, 1) := by decide +kernel
theorem dL_law_4 : decode cL_law 4 = .ok (.invokespecial 9, 3) := by decide +kernel
theorem dL_law_7 : decode cL_law 7 = .ok (.astore_n 1, 1) := by decide +kernel
theorem dL_law_8 : decode cL_law 8 = .ok (.new 10, 3) := by decide +kernel
theorem dL_law_11 : decode cL_law 11 = .ok (.dup, 1) := by decide +kernel
theorem dL_law_12 : decode cL_law 12 = .ok (.invokespecial 12, 3) := by decide +kernel
theorem dL_law_15 : decode cL_law 15 = .ok (.astore_n 2, 1) := by decide +kernel
theorem dL_law_16 : decode cL_law 16 = .ok (.iconst 0, 1) := by decide +kernel
theorem dL_law_17 : decode cL_law 17 = .ok (.istore_n 3, 1) := by decide +kernel
theorem dL_law_18 : decode cL_law 18 = .ok (.iload_n 3, 1) := by decide +kernel
theorem dL_law_19 : decode cL_law 19 = .ok (.aload_n 0, 1) := by decide +kernel
theorem dL_law_20 : decode cL_law 20 = .ok (.arraylength, 1) := by decide +kernel
theorem dL_law_21 : decode cL_law 21 = .ok (.bipush 6, 2) := by decide +kernel
theorem dL_law_23 : decode cL_law 23 = .ok (.isub, 1) := by decide +kernel
theorem dL_law_24 : decode cL_law 24 = .ok (.if_icmp .gt 1058, 3) := by decide +kernel
theorem dL_law_27 : decode cL_law 27 = .ok (.aload_n 0, 1) := by decide +kernel
theorem dL_law_28 : decode cL_law 28 = .ok (.iload_n 3, 1) := by decide +kernel
theorem dL_law_29 : decode cL_law 29 = .ok (.iaload, 1) := by decide +kernel
theorem dL_law_30 : decode cL_law 30 = .ok (.bipush 31, 2) := by decide +kernel
theorem dL_law_32 : decode cL_law 32 = .ok (.iand, 1) := by decide +kernel
theorem dL_law_33 : decode cL_law 33 = .ok (.tableswitch 1043 0 27 #[127, 180, 213, 246, 289, 322, 365, 388, 421, 464, 527, 550, 563, 596, 619, 642, 665, 699, 742, 765, 808, 852, 915, 938, 961, 994, 1007, 1020], 127) := by decide +kernel
theorem dL_law_160 : decode cL_law 160 = .ok (.aload_n 1, 1) := by decide +kernel
theorem dL_law_161 : decode cL_law 161 = .ok (.aload_n 0, 1) := by decide +kernel
theorem dL_law_162 : decode cL_law 162 = .ok (.iload_n 3, 1) := by decide +kernel
theorem dL_law_163 : decode cL_law 163 = .ok (.iconst 1, 1) := by decide +kernel
theorem dL_law_164 : decode cL_law 164 = .ok (.iadd, 1) := by decide +kernel
theorem dL_law_165 : decode cL_law 165 = .ok (.iaload, 1) := by decide +kernel
theorem dL_law_166 : decode cL_law 166 = .ok (.aload_n 0, 1) := by decide +kernel
theorem dL_law_167 : decode cL_law 167 = .ok (.iload_n 3, 1) := by decide +kernel
theorem dL_law_168 : decode cL_law 168 = .ok (.iconst 2, 1) := by decide +kernel
theorem dL_law_169 : decode cL_law 169 = .ok (.iadd, 1) := by decide +kernel
theorem dL_law_170 : decode cL_law 170 = .ok (.iaload, 1) := by decide +kernel
theorem dL_law_171 : decode cL_law 171 = .ok (.aload_n 0, 1) := by decide +kernel
theorem dL_law_172 : decode cL_law 172 = .ok (.iload_n 3, 1) := by decide +kernel
theorem dL_law_173 : decode cL_law 173 = .ok (.iconst 3, 1) := by decide +kernel
theorem dL_law_174 : decode cL_law 174 = .ok (.iadd, 1) := by decide +kernel
theorem dL_law_175 : decode cL_law 175 = .ok (.iaload, 1) := by decide +kernel
theorem dL_law_176 : decode cL_law 176 = .ok (.aload_n 0, 1) := by decide +kernel
theorem dL_law_177 : decode cL_law 177 = .ok (.iload_n 3, 1) := by decide +kernel
theorem dL_law_178 : decode cL_law 178 = .ok (.iconst 4, 1) := by decide +kernel
theorem dL_law_179 : decode cL_law 179 = .ok (.iadd, 1) := by decide +kernel
theorem dL_law_180 : decode cL_law 180 = .ok (.iaload, 1) := by decide +kernel
theorem dL_law_181 : decode cL_law 181 = .ok (.invokevirtual 13, 3) := by decide +kernel
theorem dL_law_184 : decode cL_law 184 = .ok (.aload_n 2, 1) := by decide +kernel
theorem dL_law_185 : decode cL_law 185 = .ok (.aload_n 0, 1) := by decide +kernel
theorem dL_law_186 : decode cL_law 186 = .ok (.iload_n 3, 1) := by decide +kernel
theorem dL_law_187 : decode cL_law 187 = .ok (.iconst 1, 1) := by decide +kernel
theorem dL_law_188 : decode cL_law 188 = .ok (.iadd, 1) := by decide +kernel
theorem dL_law_189 : decode cL_law 189 = .ok (.iaload, 1) := by decide +kernel
theorem dL_law_190 : decode cL_law 190 = .ok (.aload_n 0, 1) := by decide +kernel
theorem dL_law_191 : decode cL_law 191 = .ok (.iload_n 3, 1) := by decide +kernel
theorem dL_law_192 : decode cL_law 192 = .ok (.iconst 2, 1) := by decide +kernel
theorem dL_law_193 : decode cL_law 193 = .ok (.iadd, 1) := by decide +kernel
theorem dL_law_194 : decode cL_law 194 = .ok (.iaload, 1) := by decide +kernel
theorem dL_law_195 : decode cL_law 195 = .ok (.aload_n 0, 1) := by decide +kernel
theorem dL_law_196 : decode cL_law 196 = .ok (.iload_n 3, 1) := by decide +kernel
theorem dL_law_197 : decode cL_law 197 = .ok (.iconst 3, 1) := by decide +kernel
theorem dL_law_198 : decode cL_law 198 = .ok (.iadd, 1) := by decide +kernel
theorem dL_law_199 : decode cL_law 199 = .ok (.iaload, 1) := by decide +kernel
theorem dL_law_200 : decode cL_law 200 = .ok (.aload_n 0, 1) := by decide +kernel
theorem dL_law_201 : decode cL_law 201 = .ok (.iload_n 3, 1) := by decide +kernel
theorem dL_law_202 : decode cL_law 202 = .ok (.iconst 4, 1) := by decide +kernel
theorem dL_law_203 : decode cL_law 203 = .ok (.iadd, 1) := by decide +kernel
theorem dL_law_204 : decode cL_law 204 = .ok (.iaload, 1) := by decide +kernel
theorem dL_law_205 : decode cL_law 205 = .ok (.invokevirtual 17, 3) := by decide +kernel
theorem dL_law_208 : decode cL_law 208 = .ok (.if_icmp .eq 868, 3) := by decide +kernel
theorem dL_law_211 : decode cL_law 211 = .ok (.iconst 0, 1) := by decide +kernel
theorem dL_law_212 : decode cL_law 212 = .ok (.ireturn, 1) := by decide +kernel
theorem dL_law_213 : decode cL_law 213 = .ok (.aload_n 1, 1) := by decide +kernel
theorem dL_law_214 : decode cL_law 214 = .ok (.aload_n 0, 1) := by decide +kernel
theorem dL_law_215 : decode cL_law 215 = .ok (.iload_n 3, 1) := by decide +kernel
theorem dL_law_216 : decode cL_law 216 = .ok (.iconst 1, 1) := by decide +kernel
theorem dL_law_217 : decode cL_law 217 = .ok (.iadd, 1) := by decide +kernel
theorem dL_law_218 : decode cL_law 218 = .ok (.iaload, 1) := by decide +kernel
theorem dL_law_219 : decode cL_law 219 = .ok (.aload_n 0, 1) := by decide +kernel
theorem dL_law_220 : decode cL_law 220 = .ok (.iload_n 3, 1) := by decide +kernel
theorem dL_law_221 : decode cL_law 221 = .ok (.iconst 2, 1) := by decide +kernel
theorem dL_law_222 : decode cL_law 222 = .ok (.iadd, 1) := by decide +kernel
theorem dL_law_223 : decode cL_law 223 = .ok (.iaload, 1) := by decide +kernel
theorem dL_law_224 : decode cL_law 224 = .ok (.invokevirtual 18, 3) := by decide +kernel
theorem dL_law_227 : decode cL_law 227 = .ok (.aload_n 2, 1) := by decide +kernel
theorem dL_law_228 : decode cL_law 228 = .ok (.aload_n 0, 1) := by decide +kernel
theorem dL_law_229 : decode cL_law 229 = .ok (.iload_n 3, 1) := by decide +kernel
theorem dL_law_230 : decode cL_law 230 = .ok (.iconst 1, 1) := by decide +kernel
theorem dL_law_231 : decode cL_law 231 = .ok (.iadd, 1) := by decide +kernel
theorem dL_law_232 : decode cL_law 232 = .ok (.iaload, 1) := by decide +kernel
theorem dL_law_233 : decode cL_law 233 = .ok (.aload_n 0, 1) := by decide +kernel
theorem dL_law_234 : decode cL_law 234 = .ok (.iload_n 3, 1) := by decide +kernel
theorem dL_law_235 : decode cL_law 235 = .ok (.iconst 2, 1) := by decide +kernel
theorem dL_law_236 : decode cL_law 236 = .ok (.iadd, 1) := by decide +kernel
theorem dL_law_237 : decode cL_law 237 = .ok (.iaload, 1) := by decide +kernel
theorem dL_law_238 : decode cL_law 238 = .ok (.invokevirtual 22, 3) := by decide +kernel
theorem dL_law_241 : decode cL_law 241 = .ok (.if_icmp .eq 835, 3) := by decide +kernel
theorem dL_law_244 : decode cL_law 244 = .ok (.iconst 0, 1) := by decide +kernel
theorem dL_law_245 : decode cL_law 245 = .ok (.ireturn, 1) := by decide +kernel
theorem dL_law_246 : decode cL_law 246 = .ok (.aload_n 1, 1) := by decide +kernel
theorem dL_law_247 : decode cL_law 247 = .ok (.aload_n 0, 1) := by decide +kernel
theorem dL_law_248 : decode cL_law 248 = .ok (.iload_n 3, 1) := by decide +kernel
theorem dL_law_249 : decode cL_law 249 = .ok (.iconst 1, 1) := by decide +kernel
theorem dL_law_250 : decode cL_law 250 = .ok (.iadd, 1) := by decide +kernel
theorem dL_law_251 : decode cL_law 251 = .ok (.iaload, 1) := by decide +kernel
theorem dL_law_252 : decode cL_law 252 = .ok (.aload_n 0, 1) := by decide +kernel
theorem dL_law_253 : decode cL_law 253 = .ok (.iload_n 3, 1) := by decide +kernel
theorem dL_law_254 : decode cL_law 254 = .ok (.iconst 2, 1) := by decide +kernel
theorem dL_law_255 : decode cL_law 255 = .ok (.iadd, 1) := by decide +kernel
theorem dL_law_256 : decode cL_law 256 = .ok (.iaload, 1) := by decide +kernel
theorem dL_law_257 : decode cL_law 257 = .ok (.invokevirtual 23, 3) := by decide +kernel
theorem dL_law_260 : decode cL_law 260 = .ok (.aload_n 2, 1) := by decide +kernel
theorem dL_law_261 : decode cL_law 261 = .ok (.aload_n 0, 1) := by decide +kernel
theorem dL_law_262 : decode cL_law 262 = .ok (.iload_n 3, 1) := by decide +kernel
theorem dL_law_263 : decode cL_law 263 = .ok (.iconst 1, 1) := by decide +kernel
theorem dL_law_264 : decode cL_law 264 = .ok (.iadd, 1) := by decide +kernel
theorem dL_law_265 : decode cL_law 265 = .ok (.iaload, 1) := by decide +kernel
theorem dL_law_266 : decode cL_law 266 = .ok (.aload_n 0, 1) := by decide +kernel
theorem dL_law_267 : decode cL_law 267 = .ok (.iload_n 3, 1) := by decide +kernel
theorem dL_law_268 : decode cL_law 268 = .ok (.iconst 2, 1) := by decide +kernel
theorem dL_law_269 : decode cL_law 269 = .ok (.iadd, 1) := by decide +kernel
theorem dL_law_270 : decode cL_law 270 = .ok (.iaload, 1) := by decide +kernel
theorem dL_law_271 : decode cL_law 271 = .ok (.invokevirtual 26, 3) := by decide +kernel
theorem dL_law_274 : decode cL_law 274 = .ok (.if_icmp .eq 802, 3) := by decide +kernel
theorem dL_law_277 : decode cL_law 277 = .ok (.iconst 0, 1) := by decide +kernel
theorem dL_law_278 : decode cL_law 278 = .ok (.ireturn, 1) := by decide +kernel
theorem dL_law_279 : decode cL_law 279 = .ok (.aload_n 1, 1) := by decide +kernel
theorem dL_law_280 : decode cL_law 280 = .ok (.aload_n 0, 1) := by decide +kernel
theorem dL_law_281 : decode cL_law 281 = .ok (.iload_n 3, 1) := by decide +kernel
theorem dL_law_282 : decode cL_law 282 = .ok (.iconst 1, 1) := by decide +kernel
theorem dL_law_283 : decode cL_law 283 = .ok (.iadd, 1) := by decide +kernel
theorem dL_law_284 : decode cL_law 284 = .ok (.iaload, 1) := by decide +kernel
theorem dL_law_285 : decode cL_law 285 = .ok (.aload_n 0, 1) := by decide +kernel
theorem dL_law_286 : decode cL_law 286 = .ok (.iload_n 3, 1) := by decide +kernel
theorem dL_law_287 : decode cL_law 287 = .ok (.iconst 2, 1) := by decide +kernel
theorem dL_law_288 : decode cL_law 288 = .ok (.iadd, 1) := by decide +kernel
theorem dL_law_289 : decode cL_law 289 = .ok (.iaload, 1) := by decide +kernel
theorem dL_law_290 : decode cL_law 290 = .ok (.aload_n 0, 1) := by decide +kernel
theorem dL_law_291 : decode cL_law 291 = .ok (.iload_n 3, 1) := by decide +kernel
theorem dL_law_292 : decode cL_law 292 = .ok (.iconst 3, 1) := by decide +kernel
theorem dL_law_293 : decode cL_law 293 = .ok (.iadd, 1) := by decide +kernel
theorem dL_law_294 : decode cL_law 294 = .ok (.iaload, 1) := by decide +kernel
theorem dL_law_295 : decode cL_law 295 = .ok (.invokevirtual 27, 3) := by decide +kernel
theorem dL_law_298 : decode cL_law 298 = .ok (.aload_n 2, 1) := by decide +kernel
theorem dL_law_299 : decode cL_law 299 = .ok (.aload_n 0, 1) := by decide +kernel
theorem dL_law_300 : decode cL_law 300 = .ok (.iload_n 3, 1) := by decide +kernel
theorem dL_law_301 : decode cL_law 301 = .ok (.iconst 1, 1) := by decide +kernel
theorem dL_law_302 : decode cL_law 302 = .ok (.iadd, 1) := by decide +kernel
theorem dL_law_303 : decode cL_law 303 = .ok (.iaload, 1) := by decide +kernel
theorem dL_law_304 : decode cL_law 304 = .ok (.aload_n 0, 1) := by decide +kernel
theorem dL_law_305 : decode cL_law 305 = .ok (.iload_n 3, 1) := by decide +kernel
theorem dL_law_306 : decode cL_law 306 = .ok (.iconst 2, 1) := by decide +kernel
theorem dL_law_307 : decode cL_law 307 = .ok (.iadd, 1) := by decide +kernel
theorem dL_law_308 : decode cL_law 308 = .ok (.iaload, 1) := by decide +kernel
theorem dL_law_309 : decode cL_law 309 = .ok (.aload_n 0, 1) := by decide +kernel
theorem dL_law_310 : decode cL_law 310 = .ok (.iload_n 3, 1) := by decide +kernel
theorem dL_law_311 : decode cL_law 311 = .ok (.iconst 3, 1) := by decide +kernel
theorem dL_law_312 : decode cL_law 312 = .ok (.iadd, 1) := by decide +kernel
theorem dL_law_313 : decode cL_law 313 = .ok (.iaload, 1) := by decide +kernel
theorem dL_law_314 : decode cL_law 314 = .ok (.invokevirtual 31, 3) := by decide +kernel
theorem dL_law_317 : decode cL_law 317 = .ok (.if_icmp .eq 759, 3) := by decide +kernel
theorem dL_law_320 : decode cL_law 320 = .ok (.iconst 0, 1) := by decide +kernel
theorem dL_law_321 : decode cL_law 321 = .ok (.ireturn, 1) := by decide +kernel
theorem dL_law_322 : decode cL_law 322 = .ok (.aload_n 1, 1) := by decide +kernel
theorem dL_law_323 : decode cL_law 323 = .ok (.aload_n 0, 1) := by decide +kernel
theorem dL_law_324 : decode cL_law 324 = .ok (.iload_n 3, 1) := by decide +kernel
theorem dL_law_325 : decode cL_law 325 = .ok (.iconst 1, 1) := by decide +kernel
theorem dL_law_326 : decode cL_law 326 = .ok (.iadd, 1) := by decide +kernel
theorem dL_law_327 : decode cL_law 327 = .ok (.iaload, 1) := by decide +kernel
theorem dL_law_328 : decode cL_law 328 = .ok (.aload_n 0, 1) := by decide +kernel
theorem dL_law_329 : decode cL_law 329 = .ok (.iload_n 3, 1) := by decide +kernel
theorem dL_law_330 : decode cL_law 330 = .ok (.iconst 2, 1) := by decide +kernel
theorem dL_law_331 : decode cL_law 331 = .ok (.iadd, 1) := by decide +kernel
theorem dL_law_332 : decode cL_law 332 = .ok (.iaload, 1) := by decide +kernel
theorem dL_law_333 : decode cL_law 333 = .ok (.invokevirtual 32, 3) := by decide +kernel
theorem dL_law_336 : decode cL_law 336 = .ok (.aload_n 2, 1) := by decide +kernel
theorem dL_law_337 : decode cL_law 337 = .ok (.aload_n 0, 1) := by decide +kernel
theorem dL_law_338 : decode cL_law 338 = .ok (.iload_n 3, 1) := by decide +kernel
theorem dL_law_339 : decode cL_law 339 = .ok (.iconst 1, 1) := by decide +kernel
theorem dL_law_340 : decode cL_law 340 = .ok (.iadd, 1) := by decide +kernel
theorem dL_law_341 : decode cL_law 341 = .ok (.iaload, 1) := by decide +kernel
theorem dL_law_342 : decode cL_law 342 = .ok (.aload_n 0, 1) := by decide +kernel
theorem dL_law_343 : decode cL_law 343 = .ok (.iload_n 3, 1) := by decide +kernel
theorem dL_law_344 : decode cL_law 344 = .ok (.iconst 2, 1) := by decide +kernel
theorem dL_law_345 : decode cL_law 345 = .ok (.iadd, 1) := by decide +kernel
theorem dL_law_346 : decode cL_law 346 = .ok (.iaload, 1) := by decide +kernel
theorem dL_law_347 : decode cL_law 347 = .ok (.invokevirtual 35, 3) := by decide +kernel
theorem dL_law_350 : decode cL_law 350 = .ok (.if_icmp .eq 726, 3) := by decide +kernel
theorem dL_law_353 : decode cL_law 353 = .ok (.iconst 0, 1) := by decide +kernel
theorem dL_law_354 : decode cL_law 354 = .ok (.ireturn, 1) := by decide +kernel
theorem dL_law_355 : decode cL_law 355 = .ok (.aload_n 1, 1) := by decide +kernel
theorem dL_law_356 : decode cL_law 356 = .ok (.aload_n 0, 1) := by decide +kernel
theorem dL_law_357 : decode cL_law 357 = .ok (.iload_n 3, 1) := by decide +kernel
theorem dL_law_358 : decode cL_law 358 = .ok (.iconst 1, 1) := by decide +kernel
theorem dL_law_359 : decode cL_law 359 = .ok (.iadd, 1) := by decide +kernel
theorem dL_law_360 : decode cL_law 360 = .ok (.iaload, 1) := by decide +kernel
theorem dL_law_361 : decode cL_law 361 = .ok (.aload_n 0, 1) := by decide +kernel
theorem dL_law_362 : decode cL_law 362 = .ok (.iload_n 3, 1) := by decide +kernel
theorem dL_law_363 : decode cL_law 363 = .ok (.iconst 2, 1) := by decide +kernel
theorem dL_law_364 : decode cL_law 364 = .ok (.iadd, 1) := by decide +kernel
theorem dL_law_365 : decode cL_law 365 = .ok (.iaload, 1) := by decide +kernel
theorem dL_law_366 : decode cL_law 366 = .ok (.aload_n 0, 1) := by decide +kernel
theorem dL_law_367 : decode cL_law 367 = .ok (.iload_n 3, 1) := by decide +kernel
theorem dL_law_368 : decode cL_law 368 = .ok (.iconst 3, 1) := by decide +kernel
theorem dL_law_369 : decode cL_law 369 = .ok (.iadd, 1) := by decide +kernel
theorem dL_law_370 : decode cL_law 370 = .ok (.iaload, 1) := by decide +kernel
theorem dL_law_371 : decode cL_law 371 = .ok (.invokevirtual 36, 3) := by decide +kernel
theorem dL_law_374 : decode cL_law 374 = .ok (.aload_n 2, 1) := by decide +kernel
theorem dL_law_375 : decode cL_law 375 = .ok (.aload_n 0, 1) := by decide +kernel
theorem dL_law_376 : decode cL_law 376 = .ok (.iload_n 3, 1) := by decide +kernel
theorem dL_law_377 : decode cL_law 377 = .ok (.iconst 1, 1) := by decide +kernel
theorem dL_law_378 : decode cL_law 378 = .ok (.iadd, 1) := by decide +kernel
theorem dL_law_379 : decode cL_law 379 = .ok (.iaload, 1) := by decide +kernel
theorem dL_law_380 : decode cL_law 380 = .ok (.aload_n 0, 1) := by decide +kernel
theorem dL_law_381 : decode cL_law 381 = .ok (.iload_n 3, 1) := by decide +kernel
theorem dL_law_382 : decode cL_law 382 = .ok (.iconst 2, 1) := by decide +kernel
theorem dL_law_383 : decode cL_law 383 = .ok (.iadd, 1) := by decide +kernel
theorem dL_law_384 : decode cL_law 384 = .ok (.iaload, 1) := by decide +kernel
theorem dL_law_385 : decode cL_law 385 = .ok (.aload_n 0, 1) := by decide +kernel
theorem dL_law_386 : decode cL_law 386 = .ok (.iload_n 3, 1) := by decide +kernel
theorem dL_law_387 : decode cL_law 387 = .ok (.iconst 3, 1) := by decide +kernel
theorem dL_law_388 : decode cL_law 388 = .ok (.iadd, 1) := by decide +kernel
theorem dL_law_389 : decode cL_law 389 = .ok (.iaload, 1) := by decide +kernel
theorem dL_law_390 : decode cL_law 390 = .ok (.invokevirtual 39, 3) := by decide +kernel
theorem dL_law_393 : decode cL_law 393 = .ok (.if_icmp .eq 683, 3) := by decide +kernel
theorem dL_law_396 : decode cL_law 396 = .ok (.iconst 0, 1) := by decide +kernel
theorem dL_law_397 : decode cL_law 397 = .ok (.ireturn, 1) := by decide +kernel
theorem dL_law_398 : decode cL_law 398 = .ok (.aload_n 1, 1) := by decide +kernel
theorem dL_law_399 : decode cL_law 399 = .ok (.aload_n 0, 1) := by decide +kernel
theorem dL_law_400 : decode cL_law 400 = .ok (.iload_n 3, 1) := by decide +kernel
theorem dL_law_401 : decode cL_law 401 = .ok (.iconst 1, 1) := by decide +kernel
theorem dL_law_402 : decode cL_law 402 = .ok (.iadd, 1) := by decide +kernel
theorem dL_law_403 : decode cL_law 403 = .ok (.iaload, 1) := by decide +kernel
theorem dL_law_404 : decode cL_law 404 = .ok (.invokevirtual 40, 3) := by decide +kernel
theorem dL_law_407 : decode cL_law 407 = .ok (.aload_n 2, 1) := by decide +kernel
theorem dL_law_408 : decode cL_law 408 = .ok (.aload_n 0, 1) := by decide +kernel
theorem dL_law_409 : decode cL_law 409 = .ok (.iload_n 3, 1) := by decide +kernel
theorem dL_law_410 : decode cL_law 410 = .ok (.iconst 1, 1) := by decide +kernel
theorem dL_law_411 : decode cL_law 411 = .ok (.iadd, 1) := by decide +kernel
theorem dL_law_412 : decode cL_law 412 = .ok (.iaload, 1) := by decide +kernel
theorem dL_law_413 : decode cL_law 413 = .ok (.invokevirtual 44, 3) := by decide +kernel
theorem dL_law_416 : decode cL_law 416 = .ok (.if_icmp .eq 660, 3) := by decide +kernel
theorem dL_law_419 : decode cL_law 419 = .ok (.iconst 0, 1) := by decide +kernel
theorem dL_law_420 : decode cL_law 420 = .ok (.ireturn, 1) := by decide +kernel
theorem dL_law_421 : decode cL_law 421 = .ok (.aload_n 1, 1) := by decide +kernel
theorem dL_law_422 : decode cL_law 422 = .ok (.aload_n 0, 1) := by decide +kernel
theorem dL_law_423 : decode cL_law 423 = .ok (.iload_n 3, 1) := by decide +kernel
theorem dL_law_424 : decode cL_law 424 = .ok (.iconst 1, 1) := by decide +kernel
theorem dL_law_425 : decode cL_law 425 = .ok (.iadd, 1) := by decide +kernel
theorem dL_law_426 : decode cL_law 426 = .ok (.iaload, 1) := by decide +kernel
theorem dL_law_427 : decode cL_law 427 = .ok (.aload_n 0, 1) := by decide +kernel
theorem dL_law_428 : decode cL_law 428 = .ok (.iload_n 3, 1) := by decide +kernel
theorem dL_law_429 : decode cL_law 429 = .ok (.iconst 2, 1) := by decide +kernel
theorem dL_law_430 : decode cL_law 430 = .ok (.iadd, 1) := by decide +kernel
theorem dL_law_431 : decode cL_law 431 = .ok (.iaload, 1) := by decide +kernel
theorem dL_law_432 : decode cL_law 432 = .ok (.invokevirtual 45, 3) := by decide +kernel
theorem dL_law_435 : decode cL_law 435 = .ok (.aload_n 2, 1) := by decide +kernel
theorem dL_law_436 : decode cL_law 436 = .ok (.aload_n 0, 1) := by decide +kernel
theorem dL_law_437 : decode cL_law 437 = .ok (.iload_n 3, 1) := by decide +kernel
theorem dL_law_438 : decode cL_law 438 = .ok (.iconst 1, 1) := by decide +kernel
theorem dL_law_439 : decode cL_law 439 = .ok (.iadd, 1) := by decide +kernel
theorem dL_law_440 : decode cL_law 440 = .ok (.iaload, 1) := by decide +kernel
theorem dL_law_441 : decode cL_law 441 = .ok (.aload_n 0, 1) := by decide +kernel
theorem dL_law_442 : decode cL_law 442 = .ok (.iload_n 3, 1) := by decide +kernel
theorem dL_law_443 : decode cL_law 443 = .ok (.iconst 2, 1) := by decide +kernel
theorem dL_law_444 : decode cL_law 444 = .ok (.iadd, 1) := by decide +kernel
theorem dL_law_445 : decode cL_law 445 = .ok (.iaload, 1) := by decide +kernel
theorem dL_law_446 : decode cL_law 446 = .ok (.invokevirtual 48, 3) := by decide +kernel
theorem dL_law_449 : decode cL_law 449 = .ok (.if_icmp .eq 627, 3) := by decide +kernel
theorem dL_law_452 : decode cL_law 452 = .ok (.iconst 0, 1) := by decide +kernel
theorem dL_law_453 : decode cL_law 453 = .ok (.ireturn, 1) := by decide +kernel
theorem dL_law_454 : decode cL_law 454 = .ok (.aload_n 1, 1) := by decide +kernel
theorem dL_law_455 : decode cL_law 455 = .ok (.aload_n 0, 1) := by decide +kernel
theorem dL_law_456 : decode cL_law 456 = .ok (.iload_n 3, 1) := by decide +kernel
theorem dL_law_457 : decode cL_law 457 = .ok (.iconst 1, 1) := by decide +kernel
theorem dL_law_458 : decode cL_law 458 = .ok (.iadd, 1) := by decide +kernel
theorem dL_law_459 : decode cL_law 459 = .ok (.iaload, 1) := by decide +kernel
theorem dL_law_460 : decode cL_law 460 = .ok (.aload_n 0, 1) := by decide +kernel
theorem dL_law_461 : decode cL_law 461 = .ok (.iload_n 3, 1) := by decide +kernel
theorem dL_law_462 : decode cL_law 462 = .ok (.iconst 2, 1) := by decide +kernel
theorem dL_law_463 : decode cL_law 463 = .ok (.iadd, 1) := by decide +kernel
theorem dL_law_464 : decode cL_law 464 = .ok (.iaload, 1) := by decide +kernel
theorem dL_law_465 : decode cL_law 465 = .ok (.aload_n 0, 1) := by decide +kernel
theorem dL_law_466 : decode cL_law 466 = .ok (.iload_n 3, 1) := by decide +kernel
theorem dL_law_467 : decode cL_law 467 = .ok (.iconst 3, 1) := by decide +kernel
theorem dL_law_468 : decode cL_law 468 = .ok (.iadd, 1) := by decide +kernel
theorem dL_law_469 : decode cL_law 469 = .ok (.iaload, 1) := by decide +kernel
theorem dL_law_470 : decode cL_law 470 = .ok (.invokevirtual 49, 3) := by decide +kernel
theorem dL_law_473 : decode cL_law 473 = .ok (.aload_n 2, 1) := by decide +kernel
theorem dL_law_474 : decode cL_law 474 = .ok (.aload_n 0, 1) := by decide +kernel
theorem dL_law_475 : decode cL_law 475 = .ok (.iload_n 3, 1) := by decide +kernel
theorem dL_law_476 : decode cL_law 476 = .ok (.iconst 1, 1) := by decide +kernel
theorem dL_law_477 : decode cL_law 477 = .ok (.iadd, 1) := by decide +kernel
theorem dL_law_478 : decode cL_law 478 = .ok (.iaload, 1) := by decide +kernel
theorem dL_law_479 : decode cL_law 479 = .ok (.aload_n 0, 1) := by decide +kernel
theorem dL_law_480 : decode cL_law 480 = .ok (.iload_n 3, 1) := by decide +kernel
theorem dL_law_481 : decode cL_law 481 = .ok (.iconst 2, 1) := by decide +kernel
theorem dL_law_482 : decode cL_law 482 = .ok (.iadd, 1) := by decide +kernel
theorem dL_law_483 : decode cL_law 483 = .ok (.iaload, 1) := by decide +kernel
theorem dL_law_484 : decode cL_law 484 = .ok (.aload_n 0, 1) := by decide +kernel
theorem dL_law_485 : decode cL_law 485 = .ok (.iload_n 3, 1) := by decide +kernel
theorem dL_law_486 : decode cL_law 486 = .ok (.iconst 3, 1) := by decide +kernel
theorem dL_law_487 : decode cL_law 487 = .ok (.iadd, 1) := by decide +kernel
theorem dL_law_488 : decode cL_law 488 = .ok (.iaload, 1) := by decide +kernel
theorem dL_law_489 : decode cL_law 489 = .ok (.invokevirtual 52, 3) := by decide +kernel
theorem dL_law_492 : decode cL_law 492 = .ok (.if_icmp .eq 584, 3) := by decide +kernel
theorem dL_law_495 : decode cL_law 495 = .ok (.iconst 0, 1) := by decide +kernel
theorem dL_law_496 : decode cL_law 496 = .ok (.ireturn, 1) := by decide +kernel
theorem dL_law_497 : decode cL_law 497 = .ok (.aload_n 1, 1) := by decide +kernel
theorem dL_law_498 : decode cL_law 498 = .ok (.aload_n 0, 1) := by decide +kernel
theorem dL_law_499 : decode cL_law 499 = .ok (.iload_n 3, 1) := by decide +kernel
theorem dL_law_500 : decode cL_law 500 = .ok (.iconst 1, 1) := by decide +kernel
theorem dL_law_501 : decode cL_law 501 = .ok (.iadd, 1) := by decide +kernel
theorem dL_law_502 : decode cL_law 502 = .ok (.iaload, 1) := by decide +kernel
theorem dL_law_503 : decode cL_law 503 = .ok (.aload_n 0, 1) := by decide +kernel
theorem dL_law_504 : decode cL_law 504 = .ok (.iload_n 3, 1) := by decide +kernel
theorem dL_law_505 : decode cL_law 505 = .ok (.iconst 2, 1) := by decide +kernel
theorem dL_law_506 : decode cL_law 506 = .ok (.iadd, 1) := by decide +kernel
theorem dL_law_507 : decode cL_law 507 = .ok (.iaload, 1) := by decide +kernel
theorem dL_law_508 : decode cL_law 508 = .ok (.aload_n 0, 1) := by decide +kernel
theorem dL_law_509 : decode cL_law 509 = .ok (.iload_n 3, 1) := by decide +kernel
theorem dL_law_510 : decode cL_law 510 = .ok (.iconst 3, 1) := by decide +kernel
theorem dL_law_511 : decode cL_law 511 = .ok (.iadd, 1) := by decide +kernel
theorem dL_law_512 : decode cL_law 512 = .ok (.iaload, 1) := by decide +kernel
theorem dL_law_513 : decode cL_law 513 = .ok (.aload_n 0, 1) := by decide +kernel
theorem dL_law_514 : decode cL_law 514 = .ok (.iload_n 3, 1) := by decide +kernel
theorem dL_law_515 : decode cL_law 515 = .ok (.iconst 4, 1) := by decide +kernel
theorem dL_law_516 : decode cL_law 516 = .ok (.iadd, 1) := by decide +kernel
theorem dL_law_517 : decode cL_law 517 = .ok (.iaload, 1) := by decide +kernel
theorem dL_law_518 : decode cL_law 518 = .ok (.aload_n 0, 1) := by decide +kernel
theorem dL_law_519 : decode cL_law 519 = .ok (.iload_n 3, 1) := by decide +kernel
theorem dL_law_520 : decode cL_law 520 = .ok (.iconst 5, 1) := by decide +kernel
theorem dL_law_521 : decode cL_law 521 = .ok (.iadd, 1) := by decide +kernel
theorem dL_law_522 : decode cL_law 522 = .ok (.iaload, 1) := by decide +kernel
theorem dL_law_523 : decode cL_law 523 = .ok (.invokevirtual 53, 3) := by decide +kernel
theorem dL_law_526 : decode cL_law 526 = .ok (.aload_n 2, 1) := by decide +kernel
theorem dL_law_527 : decode cL_law 527 = .ok (.aload_n 0, 1) := by decide +kernel
theorem dL_law_528 : decode cL_law 528 = .ok (.iload_n 3, 1) := by decide +kernel
theorem dL_law_529 : decode cL_law 529 = .ok (.iconst 1, 1) := by decide +kernel
theorem dL_law_530 : decode cL_law 530 = .ok (.iadd, 1) := by decide +kernel
theorem dL_law_531 : decode cL_law 531 = .ok (.iaload, 1) := by decide +kernel
theorem dL_law_532 : decode cL_law 532 = .ok (.aload_n 0, 1) := by decide +kernel
theorem dL_law_533 : decode cL_law 533 = .ok (.iload_n 3, 1) := by decide +kernel
theorem dL_law_534 : decode cL_law 534 = .ok (.iconst 2, 1) := by decide +kernel
theorem dL_law_535 : decode cL_law 535 = .ok (.iadd, 1) := by decide +kernel
theorem dL_law_536 : decode cL_law 536 = .ok (.iaload, 1) := by decide +kernel
theorem dL_law_537 : decode cL_law 537 = .ok (.aload_n 0, 1) := by decide +kernel
theorem dL_law_538 : decode cL_law 538 = .ok (.iload_n 3, 1) := by decide +kernel
theorem dL_law_539 : decode cL_law 539 = .ok (.iconst 3, 1) := by decide +kernel
theorem dL_law_540 : decode cL_law 540 = .ok (.iadd, 1) := by decide +kernel
theorem dL_law_541 : decode cL_law 541 = .ok (.iaload, 1) := by decide +kernel
theorem dL_law_542 : decode cL_law 542 = .ok (.aload_n 0, 1) := by decide +kernel
theorem dL_law_543 : decode cL_law 543 = .ok (.iload_n 3, 1) := by decide +kernel
theorem dL_law_544 : decode cL_law 544 = .ok (.iconst 4, 1) := by decide +kernel
theorem dL_law_545 : decode cL_law 545 = .ok (.iadd, 1) := by decide +kernel
theorem dL_law_546 : decode cL_law 546 = .ok (.iaload, 1) := by decide +kernel
theorem dL_law_547 : decode cL_law 547 = .ok (.aload_n 0, 1) := by decide +kernel
theorem dL_law_548 : decode cL_law 548 = .ok (.iload_n 3, 1) := by decide +kernel
theorem dL_law_549 : decode cL_law 549 = .ok (.iconst 5, 1) := by decide +kernel
theorem dL_law_550 : decode cL_law 550 = .ok (.iadd, 1) := by decide +kernel
theorem dL_law_551 : decode cL_law 551 = .ok (.iaload, 1) := by decide +kernel
theorem dL_law_552 : decode cL_law 552 = .ok (.invokevirtual 57, 3) := by decide +kernel
theorem dL_law_555 : decode cL_law 555 = .ok (.if_icmp .eq 521, 3) := by decide +kernel
theorem dL_law_558 : decode cL_law 558 = .ok (.iconst 0, 1) := by decide +kernel
theorem dL_law_559 : decode cL_law 559 = .ok (.ireturn, 1) := by decide +kernel
theorem dL_law_560 : decode cL_law 560 = .ok (.aload_n 1, 1) := by decide +kernel
theorem dL_law_561 : decode cL_law 561 = .ok (.aload_n 0, 1) := by decide +kernel
theorem dL_law_562 : decode cL_law 562 = .ok (.iload_n 3, 1) := by decide +kernel
theorem dL_law_563 : decode cL_law 563 = .ok (.iconst 1, 1) := by decide +kernel
theorem dL_law_564 : decode cL_law 564 = .ok (.iadd, 1) := by decide +kernel
theorem dL_law_565 : decode cL_law 565 = .ok (.iaload, 1) := by decide +kernel
theorem dL_law_566 : decode cL_law 566 = .ok (.invokevirtual 58, 3) := by decide +kernel
theorem dL_law_569 : decode cL_law 569 = .ok (.aload_n 2, 1) := by decide +kernel
theorem dL_law_570 : decode cL_law 570 = .ok (.aload_n 0, 1) := by decide +kernel
theorem dL_law_571 : decode cL_law 571 = .ok (.iload_n 3, 1) := by decide +kernel
theorem dL_law_572 : decode cL_law 572 = .ok (.iconst 1, 1) := by decide +kernel
theorem dL_law_573 : decode cL_law 573 = .ok (.iadd, 1) := by decide +kernel
theorem dL_law_574 : decode cL_law 574 = .ok (.iaload, 1) := by decide +kernel
theorem dL_law_575 : decode cL_law 575 = .ok (.invokevirtual 61, 3) := by decide +kernel
theorem dL_law_578 : decode cL_law 578 = .ok (.if_icmp .eq 498, 3) := by decide +kernel
theorem dL_law_581 : decode cL_law 581 = .ok (.iconst 0, 1) := by decide +kernel
theorem dL_law_582 : decode cL_law 582 = .ok (.ireturn, 1) := by decide +kernel
theorem dL_law_583 : decode cL_law 583 = .ok (.aload_n 1, 1) := by decide +kernel
theorem dL_law_584 : decode cL_law 584 = .ok (.invokevirtual 62, 3) := by decide +kernel
theorem dL_law_587 : decode cL_law 587 = .ok (.aload_n 2, 1) := by decide +kernel
theorem dL_law_588 : decode cL_law 588 = .ok (.invokevirtual 66, 3) := by decide +kernel
theorem dL_law_591 : decode cL_law 591 = .ok (.if_icmp .eq 485, 3) := by decide +kernel
theorem dL_law_594 : decode cL_law 594 = .ok (.iconst 0, 1) := by decide +kernel
theorem dL_law_595 : decode cL_law 595 = .ok (.ireturn, 1) := by decide +kernel
theorem dL_law_596 : decode cL_law 596 = .ok (.aload_n 1, 1) := by decide +kernel
theorem dL_law_597 : decode cL_law 597 = .ok (.aload_n 0, 1) := by decide +kernel
theorem dL_law_598 : decode cL_law 598 = .ok (.iload_n 3, 1) := by decide +kernel
theorem dL_law_599 : decode cL_law 599 = .ok (.iconst 1, 1) := by decide +kernel
theorem dL_law_600 : decode cL_law 600 = .ok (.iadd, 1) := by decide +kernel
theorem dL_law_601 : decode cL_law 601 = .ok (.iaload, 1) := by decide +kernel
theorem dL_law_602 : decode cL_law 602 = .ok (.aload_n 0, 1) := by decide +kernel
theorem dL_law_603 : decode cL_law 603 = .ok (.iload_n 3, 1) := by decide +kernel
theorem dL_law_604 : decode cL_law 604 = .ok (.iconst 2, 1) := by decide +kernel
theorem dL_law_605 : decode cL_law 605 = .ok (.iadd, 1) := by decide +kernel
theorem dL_law_606 : decode cL_law 606 = .ok (.iaload, 1) := by decide +kernel
theorem dL_law_607 : decode cL_law 607 = .ok (.invokevirtual 67, 3) := by decide +kernel
theorem dL_law_610 : decode cL_law 610 = .ok (.aload_n 2, 1) := by decide +kernel
theorem dL_law_611 : decode cL_law 611 = .ok (.aload_n 0, 1) := by decide +kernel
theorem dL_law_612 : decode cL_law 612 = .ok (.iload_n 3, 1) := by decide +kernel
theorem dL_law_613 : decode cL_law 613 = .ok (.iconst 1, 1) := by decide +kernel
theorem dL_law_614 : decode cL_law 614 = .ok (.iadd, 1) := by decide +kernel
theorem dL_law_615 : decode cL_law 615 = .ok (.iaload, 1) := by decide +kernel
theorem dL_law_616 : decode cL_law 616 = .ok (.aload_n 0, 1) := by decide +kernel
theorem dL_law_617 : decode cL_law 617 = .ok (.iload_n 3, 1) := by decide +kernel
theorem dL_law_618 : decode cL_law 618 = .ok (.iconst 2, 1) := by decide +kernel
theorem dL_law_619 : decode cL_law 619 = .ok (.iadd, 1) := by decide +kernel
theorem dL_law_620 : decode cL_law 620 = .ok (.iaload, 1) := by decide +kernel
theorem dL_law_621 : decode cL_law 621 = .ok (.invokevirtual 70, 3) := by decide +kernel
theorem dL_law_624 : decode cL_law 624 = .ok (.if_icmp .eq 452, 3) := by decide +kernel
theorem dL_law_627 : decode cL_law 627 = .ok (.iconst 0, 1) := by decide +kernel
theorem dL_law_628 : decode cL_law 628 = .ok (.ireturn, 1) := by decide +kernel
theorem dL_law_629 : decode cL_law 629 = .ok (.aload_n 1, 1) := by decide +kernel
theorem dL_law_630 : decode cL_law 630 = .ok (.aload_n 0, 1) := by decide +kernel
theorem dL_law_631 : decode cL_law 631 = .ok (.iload_n 3, 1) := by decide +kernel
theorem dL_law_632 : decode cL_law 632 = .ok (.iconst 1, 1) := by decide +kernel
theorem dL_law_633 : decode cL_law 633 = .ok (.iadd, 1) := by decide +kernel
theorem dL_law_634 : decode cL_law 634 = .ok (.iaload, 1) := by decide +kernel
theorem dL_law_635 : decode cL_law 635 = .ok (.invokevirtual 71, 3) := by decide +kernel
theorem dL_law_638 : decode cL_law 638 = .ok (.aload_n 2, 1) := by decide +kernel
theorem dL_law_639 : decode cL_law 639 = .ok (.aload_n 0, 1) := by decide +kernel
theorem dL_law_640 : decode cL_law 640 = .ok (.iload_n 3, 1) := by decide +kernel
theorem dL_law_641 : decode cL_law 641 = .ok (.iconst 1, 1) := by decide +kernel
theorem dL_law_642 : decode cL_law 642 = .ok (.iadd, 1) := by decide +kernel
theorem dL_law_643 : decode cL_law 643 = .ok (.iaload, 1) := by decide +kernel
theorem dL_law_644 : decode cL_law 644 = .ok (.invokevirtual 74, 3) := by decide +kernel
theorem dL_law_647 : decode cL_law 647 = .ok (.if_icmp .eq 429, 3) := by decide +kernel
theorem dL_law_650 : decode cL_law 650 = .ok (.iconst 0, 1) := by decide +kernel
theorem dL_law_651 : decode cL_law 651 = .ok (.ireturn, 1) := by decide +kernel
theorem dL_law_652 : decode cL_law 652 = .ok (.aload_n 1, 1) := by decide +kernel
theorem dL_law_653 : decode cL_law 653 = .ok (.aload_n 0, 1) := by decide +kernel
theorem dL_law_654 : decode cL_law 654 = .ok (.iload_n 3, 1) := by decide +kernel
theorem dL_law_655 : decode cL_law 655 = .ok (.iconst 1, 1) := by decide +kernel
theorem dL_law_656 : decode cL_law 656 = .ok (.iadd, 1) := by decide +kernel
theorem dL_law_657 : decode cL_law 657 = .ok (.iaload, 1) := by decide +kernel
theorem dL_law_658 : decode cL_law 658 = .ok (.invokevirtual 75, 3) := by decide +kernel
theorem dL_law_661 : decode cL_law 661 = .ok (.aload_n 2, 1) := by decide +kernel
theorem dL_law_662 : decode cL_law 662 = .ok (.aload_n 0, 1) := by decide +kernel
theorem dL_law_663 : decode cL_law 663 = .ok (.iload_n 3, 1) := by decide +kernel
theorem dL_law_664 : decode cL_law 664 = .ok (.iconst 1, 1) := by decide +kernel
theorem dL_law_665 : decode cL_law 665 = .ok (.iadd, 1) := by decide +kernel
theorem dL_law_666 : decode cL_law 666 = .ok (.iaload, 1) := by decide +kernel
theorem dL_law_667 : decode cL_law 667 = .ok (.invokevirtual 78, 3) := by decide +kernel
theorem dL_law_670 : decode cL_law 670 = .ok (.if_icmp .eq 406, 3) := by decide +kernel
theorem dL_law_673 : decode cL_law 673 = .ok (.iconst 0, 1) := by decide +kernel
theorem dL_law_674 : decode cL_law 674 = .ok (.ireturn, 1) := by decide +kernel
theorem dL_law_675 : decode cL_law 675 = .ok (.aload_n 1, 1) := by decide +kernel
theorem dL_law_676 : decode cL_law 676 = .ok (.aload_n 0, 1) := by decide +kernel
theorem dL_law_677 : decode cL_law 677 = .ok (.iload_n 3, 1) := by decide +kernel
theorem dL_law_678 : decode cL_law 678 = .ok (.iconst 1, 1) := by decide +kernel
theorem dL_law_679 : decode cL_law 679 = .ok (.iadd, 1) := by decide +kernel
theorem dL_law_680 : decode cL_law 680 = .ok (.iaload, 1) := by decide +kernel
theorem dL_law_681 : decode cL_law 681 = .ok (.invokevirtual 79, 3) := by decide +kernel
theorem dL_law_684 : decode cL_law 684 = .ok (.aload_n 2, 1) := by decide +kernel
theorem dL_law_685 : decode cL_law 685 = .ok (.aload_n 0, 1) := by decide +kernel
theorem dL_law_686 : decode cL_law 686 = .ok (.iload_n 3, 1) := by decide +kernel
theorem dL_law_687 : decode cL_law 687 = .ok (.iconst 1, 1) := by decide +kernel
theorem dL_law_688 : decode cL_law 688 = .ok (.iadd, 1) := by decide +kernel
theorem dL_law_689 : decode cL_law 689 = .ok (.iaload, 1) := by decide +kernel
theorem dL_law_690 : decode cL_law 690 = .ok (.invokevirtual 82, 3) := by decide +kernel
theorem dL_law_693 : decode cL_law 693 = .ok (.if_icmp .eq 383, 3) := by decide +kernel
theorem dL_law_696 : decode cL_law 696 = .ok (.iconst 0, 1) := by decide +kernel
theorem dL_law_697 : decode cL_law 697 = .ok (.ireturn, 1) := by decide +kernel
theorem dL_law_698 : decode cL_law 698 = .ok (.aload_n 1, 1) := by decide +kernel
theorem dL_law_699 : decode cL_law 699 = .ok (.aload_n 0, 1) := by decide +kernel
theorem dL_law_700 : decode cL_law 700 = .ok (.iload_n 3, 1) := by decide +kernel
theorem dL_law_701 : decode cL_law 701 = .ok (.iconst 1, 1) := by decide +kernel
theorem dL_law_702 : decode cL_law 702 = .ok (.iadd, 1) := by decide +kernel
theorem dL_law_703 : decode cL_law 703 = .ok (.iaload, 1) := by decide +kernel
theorem dL_law_704 : decode cL_law 704 = .ok (.aload_n 0, 1) := by decide +kernel
theorem dL_law_705 : decode cL_law 705 = .ok (.iload_n 3, 1) := by decide +kernel
theorem dL_law_706 : decode cL_law 706 = .ok (.iconst 2, 1) := by decide +kernel
theorem dL_law_707 : decode cL_law 707 = .ok (.iadd, 1) := by decide +kernel
theorem dL_law_708 : decode cL_law 708 = .ok (.iaload, 1) := by decide +kernel
theorem dL_law_709 : decode cL_law 709 = .ok (.invokevirtual 83, 3) := by decide +kernel
theorem dL_law_712 : decode cL_law 712 = .ok (.aload_n 2, 1) := by decide +kernel
theorem dL_law_713 : decode cL_law 713 = .ok (.aload_n 0, 1) := by decide +kernel
theorem dL_law_714 : decode cL_law 714 = .ok (.iload_n 3, 1) := by decide +kernel
theorem dL_law_715 : decode cL_law 715 = .ok (.iconst 1, 1) := by decide +kernel
theorem dL_law_716 : decode cL_law 716 = .ok (.iadd, 1) := by decide +kernel
theorem dL_law_717 : decode cL_law 717 = .ok (.iaload, 1) := by decide +kernel
theorem dL_law_718 : decode cL_law 718 = .ok (.aload_n 0, 1) := by decide +kernel
theorem dL_law_719 : decode cL_law 719 = .ok (.iload_n 3, 1) := by decide +kernel
theorem dL_law_720 : decode cL_law 720 = .ok (.iconst 2, 1) := by decide +kernel
theorem dL_law_721 : decode cL_law 721 = .ok (.iadd, 1) := by decide +kernel
theorem dL_law_722 : decode cL_law 722 = .ok (.iaload, 1) := by decide +kernel
theorem dL_law_723 : decode cL_law 723 = .ok (.invokevirtual 87, 3) := by decide +kernel
theorem dL_law_726 : decode cL_law 726 = .ok (.lcmp, 1) := by decide +kernel
theorem dL_law_727 : decode cL_law 727 = .ok (.ifCond .eq 349, 3) := by decide +kernel
theorem dL_law_730 : decode cL_law 730 = .ok (.iconst 0, 1) := by decide +kernel
theorem dL_law_731 : decode cL_law 731 = .ok (.ireturn, 1) := by decide +kernel
theorem dL_law_732 : decode cL_law 732 = .ok (.aload_n 1, 1) := by decide +kernel
theorem dL_law_733 : decode cL_law 733 = .ok (.aload_n 0, 1) := by decide +kernel
theorem dL_law_734 : decode cL_law 734 = .ok (.iload_n 3, 1) := by decide +kernel
theorem dL_law_735 : decode cL_law 735 = .ok (.iconst 1, 1) := by decide +kernel
theorem dL_law_736 : decode cL_law 736 = .ok (.iadd, 1) := by decide +kernel
theorem dL_law_737 : decode cL_law 737 = .ok (.iaload, 1) := by decide +kernel
theorem dL_law_738 : decode cL_law 738 = .ok (.aload_n 0, 1) := by decide +kernel
theorem dL_law_739 : decode cL_law 739 = .ok (.iload_n 3, 1) := by decide +kernel
theorem dL_law_740 : decode cL_law 740 = .ok (.iconst 2, 1) := by decide +kernel
theorem dL_law_741 : decode cL_law 741 = .ok (.iadd, 1) := by decide +kernel
theorem dL_law_742 : decode cL_law 742 = .ok (.iaload, 1) := by decide +kernel
theorem dL_law_743 : decode cL_law 743 = .ok (.aload_n 0, 1) := by decide +kernel
theorem dL_law_744 : decode cL_law 744 = .ok (.iload_n 3, 1) := by decide +kernel
theorem dL_law_745 : decode cL_law 745 = .ok (.iconst 3, 1) := by decide +kernel
theorem dL_law_746 : decode cL_law 746 = .ok (.iadd, 1) := by decide +kernel
theorem dL_law_747 : decode cL_law 747 = .ok (.iaload, 1) := by decide +kernel
theorem dL_law_748 : decode cL_law 748 = .ok (.invokevirtual 88, 3) := by decide +kernel
theorem dL_law_751 : decode cL_law 751 = .ok (.aload_n 2, 1) := by decide +kernel
theorem dL_law_752 : decode cL_law 752 = .ok (.aload_n 0, 1) := by decide +kernel
theorem dL_law_753 : decode cL_law 753 = .ok (.iload_n 3, 1) := by decide +kernel
theorem dL_law_754 : decode cL_law 754 = .ok (.iconst 1, 1) := by decide +kernel
theorem dL_law_755 : decode cL_law 755 = .ok (.iadd, 1) := by decide +kernel
theorem dL_law_756 : decode cL_law 756 = .ok (.iaload, 1) := by decide +kernel
theorem dL_law_757 : decode cL_law 757 = .ok (.aload_n 0, 1) := by decide +kernel
theorem dL_law_758 : decode cL_law 758 = .ok (.iload_n 3, 1) := by decide +kernel
theorem dL_law_759 : decode cL_law 759 = .ok (.iconst 2, 1) := by decide +kernel
theorem dL_law_760 : decode cL_law 760 = .ok (.iadd, 1) := by decide +kernel
theorem dL_law_761 : decode cL_law 761 = .ok (.iaload, 1) := by decide +kernel
theorem dL_law_762 : decode cL_law 762 = .ok (.aload_n 0, 1) := by decide +kernel
theorem dL_law_763 : decode cL_law 763 = .ok (.iload_n 3, 1) := by decide +kernel
theorem dL_law_764 : decode cL_law 764 = .ok (.iconst 3, 1) := by decide +kernel
theorem dL_law_765 : decode cL_law 765 = .ok (.iadd, 1) := by decide +kernel
theorem dL_law_766 : decode cL_law 766 = .ok (.iaload, 1) := by decide +kernel
theorem dL_law_767 : decode cL_law 767 = .ok (.invokevirtual 91, 3) := by decide +kernel
theorem dL_law_770 : decode cL_law 770 = .ok (.if_icmp .eq 306, 3) := by decide +kernel
theorem dL_law_773 : decode cL_law 773 = .ok (.iconst 0, 1) := by decide +kernel
theorem dL_law_774 : decode cL_law 774 = .ok (.ireturn, 1) := by decide +kernel
theorem dL_law_775 : decode cL_law 775 = .ok (.aload_n 1, 1) := by decide +kernel
theorem dL_law_776 : decode cL_law 776 = .ok (.aload_n 0, 1) := by decide +kernel
theorem dL_law_777 : decode cL_law 777 = .ok (.iload_n 3, 1) := by decide +kernel
theorem dL_law_778 : decode cL_law 778 = .ok (.iconst 1, 1) := by decide +kernel
theorem dL_law_779 : decode cL_law 779 = .ok (.iadd, 1) := by decide +kernel
theorem dL_law_780 : decode cL_law 780 = .ok (.iaload, 1) := by decide +kernel
theorem dL_law_781 : decode cL_law 781 = .ok (.invokevirtual 92, 3) := by decide +kernel
theorem dL_law_784 : decode cL_law 784 = .ok (.aload_n 2, 1) := by decide +kernel
theorem dL_law_785 : decode cL_law 785 = .ok (.aload_n 0, 1) := by decide +kernel
theorem dL_law_786 : decode cL_law 786 = .ok (.iload_n 3, 1) := by decide +kernel
theorem dL_law_787 : decode cL_law 787 = .ok (.iconst 1, 1) := by decide +kernel
theorem dL_law_788 : decode cL_law 788 = .ok (.iadd, 1) := by decide +kernel
theorem dL_law_789 : decode cL_law 789 = .ok (.iaload, 1) := by decide +kernel
theorem dL_law_790 : decode cL_law 790 = .ok (.invokevirtual 95, 3) := by decide +kernel
theorem dL_law_793 : decode cL_law 793 = .ok (.if_icmp .eq 283, 3) := by decide +kernel
theorem dL_law_796 : decode cL_law 796 = .ok (.iconst 0, 1) := by decide +kernel
theorem dL_law_797 : decode cL_law 797 = .ok (.ireturn, 1) := by decide +kernel
theorem dL_law_798 : decode cL_law 798 = .ok (.aload_n 1, 1) := by decide +kernel
theorem dL_law_799 : decode cL_law 799 = .ok (.aload_n 0, 1) := by decide +kernel
theorem dL_law_800 : decode cL_law 800 = .ok (.iload_n 3, 1) := by decide +kernel
theorem dL_law_801 : decode cL_law 801 = .ok (.iconst 1, 1) := by decide +kernel
theorem dL_law_802 : decode cL_law 802 = .ok (.iadd, 1) := by decide +kernel
theorem dL_law_803 : decode cL_law 803 = .ok (.iaload, 1) := by decide +kernel
theorem dL_law_804 : decode cL_law 804 = .ok (.aload_n 0, 1) := by decide +kernel
theorem dL_law_805 : decode cL_law 805 = .ok (.iload_n 3, 1) := by decide +kernel
theorem dL_law_806 : decode cL_law 806 = .ok (.iconst 2, 1) := by decide +kernel
theorem dL_law_807 : decode cL_law 807 = .ok (.iadd, 1) := by decide +kernel
theorem dL_law_808 : decode cL_law 808 = .ok (.iaload, 1) := by decide +kernel
theorem dL_law_809 : decode cL_law 809 = .ok (.aload_n 0, 1) := by decide +kernel
theorem dL_law_810 : decode cL_law 810 = .ok (.iload_n 3, 1) := by decide +kernel
theorem dL_law_811 : decode cL_law 811 = .ok (.iconst 3, 1) := by decide +kernel
theorem dL_law_812 : decode cL_law 812 = .ok (.iadd, 1) := by decide +kernel
theorem dL_law_813 : decode cL_law 813 = .ok (.iaload, 1) := by decide +kernel
theorem dL_law_814 : decode cL_law 814 = .ok (.invokevirtual 96, 3) := by decide +kernel
theorem dL_law_817 : decode cL_law 817 = .ok (.aload_n 2, 1) := by decide +kernel
theorem dL_law_818 : decode cL_law 818 = .ok (.aload_n 0, 1) := by decide +kernel
theorem dL_law_819 : decode cL_law 819 = .ok (.iload_n 3, 1) := by decide +kernel
theorem dL_law_820 : decode cL_law 820 = .ok (.iconst 1, 1) := by decide +kernel
theorem dL_law_821 : decode cL_law 821 = .ok (.iadd, 1) := by decide +kernel
theorem dL_law_822 : decode cL_law 822 = .ok (.iaload, 1) := by decide +kernel
theorem dL_law_823 : decode cL_law 823 = .ok (.aload_n 0, 1) := by decide +kernel
theorem dL_law_824 : decode cL_law 824 = .ok (.iload_n 3, 1) := by decide +kernel
theorem dL_law_825 : decode cL_law 825 = .ok (.iconst 2, 1) := by decide +kernel
theorem dL_law_826 : decode cL_law 826 = .ok (.iadd, 1) := by decide +kernel
theorem dL_law_827 : decode cL_law 827 = .ok (.iaload, 1) := by decide +kernel
theorem dL_law_828 : decode cL_law 828 = .ok (.aload_n 0, 1) := by decide +kernel
theorem dL_law_829 : decode cL_law 829 = .ok (.iload_n 3, 1) := by decide +kernel
theorem dL_law_830 : decode cL_law 830 = .ok (.iconst 3, 1) := by decide +kernel
theorem dL_law_831 : decode cL_law 831 = .ok (.iadd, 1) := by decide +kernel
theorem dL_law_832 : decode cL_law 832 = .ok (.iaload, 1) := by decide +kernel
theorem dL_law_833 : decode cL_law 833 = .ok (.invokevirtual 99, 3) := by decide +kernel
theorem dL_law_836 : decode cL_law 836 = .ok (.if_icmp .eq 240, 3) := by decide +kernel
theorem dL_law_839 : decode cL_law 839 = .ok (.iconst 0, 1) := by decide +kernel
theorem dL_law_840 : decode cL_law 840 = .ok (.ireturn, 1) := by decide +kernel
theorem dL_law_841 : decode cL_law 841 = .ok (.aload_n 1, 1) := by decide +kernel
theorem dL_law_842 : decode cL_law 842 = .ok (.aload_n 0, 1) := by decide +kernel
theorem dL_law_843 : decode cL_law 843 = .ok (.iload_n 3, 1) := by decide +kernel
theorem dL_law_844 : decode cL_law 844 = .ok (.iconst 1, 1) := by decide +kernel
theorem dL_law_845 : decode cL_law 845 = .ok (.iadd, 1) := by decide +kernel
theorem dL_law_846 : decode cL_law 846 = .ok (.iaload, 1) := by decide +kernel
theorem dL_law_847 : decode cL_law 847 = .ok (.aload_n 0, 1) := by decide +kernel
theorem dL_law_848 : decode cL_law 848 = .ok (.iload_n 3, 1) := by decide +kernel
theorem dL_law_849 : decode cL_law 849 = .ok (.iconst 2, 1) := by decide +kernel
theorem dL_law_850 : decode cL_law 850 = .ok (.iadd, 1) := by decide +kernel
theorem dL_law_851 : decode cL_law 851 = .ok (.iaload, 1) := by decide +kernel
theorem dL_law_852 : decode cL_law 852 = .ok (.aload_n 0, 1) := by decide +kernel
theorem dL_law_853 : decode cL_law 853 = .ok (.iload_n 3, 1) := by decide +kernel
theorem dL_law_854 : decode cL_law 854 = .ok (.iconst 3, 1) := by decide +kernel
theorem dL_law_855 : decode cL_law 855 = .ok (.iadd, 1) := by decide +kernel
theorem dL_law_856 : decode cL_law 856 = .ok (.iaload, 1) := by decide +kernel
theorem dL_law_857 : decode cL_law 857 = .ok (.invokevirtual 100, 3) := by decide +kernel
theorem dL_law_860 : decode cL_law 860 = .ok (.aload_n 2, 1) := by decide +kernel
theorem dL_law_861 : decode cL_law 861 = .ok (.aload_n 0, 1) := by decide +kernel
theorem dL_law_862 : decode cL_law 862 = .ok (.iload_n 3, 1) := by decide +kernel
theorem dL_law_863 : decode cL_law 863 = .ok (.iconst 1, 1) := by decide +kernel
theorem dL_law_864 : decode cL_law 864 = .ok (.iadd, 1) := by decide +kernel
theorem dL_law_865 : decode cL_law 865 = .ok (.iaload, 1) := by decide +kernel
theorem dL_law_866 : decode cL_law 866 = .ok (.aload_n 0, 1) := by decide +kernel
theorem dL_law_867 : decode cL_law 867 = .ok (.iload_n 3, 1) := by decide +kernel
theorem dL_law_868 : decode cL_law 868 = .ok (.iconst 2, 1) := by decide +kernel
theorem dL_law_869 : decode cL_law 869 = .ok (.iadd, 1) := by decide +kernel
theorem dL_law_870 : decode cL_law 870 = .ok (.iaload, 1) := by decide +kernel
theorem dL_law_871 : decode cL_law 871 = .ok (.aload_n 0, 1) := by decide +kernel
theorem dL_law_872 : decode cL_law 872 = .ok (.iload_n 3, 1) := by decide +kernel
theorem dL_law_873 : decode cL_law 873 = .ok (.iconst 3, 1) := by decide +kernel
theorem dL_law_874 : decode cL_law 874 = .ok (.iadd, 1) := by decide +kernel
theorem dL_law_875 : decode cL_law 875 = .ok (.iaload, 1) := by decide +kernel
theorem dL_law_876 : decode cL_law 876 = .ok (.invokevirtual 104, 3) := by decide +kernel
theorem dL_law_879 : decode cL_law 879 = .ok (.lcmp, 1) := by decide +kernel
theorem dL_law_880 : decode cL_law 880 = .ok (.ifCond .eq 196, 3) := by decide +kernel
theorem dL_law_883 : decode cL_law 883 = .ok (.iconst 0, 1) := by decide +kernel
theorem dL_law_884 : decode cL_law 884 = .ok (.ireturn, 1) := by decide +kernel
theorem dL_law_885 : decode cL_law 885 = .ok (.aload_n 1, 1) := by decide +kernel
theorem dL_law_886 : decode cL_law 886 = .ok (.aload_n 0, 1) := by decide +kernel
theorem dL_law_887 : decode cL_law 887 = .ok (.iload_n 3, 1) := by decide +kernel
theorem dL_law_888 : decode cL_law 888 = .ok (.iconst 1, 1) := by decide +kernel
theorem dL_law_889 : decode cL_law 889 = .ok (.iadd, 1) := by decide +kernel
theorem dL_law_890 : decode cL_law 890 = .ok (.iaload, 1) := by decide +kernel
theorem dL_law_891 : decode cL_law 891 = .ok (.aload_n 0, 1) := by decide +kernel
theorem dL_law_892 : decode cL_law 892 = .ok (.iload_n 3, 1) := by decide +kernel
theorem dL_law_893 : decode cL_law 893 = .ok (.iconst 2, 1) := by decide +kernel
theorem dL_law_894 : decode cL_law 894 = .ok (.iadd, 1) := by decide +kernel
theorem dL_law_895 : decode cL_law 895 = .ok (.iaload, 1) := by decide +kernel
theorem dL_law_896 : decode cL_law 896 = .ok (.aload_n 0, 1) := by decide +kernel
theorem dL_law_897 : decode cL_law 897 = .ok (.iload_n 3, 1) := by decide +kernel
theorem dL_law_898 : decode cL_law 898 = .ok (.iconst 3, 1) := by decide +kernel
theorem dL_law_899 : decode cL_law 899 = .ok (.iadd, 1) := by decide +kernel
theorem dL_law_900 : decode cL_law 900 = .ok (.iaload, 1) := by decide +kernel
theorem dL_law_901 : decode cL_law 901 = .ok (.aload_n 0, 1) := by decide +kernel
theorem dL_law_902 : decode cL_law 902 = .ok (.iload_n 3, 1) := by decide +kernel
theorem dL_law_903 : decode cL_law 903 = .ok (.iconst 4, 1) := by decide +kernel
theorem dL_law_904 : decode cL_law 904 = .ok (.iadd, 1) := by decide +kernel
theorem dL_law_905 : decode cL_law 905 = .ok (.iaload, 1) := by decide +kernel
theorem dL_law_906 : decode cL_law 906 = .ok (.aload_n 0, 1) := by decide +kernel
theorem dL_law_907 : decode cL_law 907 = .ok (.iload_n 3, 1) := by decide +kernel
theorem dL_law_908 : decode cL_law 908 = .ok (.iconst 5, 1) := by decide +kernel
theorem dL_law_909 : decode cL_law 909 = .ok (.iadd, 1) := by decide +kernel
theorem dL_law_910 : decode cL_law 910 = .ok (.iaload, 1) := by decide +kernel
theorem dL_law_911 : decode cL_law 911 = .ok (.invokevirtual 105, 3) := by decide +kernel
theorem dL_law_914 : decode cL_law 914 = .ok (.aload_n 2, 1) := by decide +kernel
theorem dL_law_915 : decode cL_law 915 = .ok (.aload_n 0, 1) := by decide +kernel
theorem dL_law_916 : decode cL_law 916 = .ok (.iload_n 3, 1) := by decide +kernel
theorem dL_law_917 : decode cL_law 917 = .ok (.iconst 1, 1) := by decide +kernel
theorem dL_law_918 : decode cL_law 918 = .ok (.iadd, 1) := by decide +kernel
theorem dL_law_919 : decode cL_law 919 = .ok (.iaload, 1) := by decide +kernel
theorem dL_law_920 : decode cL_law 920 = .ok (.aload_n 0, 1) := by decide +kernel
theorem dL_law_921 : decode cL_law 921 = .ok (.iload_n 3, 1) := by decide +kernel
theorem dL_law_922 : decode cL_law 922 = .ok (.iconst 2, 1) := by decide +kernel
theorem dL_law_923 : decode cL_law 923 = .ok (.iadd, 1) := by decide +kernel
theorem dL_law_924 : decode cL_law 924 = .ok (.iaload, 1) := by decide +kernel
theorem dL_law_925 : decode cL_law 925 = .ok (.aload_n 0, 1) := by decide +kernel
theorem dL_law_926 : decode cL_law 926 = .ok (.iload_n 3, 1) := by decide +kernel
theorem dL_law_927 : decode cL_law 927 = .ok (.iconst 3, 1) := by decide +kernel
theorem dL_law_928 : decode cL_law 928 = .ok (.iadd, 1) := by decide +kernel
theorem dL_law_929 : decode cL_law 929 = .ok (.iaload, 1) := by decide +kernel
theorem dL_law_930 : decode cL_law 930 = .ok (.aload_n 0, 1) := by decide +kernel
theorem dL_law_931 : decode cL_law 931 = .ok (.iload_n 3, 1) := by decide +kernel
theorem dL_law_932 : decode cL_law 932 = .ok (.iconst 4, 1) := by decide +kernel
theorem dL_law_933 : decode cL_law 933 = .ok (.iadd, 1) := by decide +kernel
theorem dL_law_934 : decode cL_law 934 = .ok (.iaload, 1) := by decide +kernel
theorem dL_law_935 : decode cL_law 935 = .ok (.aload_n 0, 1) := by decide +kernel
theorem dL_law_936 : decode cL_law 936 = .ok (.iload_n 3, 1) := by decide +kernel
theorem dL_law_937 : decode cL_law 937 = .ok (.iconst 5, 1) := by decide +kernel
theorem dL_law_938 : decode cL_law 938 = .ok (.iadd, 1) := by decide +kernel
theorem dL_law_939 : decode cL_law 939 = .ok (.iaload, 1) := by decide +kernel
theorem dL_law_940 : decode cL_law 940 = .ok (.invokevirtual 108, 3) := by decide +kernel
theorem dL_law_943 : decode cL_law 943 = .ok (.if_icmp .eq 133, 3) := by decide +kernel
theorem dL_law_946 : decode cL_law 946 = .ok (.iconst 0, 1) := by decide +kernel
theorem dL_law_947 : decode cL_law 947 = .ok (.ireturn, 1) := by decide +kernel
theorem dL_law_948 : decode cL_law 948 = .ok (.aload_n 1, 1) := by decide +kernel
theorem dL_law_949 : decode cL_law 949 = .ok (.aload_n 0, 1) := by decide +kernel
theorem dL_law_950 : decode cL_law 950 = .ok (.iload_n 3, 1) := by decide +kernel
theorem dL_law_951 : decode cL_law 951 = .ok (.iconst 1, 1) := by decide +kernel
theorem dL_law_952 : decode cL_law 952 = .ok (.iadd, 1) := by decide +kernel
theorem dL_law_953 : decode cL_law 953 = .ok (.iaload, 1) := by decide +kernel
theorem dL_law_954 : decode cL_law 954 = .ok (.invokevirtual 109, 3) := by decide +kernel
theorem dL_law_957 : decode cL_law 957 = .ok (.aload_n 2, 1) := by decide +kernel
theorem dL_law_958 : decode cL_law 958 = .ok (.aload_n 0, 1) := by decide +kernel
theorem dL_law_959 : decode cL_law 959 = .ok (.iload_n 3, 1) := by decide +kernel
theorem dL_law_960 : decode cL_law 960 = .ok (.iconst 1, 1) := by decide +kernel
theorem dL_law_961 : decode cL_law 961 = .ok (.iadd, 1) := by decide +kernel
theorem dL_law_962 : decode cL_law 962 = .ok (.iaload, 1) := by decide +kernel
theorem dL_law_963 : decode cL_law 963 = .ok (.invokevirtual 112, 3) := by decide +kernel
theorem dL_law_966 : decode cL_law 966 = .ok (.if_icmp .eq 110, 3) := by decide +kernel
theorem dL_law_969 : decode cL_law 969 = .ok (.iconst 0, 1) := by decide +kernel
theorem dL_law_970 : decode cL_law 970 = .ok (.ireturn, 1) := by decide +kernel
theorem dL_law_971 : decode cL_law 971 = .ok (.aload_n 1, 1) := by decide +kernel
theorem dL_law_972 : decode cL_law 972 = .ok (.aload_n 0, 1) := by decide +kernel
theorem dL_law_973 : decode cL_law 973 = .ok (.iload_n 3, 1) := by decide +kernel
theorem dL_law_974 : decode cL_law 974 = .ok (.iconst 1, 1) := by decide +kernel
theorem dL_law_975 : decode cL_law 975 = .ok (.iadd, 1) := by decide +kernel
theorem dL_law_976 : decode cL_law 976 = .ok (.iaload, 1) := by decide +kernel
theorem dL_law_977 : decode cL_law 977 = .ok (.invokevirtual 113, 3) := by decide +kernel
theorem dL_law_980 : decode cL_law 980 = .ok (.aload_n 2, 1) := by decide +kernel
theorem dL_law_981 : decode cL_law 981 = .ok (.aload_n 0, 1) := by decide +kernel
theorem dL_law_982 : decode cL_law 982 = .ok (.iload_n 3, 1) := by decide +kernel
theorem dL_law_983 : decode cL_law 983 = .ok (.iconst 1, 1) := by decide +kernel
theorem dL_law_984 : decode cL_law 984 = .ok (.iadd, 1) := by decide +kernel
theorem dL_law_985 : decode cL_law 985 = .ok (.iaload, 1) := by decide +kernel
theorem dL_law_986 : decode cL_law 986 = .ok (.invokevirtual 116, 3) := by decide +kernel
theorem dL_law_989 : decode cL_law 989 = .ok (.if_icmp .eq 87, 3) := by decide +kernel
theorem dL_law_992 : decode cL_law 992 = .ok (.iconst 0, 1) := by decide +kernel
theorem dL_law_993 : decode cL_law 993 = .ok (.ireturn, 1) := by decide +kernel
theorem dL_law_994 : decode cL_law 994 = .ok (.aload_n 1, 1) := by decide +kernel
theorem dL_law_995 : decode cL_law 995 = .ok (.aload_n 0, 1) := by decide +kernel
theorem dL_law_996 : decode cL_law 996 = .ok (.iload_n 3, 1) := by decide +kernel
theorem dL_law_997 : decode cL_law 997 = .ok (.iconst 1, 1) := by decide +kernel
theorem dL_law_998 : decode cL_law 998 = .ok (.iadd, 1) := by decide +kernel
theorem dL_law_999 : decode cL_law 999 = .ok (.iaload, 1) := by decide +kernel
theorem dL_law_1000 : decode cL_law 1000 = .ok (.aload_n 0, 1) := by decide +kernel
theorem dL_law_1001 : decode cL_law 1001 = .ok (.iload_n 3, 1) := by decide +kernel
theorem dL_law_1002 : decode cL_law 1002 = .ok (.iconst 2, 1) := by decide +kernel
theorem dL_law_1003 : decode cL_law 1003 = .ok (.iadd, 1) := by decide +kernel
theorem dL_law_1004 : decode cL_law 1004 = .ok (.iaload, 1) := by decide +kernel
theorem dL_law_1005 : decode cL_law 1005 = .ok (.invokevirtual 117, 3) := by decide +kernel
theorem dL_law_1008 : decode cL_law 1008 = .ok (.aload_n 2, 1) := by decide +kernel
theorem dL_law_1009 : decode cL_law 1009 = .ok (.aload_n 0, 1) := by decide +kernel
theorem dL_law_1010 : decode cL_law 1010 = .ok (.iload_n 3, 1) := by decide +kernel
theorem dL_law_1011 : decode cL_law 1011 = .ok (.iconst 1, 1) := by decide +kernel
theorem dL_law_1012 : decode cL_law 1012 = .ok (.iadd, 1) := by decide +kernel
theorem dL_law_1013 : decode cL_law 1013 = .ok (.iaload, 1) := by decide +kernel
theorem dL_law_1014 : decode cL_law 1014 = .ok (.aload_n 0, 1) := by decide +kernel
theorem dL_law_1015 : decode cL_law 1015 = .ok (.iload_n 3, 1) := by decide +kernel
theorem dL_law_1016 : decode cL_law 1016 = .ok (.iconst 2, 1) := by decide +kernel
theorem dL_law_1017 : decode cL_law 1017 = .ok (.iadd, 1) := by decide +kernel
theorem dL_law_1018 : decode cL_law 1018 = .ok (.iaload, 1) := by decide +kernel
theorem dL_law_1019 : decode cL_law 1019 = .ok (.invokevirtual 120, 3) := by decide +kernel
theorem dL_law_1022 : decode cL_law 1022 = .ok (.if_icmp .eq 54, 3) := by decide +kernel
theorem dL_law_1025 : decode cL_law 1025 = .ok (.iconst 0, 1) := by decide +kernel
theorem dL_law_1026 : decode cL_law 1026 = .ok (.ireturn, 1) := by decide +kernel
theorem dL_law_1027 : decode cL_law 1027 = .ok (.aload_n 1, 1) := by decide +kernel
theorem dL_law_1028 : decode cL_law 1028 = .ok (.invokevirtual 121, 3) := by decide +kernel
theorem dL_law_1031 : decode cL_law 1031 = .ok (.aload_n 2, 1) := by decide +kernel
theorem dL_law_1032 : decode cL_law 1032 = .ok (.invokevirtual 124, 3) := by decide +kernel
theorem dL_law_1035 : decode cL_law 1035 = .ok (.if_icmp .eq 41, 3) := by decide +kernel
theorem dL_law_1038 : decode cL_law 1038 = .ok (.iconst 0, 1) := by decide +kernel
theorem dL_law_1039 : decode cL_law 1039 = .ok (.ireturn, 1) := by decide +kernel
theorem dL_law_1040 : decode cL_law 1040 = .ok (.aload_n 1, 1) := by decide +kernel
theorem dL_law_1041 : decode cL_law 1041 = .ok (.invokevirtual 125, 3) := by decide +kernel
theorem dL_law_1044 : decode cL_law 1044 = .ok (.aload_n 2, 1) := by decide +kernel
theorem dL_law_1045 : decode cL_law 1045 = .ok (.invokevirtual 128, 3) := by decide +kernel
theorem dL_law_1048 : decode cL_law 1048 = .ok (.if_icmp .eq 28, 3) := by decide +kernel
theorem dL_law_1051 : decode cL_law 1051 = .ok (.iconst 0, 1) := by decide +kernel
theorem dL_law_1052 : decode cL_law 1052 = .ok (.ireturn, 1) := by decide +kernel
theorem dL_law_1053 : decode cL_law 1053 = .ok (.aload_n 1, 1) := by decide +kernel
theorem dL_law_1054 : decode cL_law 1054 = .ok (.aload_n 0, 1) := by decide +kernel
theorem dL_law_1055 : decode cL_law 1055 = .ok (.iload_n 3, 1) := by decide +kernel
theorem dL_law_1056 : decode cL_law 1056 = .ok (.iconst 1, 1) := by decide +kernel
theorem dL_law_1057 : decode cL_law 1057 = .ok (.iadd, 1) := by decide +kernel
theorem dL_law_1058 : decode cL_law 1058 = .ok (.iaload, 1) := by decide +kernel
theorem dL_law_1059 : decode cL_law 1059 = .ok (.invokevirtual 129, 3) := by decide +kernel
theorem dL_law_1062 : decode cL_law 1062 = .ok (.aload_n 2, 1) := by decide +kernel
theorem dL_law_1063 : decode cL_law 1063 = .ok (.aload_n 0, 1) := by decide +kernel
theorem dL_law_1064 : decode cL_law 1064 = .ok (.iload_n 3, 1) := by decide +kernel
theorem dL_law_1065 : decode cL_law 1065 = .ok (.iconst 1, 1) := by decide +kernel
theorem dL_law_1066 : decode cL_law 1066 = .ok (.iadd, 1) := by decide +kernel
theorem dL_law_1067 : decode cL_law 1067 = .ok (.iaload, 1) := by decide +kernel
theorem dL_law_1068 : decode cL_law 1068 = .ok (.invokevirtual 132, 3) := by decide +kernel
theorem dL_law_1071 : decode cL_law 1071 = .ok (.if_icmp .eq 5, 3) := by decide +kernel
theorem dL_law_1074 : decode cL_law 1074 = .ok (.iconst 0, 1) := by decide +kernel
theorem dL_law_1075 : decode cL_law 1075 = .ok (.ireturn, 1) := by decide +kernel
theorem dL_law_1076 : decode cL_law 1076 = .ok (.iinc 3 6, 3) := by decide +kernel
theorem dL_law_1079 : decode cL_law 1079 = .ok (.goto (-1061), 3) := by decide +kernel
theorem dL_law_1082 : decode cL_law 1082 = .ok (.iconst 1, 1) := by decide +kernel
theorem dL_law_1083 : decode cL_law 1083 = .ok (.ireturn, 1) := by decide +kernel
