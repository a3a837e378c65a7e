theorem dX0_init_0 : decode cX0_init 0 = .ok (.aload_n 0, 1) := by decide +kernel
theorem dX0_init_1 : decode cX0_init 1 = .ok (.invokespecial 3, 3) := by decide +kernel
theorem dX0_init_4 : decode cX0_init 4 = .ok (.aload_n 0, 1) := by decide +kernel
theorem dX0_init_5 : decode cX0_init 5 = .ok (.sipush 320, 3) := by decide +kernel
theorem dX0_init_8 : decode cX0_init 8 = .ok (.newarray .int, 2) := by decide +kernel
theorem dX0_init_10 : decode cX0_init 10 = .ok (.putfield 9, 3) := by decide +kernel
theorem dX0_init_13 : decode cX0_init 13 = .ok (.aload_n 0, 1) := by decide +kernel
theorem dX0_init_14 : decode cX0_init 14 = .ok (.bipush 64, 2) := by decide +kernel
theorem dX0_init_16 : decode cX0_init 16 = .ok (.newarray .int, 2) := by decide +kernel
theorem dX0_init_18 : decode cX0_init 18 = .ok (.putfield 15, 3) := by decide +kernel
theorem dX0_init_21 : decode cX0_init 21 = .ok (.aload_n 0, 1) := by decide +kernel
theorem dX0_init_22 : decode cX0_init 22 = .ok (.bipush 64, 2) := by decide +kernel
theorem dX0_init_24 : decode cX0_init 24 = .ok (.newarray .int, 2) := by decide +kernel
theorem dX0_init_26 : decode cX0_init 26 = .ok (.putfield 18, 3) := by decide +kernel
theorem dX0_init_29 : decode cX0_init 29 = .ok (.aload_n 0, 1) := by decide +kernel
theorem dX0_init_30 : decode cX0_init 30 = .ok (.bipush 64, 2) := by decide +kernel
theorem dX0_init_32 : decode cX0_init 32 = .ok (.newarray .int, 2) := by decide +kernel
theorem dX0_init_34 : decode cX0_init 34 = .ok (.putfield 21, 3) := by decide +kernel
theorem dX0_init_37 : decode cX0_init 37 = .ok (.aload_n 0, 1) := by decide +kernel
theorem dX0_init_38 : decode cX0_init 38 = .ok (.bipush 64, 2) := by decide +kernel
theorem dX0_init_40 : decode cX0_init 40 = .ok (.newarray .int, 2) := by decide +kernel
theorem dX0_init_42 : decode cX0_init 42 = .ok (.putfield 24, 3) := by decide +kernel
theorem dX0_init_45 : decode cX0_init 45 = .ok (.aload_n 0, 1) := by decide +kernel
theorem dX0_init_46 : decode cX0_init 46 = .ok (.bipush 14, 2) := by decide +kernel
theorem dX0_init_48 : decode cX0_init 48 = .ok (.newarray .int, 2) := by decide +kernel
theorem dX0_init_50 : decode cX0_init 50 = .ok (.putfield 27, 3) := by decide +kernel
theorem dX0_init_53 : decode cX0_init 53 = .ok (.aload_n 0, 1) := by decide +kernel
theorem dX0_init_54 : decode cX0_init 54 = .ok (.bipush 14, 2) := by decide +kernel
theorem dX0_init_56 : decode cX0_init 56 = .ok (.newarray .int, 2) := by decide +kernel
theorem dX0_init_58 : decode cX0_init 58 = .ok (.putfield 30, 3) := by decide +kernel
theorem dX0_init_61 : decode cX0_init 61 = .ok (.aload_n 0, 1) := by decide +kernel
theorem dX0_init_62 : decode cX0_init 62 = .ok (.bipush 14, 2) := by decide +kernel
theorem dX0_init_64 : decode cX0_init 64 = .ok (.newarray .int, 2) := by decide +kernel
theorem dX0_init_66 : decode cX0_init 66 = .ok (.putfield 33, 3) := by decide +kernel
theorem dX0_init_69 : decode cX0_init 69 = .ok (.return_, 1) := by decide +kernel
theorem dX0_align_0 : decode cX0_align 0 = .ok (.aload_n 0, 1) := by decide +kernel
theorem dX0_align_1 : decode cX0_align 1 = .ok (.aload_n 1, 1) := by decide +kernel
theorem dX0_align_2 : decode cX0_align 2 = .ok (.invokevirtual 36, 3) := by decide +kernel
theorem dX0_align_5 : decode cX0_align 5 = .ok (.aload_n 0, 1) := by decide +kernel
theorem dX0_align_6 : decode cX0_align 6 = .ok (.aload_n 1, 1) := by decide +kernel
theorem dX0_align_7 : decode cX0_align 7 = .ok (.getfield 40, 3) := by decide +kernel
theorem dX0_align_10 : decode cX0_align 10 = .ok (.invokevirtual 46, 3) := by decide +kernel
theorem dX0_align_13 : decode cX0_align 13 = .ok (.pop, 1) := by decide +kernel
theorem dX0_align_14 : decode cX0_align 14 = .ok (.aload_n 0, 1) := by decide +kernel
theorem dX0_align_15 : decode cX0_align 15 = .ok (.invokevirtual 50, 3) := by decide +kernel
theorem dX0_align_18 : decode cX0_align 18 = .ok (.aload_n 0, 1) := by decide +kernel
theorem dX0_align_19 : decode cX0_align 19 = .ok (.invokevirtual 53, 3) := by decide +kernel
theorem dX0_align_22 : decode cX0_align 22 = .ok (.return_, 1) := by decide +kernel
theorem dX0_take_0 : decode cX0_take 0 = .ok (.aload_n 0, 1) := by decide +kernel
theorem dX0_take_1 : decode cX0_take 1 = .ok (.aload_n 1, 1) := by decide +kernel
theorem dX0_take_2 : decode cX0_take 2 = .ok (.getfield 56, 3) := by decide +kernel
theorem dX0_take_5 : decode cX0_take 5 = .ok (.putfield 59, 3) := by decide +kernel
theorem dX0_take_8 : decode cX0_take 8 = .ok (.aload_n 0, 1) := by decide +kernel
theorem dX0_take_9 : decode cX0_take 9 = .ok (.aload_n 1, 1) := by decide +kernel
theorem dX0_take_10 : decode cX0_take 10 = .ok (.getfield 60, 3) := by decide +kernel
theorem dX0_take_13 : decode cX0_take 13 = .ok (.putfield 63, 3) := by decide +kernel
theorem dX0_take_16 : decode cX0_take 16 = .ok (.iconst 0, 1) := by decide +kernel
theorem dX0_take_17 : decode cX0_take 17 = .ok (.istore_n 2, 1) := by decide +kernel
theorem dX0_take_18 : decode cX0_take 18 = .ok (.iload_n 2, 1) := by decide +kernel
theorem dX0_take_19 : decode cX0_take 19 = .ok (.aload_n 0, 1) := by decide +kernel
theorem dX0_take_20 : decode cX0_take 20 = .ok (.getfield 59, 3) := by decide +kernel
theorem dX0_take_23 : decode cX0_take 23 = .ok (.if_icmp .gt 85, 3) := by decide +kernel
theorem dX0_take_26 : decode cX0_take 26 = .ok (.iconst 0, 1) := by decide +kernel
theorem dX0_take_27 : decode cX0_take 27 = .ok (.istore_n 3, 1) := by decide +kernel
theorem dX0_take_28 : decode cX0_take 28 = .ok (.iload_n 3, 1) := by decide +kernel
theorem dX0_take_29 : decode cX0_take 29 = .ok (.aload_n 0, 1) := by decide +kernel
theorem dX0_take_30 : decode cX0_take 30 = .ok (.getfield 63, 3) := by decide +kernel
theorem dX0_take_33 : decode cX0_take 33 = .ok (.if_icmp .gt 69, 3) := by decide +kernel
theorem dX0_take_36 : decode cX0_take 36 = .ok (.iconst 0, 1) := by decide +kernel
theorem dX0_take_37 : decode cX0_take 37 = .ok (.istore 4, 2) := by decide +kernel
theorem dX0_take_39 : decode cX0_take 39 = .ok (.iload 4, 2) := by decide +kernel
theorem dX0_take_41 : decode cX0_take 41 = .ok (.iconst 5, 1) := by decide +kernel
theorem dX0_take_42 : decode cX0_take 42 = .ok (.if_icmp .ge 54, 3) := by decide +kernel
theorem dX0_take_45 : decode cX0_take 45 = .ok (.aload_n 1, 1) := by decide +kernel
theorem dX0_take_46 : decode cX0_take 46 = .ok (.iload 4, 2) := by decide +kernel
theorem dX0_take_48 : decode cX0_take 48 = .ok (.iload_n 2, 1) := by decide +kernel
theorem dX0_take_49 : decode cX0_take 49 = .ok (.iload_n 3, 1) := by decide +kernel
theorem dX0_take_50 : decode cX0_take 50 = .ok (.invokevirtual 64, 3) := by decide +kernel
theorem dX0_take_53 : decode cX0_take 53 = .ok (.ifCond .eq 14, 3) := by decide +kernel
theorem dX0_take_56 : decode cX0_take 56 = .ok (.aload_n 1, 1) := by decide +kernel
theorem dX0_take_57 : decode cX0_take 57 = .ok (.iload 4, 2) := by decide +kernel
theorem dX0_take_59 : decode cX0_take 59 = .ok (.iload_n 2, 1) := by decide +kernel
theorem dX0_take_60 : decode cX0_take 60 = .ok (.iload_n 3, 1) := by decide +kernel
theorem dX0_take_61 : decode cX0_take 61 = .ok (.invokevirtual 68, 3) := by decide +kernel
theorem dX0_take_64 : decode cX0_take 64 = .ok (.goto 5, 3) := by decide +kernel
theorem dX0_take_67 : decode cX0_take 67 = .ok (.ldc 72, 2) := by decide +kernel
theorem dX0_take_69 : decode cX0_take 69 = .ok (.istore 5, 2) := by decide +kernel
theorem dX0_take_71 : decode cX0_take 71 = .ok (.aload_n 0, 1) := by decide +kernel
theorem dX0_take_72 : decode cX0_take 72 = .ok (.getfield 9, 3) := by decide +kernel
theorem dX0_take_75 : decode cX0_take 75 = .ok (.iload 4, 2) := by decide +kernel
theorem dX0_take_77 : decode cX0_take 77 = .ok (.bipush 64, 2) := by decide +kernel
theorem dX0_take_79 : decode cX0_take 79 = .ok (.imul, 1) := by decide +kernel
theorem dX0_take_80 : decode cX0_take 80 = .ok (.iload_n 2, 1) := by decide +kernel
theorem dX0_take_81 : decode cX0_take 81 = .ok (.bipush 8, 2) := by decide +kernel
theorem dX0_take_83 : decode cX0_take 83 = .ok (.imul, 1) := by decide +kernel
theorem dX0_take_84 : decode cX0_take 84 = .ok (.iadd, 1) := by decide +kernel
theorem dX0_take_85 : decode cX0_take 85 = .ok (.iload_n 3, 1) := by decide +kernel
theorem dX0_take_86 : decode cX0_take 86 = .ok (.iadd, 1) := by decide +kernel
theorem dX0_take_87 : decode cX0_take 87 = .ok (.iload 5, 2) := by decide +kernel
theorem dX0_take_89 : decode cX0_take 89 = .ok (.iastore, 1) := by decide +kernel
theorem dX0_take_90 : decode cX0_take 90 = .ok (.iinc 4 1, 3) := by decide +kernel
theorem dX0_take_93 : decode cX0_take 93 = .ok (.goto (-54), 3) := by decide +kernel
theorem dX0_take_96 : decode cX0_take 96 = .ok (.iinc 3 1, 3) := by decide +kernel
theorem dX0_take_99 : decode cX0_take 99 = .ok (.goto (-71), 3) := by decide +kernel
theorem dX0_take_102 : decode cX0_take 102 = .ok (.iinc 2 1, 3) := by decide +kernel
theorem dX0_take_105 : decode cX0_take 105 = .ok (.goto (-87), 3) := by decide +kernel
theorem dX0_take_108 : decode cX0_take 108 = .ok (.return_, 1) := by decide +kernel
theorem dX0_leastBy_0 : decode cX0_leastBy 0 = .ok (.aload_n 0, 1) := by decide +kernel
theorem dX0_leastBy_1 : decode cX0_leastBy 1 = .ok (.getfield 59, 3) := by decide +kernel
theorem dX0_leastBy_4 : decode cX0_leastBy 4 = .ok (.istore_n 2, 1) := by decide +kernel
theorem dX0_leastBy_5 : decode cX0_leastBy 5 = .ok (.iload_n 2, 1) := by decide +kernel
theorem dX0_leastBy_6 : decode cX0_leastBy 6 = .ok (.ifCond .lt 57, 3) := by decide +kernel
theorem dX0_leastBy_9 : decode cX0_leastBy 9 = .ok (.aload_n 0, 1) := by decide +kernel
theorem dX0_leastBy_10 : decode cX0_leastBy 10 = .ok (.getfield 63, 3) := by decide +kernel
theorem dX0_leastBy_13 : decode cX0_leastBy 13 = .ok (.istore_n 3, 1) := by decide +kernel
theorem dX0_leastBy_14 : decode cX0_leastBy 14 = .ok (.iload_n 3, 1) := by decide +kernel
theorem dX0_leastBy_15 : decode cX0_leastBy 15 = .ok (.ifCond .lt 42, 3) := by decide +kernel
theorem dX0_leastBy_18 : decode cX0_leastBy 18 = .ok (.iload_n 2, 1) := by decide +kernel
theorem dX0_leastBy_19 : decode cX0_leastBy 19 = .ok (.bipush 8, 2) := by decide +kernel
theorem dX0_leastBy_21 : decode cX0_leastBy 21 = .ok (.imul, 1) := by decide +kernel
theorem dX0_leastBy_22 : decode cX0_leastBy 22 = .ok (.iload_n 3, 1) := by decide +kernel
theorem dX0_leastBy_23 : decode cX0_leastBy 23 = .ok (.iadd, 1) := by decide +kernel
theorem dX0_leastBy_24 : decode cX0_leastBy 24 = .ok (.istore 4, 2) := by decide +kernel
theorem dX0_leastBy_26 : decode cX0_leastBy 26 = .ok (.aload_n 0, 1) := by decide +kernel
theorem dX0_leastBy_27 : decode cX0_leastBy 27 = .ok (.getfield 15, 3) := by decide +kernel
theorem dX0_leastBy_30 : decode cX0_leastBy 30 = .ok (.iload 4, 2) := by decide +kernel
theorem dX0_leastBy_32 : decode cX0_leastBy 32 = .ok (.ldc 72, 2) := by decide +kernel
theorem dX0_leastBy_34 : decode cX0_leastBy 34 = .ok (.iastore, 1) := by decide +kernel
theorem dX0_leastBy_35 : decode cX0_leastBy 35 = .ok (.iload_n 2, 1) := by decide +kernel
theorem dX0_leastBy_36 : decode cX0_leastBy 36 = .ok (.iload_n 3, 1) := by decide +kernel
theorem dX0_leastBy_37 : decode cX0_leastBy 37 = .ok (.isub, 1) := by decide +kernel
theorem dX0_leastBy_38 : decode cX0_leastBy 38 = .ok (.invokestatic 73, 3) := by decide +kernel
theorem dX0_leastBy_41 : decode cX0_leastBy 41 = .ok (.iload_n 1, 1) := by decide +kernel
theorem dX0_leastBy_42 : decode cX0_leastBy 42 = .ok (.if_icmp .gt 9, 3) := by decide +kernel
theorem dX0_leastBy_45 : decode cX0_leastBy 45 = .ok (.aload_n 0, 1) := by decide +kernel
theorem dX0_leastBy_46 : decode cX0_leastBy 46 = .ok (.iload 4, 2) := by decide +kernel
theorem dX0_leastBy_48 : decode cX0_leastBy 48 = .ok (.invokevirtual 78, 3) := by decide +kernel
theorem dX0_leastBy_51 : decode cX0_leastBy 51 = .ok (.iinc 3 (-1), 3) := by decide +kernel
theorem dX0_leastBy_54 : decode cX0_leastBy 54 = .ok (.goto (-40), 3) := by decide +kernel
theorem dX0_leastBy_57 : decode cX0_leastBy 57 = .ok (.iinc 2 (-1), 3) := by decide +kernel
theorem dX0_leastBy_60 : decode cX0_leastBy 60 = .ok (.goto (-55), 3) := by decide +kernel
theorem dX0_leastBy_63 : decode cX0_leastBy 63 = .ok (.aload_n 0, 1) := by decide +kernel
theorem dX0_leastBy_64 : decode cX0_leastBy 64 = .ok (.getfield 15, 3) := by decide +kernel
theorem dX0_leastBy_67 : decode cX0_leastBy 67 = .ok (.iconst 0, 1) := by decide +kernel
theorem dX0_leastBy_68 : decode cX0_leastBy 68 = .ok (.iaload, 1) := by decide +kernel
theorem dX0_leastBy_69 : decode cX0_leastBy 69 = .ok (.invokestatic 82, 3) := by decide +kernel
theorem dX0_leastBy_72 : decode cX0_leastBy 72 = .ok (.ireturn, 1) := by decide +kernel
theorem dX0_fillLeast_0 : decode cX0_fillLeast 0 = .ok (.iload_n 1, 1) := by decide +kernel
theorem dX0_fillLeast_1 : decode cX0_fillLeast 1 = .ok (.aload_n 0, 1) := by decide +kernel
theorem dX0_fillLeast_2 : decode cX0_fillLeast 2 = .ok (.invokevirtual 85, 3) := by decide +kernel
theorem dX0_fillLeast_5 : decode cX0_fillLeast 5 = .ok (.if_icmp .ne 7, 3) := by decide +kernel
theorem dX0_fillLeast_8 : decode cX0_fillLeast 8 = .ok (.iconst 0, 1) := by decide +kernel
theorem dX0_fillLeast_9 : decode cX0_fillLeast 9 = .ok (.goto 5, 3) := by decide +kernel
theorem dX0_fillLeast_12 : decode cX0_fillLeast 12 = .ok (.ldc 72, 2) := by decide +kernel
theorem dX0_fillLeast_14 : decode cX0_fillLeast 14 = .ok (.istore_n 2, 1) := by decide +kernel
theorem dX0_fillLeast_15 : decode cX0_fillLeast 15 = .ok (.iconst 0, 1) := by decide +kernel
theorem dX0_fillLeast_16 : decode cX0_fillLeast 16 = .ok (.istore_n 3, 1) := by decide +kernel
theorem dX0_fillLeast_17 : decode cX0_fillLeast 17 = .ok (.iload_n 3, 1) := by decide +kernel
theorem dX0_fillLeast_18 : decode cX0_fillLeast 18 = .ok (.iconst 5, 1) := by decide +kernel
theorem dX0_fillLeast_19 : decode cX0_fillLeast 19 = .ok (.if_icmp .ge 62, 3) := by decide +kernel
theorem dX0_fillLeast_22 : decode cX0_fillLeast 22 = .ok (.aload_n 0, 1) := by decide +kernel
theorem dX0_fillLeast_23 : decode cX0_fillLeast 23 = .ok (.getfield 9, 3) := by decide +kernel
theorem dX0_fillLeast_26 : decode cX0_fillLeast 26 = .ok (.iload_n 3, 1) := by decide +kernel
theorem dX0_fillLeast_27 : decode cX0_fillLeast 27 = .ok (.bipush 64, 2) := by decide +kernel
theorem dX0_fillLeast_29 : decode cX0_fillLeast 29 = .ok (.imul, 1) := by decide +kernel
theorem dX0_fillLeast_30 : decode cX0_fillLeast 30 = .ok (.iload_n 1, 1) := by decide +kernel
theorem dX0_fillLeast_31 : decode cX0_fillLeast 31 = .ok (.iadd, 1) := by decide +kernel
theorem dX0_fillLeast_32 : decode cX0_fillLeast 32 = .ok (.iaload, 1) := by decide +kernel
theorem dX0_fillLeast_33 : decode cX0_fillLeast 33 = .ok (.istore 4, 2) := by decide +kernel
theorem dX0_fillLeast_35 : decode cX0_fillLeast 35 = .ok (.iload 4, 2) := by decide +kernel
theorem dX0_fillLeast_37 : decode cX0_fillLeast 37 = .ok (.ldc 72, 2) := by decide +kernel
theorem dX0_fillLeast_39 : decode cX0_fillLeast 39 = .ok (.if_icmp .ge 20, 3) := by decide +kernel
theorem dX0_fillLeast_42 : decode cX0_fillLeast 42 = .ok (.iload 4, 2) := by decide +kernel
theorem dX0_fillLeast_44 : decode cX0_fillLeast 44 = .ok (.aload_n 0, 1) := by decide +kernel
theorem dX0_fillLeast_45 : decode cX0_fillLeast 45 = .ok (.getfield 15, 3) := by decide +kernel
theorem dX0_fillLeast_48 : decode cX0_fillLeast 48 = .ok (.iload_n 1, 1) := by decide +kernel
theorem dX0_fillLeast_49 : decode cX0_fillLeast 49 = .ok (.getstatic 89, 3) := by decide +kernel
theorem dX0_fillLeast_52 : decode cX0_fillLeast 52 = .ok (.iload_n 3, 1) := by decide +kernel
theorem dX0_fillLeast_53 : decode cX0_fillLeast 53 = .ok (.iaload, 1) := by decide +kernel
theorem dX0_fillLeast_54 : decode cX0_fillLeast 54 = .ok (.iadd, 1) := by decide +kernel
theorem dX0_fillLeast_55 : decode cX0_fillLeast 55 = .ok (.iaload, 1) := by decide +kernel
theorem dX0_fillLeast_56 : decode cX0_fillLeast 56 = .ok (.iadd, 1) := by decide +kernel
theorem dX0_fillLeast_57 : decode cX0_fillLeast 57 = .ok (.istore 4, 2) := by decide +kernel
theorem dX0_fillLeast_59 : decode cX0_fillLeast 59 = .ok (.iload 4, 2) := by decide +kernel
theorem dX0_fillLeast_61 : decode cX0_fillLeast 61 = .ok (.iload_n 2, 1) := by decide +kernel
theorem dX0_fillLeast_62 : decode cX0_fillLeast 62 = .ok (.if_icmp .ge 13, 3) := by decide +kernel
theorem dX0_fillLeast_65 : decode cX0_fillLeast 65 = .ok (.iload 4, 2) := by decide +kernel
theorem dX0_fillLeast_67 : decode cX0_fillLeast 67 = .ok (.istore_n 2, 1) := by decide +kernel
theorem dX0_fillLeast_68 : decode cX0_fillLeast 68 = .ok (.aload_n 0, 1) := by decide +kernel
theorem dX0_fillLeast_69 : decode cX0_fillLeast 69 = .ok (.getfield 24, 3) := by decide +kernel
theorem dX0_fillLeast_72 : decode cX0_fillLeast 72 = .ok (.iload_n 1, 1) := by decide +kernel
theorem dX0_fillLeast_73 : decode cX0_fillLeast 73 = .ok (.iload_n 3, 1) := by decide +kernel
theorem dX0_fillLeast_74 : decode cX0_fillLeast 74 = .ok (.iastore, 1) := by decide +kernel
theorem dX0_fillLeast_75 : decode cX0_fillLeast 75 = .ok (.iinc 3 1, 3) := by decide +kernel
theorem dX0_fillLeast_78 : decode cX0_fillLeast 78 = .ok (.goto (-61), 3) := by decide +kernel
theorem dX0_fillLeast_81 : decode cX0_fillLeast 81 = .ok (.aload_n 0, 1) := by decide +kernel
theorem dX0_fillLeast_82 : decode cX0_fillLeast 82 = .ok (.getfield 15, 3) := by decide +kernel
theorem dX0_fillLeast_85 : decode cX0_fillLeast 85 = .ok (.iload_n 1, 1) := by decide +kernel
theorem dX0_fillLeast_86 : decode cX0_fillLeast 86 = .ok (.iload_n 2, 1) := by decide +kernel
theorem dX0_fillLeast_87 : decode cX0_fillLeast 87 = .ok (.iastore, 1) := by decide +kernel
theorem dX0_fillLeast_88 : decode cX0_fillLeast 88 = .ok (.return_, 1) := by decide +kernel
theorem dX0_fillOthers_0 : decode cX0_fillOthers 0 = .ok (.aload_n 0, 1) := by decide +kernel
theorem dX0_fillOthers_1 : decode cX0_fillOthers 1 = .ok (.getfield 59, 3) := by decide +kernel
theorem dX0_fillOthers_4 : decode cX0_fillOthers 4 = .ok (.istore_n 1, 1) := by decide +kernel
theorem dX0_fillOthers_5 : decode cX0_fillOthers 5 = .ok (.iload_n 1, 1) := by decide +kernel
theorem dX0_fillOthers_6 : decode cX0_fillOthers 6 = .ok (.ifCond .lt 34, 3) := by decide +kernel
theorem dX0_fillOthers_9 : decode cX0_fillOthers 9 = .ok (.aload_n 0, 1) := by decide +kernel
theorem dX0_fillOthers_10 : decode cX0_fillOthers 10 = .ok (.getfield 63, 3) := by decide +kernel
theorem dX0_fillOthers_13 : decode cX0_fillOthers 13 = .ok (.istore_n 2, 1) := by decide +kernel
theorem dX0_fillOthers_14 : decode cX0_fillOthers 14 = .ok (.iload_n 2, 1) := by decide +kernel
theorem dX0_fillOthers_15 : decode cX0_fillOthers 15 = .ok (.ifCond .lt 19, 3) := by decide +kernel
theorem dX0_fillOthers_18 : decode cX0_fillOthers 18 = .ok (.aload_n 0, 1) := by decide +kernel
theorem dX0_fillOthers_19 : decode cX0_fillOthers 19 = .ok (.iload_n 1, 1) := by decide +kernel
theorem dX0_fillOthers_20 : decode cX0_fillOthers 20 = .ok (.bipush 8, 2) := by decide +kernel
theorem dX0_fillOthers_22 : decode cX0_fillOthers 22 = .ok (.imul, 1) := by decide +kernel
theorem dX0_fillOthers_23 : decode cX0_fillOthers 23 = .ok (.iload_n 2, 1) := by decide +kernel
theorem dX0_fillOthers_24 : decode cX0_fillOthers 24 = .ok (.iadd, 1) := by decide +kernel
theorem dX0_fillOthers_25 : decode cX0_fillOthers 25 = .ok (.invokevirtual 92, 3) := by decide +kernel
theorem dX0_fillOthers_28 : decode cX0_fillOthers 28 = .ok (.iinc 2 (-1), 3) := by decide +kernel
theorem dX0_fillOthers_31 : decode cX0_fillOthers 31 = .ok (.goto (-17), 3) := by decide +kernel
theorem dX0_fillOthers_34 : decode cX0_fillOthers 34 = .ok (.iinc 1 (-1), 3) := by decide +kernel
theorem dX0_fillOthers_37 : decode cX0_fillOthers 37 = .ok (.goto (-32), 3) := by decide +kernel
theorem dX0_fillOthers_40 : decode cX0_fillOthers 40 = .ok (.return_, 1) := by decide +kernel
theorem dX0_fillOthersAt_0 : decode cX0_fillOthersAt 0 = .ok (.aload_n 0, 1) := by decide +kernel
theorem dX0_fillOthersAt_1 : decode cX0_fillOthersAt 1 = .ok (.getfield 18, 3) := by decide +kernel
theorem dX0_fillOthersAt_4 : decode cX0_fillOthersAt 4 = .ok (.iload_n 1, 1) := by decide +kernel
theorem dX0_fillOthersAt_5 : decode cX0_fillOthersAt 5 = .ok (.ldc 72, 2) := by decide +kernel
theorem dX0_fillOthersAt_7 : decode cX0_fillOthersAt 7 = .ok (.iastore, 1) := by decide +kernel
theorem dX0_fillOthersAt_8 : decode cX0_fillOthersAt 8 = .ok (.aload_n 0, 1) := by decide +kernel
theorem dX0_fillOthersAt_9 : decode cX0_fillOthersAt 9 = .ok (.getfield 21, 3) := by decide +kernel
theorem dX0_fillOthersAt_12 : decode cX0_fillOthersAt 12 = .ok (.iload_n 1, 1) := by decide +kernel
theorem dX0_fillOthersAt_13 : decode cX0_fillOthersAt 13 = .ok (.iconst 0, 1) := by decide +kernel
theorem dX0_fillOthersAt_14 : decode cX0_fillOthersAt 14 = .ok (.iastore, 1) := by decide +kernel
theorem dX0_fillOthersAt_15 : decode cX0_fillOthersAt 15 = .ok (.aload_n 0, 1) := by decide +kernel
theorem dX0_fillOthersAt_16 : decode cX0_fillOthersAt 16 = .ok (.getfield 15, 3) := by decide +kernel
theorem dX0_fillOthersAt_19 : decode cX0_fillOthersAt 19 = .ok (.iload_n 1, 1) := by decide +kernel
theorem dX0_fillOthersAt_20 : decode cX0_fillOthersAt 20 = .ok (.iaload, 1) := by decide +kernel
theorem dX0_fillOthersAt_21 : decode cX0_fillOthersAt 21 = .ok (.ldc 72, 2) := by decide +kernel
theorem dX0_fillOthersAt_23 : decode cX0_fillOthersAt 23 = .ok (.if_icmp .lt 4, 3) := by decide +kernel
theorem dX0_fillOthersAt_26 : decode cX0_fillOthersAt 26 = .ok (.return_, 1) := by decide +kernel
theorem dX0_fillOthersAt_27 : decode cX0_fillOthersAt 27 = .ok (.iload_n 1, 1) := by decide +kernel
theorem dX0_fillOthersAt_28 : decode cX0_fillOthersAt 28 = .ok (.aload_n 0, 1) := by decide +kernel
theorem dX0_fillOthersAt_29 : decode cX0_fillOthersAt 29 = .ok (.invokevirtual 85, 3) := by decide +kernel
theorem dX0_fillOthersAt_32 : decode cX0_fillOthersAt 32 = .ok (.if_icmp .ne 10, 3) := by decide +kernel
theorem dX0_fillOthersAt_35 : decode cX0_fillOthersAt 35 = .ok (.aload_n 0, 1) := by decide +kernel
theorem dX0_fillOthersAt_36 : decode cX0_fillOthersAt 36 = .ok (.getfield 21, 3) := by decide +kernel
theorem dX0_fillOthersAt_39 : decode cX0_fillOthersAt 39 = .ok (.iload_n 1, 1) := by decide +kernel
theorem dX0_fillOthersAt_40 : decode cX0_fillOthersAt 40 = .ok (.iconst 1, 1) := by decide +kernel
theorem dX0_fillOthersAt_41 : decode cX0_fillOthersAt 41 = .ok (.iastore, 1) := by decide +kernel
theorem dX0_fillOthersAt_42 : decode cX0_fillOthersAt 42 = .ok (.iconst 0, 1) := by decide +kernel
theorem dX0_fillOthersAt_43 : decode cX0_fillOthersAt 43 = .ok (.istore_n 2, 1) := by decide +kernel
theorem dX0_fillOthersAt_44 : decode cX0_fillOthersAt 44 = .ok (.iload_n 2, 1) := by decide +kernel
theorem dX0_fillOthersAt_45 : decode cX0_fillOthersAt 45 = .ok (.iconst 5, 1) := by decide +kernel
theorem dX0_fillOthersAt_46 : decode cX0_fillOthersAt 46 = .ok (.if_icmp .ge 41, 3) := by decide +kernel
theorem dX0_fillOthersAt_49 : decode cX0_fillOthersAt 49 = .ok (.aload_n 0, 1) := by decide +kernel
theorem dX0_fillOthersAt_50 : decode cX0_fillOthersAt 50 = .ok (.getfield 9, 3) := by decide +kernel
theorem dX0_fillOthersAt_53 : decode cX0_fillOthersAt 53 = .ok (.iload_n 2, 1) := by decide +kernel
theorem dX0_fillOthersAt_54 : decode cX0_fillOthersAt 54 = .ok (.bipush 64, 2) := by decide +kernel
theorem dX0_fillOthersAt_56 : decode cX0_fillOthersAt 56 = .ok (.imul, 1) := by decide +kernel
theorem dX0_fillOthersAt_57 : decode cX0_fillOthersAt 57 = .ok (.iload_n 1, 1) := by decide +kernel
theorem dX0_fillOthersAt_58 : decode cX0_fillOthersAt 58 = .ok (.iadd, 1) := by decide +kernel
theorem dX0_fillOthersAt_59 : decode cX0_fillOthersAt 59 = .ok (.iaload, 1) := by decide +kernel
theorem dX0_fillOthersAt_60 : decode cX0_fillOthersAt 60 = .ok (.istore_n 3, 1) := by decide +kernel
theorem dX0_fillOthersAt_61 : decode cX0_fillOthersAt 61 = .ok (.iload_n 3, 1) := by decide +kernel
theorem dX0_fillOthersAt_62 : decode cX0_fillOthersAt 62 = .ok (.ldc 72, 2) := by decide +kernel
theorem dX0_fillOthersAt_64 : decode cX0_fillOthersAt 64 = .ok (.if_icmp .ge 17, 3) := by decide +kernel
theorem dX0_fillOthersAt_67 : decode cX0_fillOthersAt 67 = .ok (.aload_n 0, 1) := by decide +kernel
theorem dX0_fillOthersAt_68 : decode cX0_fillOthersAt 68 = .ok (.iload_n 1, 1) := by decide +kernel
theorem dX0_fillOthersAt_69 : decode cX0_fillOthersAt 69 = .ok (.iload_n 2, 1) := by decide +kernel
theorem dX0_fillOthersAt_70 : decode cX0_fillOthersAt 70 = .ok (.iload_n 3, 1) := by decide +kernel
theorem dX0_fillOthersAt_71 : decode cX0_fillOthersAt 71 = .ok (.iload_n 1, 1) := by decide +kernel
theorem dX0_fillOthersAt_72 : decode cX0_fillOthersAt 72 = .ok (.getstatic 89, 3) := by decide +kernel
theorem dX0_fillOthersAt_75 : decode cX0_fillOthersAt 75 = .ok (.iload_n 2, 1) := by decide +kernel
theorem dX0_fillOthersAt_76 : decode cX0_fillOthersAt 76 = .ok (.iaload, 1) := by decide +kernel
theorem dX0_fillOthersAt_77 : decode cX0_fillOthersAt 77 = .ok (.iadd, 1) := by decide +kernel
theorem dX0_fillOthersAt_78 : decode cX0_fillOthersAt 78 = .ok (.invokevirtual 95, 3) := by decide +kernel
theorem dX0_fillOthersAt_81 : decode cX0_fillOthersAt 81 = .ok (.iinc 2 1, 3) := by decide +kernel
theorem dX0_fillOthersAt_84 : decode cX0_fillOthersAt 84 = .ok (.goto (-40), 3) := by decide +kernel
theorem dX0_fillOthersAt_87 : decode cX0_fillOthersAt 87 = .ok (.return_, 1) := by decide +kernel
theorem dX0_addOthers_0 : decode cX0_addOthers 0 = .ok (.iload_n 3, 1) := by decide +kernel
theorem dX0_addOthers_1 : decode cX0_addOthers 1 = .ok (.aload_n 0, 1) := by decide +kernel
theorem dX0_addOthers_2 : decode cX0_addOthers 2 = .ok (.getfield 15, 3) := by decide +kernel
theorem dX0_addOthers_5 : decode cX0_addOthers 5 = .ok (.iload 4, 2) := by decide +kernel
theorem dX0_addOthers_7 : decode cX0_addOthers 7 = .ok (.iaload, 1) := by decide +kernel
theorem dX0_addOthers_8 : decode cX0_addOthers 8 = .ok (.iadd, 1) := by decide +kernel
theorem dX0_addOthers_9 : decode cX0_addOthers 9 = .ok (.istore 5, 2) := by decide +kernel
theorem dX0_addOthers_11 : decode cX0_addOthers 11 = .ok (.iload 5, 2) := by decide +kernel
theorem dX0_addOthers_13 : decode cX0_addOthers 13 = .ok (.aload_n 0, 1) := by decide +kernel
theorem dX0_addOthers_14 : decode cX0_addOthers 14 = .ok (.getfield 15, 3) := by decide +kernel
theorem dX0_addOthers_17 : decode cX0_addOthers 17 = .ok (.iload_n 1, 1) := by decide +kernel
theorem dX0_addOthers_18 : decode cX0_addOthers 18 = .ok (.iaload, 1) := by decide +kernel
theorem dX0_addOthers_19 : decode cX0_addOthers 19 = .ok (.if_icmp .ne 19, 3) := by decide +kernel
theorem dX0_addOthers_22 : decode cX0_addOthers 22 = .ok (.aload_n 0, 1) := by decide +kernel
theorem dX0_addOthers_23 : decode cX0_addOthers 23 = .ok (.getfield 21, 3) := by decide +kernel
theorem dX0_addOthers_26 : decode cX0_addOthers 26 = .ok (.iload_n 1, 1) := by decide +kernel
theorem dX0_addOthers_27 : decode cX0_addOthers 27 = .ok (.dup2, 1) := by decide +kernel
theorem dX0_addOthers_28 : decode cX0_addOthers 28 = .ok (.iaload, 1) := by decide +kernel
theorem dX0_addOthers_29 : decode cX0_addOthers 29 = .ok (.aload_n 0, 1) := by decide +kernel
theorem dX0_addOthers_30 : decode cX0_addOthers 30 = .ok (.getfield 21, 3) := by decide +kernel
theorem dX0_addOthers_33 : decode cX0_addOthers 33 = .ok (.iload 4, 2) := by decide +kernel
theorem dX0_addOthers_35 : decode cX0_addOthers 35 = .ok (.iaload, 1) := by decide +kernel
theorem dX0_addOthers_36 : decode cX0_addOthers 36 = .ok (.iadd, 1) := by decide +kernel
theorem dX0_addOthers_37 : decode cX0_addOthers 37 = .ok (.iastore, 1) := by decide +kernel
theorem dX0_addOthers_38 : decode cX0_addOthers 38 = .ok (.iload_n 2, 1) := by decide +kernel
theorem dX0_addOthers_39 : decode cX0_addOthers 39 = .ok (.aload_n 0, 1) := by decide +kernel
theorem dX0_addOthers_40 : decode cX0_addOthers 40 = .ok (.getfield 24, 3) := by decide +kernel
theorem dX0_addOthers_43 : decode cX0_addOthers 43 = .ok (.iload_n 1, 1) := by decide +kernel
theorem dX0_addOthers_44 : decode cX0_addOthers 44 = .ok (.iaload, 1) := by decide +kernel
theorem dX0_addOthers_45 : decode cX0_addOthers 45 = .ok (.if_icmp .ne 15, 3) := by decide +kernel
theorem dX0_addOthers_48 : decode cX0_addOthers 48 = .ok (.iload_n 3, 1) := by decide +kernel
theorem dX0_addOthers_49 : decode cX0_addOthers 49 = .ok (.aload_n 0, 1) := by decide +kernel
theorem dX0_addOthers_50 : decode cX0_addOthers 50 = .ok (.getfield 18, 3) := by decide +kernel
theorem dX0_addOthers_53 : decode cX0_addOthers 53 = .ok (.iload 4, 2) := by decide +kernel
theorem dX0_addOthers_55 : decode cX0_addOthers 55 = .ok (.iaload, 1) := by decide +kernel
theorem dX0_addOthers_56 : decode cX0_addOthers 56 = .ok (.iadd, 1) := by decide +kernel
theorem dX0_addOthers_57 : decode cX0_addOthers 57 = .ok (.goto 5, 3) := by decide +kernel
theorem dX0_addOthers_60 : decode cX0_addOthers 60 = .ok (.iload 5, 2) := by decide +kernel
theorem dX0_addOthers_62 : decode cX0_addOthers 62 = .ok (.istore 6, 2) := by decide +kernel
theorem dX0_addOthers_64 : decode cX0_addOthers 64 = .ok (.aload_n 0, 1) := by decide +kernel
theorem dX0_addOthers_65 : decode cX0_addOthers 65 = .ok (.getfield 18, 3) := by decide +kernel
theorem dX0_addOthers_68 : decode cX0_addOthers 68 = .ok (.iload_n 1, 1) := by decide +kernel
theorem dX0_addOthers_69 : decode cX0_addOthers 69 = .ok (.aload_n 0, 1) := by decide +kernel
theorem dX0_addOthers_70 : decode cX0_addOthers 70 = .ok (.getfield 18, 3) := by decide +kernel
theorem dX0_addOthers_73 : decode cX0_addOthers 73 = .ok (.iload_n 1, 1) := by decide +kernel
theorem dX0_addOthers_74 : decode cX0_addOthers 74 = .ok (.iaload, 1) := by decide +kernel
theorem dX0_addOthers_75 : decode cX0_addOthers 75 = .ok (.iload 6, 2) := by decide +kernel
theorem dX0_addOthers_77 : decode cX0_addOthers 77 = .ok (.invokestatic 99, 3) := by decide +kernel
theorem dX0_addOthers_80 : decode cX0_addOthers 80 = .ok (.iastore, 1) := by decide +kernel
theorem dX0_addOthers_81 : decode cX0_addOthers 81 = .ok (.return_, 1) := by decide +kernel
theorem dX0_walkBest_0 : decode cX0_walkBest 0 = .ok (.aload_n 0, 1) := by decide +kernel
theorem dX0_walkBest_1 : decode cX0_walkBest 1 = .ok (.iconst 0, 1) := by decide +kernel
theorem dX0_walkBest_2 : decode cX0_walkBest 2 = .ok (.putfield 103, 3) := by decide +kernel
theorem dX0_walkBest_5 : decode cX0_walkBest 5 = .ok (.aload_n 0, 1) := by decide +kernel
theorem dX0_walkBest_6 : decode cX0_walkBest 6 = .ok (.getfield 15, 3) := by decide +kernel
theorem dX0_walkBest_9 : decode cX0_walkBest 9 = .ok (.iconst 0, 1) := by decide +kernel
theorem dX0_walkBest_10 : decode cX0_walkBest 10 = .ok (.iaload, 1) := by decide +kernel
theorem dX0_walkBest_11 : decode cX0_walkBest 11 = .ok (.ldc 72, 2) := by decide +kernel
theorem dX0_walkBest_13 : decode cX0_walkBest 13 = .ok (.if_icmp .lt 4, 3) := by decide +kernel
theorem dX0_walkBest_16 : decode cX0_walkBest 16 = .ok (.return_, 1) := by decide +kernel
theorem dX0_walkBest_17 : decode cX0_walkBest 17 = .ok (.iconst 0, 1) := by decide +kernel
theorem dX0_walkBest_18 : decode cX0_walkBest 18 = .ok (.istore_n 1, 1) := by decide +kernel
theorem dX0_walkBest_19 : decode cX0_walkBest 19 = .ok (.iload_n 1, 1) := by decide +kernel
theorem dX0_walkBest_20 : decode cX0_walkBest 20 = .ok (.aload_n 0, 1) := by decide +kernel
theorem dX0_walkBest_21 : decode cX0_walkBest 21 = .ok (.invokevirtual 85, 3) := by decide +kernel
theorem dX0_walkBest_24 : decode cX0_walkBest 24 = .ok (.if_icmp .eq 76, 3) := by decide +kernel
theorem dX0_walkBest_27 : decode cX0_walkBest 27 = .ok (.aload_n 0, 1) := by decide +kernel
theorem dX0_walkBest_28 : decode cX0_walkBest 28 = .ok (.getfield 103, 3) := by decide +kernel
theorem dX0_walkBest_31 : decode cX0_walkBest 31 = .ok (.bipush 14, 2) := by decide +kernel
theorem dX0_walkBest_33 : decode cX0_walkBest 33 = .ok (.if_icmp .ge 67, 3) := by decide +kernel
theorem dX0_walkBest_36 : decode cX0_walkBest 36 = .ok (.aload_n 0, 1) := by decide +kernel
theorem dX0_walkBest_37 : decode cX0_walkBest 37 = .ok (.getfield 24, 3) := by decide +kernel
theorem dX0_walkBest_40 : decode cX0_walkBest 40 = .ok (.iload_n 1, 1) := by decide +kernel
theorem dX0_walkBest_41 : decode cX0_walkBest 41 = .ok (.iaload, 1) := by decide +kernel
theorem dX0_walkBest_42 : decode cX0_walkBest 42 = .ok (.istore_n 2, 1) := by decide +kernel
theorem dX0_walkBest_43 : decode cX0_walkBest 43 = .ok (.aload_n 0, 1) := by decide +kernel
theorem dX0_walkBest_44 : decode cX0_walkBest 44 = .ok (.getfield 27, 3) := by decide +kernel
theorem dX0_walkBest_47 : decode cX0_walkBest 47 = .ok (.aload_n 0, 1) := by decide +kernel
theorem dX0_walkBest_48 : decode cX0_walkBest 48 = .ok (.getfield 103, 3) := by decide +kernel
theorem dX0_walkBest_51 : decode cX0_walkBest 51 = .ok (.iload_n 2, 1) := by decide +kernel
theorem dX0_walkBest_52 : decode cX0_walkBest 52 = .ok (.iastore, 1) := by decide +kernel
theorem dX0_walkBest_53 : decode cX0_walkBest 53 = .ok (.aload_n 0, 1) := by decide +kernel
theorem dX0_walkBest_54 : decode cX0_walkBest 54 = .ok (.getfield 30, 3) := by decide +kernel
theorem dX0_walkBest_57 : decode cX0_walkBest 57 = .ok (.aload_n 0, 1) := by decide +kernel
theorem dX0_walkBest_58 : decode cX0_walkBest 58 = .ok (.getfield 103, 3) := by decide +kernel
theorem dX0_walkBest_61 : decode cX0_walkBest 61 = .ok (.iload_n 1, 1) := by decide +kernel
theorem dX0_walkBest_62 : decode cX0_walkBest 62 = .ok (.bipush 8, 2) := by decide +kernel
theorem dX0_walkBest_64 : decode cX0_walkBest 64 = .ok (.idiv, 1) := by decide +kernel
theorem dX0_walkBest_65 : decode cX0_walkBest 65 = .ok (.iastore, 1) := by decide +kernel
theorem dX0_walkBest_66 : decode cX0_walkBest 66 = .ok (.aload_n 0, 1) := by decide +kernel
theorem dX0_walkBest_67 : decode cX0_walkBest 67 = .ok (.getfield 33, 3) := by decide +kernel
theorem dX0_walkBest_70 : decode cX0_walkBest 70 = .ok (.aload_n 0, 1) := by decide +kernel
theorem dX0_walkBest_71 : decode cX0_walkBest 71 = .ok (.getfield 103, 3) := by decide +kernel
theorem dX0_walkBest_74 : decode cX0_walkBest 74 = .ok (.iload_n 1, 1) := by decide +kernel
theorem dX0_walkBest_75 : decode cX0_walkBest 75 = .ok (.bipush 8, 2) := by decide +kernel
theorem dX0_walkBest_77 : decode cX0_walkBest 77 = .ok (.irem, 1) := by decide +kernel
theorem dX0_walkBest_78 : decode cX0_walkBest 78 = .ok (.iastore, 1) := by decide +kernel
theorem dX0_walkBest_79 : decode cX0_walkBest 79 = .ok (.aload_n 0, 1) := by decide +kernel
theorem dX0_walkBest_80 : decode cX0_walkBest 80 = .ok (.dup, 1) := by decide +kernel
theorem dX0_walkBest_81 : decode cX0_walkBest 81 = .ok (.getfield 103, 3) := by decide +kernel
theorem dX0_walkBest_84 : decode cX0_walkBest 84 = .ok (.iconst 1, 1) := by decide +kernel
theorem dX0_walkBest_85 : decode cX0_walkBest 85 = .ok (.iadd, 1) := by decide +kernel
theorem dX0_walkBest_86 : decode cX0_walkBest 86 = .ok (.putfield 103, 3) := by decide +kernel
theorem dX0_walkBest_89 : decode cX0_walkBest 89 = .ok (.iload_n 1, 1) := by decide +kernel
theorem dX0_walkBest_90 : decode cX0_walkBest 90 = .ok (.getstatic 89, 3) := by decide +kernel
theorem dX0_walkBest_93 : decode cX0_walkBest 93 = .ok (.iload_n 2, 1) := by decide +kernel
theorem dX0_walkBest_94 : decode cX0_walkBest 94 = .ok (.iaload, 1) := by decide +kernel
theorem dX0_walkBest_95 : decode cX0_walkBest 95 = .ok (.iadd, 1) := by decide +kernel
theorem dX0_walkBest_96 : decode cX0_walkBest 96 = .ok (.istore_n 1, 1) := by decide +kernel
theorem dX0_walkBest_97 : decode cX0_walkBest 97 = .ok (.goto (-78), 3) := by decide +kernel
theorem dX0_walkBest_100 : decode cX0_walkBest 100 = .ok (.return_, 1) := by decide +kernel
theorem dX0_end_0 : decode cX0_end 0 = .ok (.aload_n 0, 1) := by decide +kernel
theorem dX0_end_1 : decode cX0_end 1 = .ok (.getfield 59, 3) := by decide +kernel
theorem dX0_end_4 : decode cX0_end 4 = .ok (.bipush 8, 2) := by decide +kernel
theorem dX0_end_6 : decode cX0_end 6 = .ok (.imul, 1) := by decide +kernel
theorem dX0_end_7 : decode cX0_end 7 = .ok (.aload_n 0, 1) := by decide +kernel
theorem dX0_end_8 : decode cX0_end 8 = .ok (.getfield 63, 3) := by decide +kernel
theorem dX0_end_11 : decode cX0_end 11 = .ok (.iadd, 1) := by decide +kernel
theorem dX0_end_12 : decode cX0_end 12 = .ok (.ireturn, 1) := by decide +kernel
theorem dX0_orNone_0 : decode cX0_orNone 0 = .ok (.iload_n 0, 1) := by decide +kernel
theorem dX0_orNone_1 : decode cX0_orNone 1 = .ok (.ldc 72, 2) := by decide +kernel
theorem dX0_orNone_3 : decode cX0_orNone 3 = .ok (.if_icmp .ge 7, 3) := by decide +kernel
theorem dX0_orNone_6 : decode cX0_orNone 6 = .ok (.iload_n 0, 1) := by decide +kernel
theorem dX0_orNone_7 : decode cX0_orNone 7 = .ok (.goto 5, 3) := by decide +kernel
theorem dX0_orNone_10 : decode cX0_orNone 10 = .ok (.bipush (-9), 2) := by decide +kernel
theorem dX0_orNone_12 : decode cX0_orNone 12 = .ok (.ireturn, 1) := by decide +kernel
theorem dX0_answer_0 : decode cX0_answer 0 = .ok (.iload_n 1, 1) := by decide +kernel
theorem dX0_answer_1 : decode cX0_answer 1 = .ok (.tableswitch 64 0 2 #[27, 37, 54], 27) := by decide +kernel
theorem dX0_answer_28 : decode cX0_answer 28 = .ok (.aload_n 0, 1) := by decide +kernel
theorem dX0_answer_29 : decode cX0_answer 29 = .ok (.getfield 15, 3) := by decide +kernel
theorem dX0_answer_32 : decode cX0_answer 32 = .ok (.iconst 0, 1) := by decide +kernel
theorem dX0_answer_33 : decode cX0_answer 33 = .ok (.iaload, 1) := by decide +kernel
theorem dX0_answer_34 : decode cX0_answer 34 = .ok (.invokestatic 82, 3) := by decide +kernel
theorem dX0_answer_37 : decode cX0_answer 37 = .ok (.ireturn, 1) := by decide +kernel
theorem dX0_answer_38 : decode cX0_answer 38 = .ok (.aload_n 0, 1) := by decide +kernel
theorem dX0_answer_39 : decode cX0_answer 39 = .ok (.getfield 103, 3) := by decide +kernel
theorem dX0_answer_42 : decode cX0_answer 42 = .ok (.ifCond .le 10, 3) := by decide +kernel
theorem dX0_answer_45 : decode cX0_answer 45 = .ok (.aload_n 0, 1) := by decide +kernel
theorem dX0_answer_46 : decode cX0_answer 46 = .ok (.getfield 103, 3) := by decide +kernel
theorem dX0_answer_49 : decode cX0_answer 49 = .ok (.goto 5, 3) := by decide +kernel
theorem dX0_answer_52 : decode cX0_answer 52 = .ok (.bipush (-9), 2) := by decide +kernel
theorem dX0_answer_54 : decode cX0_answer 54 = .ok (.ireturn, 1) := by decide +kernel
theorem dX0_answer_55 : decode cX0_answer 55 = .ok (.aload_n 0, 1) := by decide +kernel
theorem dX0_answer_56 : decode cX0_answer 56 = .ok (.getfield 18, 3) := by decide +kernel
theorem dX0_answer_59 : decode cX0_answer 59 = .ok (.iconst 0, 1) := by decide +kernel
theorem dX0_answer_60 : decode cX0_answer 60 = .ok (.iaload, 1) := by decide +kernel
theorem dX0_answer_61 : decode cX0_answer 61 = .ok (.invokestatic 82, 3) := by decide +kernel
theorem dX0_answer_64 : decode cX0_answer 64 = .ok (.ireturn, 1) := by decide +kernel
theorem dX0_answer_65 : decode cX0_answer 65 = .ok (.aload_n 0, 1) := by decide +kernel
theorem dX0_answer_66 : decode cX0_answer 66 = .ok (.getfield 21, 3) := by decide +kernel
theorem dX0_answer_69 : decode cX0_answer 69 = .ok (.iconst 0, 1) := by decide +kernel
theorem dX0_answer_70 : decode cX0_answer 70 = .ok (.iaload, 1) := by decide +kernel
theorem dX0_answer_71 : decode cX0_answer 71 = .ok (.ireturn, 1) := by decide +kernel
theorem dX0_costOfPair_0 : decode cX0_costOfPair 0 = .ok (.aload_n 0, 1) := by decide +kernel
theorem dX0_costOfPair_1 : decode cX0_costOfPair 1 = .ok (.getfield 9, 3) := by decide +kernel
theorem dX0_costOfPair_4 : decode cX0_costOfPair 4 = .ok (.aload_n 0, 1) := by decide +kernel
theorem dX0_costOfPair_5 : decode cX0_costOfPair 5 = .ok (.getfield 27, 3) := by decide +kernel
theorem dX0_costOfPair_8 : decode cX0_costOfPair 8 = .ok (.iload_n 1, 1) := by decide +kernel
theorem dX0_costOfPair_9 : decode cX0_costOfPair 9 = .ok (.iaload, 1) := by decide +kernel
theorem dX0_costOfPair_10 : decode cX0_costOfPair 10 = .ok (.bipush 64, 2) := by decide +kernel
theorem dX0_costOfPair_12 : decode cX0_costOfPair 12 = .ok (.imul, 1) := by decide +kernel
theorem dX0_costOfPair_13 : decode cX0_costOfPair 13 = .ok (.aload_n 0, 1) := by decide +kernel
theorem dX0_costOfPair_14 : decode cX0_costOfPair 14 = .ok (.getfield 30, 3) := by decide +kernel
theorem dX0_costOfPair_17 : decode cX0_costOfPair 17 = .ok (.iload_n 1, 1) := by decide +kernel
theorem dX0_costOfPair_18 : decode cX0_costOfPair 18 = .ok (.iaload, 1) := by decide +kernel
theorem dX0_costOfPair_19 : decode cX0_costOfPair 19 = .ok (.bipush 8, 2) := by decide +kernel
theorem dX0_costOfPair_21 : decode cX0_costOfPair 21 = .ok (.imul, 1) := by decide +kernel
theorem dX0_costOfPair_22 : decode cX0_costOfPair 22 = .ok (.iadd, 1) := by decide +kernel
theorem dX0_costOfPair_23 : decode cX0_costOfPair 23 = .ok (.aload_n 0, 1) := by decide +kernel
theorem dX0_costOfPair_24 : decode cX0_costOfPair 24 = .ok (.getfield 33, 3) := by decide +kernel
theorem dX0_costOfPair_27 : decode cX0_costOfPair 27 = .ok (.iload_n 1, 1) := by decide +kernel
theorem dX0_costOfPair_28 : decode cX0_costOfPair 28 = .ok (.iaload, 1) := by decide +kernel
theorem dX0_costOfPair_29 : decode cX0_costOfPair 29 = .ok (.iadd, 1) := by decide +kernel
theorem dX0_costOfPair_30 : decode cX0_costOfPair 30 = .ok (.iaload, 1) := by decide +kernel
theorem dX0_costOfPair_31 : decode cX0_costOfPair 31 = .ok (.ireturn, 1) := by decide +kernel
theorem dX0_howManyOf_0 : decode cX0_howManyOf 0 = .ok (.iconst 0, 1) := by decide +kernel
theorem dX0_howManyOf_1 : decode cX0_howManyOf 1 = .ok (.istore_n 2, 1) := by decide +kernel
theorem dX0_howManyOf_2 : decode cX0_howManyOf 2 = .ok (.iconst 0, 1) := by decide +kernel
theorem dX0_howManyOf_3 : decode cX0_howManyOf 3 = .ok (.istore_n 3, 1) := by decide +kernel
theorem dX0_howManyOf_4 : decode cX0_howManyOf 4 = .ok (.iload_n 3, 1) := by decide +kernel
theorem dX0_howManyOf_5 : decode cX0_howManyOf 5 = .ok (.aload_n 0, 1) := by decide +kernel
theorem dX0_howManyOf_6 : decode cX0_howManyOf 6 = .ok (.getfield 103, 3) := by decide +kernel
theorem dX0_howManyOf_9 : decode cX0_howManyOf 9 = .ok (.if_icmp .ge 22, 3) := by decide +kernel
theorem dX0_howManyOf_12 : decode cX0_howManyOf 12 = .ok (.aload_n 0, 1) := by decide +kernel
theorem dX0_howManyOf_13 : decode cX0_howManyOf 13 = .ok (.getfield 27, 3) := by decide +kernel
theorem dX0_howManyOf_16 : decode cX0_howManyOf 16 = .ok (.iload_n 3, 1) := by decide +kernel
theorem dX0_howManyOf_17 : decode cX0_howManyOf 17 = .ok (.iaload, 1) := by decide +kernel
theorem dX0_howManyOf_18 : decode cX0_howManyOf 18 = .ok (.iload_n 1, 1) := by decide +kernel
theorem dX0_howManyOf_19 : decode cX0_howManyOf 19 = .ok (.if_icmp .ne 6, 3) := by decide +kernel
theorem dX0_howManyOf_22 : decode cX0_howManyOf 22 = .ok (.iinc 2 1, 3) := by decide +kernel
theorem dX0_howManyOf_25 : decode cX0_howManyOf 25 = .ok (.iinc 3 1, 3) := by decide +kernel
theorem dX0_howManyOf_28 : decode cX0_howManyOf 28 = .ok (.goto (-24), 3) := by decide +kernel
theorem dX0_howManyOf_31 : decode cX0_howManyOf 31 = .ok (.iload_n 2, 1) := by decide +kernel
theorem dX0_howManyOf_32 : decode cX0_howManyOf 32 = .ok (.ireturn, 1) := by decide +kernel
theorem dX0_rightsWith_0 : decode cX0_rightsWith 0 = .ok (.iconst 0, 1) := by decide +kernel
theorem dX0_rightsWith_1 : decode cX0_rightsWith 1 = .ok (.istore_n 2, 1) := by decide +kernel
theorem dX0_rightsWith_2 : decode cX0_rightsWith 2 = .ok (.iconst 0, 1) := by decide +kernel
theorem dX0_rightsWith_3 : decode cX0_rightsWith 3 = .ok (.istore_n 3, 1) := by decide +kernel
theorem dX0_rightsWith_4 : decode cX0_rightsWith 4 = .ok (.iload_n 3, 1) := by decide +kernel
theorem dX0_rightsWith_5 : decode cX0_rightsWith 5 = .ok (.aload_n 0, 1) := by decide +kernel
theorem dX0_rightsWith_6 : decode cX0_rightsWith 6 = .ok (.getfield 103, 3) := by decide +kernel
theorem dX0_rightsWith_9 : decode cX0_rightsWith 9 = .ok (.if_icmp .ge 54, 3) := by decide +kernel
theorem dX0_rightsWith_12 : decode cX0_rightsWith 12 = .ok (.iload_n 1, 1) := by decide +kernel
theorem dX0_rightsWith_13 : decode cX0_rightsWith 13 = .ok (.aload_n 0, 1) := by decide +kernel
theorem dX0_rightsWith_14 : decode cX0_rightsWith 14 = .ok (.getfield 30, 3) := by decide +kernel
theorem dX0_rightsWith_17 : decode cX0_rightsWith 17 = .ok (.iload_n 3, 1) := by decide +kernel
theorem dX0_rightsWith_18 : decode cX0_rightsWith 18 = .ok (.iaload, 1) := by decide +kernel
theorem dX0_rightsWith_19 : decode cX0_rightsWith 19 = .ok (.getstatic 106, 3) := by decide +kernel
theorem dX0_rightsWith_22 : decode cX0_rightsWith 22 = .ok (.aload_n 0, 1) := by decide +kernel
theorem dX0_rightsWith_23 : decode cX0_rightsWith 23 = .ok (.getfield 27, 3) := by decide +kernel
theorem dX0_rightsWith_26 : decode cX0_rightsWith 26 = .ok (.iload_n 3, 1) := by decide +kernel
theorem dX0_rightsWith_27 : decode cX0_rightsWith 27 = .ok (.iaload, 1) := by decide +kernel
theorem dX0_rightsWith_28 : decode cX0_rightsWith 28 = .ok (.iaload, 1) := by decide +kernel
theorem dX0_rightsWith_29 : decode cX0_rightsWith 29 = .ok (.invokestatic 109, 3) := by decide +kernel
theorem dX0_rightsWith_32 : decode cX0_rightsWith 32 = .ok (.ifCond .eq 25, 3) := by decide +kernel
theorem dX0_rightsWith_35 : decode cX0_rightsWith 35 = .ok (.iload_n 2, 1) := by decide +kernel
theorem dX0_rightsWith_36 : decode cX0_rightsWith 36 = .ok (.aload_n 0, 1) := by decide +kernel
theorem dX0_rightsWith_37 : decode cX0_rightsWith 37 = .ok (.getfield 33, 3) := by decide +kernel
theorem dX0_rightsWith_40 : decode cX0_rightsWith 40 = .ok (.iload_n 3, 1) := by decide +kernel
theorem dX0_rightsWith_41 : decode cX0_rightsWith 41 = .ok (.iaload, 1) := by decide +kernel
theorem dX0_rightsWith_42 : decode cX0_rightsWith 42 = .ok (.getstatic 112, 3) := by decide +kernel
theorem dX0_rightsWith_45 : decode cX0_rightsWith 45 = .ok (.aload_n 0, 1) := by decide +kernel
theorem dX0_rightsWith_46 : decode cX0_rightsWith 46 = .ok (.getfield 27, 3) := by decide +kernel
theorem dX0_rightsWith_49 : decode cX0_rightsWith 49 = .ok (.iload_n 3, 1) := by decide +kernel
theorem dX0_rightsWith_50 : decode cX0_rightsWith 50 = .ok (.iaload, 1) := by decide +kernel
theorem dX0_rightsWith_51 : decode cX0_rightsWith 51 = .ok (.iaload, 1) := by decide +kernel
theorem dX0_rightsWith_52 : decode cX0_rightsWith 52 = .ok (.invokestatic 115, 3) := by decide +kernel
theorem dX0_rightsWith_55 : decode cX0_rightsWith 55 = .ok (.ior, 1) := by decide +kernel
theorem dX0_rightsWith_56 : decode cX0_rightsWith 56 = .ok (.istore_n 2, 1) := by decide +kernel
theorem dX0_rightsWith_57 : decode cX0_rightsWith 57 = .ok (.iinc 3 1, 3) := by decide +kernel
theorem dX0_rightsWith_60 : decode cX0_rightsWith 60 = .ok (.goto (-56), 3) := by decide +kernel
theorem dX0_rightsWith_63 : decode cX0_rightsWith 63 = .ok (.iload_n 2, 1) := by decide +kernel
theorem dX0_rightsWith_64 : decode cX0_rightsWith 64 = .ok (.ireturn, 1) := by decide +kernel
theorem dX0_leftsWith_0 : decode cX0_leftsWith 0 = .ok (.iconst 0, 1) := by decide +kernel
theorem dX0_leftsWith_1 : decode cX0_leftsWith 1 = .ok (.istore_n 2, 1) := by decide +kernel
theorem dX0_leftsWith_2 : decode cX0_leftsWith 2 = .ok (.iconst 0, 1) := by decide +kernel
theorem dX0_leftsWith_3 : decode cX0_leftsWith 3 = .ok (.istore_n 3, 1) := by decide +kernel
theorem dX0_leftsWith_4 : decode cX0_leftsWith 4 = .ok (.iload_n 3, 1) := by decide +kernel
theorem dX0_leftsWith_5 : decode cX0_leftsWith 5 = .ok (.aload_n 0, 1) := by decide +kernel
theorem dX0_leftsWith_6 : decode cX0_leftsWith 6 = .ok (.getfield 103, 3) := by decide +kernel
theorem dX0_leftsWith_9 : decode cX0_leftsWith 9 = .ok (.if_icmp .ge 54, 3) := by decide +kernel
theorem dX0_leftsWith_12 : decode cX0_leftsWith 12 = .ok (.iload_n 1, 1) := by decide +kernel
theorem dX0_leftsWith_13 : decode cX0_leftsWith 13 = .ok (.aload_n 0, 1) := by decide +kernel
theorem dX0_leftsWith_14 : decode cX0_leftsWith 14 = .ok (.getfield 33, 3) := by decide +kernel
theorem dX0_leftsWith_17 : decode cX0_leftsWith 17 = .ok (.iload_n 3, 1) := by decide +kernel
theorem dX0_leftsWith_18 : decode cX0_leftsWith 18 = .ok (.iaload, 1) := by decide +kernel
theorem dX0_leftsWith_19 : decode cX0_leftsWith 19 = .ok (.getstatic 112, 3) := by decide +kernel
theorem dX0_leftsWith_22 : decode cX0_leftsWith 22 = .ok (.aload_n 0, 1) := by decide +kernel
theorem dX0_leftsWith_23 : decode cX0_leftsWith 23 = .ok (.getfield 27, 3) := by decide +kernel
theorem dX0_leftsWith_26 : decode cX0_leftsWith 26 = .ok (.iload_n 3, 1) := by decide +kernel
theorem dX0_leftsWith_27 : decode cX0_leftsWith 27 = .ok (.iaload, 1) := by decide +kernel
theorem dX0_leftsWith_28 : decode cX0_leftsWith 28 = .ok (.iaload, 1) := by decide +kernel
theorem dX0_leftsWith_29 : decode cX0_leftsWith 29 = .ok (.invokestatic 109, 3) := by decide +kernel
theorem dX0_leftsWith_32 : decode cX0_leftsWith 32 = .ok (.ifCond .eq 25, 3) := by decide +kernel
theorem dX0_leftsWith_35 : decode cX0_leftsWith 35 = .ok (.iload_n 2, 1) := by decide +kernel
theorem dX0_leftsWith_36 : decode cX0_leftsWith 36 = .ok (.aload_n 0, 1) := by decide +kernel
theorem dX0_leftsWith_37 : decode cX0_leftsWith 37 = .ok (.getfield 30, 3) := by decide +kernel
theorem dX0_leftsWith_40 : decode cX0_leftsWith 40 = .ok (.iload_n 3, 1) := by decide +kernel
theorem dX0_leftsWith_41 : decode cX0_leftsWith 41 = .ok (.iaload, 1) := by decide +kernel
theorem dX0_leftsWith_42 : decode cX0_leftsWith 42 = .ok (.getstatic 106, 3) := by decide +kernel
theorem dX0_leftsWith_45 : decode cX0_leftsWith 45 = .ok (.aload_n 0, 1) := by decide +kernel
theorem dX0_leftsWith_46 : decode cX0_leftsWith 46 = .ok (.getfield 27, 3) := by decide +kernel
theorem dX0_leftsWith_49 : decode cX0_leftsWith 49 = .ok (.iload_n 3, 1) := by decide +kernel
theorem dX0_leftsWith_50 : decode cX0_leftsWith 50 = .ok (.iaload, 1) := by decide +kernel
theorem dX0_leftsWith_51 : decode cX0_leftsWith 51 = .ok (.iaload, 1) := by decide +kernel
theorem dX0_leftsWith_52 : decode cX0_leftsWith 52 = .ok (.invokestatic 115, 3) := by decide +kernel
theorem dX0_leftsWith_55 : decode cX0_leftsWith 55 = .ok (.ior, 1) := by decide +kernel
theorem dX0_leftsWith_56 : decode cX0_leftsWith 56 = .ok (.istore_n 2, 1) := by decide +kernel
theorem dX0_leftsWith_57 : decode cX0_leftsWith 57 = .ok (.iinc 3 1, 3) := by decide +kernel
theorem dX0_leftsWith_60 : decode cX0_leftsWith 60 = .ok (.goto (-56), 3) := by decide +kernel
theorem dX0_leftsWith_63 : decode cX0_leftsWith 63 = .ok (.iload_n 2, 1) := by decide +kernel
theorem dX0_leftsWith_64 : decode cX0_leftsWith 64 = .ok (.ireturn, 1) := by decide +kernel
theorem dX0_isIn_0 : decode cX0_isIn 0 = .ok (.iload_n 0, 1) := by decide +kernel
theorem dX0_isIn_1 : decode cX0_isIn 1 = .ok (.iload_n 1, 1) := by decide +kernel
theorem dX0_isIn_2 : decode cX0_isIn 2 = .ok (.if_icmp .lt 14, 3) := by decide +kernel
theorem dX0_isIn_5 : decode cX0_isIn 5 = .ok (.iload_n 0, 1) := by decide +kernel
theorem dX0_isIn_6 : decode cX0_isIn 6 = .ok (.iload_n 1, 1) := by decide +kernel
theorem dX0_isIn_7 : decode cX0_isIn 7 = .ok (.iload_n 2, 1) := by decide +kernel
theorem dX0_isIn_8 : decode cX0_isIn 8 = .ok (.iadd, 1) := by decide +kernel
theorem dX0_isIn_9 : decode cX0_isIn 9 = .ok (.if_icmp .ge 7, 3) := by decide +kernel
theorem dX0_isIn_12 : decode cX0_isIn 12 = .ok (.iconst 1, 1) := by decide +kernel
theorem dX0_isIn_13 : decode cX0_isIn 13 = .ok (.goto 4, 3) := by decide +kernel
theorem dX0_isIn_16 : decode cX0_isIn 16 = .ok (.iconst 0, 1) := by decide +kernel
theorem dX0_isIn_17 : decode cX0_isIn 17 = .ok (.ireturn, 1) := by decide +kernel
theorem dX0_setOf_0 : decode cX0_setOf 0 = .ok (.iconst 1, 1) := by decide +kernel
theorem dX0_setOf_1 : decode cX0_setOf 1 = .ok (.iload_n 1, 1) := by decide +kernel
theorem dX0_setOf_2 : decode cX0_setOf 2 = .ok (.ishl, 1) := by decide +kernel
theorem dX0_setOf_3 : decode cX0_setOf 3 = .ok (.iconst 1, 1) := by decide +kernel
theorem dX0_setOf_4 : decode cX0_setOf 4 = .ok (.isub, 1) := by decide +kernel
theorem dX0_setOf_5 : decode cX0_setOf 5 = .ok (.iload_n 0, 1) := by decide +kernel
theorem dX0_setOf_6 : decode cX0_setOf 6 = .ok (.ishl, 1) := by decide +kernel
theorem dX0_setOf_7 : decode cX0_setOf 7 = .ok (.ireturn, 1) := by decide +kernel
theorem dX1_init_0 : decode cX1_init 0 = .ok (.aload_n 0, 1) := by decide +kernel
theorem dX1_init_1 : decode cX1_init 1 = .ok (.invokespecial 3, 3) := by decide +kernel
theorem dX1_init_4 : decode cX1_init 4 = .ok (.aload_n 0, 1) := by decide +kernel
theorem dX1_init_5 : decode cX1_init 5 = .ok (.bipush 7, 2) := by decide +kernel
theorem dX1_init_7 : decode cX1_init 7 = .ok (.newarray .int, 2) := by decide +kernel
theorem dX1_init_9 : decode cX1_init 9 = .ok (.putfield 9, 3) := by decide +kernel
theorem dX1_init_12 : decode cX1_init 12 = .ok (.aload_n 0, 1) := by decide +kernel
theorem dX1_init_13 : decode cX1_init 13 = .ok (.bipush 7, 2) := by decide +kernel
theorem dX1_init_15 : decode cX1_init 15 = .ok (.newarray .int, 2) := by decide +kernel
theorem dX1_init_17 : decode cX1_init 17 = .ok (.putfield 15, 3) := by decide +kernel
theorem dX1_init_20 : decode cX1_init 20 = .ok (.aload_n 0, 1) := by decide +kernel
theorem dX1_init_21 : decode cX1_init 21 = .ok (.bipush 7, 2) := by decide +kernel
theorem dX1_init_23 : decode cX1_init 23 = .ok (.newarray .int, 2) := by decide +kernel
theorem dX1_init_25 : decode cX1_init 25 = .ok (.putfield 18, 3) := by decide +kernel
theorem dX1_init_28 : decode cX1_init 28 = .ok (.aload_n 0, 1) := by decide +kernel
theorem dX1_init_29 : decode cX1_init 29 = .ok (.bipush 7, 2) := by decide +kernel
theorem dX1_init_31 : decode cX1_init 31 = .ok (.newarray .int, 2) := by decide +kernel
theorem dX1_init_33 : decode cX1_init 33 = .ok (.putfield 21, 3) := by decide +kernel
theorem dX1_init_36 : decode cX1_init 36 = .ok (.aload_n 0, 1) := by decide +kernel
theorem dX1_init_37 : decode cX1_init 37 = .ok (.bipush 7, 2) := by decide +kernel
theorem dX1_init_39 : decode cX1_init 39 = .ok (.newarray .int, 2) := by decide +kernel
theorem dX1_init_41 : decode cX1_init 41 = .ok (.putfield 24, 3) := by decide +kernel
theorem dX1_init_44 : decode cX1_init 44 = .ok (.return_, 1) := by decide +kernel
theorem dX1_begin_0 : decode cX1_begin 0 = .ok (.aload_n 0, 1) := by decide +kernel
theorem dX1_begin_1 : decode cX1_begin 1 = .ok (.iconst 0, 1) := by decide +kernel
theorem dX1_begin_2 : decode cX1_begin 2 = .ok (.putfield 27, 3) := by decide +kernel
theorem dX1_begin_5 : decode cX1_begin 5 = .ok (.aload_n 0, 1) := by decide +kernel
theorem dX1_begin_6 : decode cX1_begin 6 = .ok (.iconst 0, 1) := by decide +kernel
theorem dX1_begin_7 : decode cX1_begin 7 = .ok (.putfield 31, 3) := by decide +kernel
theorem dX1_begin_10 : decode cX1_begin 10 = .ok (.aload_n 0, 1) := by decide +kernel
theorem dX1_begin_11 : decode cX1_begin 11 = .ok (.iconst 4, 1) := by decide +kernel
theorem dX1_begin_12 : decode cX1_begin 12 = .ok (.putfield 34, 3) := by decide +kernel
theorem dX1_begin_15 : decode cX1_begin 15 = .ok (.aload_n 0, 1) := by decide +kernel
theorem dX1_begin_16 : decode cX1_begin 16 = .ok (.iconst 1, 1) := by decide +kernel
theorem dX1_begin_17 : decode cX1_begin 17 = .ok (.putfield 37, 3) := by decide +kernel
theorem dX1_begin_20 : decode cX1_begin 20 = .ok (.aload_n 0, 1) := by decide +kernel
theorem dX1_begin_21 : decode cX1_begin 21 = .ok (.bipush 7, 2) := by decide +kernel
theorem dX1_begin_23 : decode cX1_begin 23 = .ok (.putfield 40, 3) := by decide +kernel
theorem dX1_begin_26 : decode cX1_begin 26 = .ok (.return_, 1) := by decide +kernel
theorem dX1_becomeLike_0 : decode cX1_becomeLike 0 = .ok (.aload_n 0, 1) := by decide +kernel
theorem dX1_becomeLike_1 : decode cX1_becomeLike 1 = .ok (.aload_n 1, 1) := by decide +kernel
theorem dX1_becomeLike_2 : decode cX1_becomeLike 2 = .ok (.getfield 27, 3) := by decide +kernel
theorem dX1_becomeLike_5 : decode cX1_becomeLike 5 = .ok (.putfield 27, 3) := by decide +kernel
theorem dX1_becomeLike_8 : decode cX1_becomeLike 8 = .ok (.aload_n 0, 1) := by decide +kernel
theorem dX1_becomeLike_9 : decode cX1_becomeLike 9 = .ok (.aload_n 1, 1) := by decide +kernel
theorem dX1_becomeLike_10 : decode cX1_becomeLike 10 = .ok (.getfield 31, 3) := by decide +kernel
theorem dX1_becomeLike_13 : decode cX1_becomeLike 13 = .ok (.putfield 31, 3) := by decide +kernel
theorem dX1_becomeLike_16 : decode cX1_becomeLike 16 = .ok (.aload_n 0, 1) := by decide +kernel
theorem dX1_becomeLike_17 : decode cX1_becomeLike 17 = .ok (.aload_n 1, 1) := by decide +kernel
theorem dX1_becomeLike_18 : decode cX1_becomeLike 18 = .ok (.getfield 34, 3) := by decide +kernel
theorem dX1_becomeLike_21 : decode cX1_becomeLike 21 = .ok (.putfield 34, 3) := by decide +kernel
theorem dX1_becomeLike_24 : decode cX1_becomeLike 24 = .ok (.aload_n 0, 1) := by decide +kernel
theorem dX1_becomeLike_25 : decode cX1_becomeLike 25 = .ok (.aload_n 1, 1) := by decide +kernel
theorem dX1_becomeLike_26 : decode cX1_becomeLike 26 = .ok (.getfield 37, 3) := by decide +kernel
theorem dX1_becomeLike_29 : decode cX1_becomeLike 29 = .ok (.putfield 37, 3) := by decide +kernel
theorem dX1_becomeLike_32 : decode cX1_becomeLike 32 = .ok (.aload_n 0, 1) := by decide +kernel
theorem dX1_becomeLike_33 : decode cX1_becomeLike 33 = .ok (.aload_n 1, 1) := by decide +kernel
theorem dX1_becomeLike_34 : decode cX1_becomeLike 34 = .ok (.getfield 40, 3) := by decide +kernel
theorem dX1_becomeLike_37 : decode cX1_becomeLike 37 = .ok (.putfield 40, 3) := by decide +kernel
theorem dX1_becomeLike_40 : decode cX1_becomeLike 40 = .ok (.aload_n 1, 1) := by decide +kernel
theorem dX1_becomeLike_41 : decode cX1_becomeLike 41 = .ok (.getfield 9, 3) := by decide +kernel
theorem dX1_becomeLike_44 : decode cX1_becomeLike 44 = .ok (.iconst 0, 1) := by decide +kernel
theorem dX1_becomeLike_45 : decode cX1_becomeLike 45 = .ok (.aload_n 0, 1) := by decide +kernel
theorem dX1_becomeLike_46 : decode cX1_becomeLike 46 = .ok (.getfield 9, 3) := by decide +kernel
theorem dX1_becomeLike_49 : decode cX1_becomeLike 49 = .ok (.iconst 0, 1) := by decide +kernel
theorem dX1_becomeLike_50 : decode cX1_becomeLike 50 = .ok (.bipush 7, 2) := by decide +kernel
theorem dX1_becomeLike_52 : decode cX1_becomeLike 52 = .ok (.invokestatic 43, 3) := by decide +kernel
theorem dX1_becomeLike_55 : decode cX1_becomeLike 55 = .ok (.aload_n 1, 1) := by decide +kernel
theorem dX1_becomeLike_56 : decode cX1_becomeLike 56 = .ok (.getfield 15, 3) := by decide +kernel
theorem dX1_becomeLike_59 : decode cX1_becomeLike 59 = .ok (.iconst 0, 1) := by decide +kernel
theorem dX1_becomeLike_60 : decode cX1_becomeLike 60 = .ok (.aload_n 0, 1) := by decide +kernel
theorem dX1_becomeLike_61 : decode cX1_becomeLike 61 = .ok (.getfield 15, 3) := by decide +kernel
theorem dX1_becomeLike_64 : decode cX1_becomeLike 64 = .ok (.iconst 0, 1) := by decide +kernel
theorem dX1_becomeLike_65 : decode cX1_becomeLike 65 = .ok (.bipush 7, 2) := by decide +kernel
theorem dX1_becomeLike_67 : decode cX1_becomeLike 67 = .ok (.invokestatic 43, 3) := by decide +kernel
theorem dX1_becomeLike_70 : decode cX1_becomeLike 70 = .ok (.aload_n 1, 1) := by decide +kernel
theorem dX1_becomeLike_71 : decode cX1_becomeLike 71 = .ok (.getfield 18, 3) := by decide +kernel
theorem dX1_becomeLike_74 : decode cX1_becomeLike 74 = .ok (.iconst 0, 1) := by decide +kernel
theorem dX1_becomeLike_75 : decode cX1_becomeLike 75 = .ok (.aload_n 0, 1) := by decide +kernel
theorem dX1_becomeLike_76 : decode cX1_becomeLike 76 = .ok (.getfield 18, 3) := by decide +kernel
theorem dX1_becomeLike_79 : decode cX1_becomeLike 79 = .ok (.iconst 0, 1) := by decide +kernel
theorem dX1_becomeLike_80 : decode cX1_becomeLike 80 = .ok (.bipush 7, 2) := by decide +kernel
theorem dX1_becomeLike_82 : decode cX1_becomeLike 82 = .ok (.invokestatic 43, 3) := by decide +kernel
theorem dX1_becomeLike_85 : decode cX1_becomeLike 85 = .ok (.aload_n 1, 1) := by decide +kernel
theorem dX1_becomeLike_86 : decode cX1_becomeLike 86 = .ok (.getfield 21, 3) := by decide +kernel
theorem dX1_becomeLike_89 : decode cX1_becomeLike 89 = .ok (.iconst 0, 1) := by decide +kernel
theorem dX1_becomeLike_90 : decode cX1_becomeLike 90 = .ok (.aload_n 0, 1) := by decide +kernel
theorem dX1_becomeLike_91 : decode cX1_becomeLike 91 = .ok (.getfield 21, 3) := by decide +kernel
theorem dX1_becomeLike_94 : decode cX1_becomeLike 94 = .ok (.iconst 0, 1) := by decide +kernel
theorem dX1_becomeLike_95 : decode cX1_becomeLike 95 = .ok (.bipush 7, 2) := by decide +kernel
theorem dX1_becomeLike_97 : decode cX1_becomeLike 97 = .ok (.invokestatic 43, 3) := by decide +kernel
theorem dX1_becomeLike_100 : decode cX1_becomeLike 100 = .ok (.aload_n 1, 1) := by decide +kernel
theorem dX1_becomeLike_101 : decode cX1_becomeLike 101 = .ok (.getfield 24, 3) := by decide +kernel
theorem dX1_becomeLike_104 : decode cX1_becomeLike 104 = .ok (.iconst 0, 1) := by decide +kernel
theorem dX1_becomeLike_105 : decode cX1_becomeLike 105 = .ok (.aload_n 0, 1) := by decide +kernel
theorem dX1_becomeLike_106 : decode cX1_becomeLike 106 = .ok (.getfield 24, 3) := by decide +kernel
theorem dX1_becomeLike_109 : decode cX1_becomeLike 109 = .ok (.iconst 0, 1) := by decide +kernel
theorem dX1_becomeLike_110 : decode cX1_becomeLike 110 = .ok (.bipush 7, 2) := by decide +kernel
theorem dX1_becomeLike_112 : decode cX1_becomeLike 112 = .ok (.invokestatic 43, 3) := by decide +kernel
theorem dX1_becomeLike_115 : decode cX1_becomeLike 115 = .ok (.return_, 1) := by decide +kernel
theorem dX1_areThere_0 : decode cX1_areThere 0 = .ok (.aload_n 0, 1) := by decide +kernel
theorem dX1_areThere_1 : decode cX1_areThere 1 = .ok (.getfield 27, 3) := by decide +kernel
theorem dX1_areThere_4 : decode cX1_areThere 4 = .ok (.ifCond .le 7, 3) := by decide +kernel
theorem dX1_areThere_7 : decode cX1_areThere 7 = .ok (.iconst 1, 1) := by decide +kernel
theorem dX1_areThere_8 : decode cX1_areThere 8 = .ok (.goto 4, 3) := by decide +kernel
theorem dX1_areThere_11 : decode cX1_areThere 11 = .ok (.iconst 0, 1) := by decide +kernel
theorem dX1_areThere_12 : decode cX1_areThere 12 = .ok (.ireturn, 1) := by decide +kernel
theorem dX1_hasLeft_0 : decode cX1_hasLeft 0 = .ok (.iload_n 1, 1) := by decide +kernel
theorem dX1_hasLeft_1 : decode cX1_hasLeft 1 = .ok (.ifCond .lt 15, 3) := by decide +kernel
theorem dX1_hasLeft_4 : decode cX1_hasLeft 4 = .ok (.iload_n 1, 1) := by decide +kernel
theorem dX1_hasLeft_5 : decode cX1_hasLeft 5 = .ok (.aload_n 0, 1) := by decide +kernel
theorem dX1_hasLeft_6 : decode cX1_hasLeft 6 = .ok (.getfield 27, 3) := by decide +kernel
theorem dX1_hasLeft_9 : decode cX1_hasLeft 9 = .ok (.if_icmp .ge 7, 3) := by decide +kernel
theorem dX1_hasLeft_12 : decode cX1_hasLeft 12 = .ok (.iconst 1, 1) := by decide +kernel
theorem dX1_hasLeft_13 : decode cX1_hasLeft 13 = .ok (.goto 4, 3) := by decide +kernel
theorem dX1_hasLeft_16 : decode cX1_hasLeft 16 = .ok (.iconst 0, 1) := by decide +kernel
theorem dX1_hasLeft_17 : decode cX1_hasLeft 17 = .ok (.ireturn, 1) := by decide +kernel
theorem dX1_hasRight_0 : decode cX1_hasRight 0 = .ok (.iload_n 1, 1) := by decide +kernel
theorem dX1_hasRight_1 : decode cX1_hasRight 1 = .ok (.ifCond .lt 15, 3) := by decide +kernel
theorem dX1_hasRight_4 : decode cX1_hasRight 4 = .ok (.iload_n 1, 1) := by decide +kernel
theorem dX1_hasRight_5 : decode cX1_hasRight 5 = .ok (.aload_n 0, 1) := by decide +kernel
theorem dX1_hasRight_6 : decode cX1_hasRight 6 = .ok (.getfield 31, 3) := by decide +kernel
theorem dX1_hasRight_9 : decode cX1_hasRight 9 = .ok (.if_icmp .ge 7, 3) := by decide +kernel
theorem dX1_hasRight_12 : decode cX1_hasRight 12 = .ok (.iconst 1, 1) := by decide +kernel
theorem dX1_hasRight_13 : decode cX1_hasRight 13 = .ok (.goto 4, 3) := by decide +kernel
theorem dX1_hasRight_16 : decode cX1_hasRight 16 = .ok (.iconst 0, 1) := by decide +kernel
theorem dX1_hasRight_17 : decode cX1_hasRight 17 = .ok (.ireturn, 1) := by decide +kernel
theorem dX1_leftLength_0 : decode cX1_leftLength 0 = .ok (.aload_n 0, 1) := by decide +kernel
theorem dX1_leftLength_1 : decode cX1_leftLength 1 = .ok (.getfield 9, 3) := by decide +kernel
theorem dX1_leftLength_4 : decode cX1_leftLength 4 = .ok (.iload_n 1, 1) := by decide +kernel
theorem dX1_leftLength_5 : decode cX1_leftLength 5 = .ok (.iaload, 1) := by decide +kernel
theorem dX1_leftLength_6 : decode cX1_leftLength 6 = .ok (.lookupswitch 44 #[(1, 35), (2, 26)], 26) := by decide +kernel
theorem dX1_leftLength_32 : decode cX1_leftLength 32 = .ok (.iconst 2, 1) := by decide +kernel
theorem dX1_leftLength_33 : decode cX1_leftLength 33 = .ok (.aload_n 0, 1) := by decide +kernel
theorem dX1_leftLength_34 : decode cX1_leftLength 34 = .ok (.getfield 15, 3) := by decide +kernel
theorem dX1_leftLength_37 : decode cX1_leftLength 37 = .ok (.iload_n 1, 1) := by decide +kernel
theorem dX1_leftLength_38 : decode cX1_leftLength 38 = .ok (.iaload, 1) := by decide +kernel
theorem dX1_leftLength_39 : decode cX1_leftLength 39 = .ok (.imul, 1) := by decide +kernel
theorem dX1_leftLength_40 : decode cX1_leftLength 40 = .ok (.ireturn, 1) := by decide +kernel
theorem dX1_leftLength_41 : decode cX1_leftLength 41 = .ok (.aload_n 0, 1) := by decide +kernel
theorem dX1_leftLength_42 : decode cX1_leftLength 42 = .ok (.getfield 15, 3) := by decide +kernel
theorem dX1_leftLength_45 : decode cX1_leftLength 45 = .ok (.iload_n 1, 1) := by decide +kernel
theorem dX1_leftLength_46 : decode cX1_leftLength 46 = .ok (.iaload, 1) := by decide +kernel
theorem dX1_leftLength_47 : decode cX1_leftLength 47 = .ok (.iconst 1, 1) := by decide +kernel
theorem dX1_leftLength_48 : decode cX1_leftLength 48 = .ok (.iadd, 1) := by decide +kernel
theorem dX1_leftLength_49 : decode cX1_leftLength 49 = .ok (.ireturn, 1) := by decide +kernel
theorem dX1_leftLength_50 : decode cX1_leftLength 50 = .ok (.aload_n 0, 1) := by decide +kernel
theorem dX1_leftLength_51 : decode cX1_leftLength 51 = .ok (.getfield 15, 3) := by decide +kernel
theorem dX1_leftLength_54 : decode cX1_leftLength 54 = .ok (.iload_n 1, 1) := by decide +kernel
theorem dX1_leftLength_55 : decode cX1_leftLength 55 = .ok (.iaload, 1) := by decide +kernel
theorem dX1_leftLength_56 : decode cX1_leftLength 56 = .ok (.ireturn, 1) := by decide +kernel
theorem dX1_priceOf_0 : decode cX1_priceOf 0 = .ok (.iload_n 1, 1) := by decide +kernel
theorem dX1_priceOf_1 : decode cX1_priceOf 1 = .ok (.lookupswitch 37 #[(0, 27), (1, 32)], 27) := by decide +kernel
theorem dX1_priceOf_28 : decode cX1_priceOf 28 = .ok (.aload_n 0, 1) := by decide +kernel
theorem dX1_priceOf_29 : decode cX1_priceOf 29 = .ok (.getfield 34, 3) := by decide +kernel
theorem dX1_priceOf_32 : decode cX1_priceOf 32 = .ok (.ireturn, 1) := by decide +kernel
theorem dX1_priceOf_33 : decode cX1_priceOf 33 = .ok (.aload_n 0, 1) := by decide +kernel
theorem dX1_priceOf_34 : decode cX1_priceOf 34 = .ok (.getfield 37, 3) := by decide +kernel
theorem dX1_priceOf_37 : decode cX1_priceOf 37 = .ok (.ireturn, 1) := by decide +kernel
theorem dX1_priceOf_38 : decode cX1_priceOf 38 = .ok (.aload_n 0, 1) := by decide +kernel
theorem dX1_priceOf_39 : decode cX1_priceOf 39 = .ok (.getfield 40, 3) := by decide +kernel
theorem dX1_priceOf_42 : decode cX1_priceOf 42 = .ok (.ireturn, 1) := by decide +kernel
theorem dX1_setPrice_0 : decode cX1_setPrice 0 = .ok (.iload_n 1, 1) := by decide +kernel
theorem dX1_setPrice_1 : decode cX1_setPrice 1 = .ok (.lookupswitch 43 #[(0, 27), (1, 35)], 27) := by decide +kernel
theorem dX1_setPrice_28 : decode cX1_setPrice 28 = .ok (.aload_n 0, 1) := by decide +kernel
theorem dX1_setPrice_29 : decode cX1_setPrice 29 = .ok (.iload_n 2, 1) := by decide +kernel
theorem dX1_setPrice_30 : decode cX1_setPrice 30 = .ok (.putfield 34, 3) := by decide +kernel
theorem dX1_setPrice_33 : decode cX1_setPrice 33 = .ok (.goto 16, 3) := by decide +kernel
theorem dX1_setPrice_36 : decode cX1_setPrice 36 = .ok (.aload_n 0, 1) := by decide +kernel
theorem dX1_setPrice_37 : decode cX1_setPrice 37 = .ok (.iload_n 2, 1) := by decide +kernel
theorem dX1_setPrice_38 : decode cX1_setPrice 38 = .ok (.putfield 37, 3) := by decide +kernel
theorem dX1_setPrice_41 : decode cX1_setPrice 41 = .ok (.goto 8, 3) := by decide +kernel
theorem dX1_setPrice_44 : decode cX1_setPrice 44 = .ok (.aload_n 0, 1) := by decide +kernel
theorem dX1_setPrice_45 : decode cX1_setPrice 45 = .ok (.iload_n 2, 1) := by decide +kernel
theorem dX1_setPrice_46 : decode cX1_setPrice 46 = .ok (.putfield 40, 3) := by decide +kernel
theorem dX1_setPrice_49 : decode cX1_setPrice 49 = .ok (.return_, 1) := by decide +kernel
theorem dX1_takeAct_0 : decode cX1_takeAct 0 = .ok (.iload_n 2, 1) := by decide +kernel
theorem dX1_takeAct_1 : decode cX1_takeAct 1 = .ok (.bipush 20, 2) := by decide +kernel
theorem dX1_takeAct_3 : decode cX1_takeAct 3 = .ok (.if_icmp .lt 14, 3) := by decide +kernel
theorem dX1_takeAct_6 : decode cX1_takeAct 6 = .ok (.aload_n 0, 1) := by decide +kernel
theorem dX1_takeAct_7 : decode cX1_takeAct 7 = .ok (.iload_n 2, 1) := by decide +kernel
theorem dX1_takeAct_8 : decode cX1_takeAct 8 = .ok (.bipush 20, 2) := by decide +kernel
theorem dX1_takeAct_10 : decode cX1_takeAct 10 = .ok (.isub, 1) := by decide +kernel
theorem dX1_takeAct_11 : decode cX1_takeAct 11 = .ok (.iload_n 1, 1) := by decide +kernel
theorem dX1_takeAct_12 : decode cX1_takeAct 12 = .ok (.invokevirtual 49, 3) := by decide +kernel
theorem dX1_takeAct_15 : decode cX1_takeAct 15 = .ok (.iconst 1, 1) := by decide +kernel
theorem dX1_takeAct_16 : decode cX1_takeAct 16 = .ok (.ireturn, 1) := by decide +kernel
theorem dX1_takeAct_17 : decode cX1_takeAct 17 = .ok (.iload_n 2, 1) := by decide +kernel
theorem dX1_takeAct_18 : decode cX1_takeAct 18 = .ok (.bipush 10, 2) := by decide +kernel
theorem dX1_takeAct_20 : decode cX1_takeAct 20 = .ok (.if_icmp .lt 28, 3) := by decide +kernel
theorem dX1_takeAct_23 : decode cX1_takeAct 23 = .ok (.aload_n 0, 1) := by decide +kernel
theorem dX1_takeAct_24 : decode cX1_takeAct 24 = .ok (.iload_n 2, 1) := by decide +kernel
theorem dX1_takeAct_25 : decode cX1_takeAct 25 = .ok (.bipush 10, 2) := by decide +kernel
theorem dX1_takeAct_27 : decode cX1_takeAct 27 = .ok (.isub, 1) := by decide +kernel
theorem dX1_takeAct_28 : decode cX1_takeAct 28 = .ok (.invokevirtual 53, 3) := by decide +kernel
theorem dX1_takeAct_31 : decode cX1_takeAct 31 = .ok (.ifCond .ne 5, 3) := by decide +kernel
theorem dX1_takeAct_34 : decode cX1_takeAct 34 = .ok (.iconst 0, 1) := by decide +kernel
theorem dX1_takeAct_35 : decode cX1_takeAct 35 = .ok (.ireturn, 1) := by decide +kernel
theorem dX1_takeAct_36 : decode cX1_takeAct 36 = .ok (.aload_n 0, 1) := by decide +kernel
theorem dX1_takeAct_37 : decode cX1_takeAct 37 = .ok (.getfield 21, 3) := by decide +kernel
theorem dX1_takeAct_40 : decode cX1_takeAct 40 = .ok (.iload_n 2, 1) := by decide +kernel
theorem dX1_takeAct_41 : decode cX1_takeAct 41 = .ok (.bipush 10, 2) := by decide +kernel
theorem dX1_takeAct_43 : decode cX1_takeAct 43 = .ok (.isub, 1) := by decide +kernel
theorem dX1_takeAct_44 : decode cX1_takeAct 44 = .ok (.iload_n 1, 1) := by decide +kernel
theorem dX1_takeAct_45 : decode cX1_takeAct 45 = .ok (.iastore, 1) := by decide +kernel
theorem dX1_takeAct_46 : decode cX1_takeAct 46 = .ok (.iconst 1, 1) := by decide +kernel
theorem dX1_takeAct_47 : decode cX1_takeAct 47 = .ok (.ireturn, 1) := by decide +kernel
theorem dX1_takeAct_48 : decode cX1_takeAct 48 = .ok (.aload_n 0, 1) := by decide +kernel
theorem dX1_takeAct_49 : decode cX1_takeAct 49 = .ok (.iload_n 2, 1) := by decide +kernel
theorem dX1_takeAct_50 : decode cX1_takeAct 50 = .ok (.invokevirtual 57, 3) := by decide +kernel
theorem dX1_takeAct_53 : decode cX1_takeAct 53 = .ok (.ifCond .ne 5, 3) := by decide +kernel
theorem dX1_takeAct_56 : decode cX1_takeAct 56 = .ok (.iconst 0, 1) := by decide +kernel
theorem dX1_takeAct_57 : decode cX1_takeAct 57 = .ok (.ireturn, 1) := by decide +kernel
theorem dX1_takeAct_58 : decode cX1_takeAct 58 = .ok (.aload_n 0, 1) := by decide +kernel
theorem dX1_takeAct_59 : decode cX1_takeAct 59 = .ok (.getfield 15, 3) := by decide +kernel
theorem dX1_takeAct_62 : decode cX1_takeAct 62 = .ok (.iload_n 2, 1) := by decide +kernel
theorem dX1_takeAct_63 : decode cX1_takeAct 63 = .ok (.iload_n 1, 1) := by decide +kernel
theorem dX1_takeAct_64 : decode cX1_takeAct 64 = .ok (.iastore, 1) := by decide +kernel
theorem dX1_takeAct_65 : decode cX1_takeAct 65 = .ok (.iconst 1, 1) := by decide +kernel
theorem dX1_takeAct_66 : decode cX1_takeAct 66 = .ok (.ireturn, 1) := by decide +kernel
theorem dX1_takeMoved_0 : decode cX1_takeMoved 0 = .ok (.iconst 0, 1) := by decide +kernel
theorem dX1_takeMoved_1 : decode cX1_takeMoved 1 = .ok (.istore 5, 2) := by decide +kernel
theorem dX1_takeMoved_3 : decode cX1_takeMoved 3 = .ok (.iload 5, 2) := by decide +kernel
theorem dX1_takeMoved_5 : decode cX1_takeMoved 5 = .ok (.aload_n 0, 1) := by decide +kernel
theorem dX1_takeMoved_6 : decode cX1_takeMoved 6 = .ok (.getfield 31, 3) := by decide +kernel
theorem dX1_takeMoved_9 : decode cX1_takeMoved 9 = .ok (.if_icmp .ge 100, 3) := by decide +kernel
theorem dX1_takeMoved_12 : decode cX1_takeMoved 12 = .ok (.iload 5, 2) := by decide +kernel
theorem dX1_takeMoved_14 : decode cX1_takeMoved 14 = .ok (.iload 4, 2) := by decide +kernel
theorem dX1_takeMoved_16 : decode cX1_takeMoved 16 = .ok (.if_icmp .lt 24, 3) := by decide +kernel
theorem dX1_takeMoved_19 : decode cX1_takeMoved 19 = .ok (.iload 5, 2) := by decide +kernel
theorem dX1_takeMoved_21 : decode cX1_takeMoved 21 = .ok (.iload 4, 2) := by decide +kernel
theorem dX1_takeMoved_23 : decode cX1_takeMoved 23 = .ok (.iload_n 3, 1) := by decide +kernel
theorem dX1_takeMoved_24 : decode cX1_takeMoved 24 = .ok (.iadd, 1) := by decide +kernel
theorem dX1_takeMoved_25 : decode cX1_takeMoved 25 = .ok (.if_icmp .ge 15, 3) := by decide +kernel
theorem dX1_takeMoved_28 : decode cX1_takeMoved 28 = .ok (.iload_n 2, 1) := by decide +kernel
theorem dX1_takeMoved_29 : decode cX1_takeMoved 29 = .ok (.iload 5, 2) := by decide +kernel
theorem dX1_takeMoved_31 : decode cX1_takeMoved 31 = .ok (.iadd, 1) := by decide +kernel
theorem dX1_takeMoved_32 : decode cX1_takeMoved 32 = .ok (.iload 4, 2) := by decide +kernel
theorem dX1_takeMoved_34 : decode cX1_takeMoved 34 = .ok (.isub, 1) := by decide +kernel
theorem dX1_takeMoved_35 : decode cX1_takeMoved 35 = .ok (.istore 6, 2) := by decide +kernel
theorem dX1_takeMoved_37 : decode cX1_takeMoved 37 = .ok (.goto 38, 3) := by decide +kernel
theorem dX1_takeMoved_40 : decode cX1_takeMoved 40 = .ok (.iload 5, 2) := by decide +kernel
theorem dX1_takeMoved_42 : decode cX1_takeMoved 42 = .ok (.iload 4, 2) := by decide +kernel
theorem dX1_takeMoved_44 : decode cX1_takeMoved 44 = .ok (.if_icmp .ge 8, 3) := by decide +kernel
theorem dX1_takeMoved_47 : decode cX1_takeMoved 47 = .ok (.iload 5, 2) := by decide +kernel
theorem dX1_takeMoved_49 : decode cX1_takeMoved 49 = .ok (.goto 7, 3) := by decide +kernel
theorem dX1_takeMoved_52 : decode cX1_takeMoved 52 = .ok (.iload 5, 2) := by decide +kernel
theorem dX1_takeMoved_54 : decode cX1_takeMoved 54 = .ok (.iload_n 3, 1) := by decide +kernel
theorem dX1_takeMoved_55 : decode cX1_takeMoved 55 = .ok (.isub, 1) := by decide +kernel
theorem dX1_takeMoved_56 : decode cX1_takeMoved 56 = .ok (.istore 7, 2) := by decide +kernel
theorem dX1_takeMoved_58 : decode cX1_takeMoved 58 = .ok (.iload 7, 2) := by decide +kernel
theorem dX1_takeMoved_60 : decode cX1_takeMoved 60 = .ok (.iload_n 2, 1) := by decide +kernel
theorem dX1_takeMoved_61 : decode cX1_takeMoved 61 = .ok (.if_icmp .ge 8, 3) := by decide +kernel
theorem dX1_takeMoved_64 : decode cX1_takeMoved 64 = .ok (.iload 7, 2) := by decide +kernel
theorem dX1_takeMoved_66 : decode cX1_takeMoved 66 = .ok (.goto 7, 3) := by decide +kernel
theorem dX1_takeMoved_69 : decode cX1_takeMoved 69 = .ok (.iload 7, 2) := by decide +kernel
theorem dX1_takeMoved_71 : decode cX1_takeMoved 71 = .ok (.iload_n 3, 1) := by decide +kernel
theorem dX1_takeMoved_72 : decode cX1_takeMoved 72 = .ok (.iadd, 1) := by decide +kernel
theorem dX1_takeMoved_73 : decode cX1_takeMoved 73 = .ok (.istore 6, 2) := by decide +kernel
theorem dX1_takeMoved_75 : decode cX1_takeMoved 75 = .ok (.aload_n 0, 1) := by decide +kernel
theorem dX1_takeMoved_76 : decode cX1_takeMoved 76 = .ok (.getfield 21, 3) := by decide +kernel
theorem dX1_takeMoved_79 : decode cX1_takeMoved 79 = .ok (.iload 5, 2) := by decide +kernel
theorem dX1_takeMoved_81 : decode cX1_takeMoved 81 = .ok (.aload_n 1, 1) := by decide +kernel
theorem dX1_takeMoved_82 : decode cX1_takeMoved 82 = .ok (.getfield 21, 3) := by decide +kernel
theorem dX1_takeMoved_85 : decode cX1_takeMoved 85 = .ok (.iload 6, 2) := by decide +kernel
theorem dX1_takeMoved_87 : decode cX1_takeMoved 87 = .ok (.iaload, 1) := by decide +kernel
theorem dX1_takeMoved_88 : decode cX1_takeMoved 88 = .ok (.iastore, 1) := by decide +kernel
theorem dX1_takeMoved_89 : decode cX1_takeMoved 89 = .ok (.aload_n 0, 1) := by decide +kernel
theorem dX1_takeMoved_90 : decode cX1_takeMoved 90 = .ok (.getfield 24, 3) := by decide +kernel
theorem dX1_takeMoved_93 : decode cX1_takeMoved 93 = .ok (.iload 5, 2) := by decide +kernel
theorem dX1_takeMoved_95 : decode cX1_takeMoved 95 = .ok (.aload_n 1, 1) := by decide +kernel
theorem dX1_takeMoved_96 : decode cX1_takeMoved 96 = .ok (.getfield 24, 3) := by decide +kernel
theorem dX1_takeMoved_99 : decode cX1_takeMoved 99 = .ok (.iload 6, 2) := by decide +kernel
theorem dX1_takeMoved_101 : decode cX1_takeMoved 101 = .ok (.iaload, 1) := by decide +kernel
theorem dX1_takeMoved_102 : decode cX1_takeMoved 102 = .ok (.iastore, 1) := by decide +kernel
theorem dX1_takeMoved_103 : decode cX1_takeMoved 103 = .ok (.iinc 5 1, 3) := by decide +kernel
theorem dX1_takeMoved_106 : decode cX1_takeMoved 106 = .ok (.goto (-103), 3) := by decide +kernel
theorem dX1_takeMoved_109 : decode cX1_takeMoved 109 = .ok (.return_, 1) := by decide +kernel
theorem dX1_hasPair_0 : decode cX1_hasPair 0 = .ok (.getstatic 60, 3) := by decide +kernel
theorem dX1_hasPair_3 : decode cX1_hasPair 3 = .ok (.iload_n 1, 1) := by decide +kernel
theorem dX1_hasPair_4 : decode cX1_hasPair 4 = .ok (.iaload, 1) := by decide +kernel
theorem dX1_hasPair_5 : decode cX1_hasPair 5 = .ok (.istore 4, 2) := by decide +kernel
theorem dX1_hasPair_7 : decode cX1_hasPair 7 = .ok (.getstatic 63, 3) := by decide +kernel
theorem dX1_hasPair_10 : decode cX1_hasPair 10 = .ok (.iload_n 1, 1) := by decide +kernel
theorem dX1_hasPair_11 : decode cX1_hasPair 11 = .ok (.iaload, 1) := by decide +kernel
theorem dX1_hasPair_12 : decode cX1_hasPair 12 = .ok (.istore 5, 2) := by decide +kernel
theorem dX1_hasPair_14 : decode cX1_hasPair 14 = .ok (.iload 4, 2) := by decide +kernel
theorem dX1_hasPair_16 : decode cX1_hasPair 16 = .ok (.ifCond .eq 22, 3) := by decide +kernel
theorem dX1_hasPair_19 : decode cX1_hasPair 19 = .ok (.aload_n 0, 1) := by decide +kernel
theorem dX1_hasPair_20 : decode cX1_hasPair 20 = .ok (.iload_n 2, 1) := by decide +kernel
theorem dX1_hasPair_21 : decode cX1_hasPair 21 = .ok (.invokevirtual 57, 3) := by decide +kernel
theorem dX1_hasPair_24 : decode cX1_hasPair 24 = .ok (.ifCond .eq 18, 3) := by decide +kernel
theorem dX1_hasPair_27 : decode cX1_hasPair 27 = .ok (.iload 4, 2) := by decide +kernel
theorem dX1_hasPair_29 : decode cX1_hasPair 29 = .ok (.aload_n 0, 1) := by decide +kernel
theorem dX1_hasPair_30 : decode cX1_hasPair 30 = .ok (.getfield 27, 3) := by decide +kernel
theorem dX1_hasPair_33 : decode cX1_hasPair 33 = .ok (.iload_n 2, 1) := by decide +kernel
theorem dX1_hasPair_34 : decode cX1_hasPair 34 = .ok (.isub, 1) := by decide +kernel
theorem dX1_hasPair_35 : decode cX1_hasPair 35 = .ok (.if_icmp .gt 7, 3) := by decide +kernel
theorem dX1_hasPair_38 : decode cX1_hasPair 38 = .ok (.iconst 1, 1) := by decide +kernel
theorem dX1_hasPair_39 : decode cX1_hasPair 39 = .ok (.goto 4, 3) := by decide +kernel
theorem dX1_hasPair_42 : decode cX1_hasPair 42 = .ok (.iconst 0, 1) := by decide +kernel
theorem dX1_hasPair_43 : decode cX1_hasPair 43 = .ok (.istore 6, 2) := by decide +kernel
theorem dX1_hasPair_45 : decode cX1_hasPair 45 = .ok (.iload 5, 2) := by decide +kernel
theorem dX1_hasPair_47 : decode cX1_hasPair 47 = .ok (.ifCond .eq 22, 3) := by decide +kernel
theorem dX1_hasPair_50 : decode cX1_hasPair 50 = .ok (.aload_n 0, 1) := by decide +kernel
theorem dX1_hasPair_51 : decode cX1_hasPair 51 = .ok (.iload_n 3, 1) := by decide +kernel
theorem dX1_hasPair_52 : decode cX1_hasPair 52 = .ok (.invokevirtual 53, 3) := by decide +kernel
theorem dX1_hasPair_55 : decode cX1_hasPair 55 = .ok (.ifCond .eq 18, 3) := by decide +kernel
theorem dX1_hasPair_58 : decode cX1_hasPair 58 = .ok (.iload 5, 2) := by decide +kernel
theorem dX1_hasPair_60 : decode cX1_hasPair 60 = .ok (.aload_n 0, 1) := by decide +kernel
theorem dX1_hasPair_61 : decode cX1_hasPair 61 = .ok (.getfield 31, 3) := by decide +kernel
theorem dX1_hasPair_64 : decode cX1_hasPair 64 = .ok (.iload_n 3, 1) := by decide +kernel
theorem dX1_hasPair_65 : decode cX1_hasPair 65 = .ok (.isub, 1) := by decide +kernel
theorem dX1_hasPair_66 : decode cX1_hasPair 66 = .ok (.if_icmp .gt 7, 3) := by decide +kernel
theorem dX1_hasPair_69 : decode cX1_hasPair 69 = .ok (.iconst 1, 1) := by decide +kernel
theorem dX1_hasPair_70 : decode cX1_hasPair 70 = .ok (.goto 4, 3) := by decide +kernel
theorem dX1_hasPair_73 : decode cX1_hasPair 73 = .ok (.iconst 0, 1) := by decide +kernel
theorem dX1_hasPair_74 : decode cX1_hasPair 74 = .ok (.istore 7, 2) := by decide +kernel
theorem dX1_hasPair_76 : decode cX1_hasPair 76 = .ok (.iload 6, 2) := by decide +kernel
theorem dX1_hasPair_78 : decode cX1_hasPair 78 = .ok (.ifCond .eq 12, 3) := by decide +kernel
theorem dX1_hasPair_81 : decode cX1_hasPair 81 = .ok (.iload 7, 2) := by decide +kernel
theorem dX1_hasPair_83 : decode cX1_hasPair 83 = .ok (.ifCond .eq 7, 3) := by decide +kernel
theorem dX1_hasPair_86 : decode cX1_hasPair 86 = .ok (.iconst 1, 1) := by decide +kernel
theorem dX1_hasPair_87 : decode cX1_hasPair 87 = .ok (.goto 4, 3) := by decide +kernel
theorem dX1_hasPair_90 : decode cX1_hasPair 90 = .ok (.iconst 0, 1) := by decide +kernel
theorem dX1_hasPair_91 : decode cX1_hasPair 91 = .ok (.ireturn, 1) := by decide +kernel
theorem dX1_pairCost_0 : decode cX1_pairCost 0 = .ok (.iload_n 1, 1) := by decide +kernel
theorem dX1_pairCost_1 : decode cX1_pairCost 1 = .ok (.iconst 1, 1) := by decide +kernel
theorem dX1_pairCost_2 : decode cX1_pairCost 2 = .ok (.if_icmp .ne 14, 3) := by decide +kernel
theorem dX1_pairCost_5 : decode cX1_pairCost 5 = .ok (.aload_n 0, 1) := by decide +kernel
theorem dX1_pairCost_6 : decode cX1_pairCost 6 = .ok (.getfield 34, 3) := by decide +kernel
theorem dX1_pairCost_9 : decode cX1_pairCost 9 = .ok (.aload_n 0, 1) := by decide +kernel
theorem dX1_pairCost_10 : decode cX1_pairCost 10 = .ok (.iload_n 2, 1) := by decide +kernel
theorem dX1_pairCost_11 : decode cX1_pairCost 11 = .ok (.invokevirtual 66, 3) := by decide +kernel
theorem dX1_pairCost_14 : decode cX1_pairCost 14 = .ok (.iadd, 1) := by decide +kernel
theorem dX1_pairCost_15 : decode cX1_pairCost 15 = .ok (.ireturn, 1) := by decide +kernel
theorem dX1_pairCost_16 : decode cX1_pairCost 16 = .ok (.iload_n 1, 1) := by decide +kernel
theorem dX1_pairCost_17 : decode cX1_pairCost 17 = .ok (.iconst 2, 1) := by decide +kernel
theorem dX1_pairCost_18 : decode cX1_pairCost 18 = .ok (.if_icmp .ne 15, 3) := by decide +kernel
theorem dX1_pairCost_21 : decode cX1_pairCost 21 = .ok (.aload_n 0, 1) := by decide +kernel
theorem dX1_pairCost_22 : decode cX1_pairCost 22 = .ok (.getfield 34, 3) := by decide +kernel
theorem dX1_pairCost_25 : decode cX1_pairCost 25 = .ok (.aload_n 0, 1) := by decide +kernel
theorem dX1_pairCost_26 : decode cX1_pairCost 26 = .ok (.getfield 21, 3) := by decide +kernel
theorem dX1_pairCost_29 : decode cX1_pairCost 29 = .ok (.iload_n 3, 1) := by decide +kernel
theorem dX1_pairCost_30 : decode cX1_pairCost 30 = .ok (.iaload, 1) := by decide +kernel
theorem dX1_pairCost_31 : decode cX1_pairCost 31 = .ok (.iadd, 1) := by decide +kernel
theorem dX1_pairCost_32 : decode cX1_pairCost 32 = .ok (.ireturn, 1) := by decide +kernel
theorem dX1_pairCost_33 : decode cX1_pairCost 33 = .ok (.aload_n 0, 1) := by decide +kernel
theorem dX1_pairCost_34 : decode cX1_pairCost 34 = .ok (.iload_n 2, 1) := by decide +kernel
theorem dX1_pairCost_35 : decode cX1_pairCost 35 = .ok (.invokevirtual 66, 3) := by decide +kernel
theorem dX1_pairCost_38 : decode cX1_pairCost 38 = .ok (.istore 4, 2) := by decide +kernel
theorem dX1_pairCost_40 : decode cX1_pairCost 40 = .ok (.aload_n 0, 1) := by decide +kernel
theorem dX1_pairCost_41 : decode cX1_pairCost 41 = .ok (.getfield 18, 3) := by decide +kernel
theorem dX1_pairCost_44 : decode cX1_pairCost 44 = .ok (.iload_n 2, 1) := by decide +kernel
theorem dX1_pairCost_45 : decode cX1_pairCost 45 = .ok (.iaload, 1) := by decide +kernel
theorem dX1_pairCost_46 : decode cX1_pairCost 46 = .ok (.invokestatic 70, 3) := by decide +kernel
theorem dX1_pairCost_49 : decode cX1_pairCost 49 = .ok (.istore 5, 2) := by decide +kernel
theorem dX1_pairCost_51 : decode cX1_pairCost 51 = .ok (.aload_n 0, 1) := by decide +kernel
theorem dX1_pairCost_52 : decode cX1_pairCost 52 = .ok (.getfield 21, 3) := by decide +kernel
theorem dX1_pairCost_55 : decode cX1_pairCost 55 = .ok (.iload_n 3, 1) := by decide +kernel
theorem dX1_pairCost_56 : decode cX1_pairCost 56 = .ok (.iaload, 1) := by decide +kernel
theorem dX1_pairCost_57 : decode cX1_pairCost 57 = .ok (.istore 6, 2) := by decide +kernel
theorem dX1_pairCost_59 : decode cX1_pairCost 59 = .ok (.aload_n 0, 1) := by decide +kernel
theorem dX1_pairCost_60 : decode cX1_pairCost 60 = .ok (.getfield 24, 3) := by decide +kernel
theorem dX1_pairCost_63 : decode cX1_pairCost 63 = .ok (.iload_n 3, 1) := by decide +kernel
theorem dX1_pairCost_64 : decode cX1_pairCost 64 = .ok (.iaload, 1) := by decide +kernel
theorem dX1_pairCost_65 : decode cX1_pairCost 65 = .ok (.invokestatic 70, 3) := by decide +kernel
theorem dX1_pairCost_68 : decode cX1_pairCost 68 = .ok (.istore 7, 2) := by decide +kernel
theorem dX1_pairCost_70 : decode cX1_pairCost 70 = .ok (.iconst 0, 1) := by decide +kernel
theorem dX1_pairCost_71 : decode cX1_pairCost 71 = .ok (.istore 8, 2) := by decide +kernel
theorem dX1_pairCost_73 : decode cX1_pairCost 73 = .ok (.iload_n 1, 1) := by decide +kernel
theorem dX1_pairCost_74 : decode cX1_pairCost 74 = .ok (.iconst 3, 1) := by decide +kernel
theorem dX1_pairCost_75 : decode cX1_pairCost 75 = .ok (.if_icmp .ne 37, 3) := by decide +kernel
theorem dX1_pairCost_78 : decode cX1_pairCost 78 = .ok (.iload 4, 2) := by decide +kernel
theorem dX1_pairCost_80 : decode cX1_pairCost 80 = .ok (.aload_n 0, 1) := by decide +kernel
theorem dX1_pairCost_81 : decode cX1_pairCost 81 = .ok (.iload_n 2, 1) := by decide +kernel
theorem dX1_pairCost_82 : decode cX1_pairCost 82 = .ok (.iconst 1, 1) := by decide +kernel
theorem dX1_pairCost_83 : decode cX1_pairCost 83 = .ok (.iadd, 1) := by decide +kernel
theorem dX1_pairCost_84 : decode cX1_pairCost 84 = .ok (.invokevirtual 66, 3) := by decide +kernel
theorem dX1_pairCost_87 : decode cX1_pairCost 87 = .ok (.iadd, 1) := by decide +kernel
theorem dX1_pairCost_88 : decode cX1_pairCost 88 = .ok (.istore 4, 2) := by decide +kernel
theorem dX1_pairCost_90 : decode cX1_pairCost 90 = .ok (.iload 5, 2) := by decide +kernel
theorem dX1_pairCost_92 : decode cX1_pairCost 92 = .ok (.aload_n 0, 1) := by decide +kernel
theorem dX1_pairCost_93 : decode cX1_pairCost 93 = .ok (.getfield 18, 3) := by decide +kernel
theorem dX1_pairCost_96 : decode cX1_pairCost 96 = .ok (.iload_n 2, 1) := by decide +kernel
theorem dX1_pairCost_97 : decode cX1_pairCost 97 = .ok (.iconst 1, 1) := by decide +kernel
theorem dX1_pairCost_98 : decode cX1_pairCost 98 = .ok (.iadd, 1) := by decide +kernel
theorem dX1_pairCost_99 : decode cX1_pairCost 99 = .ok (.iaload, 1) := by decide +kernel
theorem dX1_pairCost_100 : decode cX1_pairCost 100 = .ok (.invokestatic 70, 3) := by decide +kernel
theorem dX1_pairCost_103 : decode cX1_pairCost 103 = .ok (.ior, 1) := by decide +kernel
theorem dX1_pairCost_104 : decode cX1_pairCost 104 = .ok (.istore 5, 2) := by decide +kernel
theorem dX1_pairCost_106 : decode cX1_pairCost 106 = .ok (.aload_n 0, 1) := by decide +kernel
theorem dX1_pairCost_107 : decode cX1_pairCost 107 = .ok (.getfield 37, 3) := by decide +kernel
theorem dX1_pairCost_110 : decode cX1_pairCost 110 = .ok (.istore 8, 2) := by decide +kernel
theorem dX1_pairCost_112 : decode cX1_pairCost 112 = .ok (.iload_n 1, 1) := by decide +kernel
theorem dX1_pairCost_113 : decode cX1_pairCost 113 = .ok (.iconst 4, 1) := by decide +kernel
theorem dX1_pairCost_114 : decode cX1_pairCost 114 = .ok (.if_icmp .ne 38, 3) := by decide +kernel
theorem dX1_pairCost_117 : decode cX1_pairCost 117 = .ok (.iload 6, 2) := by decide +kernel
theorem dX1_pairCost_119 : decode cX1_pairCost 119 = .ok (.aload_n 0, 1) := by decide +kernel
theorem dX1_pairCost_120 : decode cX1_pairCost 120 = .ok (.getfield 21, 3) := by decide +kernel
theorem dX1_pairCost_123 : decode cX1_pairCost 123 = .ok (.iload_n 3, 1) := by decide +kernel
theorem dX1_pairCost_124 : decode cX1_pairCost 124 = .ok (.iconst 1, 1) := by decide +kernel
theorem dX1_pairCost_125 : decode cX1_pairCost 125 = .ok (.iadd, 1) := by decide +kernel
theorem dX1_pairCost_126 : decode cX1_pairCost 126 = .ok (.iaload, 1) := by decide +kernel
theorem dX1_pairCost_127 : decode cX1_pairCost 127 = .ok (.iadd, 1) := by decide +kernel
theorem dX1_pairCost_128 : decode cX1_pairCost 128 = .ok (.istore 6, 2) := by decide +kernel
theorem dX1_pairCost_130 : decode cX1_pairCost 130 = .ok (.iload 7, 2) := by decide +kernel
theorem dX1_pairCost_132 : decode cX1_pairCost 132 = .ok (.aload_n 0, 1) := by decide +kernel
theorem dX1_pairCost_133 : decode cX1_pairCost 133 = .ok (.getfield 24, 3) := by decide +kernel
theorem dX1_pairCost_136 : decode cX1_pairCost 136 = .ok (.iload_n 3, 1) := by decide +kernel
theorem dX1_pairCost_137 : decode cX1_pairCost 137 = .ok (.iconst 1, 1) := by decide +kernel
theorem dX1_pairCost_138 : decode cX1_pairCost 138 = .ok (.iadd, 1) := by decide +kernel
theorem dX1_pairCost_139 : decode cX1_pairCost 139 = .ok (.iaload, 1) := by decide +kernel
theorem dX1_pairCost_140 : decode cX1_pairCost 140 = .ok (.invokestatic 70, 3) := by decide +kernel
theorem dX1_pairCost_143 : decode cX1_pairCost 143 = .ok (.ior, 1) := by decide +kernel
theorem dX1_pairCost_144 : decode cX1_pairCost 144 = .ok (.istore 7, 2) := by decide +kernel
theorem dX1_pairCost_146 : decode cX1_pairCost 146 = .ok (.aload_n 0, 1) := by decide +kernel
theorem dX1_pairCost_147 : decode cX1_pairCost 147 = .ok (.getfield 37, 3) := by decide +kernel
theorem dX1_pairCost_150 : decode cX1_pairCost 150 = .ok (.istore 8, 2) := by decide +kernel
theorem dX1_pairCost_152 : decode cX1_pairCost 152 = .ok (.iload 5, 2) := by decide +kernel
theorem dX1_pairCost_154 : decode cX1_pairCost 154 = .ok (.iload 7, 2) := by decide +kernel
theorem dX1_pairCost_156 : decode cX1_pairCost 156 = .ok (.if_icmp .ne 7, 3) := by decide +kernel
theorem dX1_pairCost_159 : decode cX1_pairCost 159 = .ok (.iconst 0, 1) := by decide +kernel
theorem dX1_pairCost_160 : decode cX1_pairCost 160 = .ok (.goto 4, 3) := by decide +kernel
theorem dX1_pairCost_163 : decode cX1_pairCost 163 = .ok (.iconst 3, 1) := by decide +kernel
theorem dX1_pairCost_164 : decode cX1_pairCost 164 = .ok (.istore 9, 2) := by decide +kernel
theorem dX1_pairCost_166 : decode cX1_pairCost 166 = .ok (.iload 4, 2) := by decide +kernel
theorem dX1_pairCost_168 : decode cX1_pairCost 168 = .ok (.iload 6, 2) := by decide +kernel
theorem dX1_pairCost_170 : decode cX1_pairCost 170 = .ok (.isub, 1) := by decide +kernel
theorem dX1_pairCost_171 : decode cX1_pairCost 171 = .ok (.invokestatic 73, 3) := by decide +kernel
theorem dX1_pairCost_174 : decode cX1_pairCost 174 = .ok (.iload 9, 2) := by decide +kernel
theorem dX1_pairCost_176 : decode cX1_pairCost 176 = .ok (.iadd, 1) := by decide +kernel
theorem dX1_pairCost_177 : decode cX1_pairCost 177 = .ok (.iload 8, 2) := by decide +kernel
theorem dX1_pairCost_179 : decode cX1_pairCost 179 = .ok (.iadd, 1) := by decide +kernel
theorem dX1_pairCost_180 : decode cX1_pairCost 180 = .ok (.ireturn, 1) := by decide +kernel
theorem dX1_anchorSet_0 : decode cX1_anchorSet 0 = .ok (.iload_n 0, 1) := by decide +kernel
theorem dX1_anchorSet_1 : decode cX1_anchorSet 1 = .ok (.iconst 4, 1) := by decide +kernel
theorem dX1_anchorSet_2 : decode cX1_anchorSet 2 = .ok (.if_icmp .ne 7, 3) := by decide +kernel
theorem dX1_anchorSet_5 : decode cX1_anchorSet 5 = .ok (.iconst 0, 1) := by decide +kernel
theorem dX1_anchorSet_6 : decode cX1_anchorSet 6 = .ok (.goto 6, 3) := by decide +kernel
theorem dX1_anchorSet_9 : decode cX1_anchorSet 9 = .ok (.iconst 1, 1) := by decide +kernel
theorem dX1_anchorSet_10 : decode cX1_anchorSet 10 = .ok (.iload_n 0, 1) := by decide +kernel
theorem dX1_anchorSet_11 : decode cX1_anchorSet 11 = .ok (.ishl, 1) := by decide +kernel
theorem dX1_anchorSet_12 : decode cX1_anchorSet 12 = .ok (.ireturn, 1) := by decide +kernel
theorem dX2_init_0 : decode cX2_init 0 = .ok (.aload_n 0, 1) := by decide +kernel
theorem dX2_init_1 : decode cX2_init 1 = .ok (.invokespecial 3, 3) := by decide +kernel
theorem dX2_init_4 : decode cX2_init 4 = .ok (.aload_n 0, 1) := by decide +kernel
theorem dX2_init_5 : decode cX2_init 5 = .ok (.bipush 60, 2) := by decide +kernel
theorem dX2_init_7 : decode cX2_init 7 = .ok (.newarray .int, 2) := by decide +kernel
theorem dX2_init_9 : decode cX2_init 9 = .ok (.putfield 9, 3) := by decide +kernel
theorem dX2_init_12 : decode cX2_init 12 = .ok (.return_, 1) := by decide +kernel
theorem dX2_begin_0 : decode cX2_begin 0 = .ok (.aload_n 0, 1) := by decide +kernel
theorem dX2_begin_1 : decode cX2_begin 1 = .ok (.iconst 1, 1) := by decide +kernel
theorem dX2_begin_2 : decode cX2_begin 2 = .ok (.putfield 15, 3) := by decide +kernel
theorem dX2_begin_5 : decode cX2_begin 5 = .ok (.aload_n 0, 1) := by decide +kernel
theorem dX2_begin_6 : decode cX2_begin 6 = .ok (.iload_n 1, 1) := by decide +kernel
theorem dX2_begin_7 : decode cX2_begin 7 = .ok (.putfield 19, 3) := by decide +kernel
theorem dX2_begin_10 : decode cX2_begin 10 = .ok (.aload_n 0, 1) := by decide +kernel
theorem dX2_begin_11 : decode cX2_begin 11 = .ok (.iload_n 2, 1) := by decide +kernel
theorem dX2_begin_12 : decode cX2_begin 12 = .ok (.putfield 23, 3) := by decide +kernel
theorem dX2_begin_15 : decode cX2_begin 15 = .ok (.aload_n 0, 1) := by decide +kernel
theorem dX2_begin_16 : decode cX2_begin 16 = .ok (.getfield 9, 3) := by decide +kernel
theorem dX2_begin_19 : decode cX2_begin 19 = .ok (.iconst 0, 1) := by decide +kernel
theorem dX2_begin_20 : decode cX2_begin 20 = .ok (.invokestatic 26, 3) := by decide +kernel
theorem dX2_begin_23 : decode cX2_begin 23 = .ok (.return_, 1) := by decide +kernel
theorem dX2_faultAs_0 : decode cX2_faultAs 0 = .ok (.aload_n 0, 1) := by decide +kernel
theorem dX2_faultAs_1 : decode cX2_faultAs 1 = .ok (.getfield 15, 3) := by decide +kernel
theorem dX2_faultAs_4 : decode cX2_faultAs 4 = .ok (.ifCond .ne 5, 3) := by decide +kernel
theorem dX2_faultAs_7 : decode cX2_faultAs 7 = .ok (.iconst 1, 1) := by decide +kernel
theorem dX2_faultAs_8 : decode cX2_faultAs 8 = .ok (.ireturn, 1) := by decide +kernel
theorem dX2_faultAs_9 : decode cX2_faultAs 9 = .ok (.aload_n 0, 1) := by decide +kernel
theorem dX2_faultAs_10 : decode cX2_faultAs 10 = .ok (.getfield 19, 3) := by decide +kernel
theorem dX2_faultAs_13 : decode cX2_faultAs 13 = .ok (.iload_n 1, 1) := by decide +kernel
theorem dX2_faultAs_14 : decode cX2_faultAs 14 = .ok (.if_icmp .ne 7, 3) := by decide +kernel
theorem dX2_faultAs_17 : decode cX2_faultAs 17 = .ok (.iconst 0, 1) := by decide +kernel
theorem dX2_faultAs_18 : decode cX2_faultAs 18 = .ok (.goto 4, 3) := by decide +kernel
theorem dX2_faultAs_21 : decode cX2_faultAs 21 = .ok (.iconst 2, 1) := by decide +kernel
theorem dX2_faultAs_22 : decode cX2_faultAs 22 = .ok (.ireturn, 1) := by decide +kernel
theorem dX2_hasCells_0 : decode cX2_hasCells 0 = .ok (.iload_n 1, 1) := by decide +kernel
theorem dX2_hasCells_1 : decode cX2_hasCells 1 = .ok (.ifCond .lt 29, 3) := by decide +kernel
theorem dX2_hasCells_4 : decode cX2_hasCells 4 = .ok (.iload_n 2, 1) := by decide +kernel
theorem dX2_hasCells_5 : decode cX2_hasCells 5 = .ok (.ifCond .lt 25, 3) := by decide +kernel
theorem dX2_hasCells_8 : decode cX2_hasCells 8 = .ok (.iload_n 1, 1) := by decide +kernel
theorem dX2_hasCells_9 : decode cX2_hasCells 9 = .ok (.aload_n 0, 1) := by decide +kernel
theorem dX2_hasCells_10 : decode cX2_hasCells 10 = .ok (.getfield 23, 3) := by decide +kernel
theorem dX2_hasCells_13 : decode cX2_hasCells 13 = .ok (.if_icmp .gt 17, 3) := by decide +kernel
theorem dX2_hasCells_16 : decode cX2_hasCells 16 = .ok (.iload_n 2, 1) := by decide +kernel
theorem dX2_hasCells_17 : decode cX2_hasCells 17 = .ok (.aload_n 0, 1) := by decide +kernel
theorem dX2_hasCells_18 : decode cX2_hasCells 18 = .ok (.getfield 23, 3) := by decide +kernel
theorem dX2_hasCells_21 : decode cX2_hasCells 21 = .ok (.iload_n 1, 1) := by decide +kernel
theorem dX2_hasCells_22 : decode cX2_hasCells 22 = .ok (.isub, 1) := by decide +kernel
theorem dX2_hasCells_23 : decode cX2_hasCells 23 = .ok (.if_icmp .gt 7, 3) := by decide +kernel
theorem dX2_hasCells_26 : decode cX2_hasCells 26 = .ok (.iconst 1, 1) := by decide +kernel
theorem dX2_hasCells_27 : decode cX2_hasCells 27 = .ok (.goto 4, 3) := by decide +kernel
theorem dX2_hasCells_30 : decode cX2_hasCells 30 = .ok (.iconst 0, 1) := by decide +kernel
theorem dX2_hasCells_31 : decode cX2_hasCells 31 = .ok (.ireturn, 1) := by decide +kernel
theorem dX2_cut_0 : decode cX2_cut 0 = .ok (.aload_n 0, 1) := by decide +kernel
theorem dX2_cut_1 : decode cX2_cut 1 = .ok (.getfield 19, 3) := by decide +kernel
theorem dX2_cut_4 : decode cX2_cut 4 = .ok (.ifCond .ne 6, 3) := by decide +kernel
theorem dX2_cut_7 : decode cX2_cut 7 = .ok (.iload_n 1, 1) := by decide +kernel
theorem dX2_cut_8 : decode cX2_cut 8 = .ok (.i2b, 1) := by decide +kernel
theorem dX2_cut_9 : decode cX2_cut 9 = .ok (.ireturn, 1) := by decide +kernel
theorem dX2_cut_10 : decode cX2_cut 10 = .ok (.aload_n 0, 1) := by decide +kernel
theorem dX2_cut_11 : decode cX2_cut 11 = .ok (.getfield 19, 3) := by decide +kernel
theorem dX2_cut_14 : decode cX2_cut 14 = .ok (.iconst 1, 1) := by decide +kernel
theorem dX2_cut_15 : decode cX2_cut 15 = .ok (.if_icmp .ne 8, 3) := by decide +kernel
theorem dX2_cut_18 : decode cX2_cut 18 = .ok (.iload_n 1, 1) := by decide +kernel
theorem dX2_cut_19 : decode cX2_cut 19 = .ok (.i2s, 1) := by decide +kernel
theorem dX2_cut_20 : decode cX2_cut 20 = .ok (.goto 4, 3) := by decide +kernel
theorem dX2_cut_23 : decode cX2_cut 23 = .ok (.iload_n 1, 1) := by decide +kernel
theorem dX2_cut_24 : decode cX2_cut 24 = .ok (.ireturn, 1) := by decide +kernel
theorem dX3_init_0 : decode cX3_init 0 = .ok (.aload_n 0, 1) := by decide +kernel
theorem dX3_init_1 : decode cX3_init 1 = .ok (.invokespecial 3, 3) := by decide +kernel
theorem dX3_init_4 : decode cX3_init 4 = .ok (.return_, 1) := by decide +kernel
theorem dX3_firstFault_0 : decode cX3_firstFault 0 = .ok (.aload 4, 2) := by decide +kernel
theorem dX3_firstFault_2 : decode cX3_firstFault 2 = .ok (.invokevirtual 9, 3) := by decide +kernel
theorem dX3_firstFault_5 : decode cX3_firstFault 5 = .ok (.aload_n 0, 1) := by decide +kernel
theorem dX3_firstFault_6 : decode cX3_firstFault 6 = .ok (.iconst 0, 1) := by decide +kernel
theorem dX3_firstFault_7 : decode cX3_firstFault 7 = .ok (.putfield 16, 3) := by decide +kernel
theorem dX3_firstFault_10 : decode cX3_firstFault 10 = .ok (.iconst 0, 1) := by decide +kernel
theorem dX3_firstFault_11 : decode cX3_firstFault 11 = .ok (.istore 5, 2) := by decide +kernel
theorem dX3_firstFault_13 : decode cX3_firstFault 13 = .ok (.iload 5, 2) := by decide +kernel
theorem dX3_firstFault_15 : decode cX3_firstFault 15 = .ok (.iload_n 3, 1) := by decide +kernel
theorem dX3_firstFault_16 : decode cX3_firstFault 16 = .ok (.if_icmp .ge 30, 3) := by decide +kernel
theorem dX3_firstFault_19 : decode cX3_firstFault 19 = .ok (.aload_n 0, 1) := by decide +kernel
theorem dX3_firstFault_20 : decode cX3_firstFault 20 = .ok (.aload_n 1, 1) := by decide +kernel
theorem dX3_firstFault_21 : decode cX3_firstFault 21 = .ok (.getfield 20, 3) := by decide +kernel
theorem dX3_firstFault_24 : decode cX3_firstFault 24 = .ok (.iload_n 2, 1) := by decide +kernel
theorem dX3_firstFault_25 : decode cX3_firstFault 25 = .ok (.iload 5, 2) := by decide +kernel
theorem dX3_firstFault_27 : decode cX3_firstFault 27 = .ok (.iadd, 1) := by decide +kernel
theorem dX3_firstFault_28 : decode cX3_firstFault 28 = .ok (.iaload, 1) := by decide +kernel
theorem dX3_firstFault_29 : decode cX3_firstFault 29 = .ok (.aload 4, 2) := by decide +kernel
theorem dX3_firstFault_31 : decode cX3_firstFault 31 = .ok (.invokevirtual 26, 3) := by decide +kernel
theorem dX3_firstFault_34 : decode cX3_firstFault 34 = .ok (.ifCond .ne 6, 3) := by decide +kernel
theorem dX3_firstFault_37 : decode cX3_firstFault 37 = .ok (.iload 5, 2) := by decide +kernel
theorem dX3_firstFault_39 : decode cX3_firstFault 39 = .ok (.ireturn, 1) := by decide +kernel
theorem dX3_firstFault_40 : decode cX3_firstFault 40 = .ok (.iinc 5 1, 3) := by decide +kernel
theorem dX3_firstFault_43 : decode cX3_firstFault 43 = .ok (.goto (-30), 3) := by decide +kernel
theorem dX3_firstFault_46 : decode cX3_firstFault 46 = .ok (.aload_n 0, 1) := by decide +kernel
theorem dX3_firstFault_47 : decode cX3_firstFault 47 = .ok (.getfield 16, 3) := by decide +kernel
theorem dX3_firstFault_50 : decode cX3_firstFault 50 = .ok (.bipush 8, 2) := by decide +kernel
theorem dX3_firstFault_52 : decode cX3_firstFault 52 = .ok (.if_icmp .ne 8, 3) := by decide +kernel
theorem dX3_firstFault_55 : decode cX3_firstFault 55 = .ok (.bipush (-9), 2) := by decide +kernel
theorem dX3_firstFault_57 : decode cX3_firstFault 57 = .ok (.goto 4, 3) := by decide +kernel
theorem dX3_firstFault_60 : decode cX3_firstFault 60 = .ok (.iload_n 3, 1) := by decide +kernel
theorem dX3_firstFault_61 : decode cX3_firstFault 61 = .ok (.ireturn, 1) := by decide +kernel
theorem dX3_goesOn_0 : decode cX3_goesOn 0 = .ok (.aload_n 0, 1) := by decide +kernel
theorem dX3_goesOn_1 : decode cX3_goesOn 1 = .ok (.getfield 16, 3) := by decide +kernel
theorem dX3_goesOn_4 : decode cX3_goesOn 4 = .ok (.tableswitch 163 0 8 #[52, 69, 156, 156, 156, 86, 163, 163, 129], 52) := by decide +kernel
theorem dX3_goesOn_56 : decode cX3_goesOn 56 = .ok (.aload_n 0, 1) := by decide +kernel
theorem dX3_goesOn_57 : decode cX3_goesOn 57 = .ok (.iconst 1, 1) := by decide +kernel
theorem dX3_goesOn_58 : decode cX3_goesOn 58 = .ok (.putfield 16, 3) := by decide +kernel
theorem dX3_goesOn_61 : decode cX3_goesOn 61 = .ok (.iload_n 1, 1) := by decide +kernel
theorem dX3_goesOn_62 : decode cX3_goesOn 62 = .ok (.bipush 98, 2) := by decide +kernel
theorem dX3_goesOn_64 : decode cX3_goesOn 64 = .ok (.if_icmp .ne 7, 3) := by decide +kernel
theorem dX3_goesOn_67 : decode cX3_goesOn 67 = .ok (.iconst 1, 1) := by decide +kernel
theorem dX3_goesOn_68 : decode cX3_goesOn 68 = .ok (.goto 4, 3) := by decide +kernel
theorem dX3_goesOn_71 : decode cX3_goesOn 71 = .ok (.iconst 0, 1) := by decide +kernel
theorem dX3_goesOn_72 : decode cX3_goesOn 72 = .ok (.ireturn, 1) := by decide +kernel
theorem dX3_goesOn_73 : decode cX3_goesOn 73 = .ok (.aload_n 0, 1) := by decide +kernel
theorem dX3_goesOn_74 : decode cX3_goesOn 74 = .ok (.iconst 2, 1) := by decide +kernel
theorem dX3_goesOn_75 : decode cX3_goesOn 75 = .ok (.putfield 16, 3) := by decide +kernel
theorem dX3_goesOn_78 : decode cX3_goesOn 78 = .ok (.iload_n 1, 1) := by decide +kernel
theorem dX3_goesOn_79 : decode cX3_goesOn 79 = .ok (.bipush 59, 2) := by decide +kernel
theorem dX3_goesOn_81 : decode cX3_goesOn 81 = .ok (.if_icmp .ne 7, 3) := by decide +kernel
theorem dX3_goesOn_84 : decode cX3_goesOn 84 = .ok (.iconst 1, 1) := by decide +kernel
theorem dX3_goesOn_85 : decode cX3_goesOn 85 = .ok (.goto 4, 3) := by decide +kernel
theorem dX3_goesOn_88 : decode cX3_goesOn 88 = .ok (.iconst 0, 1) := by decide +kernel
theorem dX3_goesOn_89 : decode cX3_goesOn 89 = .ok (.ireturn, 1) := by decide +kernel
theorem dX3_goesOn_90 : decode cX3_goesOn 90 = .ok (.aload_n 0, 1) := by decide +kernel
theorem dX3_goesOn_91 : decode cX3_goesOn 91 = .ok (.iload_n 1, 1) := by decide +kernel
theorem dX3_goesOn_92 : decode cX3_goesOn 92 = .ok (.bipush 59, 2) := by decide +kernel
theorem dX3_goesOn_94 : decode cX3_goesOn 94 = .ok (.if_icmp .ne 7, 3) := by decide +kernel
theorem dX3_goesOn_97 : decode cX3_goesOn 97 = .ok (.iconst 2, 1) := by decide +kernel
theorem dX3_goesOn_98 : decode cX3_goesOn 98 = .ok (.goto 5, 3) := by decide +kernel
theorem dX3_goesOn_101 : decode cX3_goesOn 101 = .ok (.bipush 6, 2) := by decide +kernel
theorem dX3_goesOn_103 : decode cX3_goesOn 103 = .ok (.putfield 16, 3) := by decide +kernel
theorem dX3_goesOn_106 : decode cX3_goesOn 106 = .ok (.iload_n 1, 1) := by decide +kernel
theorem dX3_goesOn_107 : decode cX3_goesOn 107 = .ok (.bipush 44, 2) := by decide +kernel
theorem dX3_goesOn_109 : decode cX3_goesOn 109 = .ok (.if_icmp .eq 18, 3) := by decide +kernel
theorem dX3_goesOn_112 : decode cX3_goesOn 112 = .ok (.iload_n 1, 1) := by decide +kernel
theorem dX3_goesOn_113 : decode cX3_goesOn 113 = .ok (.bipush 59, 2) := by decide +kernel
theorem dX3_goesOn_115 : decode cX3_goesOn 115 = .ok (.if_icmp .ne 16, 3) := by decide +kernel
theorem dX3_goesOn_118 : decode cX3_goesOn 118 = .ok (.aload_n 2, 1) := by decide +kernel
theorem dX3_goesOn_119 : decode cX3_goesOn 119 = .ok (.getfield 30, 3) := by decide +kernel
theorem dX3_goesOn_122 : decode cX3_goesOn 122 = .ok (.bipush 7, 2) := by decide +kernel
theorem dX3_goesOn_124 : decode cX3_goesOn 124 = .ok (.if_icmp .ge 7, 3) := by decide +kernel
theorem dX3_goesOn_127 : decode cX3_goesOn 127 = .ok (.iconst 1, 1) := by decide +kernel
theorem dX3_goesOn_128 : decode cX3_goesOn 128 = .ok (.goto 4, 3) := by decide +kernel
theorem dX3_goesOn_131 : decode cX3_goesOn 131 = .ok (.iconst 0, 1) := by decide +kernel
theorem dX3_goesOn_132 : decode cX3_goesOn 132 = .ok (.ireturn, 1) := by decide +kernel
theorem dX3_goesOn_133 : decode cX3_goesOn 133 = .ok (.aload_n 0, 1) := by decide +kernel
theorem dX3_goesOn_134 : decode cX3_goesOn 134 = .ok (.bipush 6, 2) := by decide +kernel
theorem dX3_goesOn_136 : decode cX3_goesOn 136 = .ok (.putfield 16, 3) := by decide +kernel
theorem dX3_goesOn_139 : decode cX3_goesOn 139 = .ok (.iload_n 1, 1) := by decide +kernel
theorem dX3_goesOn_140 : decode cX3_goesOn 140 = .ok (.bipush 44, 2) := by decide +kernel
theorem dX3_goesOn_142 : decode cX3_goesOn 142 = .ok (.if_icmp .ne 16, 3) := by decide +kernel
theorem dX3_goesOn_145 : decode cX3_goesOn 145 = .ok (.aload_n 2, 1) := by decide +kernel
theorem dX3_goesOn_146 : decode cX3_goesOn 146 = .ok (.getfield 33, 3) := by decide +kernel
theorem dX3_goesOn_149 : decode cX3_goesOn 149 = .ok (.bipush 7, 2) := by decide +kernel
theorem dX3_goesOn_151 : decode cX3_goesOn 151 = .ok (.if_icmp .ge 7, 3) := by decide +kernel
theorem dX3_goesOn_154 : decode cX3_goesOn 154 = .ok (.iconst 1, 1) := by decide +kernel
theorem dX3_goesOn_155 : decode cX3_goesOn 155 = .ok (.goto 4, 3) := by decide +kernel
theorem dX3_goesOn_158 : decode cX3_goesOn 158 = .ok (.iconst 0, 1) := by decide +kernel
theorem dX3_goesOn_159 : decode cX3_goesOn 159 = .ok (.ireturn, 1) := by decide +kernel
theorem dX3_goesOn_160 : decode cX3_goesOn 160 = .ok (.aload_n 0, 1) := by decide +kernel
theorem dX3_goesOn_161 : decode cX3_goesOn 161 = .ok (.iload_n 1, 1) := by decide +kernel
theorem dX3_goesOn_162 : decode cX3_goesOn 162 = .ok (.aload_n 2, 1) := by decide +kernel
theorem dX3_goesOn_163 : decode cX3_goesOn 163 = .ok (.invokevirtual 36, 3) := by decide +kernel
theorem dX3_goesOn_166 : decode cX3_goesOn 166 = .ok (.ireturn, 1) := by decide +kernel
theorem dX3_goesOn_167 : decode cX3_goesOn 167 = .ok (.aload_n 0, 1) := by decide +kernel
theorem dX3_goesOn_168 : decode cX3_goesOn 168 = .ok (.iload_n 1, 1) := by decide +kernel
theorem dX3_goesOn_169 : decode cX3_goesOn 169 = .ok (.aload_n 2, 1) := by decide +kernel
theorem dX3_goesOn_170 : decode cX3_goesOn 170 = .ok (.invokevirtual 39, 3) := by decide +kernel
theorem dX3_goesOn_173 : decode cX3_goesOn 173 = .ok (.ireturn, 1) := by decide +kernel
theorem dX3_goesOnInLeft_0 : decode cX3_goesOnInLeft 0 = .ok (.aload_n 2, 1) := by decide +kernel
theorem dX3_goesOnInLeft_1 : decode cX3_goesOnInLeft 1 = .ok (.getfield 30, 3) := by decide +kernel
theorem dX3_goesOnInLeft_4 : decode cX3_goesOnInLeft 4 = .ok (.istore_n 3, 1) := by decide +kernel
theorem dX3_goesOnInLeft_5 : decode cX3_goesOnInLeft 5 = .ok (.iload_n 3, 1) := by decide +kernel
theorem dX3_goesOnInLeft_6 : decode cX3_goesOnInLeft 6 = .ok (.bipush 7, 2) := by decide +kernel
theorem dX3_goesOnInLeft_8 : decode cX3_goesOnInLeft 8 = .ok (.if_icmp .lt 5, 3) := by decide +kernel
theorem dX3_goesOnInLeft_11 : decode cX3_goesOnInLeft 11 = .ok (.iconst 0, 1) := by decide +kernel
theorem dX3_goesOnInLeft_12 : decode cX3_goesOnInLeft 12 = .ok (.ireturn, 1) := by decide +kernel
theorem dX3_goesOnInLeft_13 : decode cX3_goesOnInLeft 13 = .ok (.aload_n 0, 1) := by decide +kernel
theorem dX3_goesOnInLeft_14 : decode cX3_goesOnInLeft 14 = .ok (.getfield 16, 3) := by decide +kernel
theorem dX3_goesOnInLeft_17 : decode cX3_goesOnInLeft 17 = .ok (.iconst 2, 1) := by decide +kernel
theorem dX3_goesOnInLeft_18 : decode cX3_goesOnInLeft 18 = .ok (.if_icmp .ne 35, 3) := by decide +kernel
theorem dX3_goesOnInLeft_21 : decode cX3_goesOnInLeft 21 = .ok (.aload_n 0, 1) := by decide +kernel
theorem dX3_goesOnInLeft_22 : decode cX3_goesOnInLeft 22 = .ok (.iconst 3, 1) := by decide +kernel
theorem dX3_goesOnInLeft_23 : decode cX3_goesOnInLeft 23 = .ok (.putfield 16, 3) := by decide +kernel
theorem dX3_goesOnInLeft_26 : decode cX3_goesOnInLeft 26 = .ok (.aload_n 2, 1) := by decide +kernel
theorem dX3_goesOnInLeft_27 : decode cX3_goesOnInLeft 27 = .ok (.getfield 42, 3) := by decide +kernel
theorem dX3_goesOnInLeft_30 : decode cX3_goesOnInLeft 30 = .ok (.iload_n 3, 1) := by decide +kernel
theorem dX3_goesOnInLeft_31 : decode cX3_goesOnInLeft 31 = .ok (.iload_n 1, 1) := by decide +kernel
theorem dX3_goesOnInLeft_32 : decode cX3_goesOnInLeft 32 = .ok (.invokestatic 45, 3) := by decide +kernel
theorem dX3_goesOnInLeft_35 : decode cX3_goesOnInLeft 35 = .ok (.iastore, 1) := by decide +kernel
theorem dX3_goesOnInLeft_36 : decode cX3_goesOnInLeft 36 = .ok (.aload_n 2, 1) := by decide +kernel
theorem dX3_goesOnInLeft_37 : decode cX3_goesOnInLeft 37 = .ok (.getfield 42, 3) := by decide +kernel
theorem dX3_goesOnInLeft_40 : decode cX3_goesOnInLeft 40 = .ok (.iload_n 3, 1) := by decide +kernel
theorem dX3_goesOnInLeft_41 : decode cX3_goesOnInLeft 41 = .ok (.iaload, 1) := by decide +kernel
theorem dX3_goesOnInLeft_42 : decode cX3_goesOnInLeft 42 = .ok (.bipush (-9), 2) := by decide +kernel
theorem dX3_goesOnInLeft_44 : decode cX3_goesOnInLeft 44 = .ok (.if_icmp .eq 7, 3) := by decide +kernel
theorem dX3_goesOnInLeft_47 : decode cX3_goesOnInLeft 47 = .ok (.iconst 1, 1) := by decide +kernel
theorem dX3_goesOnInLeft_48 : decode cX3_goesOnInLeft 48 = .ok (.goto 4, 3) := by decide +kernel
theorem dX3_goesOnInLeft_51 : decode cX3_goesOnInLeft 51 = .ok (.iconst 0, 1) := by decide +kernel
theorem dX3_goesOnInLeft_52 : decode cX3_goesOnInLeft 52 = .ok (.ireturn, 1) := by decide +kernel
theorem dX3_goesOnInLeft_53 : decode cX3_goesOnInLeft 53 = .ok (.aload_n 0, 1) := by decide +kernel
theorem dX3_goesOnInLeft_54 : decode cX3_goesOnInLeft 54 = .ok (.getfield 16, 3) := by decide +kernel
theorem dX3_goesOnInLeft_57 : decode cX3_goesOnInLeft 57 = .ok (.iconst 3, 1) := by decide +kernel
theorem dX3_goesOnInLeft_58 : decode cX3_goesOnInLeft 58 = .ok (.if_icmp .ne 23, 3) := by decide +kernel
theorem dX3_goesOnInLeft_61 : decode cX3_goesOnInLeft 61 = .ok (.aload_n 0, 1) := by decide +kernel
theorem dX3_goesOnInLeft_62 : decode cX3_goesOnInLeft 62 = .ok (.iconst 4, 1) := by decide +kernel
theorem dX3_goesOnInLeft_63 : decode cX3_goesOnInLeft 63 = .ok (.putfield 16, 3) := by decide +kernel
theorem dX3_goesOnInLeft_66 : decode cX3_goesOnInLeft 66 = .ok (.aload_n 2, 1) := by decide +kernel
theorem dX3_goesOnInLeft_67 : decode cX3_goesOnInLeft 67 = .ok (.getfield 49, 3) := by decide +kernel
theorem dX3_goesOnInLeft_70 : decode cX3_goesOnInLeft 70 = .ok (.iload_n 3, 1) := by decide +kernel
theorem dX3_goesOnInLeft_71 : decode cX3_goesOnInLeft 71 = .ok (.iload_n 1, 1) := by decide +kernel
theorem dX3_goesOnInLeft_72 : decode cX3_goesOnInLeft 72 = .ok (.bipush 48, 2) := by decide +kernel
theorem dX3_goesOnInLeft_74 : decode cX3_goesOnInLeft 74 = .ok (.isub, 1) := by decide +kernel
theorem dX3_goesOnInLeft_75 : decode cX3_goesOnInLeft 75 = .ok (.iastore, 1) := by decide +kernel
theorem dX3_goesOnInLeft_76 : decode cX3_goesOnInLeft 76 = .ok (.iload_n 1, 1) := by decide +kernel
theorem dX3_goesOnInLeft_77 : decode cX3_goesOnInLeft 77 = .ok (.invokestatic 52, 3) := by decide +kernel
theorem dX3_goesOnInLeft_80 : decode cX3_goesOnInLeft 80 = .ok (.ireturn, 1) := by decide +kernel
theorem dX3_goesOnInLeft_81 : decode cX3_goesOnInLeft 81 = .ok (.aload_n 0, 1) := by decide +kernel
theorem dX3_goesOnInLeft_82 : decode cX3_goesOnInLeft 82 = .ok (.iconst 5, 1) := by decide +kernel
theorem dX3_goesOnInLeft_83 : decode cX3_goesOnInLeft 83 = .ok (.putfield 16, 3) := by decide +kernel
theorem dX3_goesOnInLeft_86 : decode cX3_goesOnInLeft 86 = .ok (.aload_n 2, 1) := by decide +kernel
theorem dX3_goesOnInLeft_87 : decode cX3_goesOnInLeft 87 = .ok (.getfield 56, 3) := by decide +kernel
theorem dX3_goesOnInLeft_90 : decode cX3_goesOnInLeft 90 = .ok (.iload_n 3, 1) := by decide +kernel
theorem dX3_goesOnInLeft_91 : decode cX3_goesOnInLeft 91 = .ok (.iload_n 1, 1) := by decide +kernel
theorem dX3_goesOnInLeft_92 : decode cX3_goesOnInLeft 92 = .ok (.invokestatic 59, 3) := by decide +kernel
theorem dX3_goesOnInLeft_95 : decode cX3_goesOnInLeft 95 = .ok (.iastore, 1) := by decide +kernel
theorem dX3_goesOnInLeft_96 : decode cX3_goesOnInLeft 96 = .ok (.aload_n 2, 1) := by decide +kernel
theorem dX3_goesOnInLeft_97 : decode cX3_goesOnInLeft 97 = .ok (.dup, 1) := by decide +kernel
theorem dX3_goesOnInLeft_98 : decode cX3_goesOnInLeft 98 = .ok (.getfield 30, 3) := by decide +kernel
theorem dX3_goesOnInLeft_101 : decode cX3_goesOnInLeft 101 = .ok (.iconst 1, 1) := by decide +kernel
theorem dX3_goesOnInLeft_102 : decode cX3_goesOnInLeft 102 = .ok (.iadd, 1) := by decide +kernel
theorem dX3_goesOnInLeft_103 : decode cX3_goesOnInLeft 103 = .ok (.putfield 30, 3) := by decide +kernel
theorem dX3_goesOnInLeft_106 : decode cX3_goesOnInLeft 106 = .ok (.aload_n 2, 1) := by decide +kernel
theorem dX3_goesOnInLeft_107 : decode cX3_goesOnInLeft 107 = .ok (.getfield 56, 3) := by decide +kernel
theorem dX3_goesOnInLeft_110 : decode cX3_goesOnInLeft 110 = .ok (.iload_n 3, 1) := by decide +kernel
theorem dX3_goesOnInLeft_111 : decode cX3_goesOnInLeft 111 = .ok (.iaload, 1) := by decide +kernel
theorem dX3_goesOnInLeft_112 : decode cX3_goesOnInLeft 112 = .ok (.bipush (-9), 2) := by decide +kernel
theorem dX3_goesOnInLeft_114 : decode cX3_goesOnInLeft 114 = .ok (.if_icmp .eq 7, 3) := by decide +kernel
theorem dX3_goesOnInLeft_117 : decode cX3_goesOnInLeft 117 = .ok (.iconst 1, 1) := by decide +kernel
theorem dX3_goesOnInLeft_118 : decode cX3_goesOnInLeft 118 = .ok (.goto 4, 3) := by decide +kernel
theorem dX3_goesOnInLeft_121 : decode cX3_goesOnInLeft 121 = .ok (.iconst 0, 1) := by decide +kernel
theorem dX3_goesOnInLeft_122 : decode cX3_goesOnInLeft 122 = .ok (.ireturn, 1) := by decide +kernel
theorem dX3_goesOnInRight_0 : decode cX3_goesOnInRight 0 = .ok (.aload_n 2, 1) := by decide +kernel
theorem dX3_goesOnInRight_1 : decode cX3_goesOnInRight 1 = .ok (.getfield 33, 3) := by decide +kernel
theorem dX3_goesOnInRight_4 : decode cX3_goesOnInRight 4 = .ok (.istore_n 3, 1) := by decide +kernel
theorem dX3_goesOnInRight_5 : decode cX3_goesOnInRight 5 = .ok (.iload_n 3, 1) := by decide +kernel
theorem dX3_goesOnInRight_6 : decode cX3_goesOnInRight 6 = .ok (.bipush 7, 2) := by decide +kernel
theorem dX3_goesOnInRight_8 : decode cX3_goesOnInRight 8 = .ok (.if_icmp .lt 5, 3) := by decide +kernel
theorem dX3_goesOnInRight_11 : decode cX3_goesOnInRight 11 = .ok (.iconst 0, 1) := by decide +kernel
theorem dX3_goesOnInRight_12 : decode cX3_goesOnInRight 12 = .ok (.ireturn, 1) := by decide +kernel
theorem dX3_goesOnInRight_13 : decode cX3_goesOnInRight 13 = .ok (.aload_n 0, 1) := by decide +kernel
theorem dX3_goesOnInRight_14 : decode cX3_goesOnInRight 14 = .ok (.getfield 16, 3) := by decide +kernel
theorem dX3_goesOnInRight_17 : decode cX3_goesOnInRight 17 = .ok (.bipush 6, 2) := by decide +kernel
theorem dX3_goesOnInRight_19 : decode cX3_goesOnInRight 19 = .ok (.if_icmp .ne 24, 3) := by decide +kernel
theorem dX3_goesOnInRight_22 : decode cX3_goesOnInRight 22 = .ok (.aload_n 0, 1) := by decide +kernel
theorem dX3_goesOnInRight_23 : decode cX3_goesOnInRight 23 = .ok (.bipush 7, 2) := by decide +kernel
theorem dX3_goesOnInRight_25 : decode cX3_goesOnInRight 25 = .ok (.putfield 16, 3) := by decide +kernel
theorem dX3_goesOnInRight_28 : decode cX3_goesOnInRight 28 = .ok (.aload_n 2, 1) := by decide +kernel
theorem dX3_goesOnInRight_29 : decode cX3_goesOnInRight 29 = .ok (.getfield 62, 3) := by decide +kernel
theorem dX3_goesOnInRight_32 : decode cX3_goesOnInRight 32 = .ok (.iload_n 3, 1) := by decide +kernel
theorem dX3_goesOnInRight_33 : decode cX3_goesOnInRight 33 = .ok (.iload_n 1, 1) := by decide +kernel
theorem dX3_goesOnInRight_34 : decode cX3_goesOnInRight 34 = .ok (.bipush 48, 2) := by decide +kernel
theorem dX3_goesOnInRight_36 : decode cX3_goesOnInRight 36 = .ok (.isub, 1) := by decide +kernel
theorem dX3_goesOnInRight_37 : decode cX3_goesOnInRight 37 = .ok (.iastore, 1) := by decide +kernel
theorem dX3_goesOnInRight_38 : decode cX3_goesOnInRight 38 = .ok (.iload_n 1, 1) := by decide +kernel
theorem dX3_goesOnInRight_39 : decode cX3_goesOnInRight 39 = .ok (.invokestatic 52, 3) := by decide +kernel
theorem dX3_goesOnInRight_42 : decode cX3_goesOnInRight 42 = .ok (.ireturn, 1) := by decide +kernel
theorem dX3_goesOnInRight_43 : decode cX3_goesOnInRight 43 = .ok (.aload_n 0, 1) := by decide +kernel
theorem dX3_goesOnInRight_44 : decode cX3_goesOnInRight 44 = .ok (.bipush 8, 2) := by decide +kernel
theorem dX3_goesOnInRight_46 : decode cX3_goesOnInRight 46 = .ok (.putfield 16, 3) := by decide +kernel
theorem dX3_goesOnInRight_49 : decode cX3_goesOnInRight 49 = .ok (.aload_n 2, 1) := by decide +kernel
theorem dX3_goesOnInRight_50 : decode cX3_goesOnInRight 50 = .ok (.getfield 65, 3) := by decide +kernel
theorem dX3_goesOnInRight_53 : decode cX3_goesOnInRight 53 = .ok (.iload_n 3, 1) := by decide +kernel
theorem dX3_goesOnInRight_54 : decode cX3_goesOnInRight 54 = .ok (.iload_n 1, 1) := by decide +kernel
theorem dX3_goesOnInRight_55 : decode cX3_goesOnInRight 55 = .ok (.invokestatic 59, 3) := by decide +kernel
theorem dX3_goesOnInRight_58 : decode cX3_goesOnInRight 58 = .ok (.iastore, 1) := by decide +kernel
theorem dX3_goesOnInRight_59 : decode cX3_goesOnInRight 59 = .ok (.aload_n 2, 1) := by decide +kernel
theorem dX3_goesOnInRight_60 : decode cX3_goesOnInRight 60 = .ok (.dup, 1) := by decide +kernel
theorem dX3_goesOnInRight_61 : decode cX3_goesOnInRight 61 = .ok (.getfield 33, 3) := by decide +kernel
theorem dX3_goesOnInRight_64 : decode cX3_goesOnInRight 64 = .ok (.iconst 1, 1) := by decide +kernel
theorem dX3_goesOnInRight_65 : decode cX3_goesOnInRight 65 = .ok (.iadd, 1) := by decide +kernel
theorem dX3_goesOnInRight_66 : decode cX3_goesOnInRight 66 = .ok (.putfield 33, 3) := by decide +kernel
theorem dX3_goesOnInRight_69 : decode cX3_goesOnInRight 69 = .ok (.aload_n 2, 1) := by decide +kernel
theorem dX3_goesOnInRight_70 : decode cX3_goesOnInRight 70 = .ok (.getfield 65, 3) := by decide +kernel
theorem dX3_goesOnInRight_73 : decode cX3_goesOnInRight 73 = .ok (.iload_n 3, 1) := by decide +kernel
theorem dX3_goesOnInRight_74 : decode cX3_goesOnInRight 74 = .ok (.iaload, 1) := by decide +kernel
theorem dX3_goesOnInRight_75 : decode cX3_goesOnInRight 75 = .ok (.bipush (-9), 2) := by decide +kernel
theorem dX3_goesOnInRight_77 : decode cX3_goesOnInRight 77 = .ok (.if_icmp .eq 7, 3) := by decide +kernel
theorem dX3_goesOnInRight_80 : decode cX3_goesOnInRight 80 = .ok (.iconst 1, 1) := by decide +kernel
theorem dX3_goesOnInRight_81 : decode cX3_goesOnInRight 81 = .ok (.goto 4, 3) := by decide +kernel
theorem dX3_goesOnInRight_84 : decode cX3_goesOnInRight 84 = .ok (.iconst 0, 1) := by decide +kernel
theorem dX3_goesOnInRight_85 : decode cX3_goesOnInRight 85 = .ok (.ireturn, 1) := by decide +kernel
theorem dX3_isDigit_0 : decode cX3_isDigit 0 = .ok (.iload_n 0, 1) := by decide +kernel
theorem dX3_isDigit_1 : decode cX3_isDigit 1 = .ok (.bipush 49, 2) := by decide +kernel
theorem dX3_isDigit_3 : decode cX3_isDigit 3 = .ok (.if_icmp .lt 13, 3) := by decide +kernel
theorem dX3_isDigit_6 : decode cX3_isDigit 6 = .ok (.iload_n 0, 1) := by decide +kernel
theorem dX3_isDigit_7 : decode cX3_isDigit 7 = .ok (.bipush 57, 2) := by decide +kernel
theorem dX3_isDigit_9 : decode cX3_isDigit 9 = .ok (.if_icmp .gt 7, 3) := by decide +kernel
theorem dX3_isDigit_12 : decode cX3_isDigit 12 = .ok (.iconst 1, 1) := by decide +kernel
theorem dX3_isDigit_13 : decode cX3_isDigit 13 = .ok (.goto 4, 3) := by decide +kernel
theorem dX3_isDigit_16 : decode cX3_isDigit 16 = .ok (.iconst 0, 1) := by decide +kernel
theorem dX3_isDigit_17 : decode cX3_isDigit 17 = .ok (.ireturn, 1) := by decide +kernel
theorem dX3_kindOf_0 : decode cX3_kindOf 0 = .ok (.iload_n 0, 1) := by decide +kernel
theorem dX3_kindOf_1 : decode cX3_kindOf 1 = .ok (.lookupswitch 41 #[(68, 39), (76, 37), (80, 35)], 35) := by decide +kernel
theorem dX3_kindOf_36 : decode cX3_kindOf 36 = .ok (.iconst 0, 1) := by decide +kernel
theorem dX3_kindOf_37 : decode cX3_kindOf 37 = .ok (.ireturn, 1) := by decide +kernel
theorem dX3_kindOf_38 : decode cX3_kindOf 38 = .ok (.iconst 1, 1) := by decide +kernel
theorem dX3_kindOf_39 : decode cX3_kindOf 39 = .ok (.ireturn, 1) := by decide +kernel
theorem dX3_kindOf_40 : decode cX3_kindOf 40 = .ok (.iconst 2, 1) := by decide +kernel
theorem dX3_kindOf_41 : decode cX3_kindOf 41 = .ok (.ireturn, 1) := by decide +kernel
theorem dX3_kindOf_42 : decode cX3_kindOf 42 = .ok (.bipush (-9), 2) := by decide +kernel
theorem dX3_kindOf_44 : decode cX3_kindOf 44 = .ok (.ireturn, 1) := by decide +kernel
theorem dX3_anchorOf_0 : decode cX3_anchorOf 0 = .ok (.iload_n 0, 1) := by decide +kernel
theorem dX3_anchorOf_1 : decode cX3_anchorOf 1 = .ok (.bipush 45, 2) := by decide +kernel
theorem dX3_anchorOf_3 : decode cX3_anchorOf 3 = .ok (.if_icmp .ne 5, 3) := by decide +kernel
theorem dX3_anchorOf_6 : decode cX3_anchorOf 6 = .ok (.iconst 4, 1) := by decide +kernel
theorem dX3_anchorOf_7 : decode cX3_anchorOf 7 = .ok (.ireturn, 1) := by decide +kernel
theorem dX3_anchorOf_8 : decode cX3_anchorOf 8 = .ok (.iload_n 0, 1) := by decide +kernel
theorem dX3_anchorOf_9 : decode cX3_anchorOf 9 = .ok (.bipush 97, 2) := by decide +kernel
theorem dX3_anchorOf_11 : decode cX3_anchorOf 11 = .ok (.if_icmp .lt 16, 3) := by decide +kernel
theorem dX3_anchorOf_14 : decode cX3_anchorOf 14 = .ok (.iload_n 0, 1) := by decide +kernel
theorem dX3_anchorOf_15 : decode cX3_anchorOf 15 = .ok (.bipush 100, 2) := by decide +kernel
theorem dX3_anchorOf_17 : decode cX3_anchorOf 17 = .ok (.if_icmp .gt 10, 3) := by decide +kernel
theorem dX3_anchorOf_20 : decode cX3_anchorOf 20 = .ok (.iload_n 0, 1) := by decide +kernel
theorem dX3_anchorOf_21 : decode cX3_anchorOf 21 = .ok (.bipush 97, 2) := by decide +kernel
theorem dX3_anchorOf_23 : decode cX3_anchorOf 23 = .ok (.isub, 1) := by decide +kernel
theorem dX3_anchorOf_24 : decode cX3_anchorOf 24 = .ok (.goto 5, 3) := by decide +kernel
theorem dX3_anchorOf_27 : decode cX3_anchorOf 27 = .ok (.bipush (-9), 2) := by decide +kernel
theorem dX3_anchorOf_29 : decode cX3_anchorOf 29 = .ok (.ireturn, 1) := by decide +kernel
theorem dX4_init_0 : decode cX4_init 0 = .ok (.aload_n 0, 1) := by decide +kernel
theorem dX4_init_1 : decode cX4_init 1 = .ok (.invokespecial 5, 3) := by decide +kernel
theorem dX4_init_4 : decode cX4_init 4 = .ok (.aload_n 0, 1) := by decide +kernel
theorem dX4_init_5 : decode cX4_init 5 = .ok (.iconst 4, 1) := by decide +kernel
theorem dX4_init_6 : decode cX4_init 6 = .ok (.anewarray 11, 3) := by decide +kernel
theorem dX4_init_9 : decode cX4_init 9 = .ok (.putfield 13, 3) := by decide +kernel
theorem dX4_init_12 : decode cX4_init 12 = .ok (.aload_n 0, 1) := by decide +kernel
theorem dX4_init_13 : decode cX4_init 13 = .ok (.new 17, 3) := by decide +kernel
theorem dX4_init_16 : decode cX4_init 16 = .ok (.dup, 1) := by decide +kernel
theorem dX4_init_17 : decode cX4_init 17 = .ok (.invokespecial 19, 3) := by decide +kernel
theorem dX4_init_20 : decode cX4_init 20 = .ok (.putfield 20, 3) := by decide +kernel
theorem dX4_init_23 : decode cX4_init 23 = .ok (.aload_n 0, 1) := by decide +kernel
theorem dX4_init_24 : decode cX4_init 24 = .ok (.new 17, 3) := by decide +kernel
theorem dX4_init_27 : decode cX4_init 27 = .ok (.dup, 1) := by decide +kernel
theorem dX4_init_28 : decode cX4_init 28 = .ok (.invokespecial 19, 3) := by decide +kernel
theorem dX4_init_31 : decode cX4_init 31 = .ok (.putfield 24, 3) := by decide +kernel
theorem dX4_init_34 : decode cX4_init 34 = .ok (.aload_n 0, 1) := by decide +kernel
theorem dX4_init_35 : decode cX4_init 35 = .ok (.new 27, 3) := by decide +kernel
theorem dX4_init_38 : decode cX4_init 38 = .ok (.dup, 1) := by decide +kernel
theorem dX4_init_39 : decode cX4_init 39 = .ok (.invokespecial 29, 3) := by decide +kernel
theorem dX4_init_42 : decode cX4_init 42 = .ok (.putfield 30, 3) := by decide +kernel
theorem dX4_init_45 : decode cX4_init 45 = .ok (.aload_n 0, 1) := by decide +kernel
theorem dX4_init_46 : decode cX4_init 46 = .ok (.new 27, 3) := by decide +kernel
theorem dX4_init_49 : decode cX4_init 49 = .ok (.dup, 1) := by decide +kernel
theorem dX4_init_50 : decode cX4_init 50 = .ok (.invokespecial 29, 3) := by decide +kernel
theorem dX4_init_53 : decode cX4_init 53 = .ok (.putfield 34, 3) := by decide +kernel
theorem dX4_init_56 : decode cX4_init 56 = .ok (.aload_n 0, 1) := by decide +kernel
theorem dX4_init_57 : decode cX4_init 57 = .ok (.new 37, 3) := by decide +kernel
theorem dX4_init_60 : decode cX4_init 60 = .ok (.dup, 1) := by decide +kernel
theorem dX4_init_61 : decode cX4_init 61 = .ok (.invokespecial 39, 3) := by decide +kernel
theorem dX4_init_64 : decode cX4_init 64 = .ok (.putfield 40, 3) := by decide +kernel
theorem dX4_init_67 : decode cX4_init 67 = .ok (.aload_n 0, 1) := by decide +kernel
theorem dX4_init_68 : decode cX4_init 68 = .ok (.bipush 8, 2) := by decide +kernel
theorem dX4_init_70 : decode cX4_init 70 = .ok (.newarray .int, 2) := by decide +kernel
theorem dX4_init_72 : decode cX4_init 72 = .ok (.putfield 44, 3) := by decide +kernel
theorem dX4_init_75 : decode cX4_init 75 = .ok (.aload_n 0, 1) := by decide +kernel
theorem dX4_init_76 : decode cX4_init 76 = .ok (.bipush 8, 2) := by decide +kernel
theorem dX4_init_78 : decode cX4_init 78 = .ok (.newarray .int, 2) := by decide +kernel
theorem dX4_init_80 : decode cX4_init 80 = .ok (.putfield 48, 3) := by decide +kernel
theorem dX4_init_83 : decode cX4_init 83 = .ok (.iconst 0, 1) := by decide +kernel
theorem dX4_init_84 : decode cX4_init 84 = .ok (.istore_n 1, 1) := by decide +kernel
theorem dX4_init_85 : decode cX4_init 85 = .ok (.iload_n 1, 1) := by decide +kernel
theorem dX4_init_86 : decode cX4_init 86 = .ok (.iconst 4, 1) := by decide +kernel
theorem dX4_init_87 : decode cX4_init 87 = .ok (.if_icmp .ge 22, 3) := by decide +kernel
theorem dX4_init_90 : decode cX4_init 90 = .ok (.aload_n 0, 1) := by decide +kernel
theorem dX4_init_91 : decode cX4_init 91 = .ok (.getfield 13, 3) := by decide +kernel
theorem dX4_init_94 : decode cX4_init 94 = .ok (.iload_n 1, 1) := by decide +kernel
theorem dX4_init_95 : decode cX4_init 95 = .ok (.new 11, 3) := by decide +kernel
theorem dX4_init_98 : decode cX4_init 98 = .ok (.dup, 1) := by decide +kernel
theorem dX4_init_99 : decode cX4_init 99 = .ok (.invokespecial 51, 3) := by decide +kernel
theorem dX4_init_102 : decode cX4_init 102 = .ok (.aastore, 1) := by decide +kernel
theorem dX4_init_103 : decode cX4_init 103 = .ok (.iinc 1 1, 3) := by decide +kernel
theorem dX4_init_106 : decode cX4_init 106 = .ok (.goto (-21), 3) := by decide +kernel
theorem dX4_init_109 : decode cX4_init 109 = .ok (.return_, 1) := by decide +kernel
theorem dX4_books_0 : decode cX4_books 0 = .ok (.aload_n 0, 1) := by decide +kernel
theorem dX4_books_1 : decode cX4_books 1 = .ok (.iconst 0, 1) := by decide +kernel
theorem dX4_books_2 : decode cX4_books 2 = .ok (.putfield 52, 3) := by decide +kernel
theorem dX4_books_5 : decode cX4_books 5 = .ok (.iload_n 1, 1) := by decide +kernel
theorem dX4_books_6 : decode cX4_books 6 = .ok (.invokestatic 56, 3) := by decide +kernel
theorem dX4_books_9 : decode cX4_books 9 = .ok (.ifCond .ne 5, 3) := by decide +kernel
theorem dX4_books_12 : decode cX4_books 12 = .ok (.iconst (-1), 1) := by decide +kernel
theorem dX4_books_13 : decode cX4_books 13 = .ok (.ireturn, 1) := by decide +kernel
theorem dX4_books_14 : decode cX4_books 14 = .ok (.iload_n 2, 1) := by decide +kernel
theorem dX4_books_15 : decode cX4_books 15 = .ok (.invokestatic 60, 3) := by decide +kernel
theorem dX4_books_18 : decode cX4_books 18 = .ok (.ifCond .ne 6, 3) := by decide +kernel
theorem dX4_books_21 : decode cX4_books 21 = .ok (.bipush (-2), 2) := by decide +kernel
theorem dX4_books_23 : decode cX4_books 23 = .ok (.ireturn, 1) := by decide +kernel
theorem dX4_books_24 : decode cX4_books 24 = .ok (.aload_n 0, 1) := by decide +kernel
theorem dX4_books_25 : decode cX4_books 25 = .ok (.getfield 13, 3) := by decide +kernel
theorem dX4_books_28 : decode cX4_books 28 = .ok (.iload_n 1, 1) := by decide +kernel
theorem dX4_books_29 : decode cX4_books 29 = .ok (.aaload, 1) := by decide +kernel
theorem dX4_books_30 : decode cX4_books 30 = .ok (.astore 5, 2) := by decide +kernel
theorem dX4_books_32 : decode cX4_books 32 = .ok (.aload 5, 2) := by decide +kernel
theorem dX4_books_34 : decode cX4_books 34 = .ok (.iload_n 2, 1) := by decide +kernel
theorem dX4_books_35 : decode cX4_books 35 = .ok (.invokevirtual 63, 3) := by decide +kernel
theorem dX4_books_38 : decode cX4_books 38 = .ok (.istore 6, 2) := by decide +kernel
theorem dX4_books_40 : decode cX4_books 40 = .ok (.iload 6, 2) := by decide +kernel
theorem dX4_books_42 : decode cX4_books 42 = .ok (.ifCond .ne 11, 3) := by decide +kernel
theorem dX4_books_45 : decode cX4_books 45 = .ok (.iload 4, 2) := by decide +kernel
theorem dX4_books_47 : decode cX4_books 47 = .ok (.ifCond .ge 6, 3) := by decide +kernel
theorem dX4_books_50 : decode cX4_books 50 = .ok (.iconst 4, 1) := by decide +kernel
theorem dX4_books_51 : decode cX4_books 51 = .ok (.istore 6, 2) := by decide +kernel
theorem dX4_books_53 : decode cX4_books 53 = .ok (.iload 6, 2) := by decide +kernel
theorem dX4_books_55 : decode cX4_books 55 = .ok (.ifCond .ne 17, 3) := by decide +kernel
theorem dX4_books_58 : decode cX4_books 58 = .ok (.aload 5, 2) := by decide +kernel
theorem dX4_books_60 : decode cX4_books 60 = .ok (.iload_n 3, 1) := by decide +kernel
theorem dX4_books_61 : decode cX4_books 61 = .ok (.iload 4, 2) := by decide +kernel
theorem dX4_books_63 : decode cX4_books 63 = .ok (.invokevirtual 67, 3) := by decide +kernel
theorem dX4_books_66 : decode cX4_books 66 = .ok (.ifCond .ne 6, 3) := by decide +kernel
theorem dX4_books_69 : decode cX4_books 69 = .ok (.iconst 3, 1) := by decide +kernel
theorem dX4_books_70 : decode cX4_books 70 = .ok (.istore 6, 2) := by decide +kernel
theorem dX4_books_72 : decode cX4_books 72 = .ok (.iload 6, 2) := by decide +kernel
theorem dX4_books_74 : decode cX4_books 74 = .ok (.ifCond .eq 10, 3) := by decide +kernel
theorem dX4_books_77 : decode cX4_books 77 = .ok (.aload_n 0, 1) := by decide +kernel
theorem dX4_books_78 : decode cX4_books 78 = .ok (.iload 6, 2) := by decide +kernel
theorem dX4_books_80 : decode cX4_books 80 = .ok (.invokevirtual 71, 3) := by decide +kernel
theorem dX4_books_83 : decode cX4_books 83 = .ok (.ireturn, 1) := by decide +kernel
theorem dX4_books_84 : decode cX4_books 84 = .ok (.aload_n 0, 1) := by decide +kernel
theorem dX4_books_85 : decode cX4_books 85 = .ok (.getfield 40, 3) := by decide +kernel
theorem dX4_books_88 : decode cX4_books 88 = .ok (.aload 5, 2) := by decide +kernel
theorem dX4_books_90 : decode cX4_books 90 = .ok (.iload_n 3, 1) := by decide +kernel
theorem dX4_books_91 : decode cX4_books 91 = .ok (.iload 4, 2) := by decide +kernel
theorem dX4_books_93 : decode cX4_books 93 = .ok (.aload_n 0, 1) := by decide +kernel
theorem dX4_books_94 : decode cX4_books 94 = .ok (.getfield 24, 3) := by decide +kernel
theorem dX4_books_97 : decode cX4_books 97 = .ok (.invokevirtual 74, 3) := by decide +kernel
theorem dX4_books_100 : decode cX4_books 100 = .ok (.istore 7, 2) := by decide +kernel
theorem dX4_books_102 : decode cX4_books 102 = .ok (.iload 7, 2) := by decide +kernel
theorem dX4_books_104 : decode cX4_books 104 = .ok (.bipush (-9), 2) := by decide +kernel
theorem dX4_books_106 : decode cX4_books 106 = .ok (.if_icmp .eq 9, 3) := by decide +kernel
theorem dX4_books_109 : decode cX4_books 109 = .ok (.bipush (-100), 2) := by decide +kernel
theorem dX4_books_111 : decode cX4_books 111 = .ok (.iload 7, 2) := by decide +kernel
theorem dX4_books_113 : decode cX4_books 113 = .ok (.isub, 1) := by decide +kernel
theorem dX4_books_114 : decode cX4_books 114 = .ok (.ireturn, 1) := by decide +kernel
theorem dX4_books_115 : decode cX4_books 115 = .ok (.aload_n 0, 1) := by decide +kernel
theorem dX4_books_116 : decode cX4_books 116 = .ok (.getfield 20, 3) := by decide +kernel
theorem dX4_books_119 : decode cX4_books 119 = .ok (.aload_n 0, 1) := by decide +kernel
theorem dX4_books_120 : decode cX4_books 120 = .ok (.getfield 24, 3) := by decide +kernel
theorem dX4_books_123 : decode cX4_books 123 = .ok (.invokevirtual 78, 3) := by decide +kernel
theorem dX4_books_126 : decode cX4_books 126 = .ok (.aload_n 0, 1) := by decide +kernel
theorem dX4_books_127 : decode cX4_books 127 = .ok (.iconst 0, 1) := by decide +kernel
theorem dX4_books_128 : decode cX4_books 128 = .ok (.putfield 82, 3) := by decide +kernel
theorem dX4_books_131 : decode cX4_books 131 = .ok (.aload_n 0, 1) := by decide +kernel
theorem dX4_books_132 : decode cX4_books 132 = .ok (.iconst 0, 1) := by decide +kernel
theorem dX4_books_133 : decode cX4_books 133 = .ok (.putfield 85, 3) := by decide +kernel
theorem dX4_books_136 : decode cX4_books 136 = .ok (.aload_n 0, 1) := by decide +kernel
theorem dX4_books_137 : decode cX4_books 137 = .ok (.getfield 20, 3) := by decide +kernel
theorem dX4_books_140 : decode cX4_books 140 = .ok (.getfield 89, 3) := by decide +kernel
theorem dX4_books_143 : decode cX4_books 143 = .ok (.aload_n 0, 1) := by decide +kernel
theorem dX4_books_144 : decode cX4_books 144 = .ok (.getfield 20, 3) := by decide +kernel
theorem dX4_books_147 : decode cX4_books 147 = .ok (.getfield 92, 3) := by decide +kernel
theorem dX4_books_150 : decode cX4_books 150 = .ok (.iadd, 1) := by decide +kernel
theorem dX4_books_151 : decode cX4_books 151 = .ok (.ireturn, 1) := by decide +kernel
theorem dX4_ofLeft_0 : decode cX4_ofLeft 0 = .ok (.aload_n 0, 1) := by decide +kernel
theorem dX4_ofLeft_1 : decode cX4_ofLeft 1 = .ok (.getfield 20, 3) := by decide +kernel
theorem dX4_ofLeft_4 : decode cX4_ofLeft 4 = .ok (.iload_n 1, 1) := by decide +kernel
theorem dX4_ofLeft_5 : decode cX4_ofLeft 5 = .ok (.invokevirtual 95, 3) := by decide +kernel
theorem dX4_ofLeft_8 : decode cX4_ofLeft 8 = .ok (.ifCond .ne 5, 3) := by decide +kernel
theorem dX4_ofLeft_11 : decode cX4_ofLeft 11 = .ok (.iconst (-1), 1) := by decide +kernel
theorem dX4_ofLeft_12 : decode cX4_ofLeft 12 = .ok (.ireturn, 1) := by decide +kernel
theorem dX4_ofLeft_13 : decode cX4_ofLeft 13 = .ok (.iload_n 2, 1) := by decide +kernel
theorem dX4_ofLeft_14 : decode cX4_ofLeft 14 = .ok (.tableswitch 82 0 4 #[34, 44, 54, 63, 73], 34) := by decide +kernel
theorem dX4_ofLeft_48 : decode cX4_ofLeft 48 = .ok (.aload_n 0, 1) := by decide +kernel
theorem dX4_ofLeft_49 : decode cX4_ofLeft 49 = .ok (.getfield 20, 3) := by decide +kernel
theorem dX4_ofLeft_52 : decode cX4_ofLeft 52 = .ok (.getfield 98, 3) := by decide +kernel
theorem dX4_ofLeft_55 : decode cX4_ofLeft 55 = .ok (.iload_n 1, 1) := by decide +kernel
theorem dX4_ofLeft_56 : decode cX4_ofLeft 56 = .ok (.iaload, 1) := by decide +kernel
theorem dX4_ofLeft_57 : decode cX4_ofLeft 57 = .ok (.ireturn, 1) := by decide +kernel
theorem dX4_ofLeft_58 : decode cX4_ofLeft 58 = .ok (.aload_n 0, 1) := by decide +kernel
theorem dX4_ofLeft_59 : decode cX4_ofLeft 59 = .ok (.getfield 20, 3) := by decide +kernel
theorem dX4_ofLeft_62 : decode cX4_ofLeft 62 = .ok (.getfield 101, 3) := by decide +kernel
theorem dX4_ofLeft_65 : decode cX4_ofLeft 65 = .ok (.iload_n 1, 1) := by decide +kernel
theorem dX4_ofLeft_66 : decode cX4_ofLeft 66 = .ok (.iaload, 1) := by decide +kernel
theorem dX4_ofLeft_67 : decode cX4_ofLeft 67 = .ok (.ireturn, 1) := by decide +kernel
theorem dX4_ofLeft_68 : decode cX4_ofLeft 68 = .ok (.aload_n 0, 1) := by decide +kernel
theorem dX4_ofLeft_69 : decode cX4_ofLeft 69 = .ok (.getfield 20, 3) := by decide +kernel
theorem dX4_ofLeft_72 : decode cX4_ofLeft 72 = .ok (.iload_n 1, 1) := by decide +kernel
theorem dX4_ofLeft_73 : decode cX4_ofLeft 73 = .ok (.invokevirtual 104, 3) := by decide +kernel
theorem dX4_ofLeft_76 : decode cX4_ofLeft 76 = .ok (.ireturn, 1) := by decide +kernel
theorem dX4_ofLeft_77 : decode cX4_ofLeft 77 = .ok (.aload_n 0, 1) := by decide +kernel
theorem dX4_ofLeft_78 : decode cX4_ofLeft 78 = .ok (.getfield 20, 3) := by decide +kernel
theorem dX4_ofLeft_81 : decode cX4_ofLeft 81 = .ok (.getfield 107, 3) := by decide +kernel
theorem dX4_ofLeft_84 : decode cX4_ofLeft 84 = .ok (.iload_n 1, 1) := by decide +kernel
theorem dX4_ofLeft_85 : decode cX4_ofLeft 85 = .ok (.iaload, 1) := by decide +kernel
theorem dX4_ofLeft_86 : decode cX4_ofLeft 86 = .ok (.ireturn, 1) := by decide +kernel
theorem dX4_ofLeft_87 : decode cX4_ofLeft 87 = .ok (.aload_n 0, 1) := by decide +kernel
theorem dX4_ofLeft_88 : decode cX4_ofLeft 88 = .ok (.invokevirtual 110, 3) := by decide +kernel
theorem dX4_ofLeft_91 : decode cX4_ofLeft 91 = .ok (.iload_n 1, 1) := by decide +kernel
theorem dX4_ofLeft_92 : decode cX4_ofLeft 92 = .ok (.invokevirtual 114, 3) := by decide +kernel
theorem dX4_ofLeft_95 : decode cX4_ofLeft 95 = .ok (.ireturn, 1) := by decide +kernel
theorem dX4_ofLeft_96 : decode cX4_ofLeft 96 = .ok (.bipush (-2), 2) := by decide +kernel
theorem dX4_ofLeft_98 : decode cX4_ofLeft 98 = .ok (.ireturn, 1) := by decide +kernel
theorem dX4_ofRight_0 : decode cX4_ofRight 0 = .ok (.aload_n 0, 1) := by decide +kernel
theorem dX4_ofRight_1 : decode cX4_ofRight 1 = .ok (.getfield 20, 3) := by decide +kernel
theorem dX4_ofRight_4 : decode cX4_ofRight 4 = .ok (.iload_n 1, 1) := by decide +kernel
theorem dX4_ofRight_5 : decode cX4_ofRight 5 = .ok (.invokevirtual 117, 3) := by decide +kernel
theorem dX4_ofRight_8 : decode cX4_ofRight 8 = .ok (.ifCond .ne 5, 3) := by decide +kernel
theorem dX4_ofRight_11 : decode cX4_ofRight 11 = .ok (.iconst (-1), 1) := by decide +kernel
theorem dX4_ofRight_12 : decode cX4_ofRight 12 = .ok (.ireturn, 1) := by decide +kernel
theorem dX4_ofRight_13 : decode cX4_ofRight 13 = .ok (.iload_n 2, 1) := by decide +kernel
theorem dX4_ofRight_14 : decode cX4_ofRight 14 = .ok (.tableswitch 55 0 2 #[26, 36, 46], 26) := by decide +kernel
theorem dX4_ofRight_40 : decode cX4_ofRight 40 = .ok (.aload_n 0, 1) := by decide +kernel
theorem dX4_ofRight_41 : decode cX4_ofRight 41 = .ok (.getfield 20, 3) := by decide +kernel
theorem dX4_ofRight_44 : decode cX4_ofRight 44 = .ok (.getfield 120, 3) := by decide +kernel
theorem dX4_ofRight_47 : decode cX4_ofRight 47 = .ok (.iload_n 1, 1) := by decide +kernel
theorem dX4_ofRight_48 : decode cX4_ofRight 48 = .ok (.iaload, 1) := by decide +kernel
theorem dX4_ofRight_49 : decode cX4_ofRight 49 = .ok (.ireturn, 1) := by decide +kernel
theorem dX4_ofRight_50 : decode cX4_ofRight 50 = .ok (.aload_n 0, 1) := by decide +kernel
theorem dX4_ofRight_51 : decode cX4_ofRight 51 = .ok (.getfield 20, 3) := by decide +kernel
theorem dX4_ofRight_54 : decode cX4_ofRight 54 = .ok (.getfield 123, 3) := by decide +kernel
theorem dX4_ofRight_57 : decode cX4_ofRight 57 = .ok (.iload_n 1, 1) := by decide +kernel
theorem dX4_ofRight_58 : decode cX4_ofRight 58 = .ok (.iaload, 1) := by decide +kernel
theorem dX4_ofRight_59 : decode cX4_ofRight 59 = .ok (.ireturn, 1) := by decide +kernel
theorem dX4_ofRight_60 : decode cX4_ofRight 60 = .ok (.aload_n 0, 1) := by decide +kernel
theorem dX4_ofRight_61 : decode cX4_ofRight 61 = .ok (.invokevirtual 110, 3) := by decide +kernel
theorem dX4_ofRight_64 : decode cX4_ofRight 64 = .ok (.iload_n 1, 1) := by decide +kernel
theorem dX4_ofRight_65 : decode cX4_ofRight 65 = .ok (.invokevirtual 126, 3) := by decide +kernel
theorem dX4_ofRight_68 : decode cX4_ofRight 68 = .ok (.ireturn, 1) := by decide +kernel
theorem dX4_ofRight_69 : decode cX4_ofRight 69 = .ok (.bipush (-2), 2) := by decide +kernel
theorem dX4_ofRight_71 : decode cX4_ofRight 71 = .ok (.ireturn, 1) := by decide +kernel
theorem dX4_letters_0 : decode cX4_letters 0 = .ok (.iload_n 1, 1) := by decide +kernel
theorem dX4_letters_1 : decode cX4_letters 1 = .ok (.ifCond .eq 11, 3) := by decide +kernel
theorem dX4_letters_4 : decode cX4_letters 4 = .ok (.iload_n 1, 1) := by decide +kernel
theorem dX4_letters_5 : decode cX4_letters 5 = .ok (.iconst 1, 1) := by decide +kernel
theorem dX4_letters_6 : decode cX4_letters 6 = .ok (.if_icmp .eq 6, 3) := by decide +kernel
theorem dX4_letters_9 : decode cX4_letters 9 = .ok (.bipush (-2), 2) := by decide +kernel
theorem dX4_letters_11 : decode cX4_letters 11 = .ok (.ireturn, 1) := by decide +kernel
theorem dX4_letters_12 : decode cX4_letters 12 = .ok (.iload_n 1, 1) := by decide +kernel
theorem dX4_letters_13 : decode cX4_letters 13 = .ok (.ifCond .ne 17, 3) := by decide +kernel
theorem dX4_letters_16 : decode cX4_letters 16 = .ok (.aload_n 0, 1) := by decide +kernel
theorem dX4_letters_17 : decode cX4_letters 17 = .ok (.getfield 20, 3) := by decide +kernel
theorem dX4_letters_20 : decode cX4_letters 20 = .ok (.iload_n 2, 1) := by decide +kernel
theorem dX4_letters_21 : decode cX4_letters 21 = .ok (.invokevirtual 95, 3) := by decide +kernel
theorem dX4_letters_24 : decode cX4_letters 24 = .ok (.ifCond .ne 19, 3) := by decide +kernel
theorem dX4_letters_27 : decode cX4_letters 27 = .ok (.goto 14, 3) := by decide +kernel
theorem dX4_letters_30 : decode cX4_letters 30 = .ok (.aload_n 0, 1) := by decide +kernel
theorem dX4_letters_31 : decode cX4_letters 31 = .ok (.getfield 20, 3) := by decide +kernel
theorem dX4_letters_34 : decode cX4_letters 34 = .ok (.iload_n 2, 1) := by decide +kernel
theorem dX4_letters_35 : decode cX4_letters 35 = .ok (.invokevirtual 117, 3) := by decide +kernel
theorem dX4_letters_38 : decode cX4_letters 38 = .ok (.ifCond .ne 5, 3) := by decide +kernel
theorem dX4_letters_41 : decode cX4_letters 41 = .ok (.iconst (-1), 1) := by decide +kernel
theorem dX4_letters_42 : decode cX4_letters 42 = .ok (.ireturn, 1) := by decide +kernel
theorem dX4_letters_43 : decode cX4_letters 43 = .ok (.iload_n 3, 1) := by decide +kernel
theorem dX4_letters_44 : decode cX4_letters 44 = .ok (.invokestatic 129, 3) := by decide +kernel
theorem dX4_letters_47 : decode cX4_letters 47 = .ok (.ifCond .ne 6, 3) := by decide +kernel
theorem dX4_letters_50 : decode cX4_letters 50 = .ok (.bipush (-2), 2) := by decide +kernel
theorem dX4_letters_52 : decode cX4_letters 52 = .ok (.ireturn, 1) := by decide +kernel
theorem dX4_letters_53 : decode cX4_letters 53 = .ok (.iload_n 1, 1) := by decide +kernel
theorem dX4_letters_54 : decode cX4_letters 54 = .ok (.ifCond .ne 13, 3) := by decide +kernel
theorem dX4_letters_57 : decode cX4_letters 57 = .ok (.aload_n 0, 1) := by decide +kernel
theorem dX4_letters_58 : decode cX4_letters 58 = .ok (.getfield 20, 3) := by decide +kernel
theorem dX4_letters_61 : decode cX4_letters 61 = .ok (.getfield 101, 3) := by decide +kernel
theorem dX4_letters_64 : decode cX4_letters 64 = .ok (.goto 10, 3) := by decide +kernel
theorem dX4_letters_67 : decode cX4_letters 67 = .ok (.aload_n 0, 1) := by decide +kernel
theorem dX4_letters_68 : decode cX4_letters 68 = .ok (.getfield 20, 3) := by decide +kernel
theorem dX4_letters_71 : decode cX4_letters 71 = .ok (.getfield 120, 3) := by decide +kernel
theorem dX4_letters_74 : decode cX4_letters 74 = .ok (.astore 4, 2) := by decide +kernel
theorem dX4_letters_76 : decode cX4_letters 76 = .ok (.aload 4, 2) := by decide +kernel
theorem dX4_letters_78 : decode cX4_letters 78 = .ok (.iload_n 2, 1) := by decide +kernel
theorem dX4_letters_79 : decode cX4_letters 79 = .ok (.iaload, 1) := by decide +kernel
theorem dX4_letters_80 : decode cX4_letters 80 = .ok (.istore 5, 2) := by decide +kernel
theorem dX4_letters_82 : decode cX4_letters 82 = .ok (.aload 4, 2) := by decide +kernel
theorem dX4_letters_84 : decode cX4_letters 84 = .ok (.iload_n 2, 1) := by decide +kernel
theorem dX4_letters_85 : decode cX4_letters 85 = .ok (.iload_n 3, 1) := by decide +kernel
theorem dX4_letters_86 : decode cX4_letters 86 = .ok (.iastore, 1) := by decide +kernel
theorem dX4_letters_87 : decode cX4_letters 87 = .ok (.aload_n 0, 1) := by decide +kernel
theorem dX4_letters_88 : decode cX4_letters 88 = .ok (.iconst 0, 1) := by decide +kernel
theorem dX4_letters_89 : decode cX4_letters 89 = .ok (.putfield 85, 3) := by decide +kernel
theorem dX4_letters_92 : decode cX4_letters 92 = .ok (.iload 5, 2) := by decide +kernel
theorem dX4_letters_94 : decode cX4_letters 94 = .ok (.ireturn, 1) := by decide +kernel
theorem dX4_price_0 : decode cX4_price 0 = .ok (.iload_n 1, 1) := by decide +kernel
theorem dX4_price_1 : decode cX4_price 1 = .ok (.ifCond .lt 8, 3) := by decide +kernel
theorem dX4_price_4 : decode cX4_price 4 = .ok (.iload_n 1, 1) := by decide +kernel
theorem dX4_price_5 : decode cX4_price 5 = .ok (.iconst 2, 1) := by decide +kernel
theorem dX4_price_6 : decode cX4_price 6 = .ok (.if_icmp .le 6, 3) := by decide +kernel
theorem dX4_price_9 : decode cX4_price 9 = .ok (.bipush (-2), 2) := by decide +kernel
theorem dX4_price_11 : decode cX4_price 11 = .ok (.ireturn, 1) := by decide +kernel
theorem dX4_price_12 : decode cX4_price 12 = .ok (.aload_n 0, 1) := by decide +kernel
theorem dX4_price_13 : decode cX4_price 13 = .ok (.getfield 20, 3) := by decide +kernel
theorem dX4_price_16 : decode cX4_price 16 = .ok (.invokevirtual 132, 3) := by decide +kernel
theorem dX4_price_19 : decode cX4_price 19 = .ok (.ifCond .ne 6, 3) := by decide +kernel
theorem dX4_price_22 : decode cX4_price 22 = .ok (.bipush (-3), 2) := by decide +kernel
theorem dX4_price_24 : decode cX4_price 24 = .ok (.ireturn, 1) := by decide +kernel
theorem dX4_price_25 : decode cX4_price 25 = .ok (.iload_n 1, 1) := by decide +kernel
theorem dX4_price_26 : decode cX4_price 26 = .ok (.iload_n 2, 1) := by decide +kernel
theorem dX4_price_27 : decode cX4_price 27 = .ok (.invokestatic 136, 3) := by decide +kernel
theorem dX4_price_30 : decode cX4_price 30 = .ok (.ifCond .ne 6, 3) := by decide +kernel
theorem dX4_price_33 : decode cX4_price 33 = .ok (.bipush (-2), 2) := by decide +kernel
theorem dX4_price_35 : decode cX4_price 35 = .ok (.ireturn, 1) := by decide +kernel
theorem dX4_price_36 : decode cX4_price 36 = .ok (.aload_n 0, 1) := by decide +kernel
theorem dX4_price_37 : decode cX4_price 37 = .ok (.getfield 20, 3) := by decide +kernel
theorem dX4_price_40 : decode cX4_price 40 = .ok (.iload_n 1, 1) := by decide +kernel
theorem dX4_price_41 : decode cX4_price 41 = .ok (.invokevirtual 139, 3) := by decide +kernel
theorem dX4_price_44 : decode cX4_price 44 = .ok (.istore_n 3, 1) := by decide +kernel
theorem dX4_price_45 : decode cX4_price 45 = .ok (.aload_n 0, 1) := by decide +kernel
theorem dX4_price_46 : decode cX4_price 46 = .ok (.getfield 20, 3) := by decide +kernel
theorem dX4_price_49 : decode cX4_price 49 = .ok (.iload_n 1, 1) := by decide +kernel
theorem dX4_price_50 : decode cX4_price 50 = .ok (.iload_n 2, 1) := by decide +kernel
theorem dX4_price_51 : decode cX4_price 51 = .ok (.invokevirtual 142, 3) := by decide +kernel
theorem dX4_price_54 : decode cX4_price 54 = .ok (.aload_n 0, 1) := by decide +kernel
theorem dX4_price_55 : decode cX4_price 55 = .ok (.iconst 0, 1) := by decide +kernel
theorem dX4_price_56 : decode cX4_price 56 = .ok (.putfield 85, 3) := by decide +kernel
theorem dX4_price_59 : decode cX4_price 59 = .ok (.iload_n 3, 1) := by decide +kernel
theorem dX4_price_60 : decode cX4_price 60 = .ok (.ireturn, 1) := by decide +kernel
theorem dX4_move_0 : decode cX4_move 0 = .ok (.iload_n 2, 1) := by decide +kernel
theorem dX4_move_1 : decode cX4_move 1 = .ok (.iconst 1, 1) := by decide +kernel
theorem dX4_move_2 : decode cX4_move 2 = .ok (.if_icmp .ge 6, 3) := by decide +kernel
theorem dX4_move_5 : decode cX4_move 5 = .ok (.bipush (-2), 2) := by decide +kernel
theorem dX4_move_7 : decode cX4_move 7 = .ok (.ireturn, 1) := by decide +kernel
theorem dX4_move_8 : decode cX4_move 8 = .ok (.aload_n 0, 1) := by decide +kernel
theorem dX4_move_9 : decode cX4_move 9 = .ok (.getfield 20, 3) := by decide +kernel
theorem dX4_move_12 : decode cX4_move 12 = .ok (.iload_n 1, 1) := by decide +kernel
theorem dX4_move_13 : decode cX4_move 13 = .ok (.invokevirtual 117, 3) := by decide +kernel
theorem dX4_move_16 : decode cX4_move 16 = .ok (.ifCond .eq 16, 3) := by decide +kernel
theorem dX4_move_19 : decode cX4_move 19 = .ok (.iload_n 2, 1) := by decide +kernel
theorem dX4_move_20 : decode cX4_move 20 = .ok (.aload_n 0, 1) := by decide +kernel
theorem dX4_move_21 : decode cX4_move 21 = .ok (.getfield 20, 3) := by decide +kernel
theorem dX4_move_24 : decode cX4_move 24 = .ok (.getfield 92, 3) := by decide +kernel
theorem dX4_move_27 : decode cX4_move 27 = .ok (.iload_n 1, 1) := by decide +kernel
theorem dX4_move_28 : decode cX4_move 28 = .ok (.isub, 1) := by decide +kernel
theorem dX4_move_29 : decode cX4_move 29 = .ok (.if_icmp .le 5, 3) := by decide +kernel
theorem dX4_move_32 : decode cX4_move 32 = .ok (.iconst (-1), 1) := by decide +kernel
theorem dX4_move_33 : decode cX4_move 33 = .ok (.ireturn, 1) := by decide +kernel
theorem dX4_move_34 : decode cX4_move 34 = .ok (.iload_n 3, 1) := by decide +kernel
theorem dX4_move_35 : decode cX4_move 35 = .ok (.ifCond .lt 16, 3) := by decide +kernel
theorem dX4_move_38 : decode cX4_move 38 = .ok (.iload_n 3, 1) := by decide +kernel
theorem dX4_move_39 : decode cX4_move 39 = .ok (.aload_n 0, 1) := by decide +kernel
theorem dX4_move_40 : decode cX4_move 40 = .ok (.getfield 20, 3) := by decide +kernel
theorem dX4_move_43 : decode cX4_move 43 = .ok (.getfield 92, 3) := by decide +kernel
theorem dX4_move_46 : decode cX4_move 46 = .ok (.iload_n 2, 1) := by decide +kernel
theorem dX4_move_47 : decode cX4_move 47 = .ok (.isub, 1) := by decide +kernel
theorem dX4_move_48 : decode cX4_move 48 = .ok (.if_icmp .le 6, 3) := by decide +kernel
theorem dX4_move_51 : decode cX4_move 51 = .ok (.bipush (-2), 2) := by decide +kernel
theorem dX4_move_53 : decode cX4_move 53 = .ok (.ireturn, 1) := by decide +kernel
theorem dX4_move_54 : decode cX4_move 54 = .ok (.aload_n 0, 1) := by decide +kernel
theorem dX4_move_55 : decode cX4_move 55 = .ok (.getfield 24, 3) := by decide +kernel
theorem dX4_move_58 : decode cX4_move 58 = .ok (.aload_n 0, 1) := by decide +kernel
theorem dX4_move_59 : decode cX4_move 59 = .ok (.getfield 20, 3) := by decide +kernel
theorem dX4_move_62 : decode cX4_move 62 = .ok (.invokevirtual 78, 3) := by decide +kernel
theorem dX4_move_65 : decode cX4_move 65 = .ok (.aload_n 0, 1) := by decide +kernel
theorem dX4_move_66 : decode cX4_move 66 = .ok (.getfield 20, 3) := by decide +kernel
theorem dX4_move_69 : decode cX4_move 69 = .ok (.aload_n 0, 1) := by decide +kernel
theorem dX4_move_70 : decode cX4_move 70 = .ok (.getfield 24, 3) := by decide +kernel
theorem dX4_move_73 : decode cX4_move 73 = .ok (.iload_n 1, 1) := by decide +kernel
theorem dX4_move_74 : decode cX4_move 74 = .ok (.iload_n 2, 1) := by decide +kernel
theorem dX4_move_75 : decode cX4_move 75 = .ok (.iload_n 3, 1) := by decide +kernel
theorem dX4_move_76 : decode cX4_move 76 = .ok (.invokevirtual 146, 3) := by decide +kernel
theorem dX4_move_79 : decode cX4_move 79 = .ok (.aload_n 0, 1) := by decide +kernel
theorem dX4_move_80 : decode cX4_move 80 = .ok (.iconst 0, 1) := by decide +kernel
theorem dX4_move_81 : decode cX4_move 81 = .ok (.putfield 85, 3) := by decide +kernel
theorem dX4_move_84 : decode cX4_move 84 = .ok (.iload_n 2, 1) := by decide +kernel
theorem dX4_move_85 : decode cX4_move 85 = .ok (.ireturn, 1) := by decide +kernel
theorem dX4_best_0 : decode cX4_best 0 = .ok (.iload_n 1, 1) := by decide +kernel
theorem dX4_best_1 : decode cX4_best 1 = .ok (.ifCond .lt 8, 3) := by decide +kernel
theorem dX4_best_4 : decode cX4_best 4 = .ok (.iload_n 1, 1) := by decide +kernel
theorem dX4_best_5 : decode cX4_best 5 = .ok (.iconst 3, 1) := by decide +kernel
theorem dX4_best_6 : decode cX4_best 6 = .ok (.if_icmp .le 6, 3) := by decide +kernel
theorem dX4_best_9 : decode cX4_best 9 = .ok (.bipush (-2), 2) := by decide +kernel
theorem dX4_best_11 : decode cX4_best 11 = .ok (.ireturn, 1) := by decide +kernel
theorem dX4_best_12 : decode cX4_best 12 = .ok (.aload_n 0, 1) := by decide +kernel
theorem dX4_best_13 : decode cX4_best 13 = .ok (.getfield 20, 3) := by decide +kernel
theorem dX4_best_16 : decode cX4_best 16 = .ok (.invokevirtual 132, 3) := by decide +kernel
theorem dX4_best_19 : decode cX4_best 19 = .ok (.ifCond .eq 14, 3) := by decide +kernel
theorem dX4_best_22 : decode cX4_best 22 = .ok (.aload_n 0, 1) := by decide +kernel
theorem dX4_best_23 : decode cX4_best 23 = .ok (.invokevirtual 110, 3) := by decide +kernel
theorem dX4_best_26 : decode cX4_best 26 = .ok (.iload_n 1, 1) := by decide +kernel
theorem dX4_best_27 : decode cX4_best 27 = .ok (.invokevirtual 150, 3) := by decide +kernel
theorem dX4_best_30 : decode cX4_best 30 = .ok (.goto 5, 3) := by decide +kernel
theorem dX4_best_33 : decode cX4_best 33 = .ok (.bipush (-3), 2) := by decide +kernel
theorem dX4_best_35 : decode cX4_best 35 = .ok (.ireturn, 1) := by decide +kernel
theorem dX4_ofPair_0 : decode cX4_ofPair 0 = .ok (.aload_n 0, 1) := by decide +kernel
theorem dX4_ofPair_1 : decode cX4_ofPair 1 = .ok (.invokevirtual 110, 3) := by decide +kernel
theorem dX4_ofPair_4 : decode cX4_ofPair 4 = .ok (.astore_n 3, 1) := by decide +kernel
theorem dX4_ofPair_5 : decode cX4_ofPair 5 = .ok (.iload_n 1, 1) := by decide +kernel
theorem dX4_ofPair_6 : decode cX4_ofPair 6 = .ok (.ifCond .lt 11, 3) := by decide +kernel
