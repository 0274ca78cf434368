theorem dL_cell_0 : decode cL_cell 0 = .ok (.iload_n 1, 1) := by decide +kernel
theorem dL_cell_1 : decode cL_cell 1 = .ok (.aload_n 0, 1) := by decide +kernel
theorem dL_cell_2 : decode cL_cell 2 = .ok (.arraylength, 1) := by decide +kernel
theorem dL_cell_3 : decode cL_cell 3 = .ok (.if_icmp .ge 9, 3) := by decide +kernel
theorem dL_cell_6 : decode cL_cell 6 = .ok (.aload_n 0, 1) := by decide +kernel
theorem dL_cell_7 : decode cL_cell 7 = .ok (.iload_n 1, 1) := by decide +kernel
theorem dL_cell_8 : decode cL_cell 8 = .ok (.iaload, 1) := by decide +kernel
theorem dL_cell_9 : decode cL_cell 9 = .ok (.goto 10, 3) := by decide +kernel
theorem dL_cell_12 : decode cL_cell 12 = .ok (.ldc 7, 2) := by decide +kernel
theorem dL_cell_14 : decode cL_cell 14 = .ok (.iload_n 1, 1) := by decide +kernel
theorem dL_cell_15 : decode cL_cell 15 = .ok (.bipush 97, 2) := by decide +kernel
theorem dL_cell_17 : decode cL_cell 17 = .ok (.iadd, 1) := by decide +kernel
theorem dL_cell_18 : decode cL_cell 18 = .ok (.imul, 1) := by decide +kernel
theorem dL_cell_19 : decode cL_cell 19 = .ok (.ireturn, 1) := by decide +kernel
theorem dL_at_0 : decode cL_at 0 = .ok (.iload_n 0, 1) := by decide +kernel
theorem dL_at_1 : decode cL_at 1 = .ok (.iconst 1, 1) := by decide +kernel
theorem dL_at_2 : decode cL_at 2 = .ok (.iushr, 1) := by decide +kernel
theorem dL_at_3 : decode cL_at 3 = .ok (.iload_n 1, 1) := by decide +kernel
theorem dL_at_4 : decode cL_at 4 = .ok (.irem, 1) := by decide +kernel
theorem dL_at_5 : decode cL_at 5 = .ok (.ireturn, 1) := by decide +kernel
theorem dL_allowed_0 : decode cL_allowed 0 = .ok (.iload_n 3, 1) := by decide +kernel
theorem dL_allowed_1 : decode cL_allowed 1 = .ok (.ifCond .eq 31, 3) := by decide +kernel
theorem dL_allowed_4 : decode cL_allowed 4 = .ok (.iload_n 3, 1) := by decide +kernel
theorem dL_allowed_5 : decode cL_allowed 5 = .ok (.aload_n 0, 1) := by decide +kernel
theorem dL_allowed_6 : decode cL_allowed 6 = .ok (.iconst 0, 1) := by decide +kernel
theorem dL_allowed_7 : decode cL_allowed 7 = .ok (.iaload, 1) := by decide +kernel
theorem dL_allowed_8 : decode cL_allowed 8 = .ok (.if_icmp .eq 24, 3) := by decide +kernel
theorem dL_allowed_11 : decode cL_allowed 11 = .ok (.iload_n 3, 1) := by decide +kernel
theorem dL_allowed_12 : decode cL_allowed 12 = .ok (.iload 4, 2) := by decide +kernel
theorem dL_allowed_14 : decode cL_allowed 14 = .ok (.if_icmp .eq 18, 3) := by decide +kernel
theorem dL_allowed_17 : decode cL_allowed 17 = .ok (.iload_n 3, 1) := by decide +kernel
theorem dL_allowed_18 : decode cL_allowed 18 = .ok (.aload_n 0, 1) := by decide +kernel
theorem dL_allowed_19 : decode cL_allowed 19 = .ok (.iconst 0, 1) := by decide +kernel
theorem dL_allowed_20 : decode cL_allowed 20 = .ok (.iaload, 1) := by decide +kernel
theorem dL_allowed_21 : decode cL_allowed 21 = .ok (.if_icmp .gt 11, 3) := by decide +kernel
theorem dL_allowed_24 : decode cL_allowed 24 = .ok (.iload 4, 2) := by decide +kernel
theorem dL_allowed_26 : decode cL_allowed 26 = .ok (.aload_n 0, 1) := by decide +kernel
theorem dL_allowed_27 : decode cL_allowed 27 = .ok (.iconst 0, 1) := by decide +kernel
theorem dL_allowed_28 : decode cL_allowed 28 = .ok (.iaload, 1) := by decide +kernel
theorem dL_allowed_29 : decode cL_allowed 29 = .ok (.if_icmp .le 5, 3) := by decide +kernel
theorem dL_allowed_32 : decode cL_allowed 32 = .ok (.iconst 0, 1) := by decide +kernel
theorem dL_allowed_33 : decode cL_allowed 33 = .ok (.ireturn, 1) := by decide +kernel
theorem dL_allowed_34 : decode cL_allowed 34 = .ok (.iconst 0, 1) := by decide +kernel
theorem dL_allowed_35 : decode cL_allowed 35 = .ok (.istore 6, 2) := by decide +kernel
theorem dL_allowed_37 : decode cL_allowed 37 = .ok (.iload 6, 2) := by decide +kernel
theorem dL_allowed_39 : decode cL_allowed 39 = .ok (.aload_n 0, 1) := by decide +kernel
theorem dL_allowed_40 : decode cL_allowed 40 = .ok (.iconst 1, 1) := by decide +kernel
theorem dL_allowed_41 : decode cL_allowed 41 = .ok (.iaload, 1) := by decide +kernel
theorem dL_allowed_42 : decode cL_allowed 42 = .ok (.if_icmp .ge 43, 3) := by decide +kernel
theorem dL_allowed_45 : decode cL_allowed 45 = .ok (.iload 6, 2) := by decide +kernel
theorem dL_allowed_47 : decode cL_allowed 47 = .ok (.iload 5, 2) := by decide +kernel
theorem dL_allowed_49 : decode cL_allowed 49 = .ok (.if_icmp .eq 30, 3) := by decide +kernel
theorem dL_allowed_52 : decode cL_allowed 52 = .ok (.aload_n 1, 1) := by decide +kernel
theorem dL_allowed_53 : decode cL_allowed 53 = .ok (.iload 6, 2) := by decide +kernel
theorem dL_allowed_55 : decode cL_allowed 55 = .ok (.iaload, 1) := by decide +kernel
theorem dL_allowed_56 : decode cL_allowed 56 = .ok (.iload_n 3, 1) := by decide +kernel
theorem dL_allowed_57 : decode cL_allowed 57 = .ok (.if_icmp .eq 20, 3) := by decide +kernel
theorem dL_allowed_60 : decode cL_allowed 60 = .ok (.aload_n 2, 1) := by decide +kernel
theorem dL_allowed_61 : decode cL_allowed 61 = .ok (.iload 6, 2) := by decide +kernel
theorem dL_allowed_63 : decode cL_allowed 63 = .ok (.iaload, 1) := by decide +kernel
theorem dL_allowed_64 : decode cL_allowed 64 = .ok (.iload_n 3, 1) := by decide +kernel
theorem dL_allowed_65 : decode cL_allowed 65 = .ok (.if_icmp .eq 12, 3) := by decide +kernel
theorem dL_allowed_68 : decode cL_allowed 68 = .ok (.aload_n 1, 1) := by decide +kernel
theorem dL_allowed_69 : decode cL_allowed 69 = .ok (.iload 6, 2) := by decide +kernel
theorem dL_allowed_71 : decode cL_allowed 71 = .ok (.iaload, 1) := by decide +kernel
theorem dL_allowed_72 : decode cL_allowed 72 = .ok (.iload 4, 2) := by decide +kernel
theorem dL_allowed_74 : decode cL_allowed 74 = .ok (.if_icmp .ne 5, 3) := by decide +kernel
theorem dL_allowed_77 : decode cL_allowed 77 = .ok (.iconst 0, 1) := by decide +kernel
theorem dL_allowed_78 : decode cL_allowed 78 = .ok (.ireturn, 1) := by decide +kernel
theorem dL_allowed_79 : decode cL_allowed 79 = .ok (.iinc 6 1, 3) := by decide +kernel
theorem dL_allowed_82 : decode cL_allowed 82 = .ok (.goto (-45), 3) := by decide +kernel
theorem dL_allowed_85 : decode cL_allowed 85 = .ok (.iconst 1, 1) := by decide +kernel
theorem dL_allowed_86 : decode cL_allowed 86 = .ok (.ireturn, 1) := by decide +kernel
theorem dL_sides_0 : decode cL_sides 0 = .ok (.iconst 0, 1) := by decide +kernel
theorem dL_sides_1 : decode cL_sides 1 = .ok (.istore_n 2, 1) := by decide +kernel
theorem dL_sides_2 : decode cL_sides 2 = .ok (.iload_n 2, 1) := by decide +kernel
theorem dL_sides_3 : decode cL_sides 3 = .ok (.bipush 6, 2) := by decide +kernel
theorem dL_sides_5 : decode cL_sides 5 = .ok (.if_icmp .ge 20, 3) := by decide +kernel
theorem dL_sides_8 : decode cL_sides 8 = .ok (.aload_n 0, 1) := by decide +kernel
theorem dL_sides_9 : decode cL_sides 9 = .ok (.bipush 6, 2) := by decide +kernel
theorem dL_sides_11 : decode cL_sides 11 = .ok (.iload_n 1, 1) := by decide +kernel
theorem dL_sides_12 : decode cL_sides 12 = .ok (.imul, 1) := by decide +kernel
theorem dL_sides_13 : decode cL_sides 13 = .ok (.iload_n 2, 1) := by decide +kernel
theorem dL_sides_14 : decode cL_sides 14 = .ok (.iadd, 1) := by decide +kernel
theorem dL_sides_15 : decode cL_sides 15 = .ok (.iaload, 1) := by decide +kernel
theorem dL_sides_16 : decode cL_sides 16 = .ok (.ifCond .le 9, 3) := by decide +kernel
theorem dL_sides_19 : decode cL_sides 19 = .ok (.iinc 2 1, 3) := by decide +kernel
theorem dL_sides_22 : decode cL_sides 22 = .ok (.goto (-20), 3) := by decide +kernel
theorem dL_sides_25 : decode cL_sides 25 = .ok (.iload_n 2, 1) := by decide +kernel
theorem dL_sides_26 : decode cL_sides 26 = .ok (.ireturn, 1) := by decide +kernel
theorem dL_goes_0 : decode cL_goes 0 = .ok (.iload_n 3, 1) := by decide +kernel
theorem dL_goes_1 : decode cL_goes 1 = .ok (.iload 4, 2) := by decide +kernel
theorem dL_goes_3 : decode cL_goes 3 = .ok (.iadd, 1) := by decide +kernel
theorem dL_goes_4 : decode cL_goes 4 = .ok (.istore 5, 2) := by decide +kernel
theorem dL_goes_6 : decode cL_goes 6 = .ok (.iload 5, 2) := by decide +kernel
theorem dL_goes_8 : decode cL_goes 8 = .ok (.aload_n 0, 1) := by decide +kernel
theorem dL_goes_9 : decode cL_goes 9 = .ok (.iconst 0, 1) := by decide +kernel
theorem dL_goes_10 : decode cL_goes 10 = .ok (.iaload, 1) := by decide +kernel
theorem dL_goes_11 : decode cL_goes 11 = .ok (.if_icmp .le 36, 3) := by decide +kernel
theorem dL_goes_14 : decode cL_goes 14 = .ok (.aload_n 0, 1) := by decide +kernel
theorem dL_goes_15 : decode cL_goes 15 = .ok (.iconst 5, 1) := by decide +kernel
theorem dL_goes_16 : decode cL_goes 16 = .ok (.iaload, 1) := by decide +kernel
theorem dL_goes_17 : decode cL_goes 17 = .ok (.ifCond .ne 5, 3) := by decide +kernel
theorem dL_goes_20 : decode cL_goes 20 = .ok (.iload_n 3, 1) := by decide +kernel
theorem dL_goes_21 : decode cL_goes 21 = .ok (.ireturn, 1) := by decide +kernel
theorem dL_goes_22 : decode cL_goes 22 = .ok (.aload_n 0, 1) := by decide +kernel
theorem dL_goes_23 : decode cL_goes 23 = .ok (.iconst 5, 1) := by decide +kernel
theorem dL_goes_24 : decode cL_goes 24 = .ok (.iaload, 1) := by decide +kernel
theorem dL_goes_25 : decode cL_goes 25 = .ok (.iconst 2, 1) := by decide +kernel
theorem dL_goes_26 : decode cL_goes 26 = .ok (.if_icmp .ne 9, 3) := by decide +kernel
theorem dL_goes_29 : decode cL_goes 29 = .ok (.aload_n 0, 1) := by decide +kernel
theorem dL_goes_30 : decode cL_goes 30 = .ok (.iconst 0, 1) := by decide +kernel
theorem dL_goes_31 : decode cL_goes 31 = .ok (.iaload, 1) := by decide +kernel
theorem dL_goes_32 : decode cL_goes 32 = .ok (.goto 13, 3) := by decide +kernel
theorem dL_goes_35 : decode cL_goes 35 = .ok (.aload_n 0, 1) := by decide +kernel
theorem dL_goes_36 : decode cL_goes 36 = .ok (.iconst 0, 1) := by decide +kernel
theorem dL_goes_37 : decode cL_goes 37 = .ok (.iaload, 1) := by decide +kernel
theorem dL_goes_38 : decode cL_goes 38 = .ok (.iload 5, 2) := by decide +kernel
theorem dL_goes_40 : decode cL_goes 40 = .ok (.aload_n 0, 1) := by decide +kernel
theorem dL_goes_41 : decode cL_goes 41 = .ok (.iconst 0, 1) := by decide +kernel
theorem dL_goes_42 : decode cL_goes 42 = .ok (.iaload, 1) := by decide +kernel
theorem dL_goes_43 : decode cL_goes 43 = .ok (.isub, 1) := by decide +kernel
theorem dL_goes_44 : decode cL_goes 44 = .ok (.isub, 1) := by decide +kernel
theorem dL_goes_45 : decode cL_goes 45 = .ok (.istore 5, 2) := by decide +kernel
theorem dL_goes_47 : decode cL_goes 47 = .ok (.iconst 0, 1) := by decide +kernel
theorem dL_goes_48 : decode cL_goes 48 = .ok (.istore 6, 2) := by decide +kernel
theorem dL_goes_50 : decode cL_goes 50 = .ok (.iload 6, 2) := by decide +kernel
theorem dL_goes_52 : decode cL_goes 52 = .ok (.aload_n 0, 1) := by decide +kernel
theorem dL_goes_53 : decode cL_goes 53 = .ok (.iconst 1, 1) := by decide +kernel
theorem dL_goes_54 : decode cL_goes 54 = .ok (.iaload, 1) := by decide +kernel
theorem dL_goes_55 : decode cL_goes 55 = .ok (.if_icmp .ge 23, 3) := by decide +kernel
theorem dL_goes_58 : decode cL_goes 58 = .ok (.aload_n 1, 1) := by decide +kernel
theorem dL_goes_59 : decode cL_goes 59 = .ok (.iload 6, 2) := by decide +kernel
theorem dL_goes_61 : decode cL_goes 61 = .ok (.iaload, 1) := by decide +kernel
theorem dL_goes_62 : decode cL_goes 62 = .ok (.iload 5, 2) := by decide +kernel
theorem dL_goes_64 : decode cL_goes 64 = .ok (.if_icmp .ne 8, 3) := by decide +kernel
theorem dL_goes_67 : decode cL_goes 67 = .ok (.aload_n 2, 1) := by decide +kernel
theorem dL_goes_68 : decode cL_goes 68 = .ok (.iload 6, 2) := by decide +kernel
theorem dL_goes_70 : decode cL_goes 70 = .ok (.iaload, 1) := by decide +kernel
theorem dL_goes_71 : decode cL_goes 71 = .ok (.ireturn, 1) := by decide +kernel
theorem dL_goes_72 : decode cL_goes 72 = .ok (.iinc 6 1, 3) := by decide +kernel
theorem dL_goes_75 : decode cL_goes 75 = .ok (.goto (-25), 3) := by decide +kernel
theorem dL_goes_78 : decode cL_goes 78 = .ok (.iload 5, 2) := by decide +kernel
theorem dL_goes_80 : decode cL_goes 80 = .ok (.ireturn, 1) := by decide +kernel
theorem dL_mean_0 : decode cL_mean 0 = .ok (.bipush 41, 2) := by decide +kernel
theorem dL_mean_2 : decode cL_mean 2 = .ok (.newarray .long, 2) := by decide +kernel
theorem dL_mean_4 : decode cL_mean 4 = .ok (.astore 7, 2) := by decide +kernel
theorem dL_mean_6 : decode cL_mean 6 = .ok (.bipush 41, 2) := by decide +kernel
theorem dL_mean_8 : decode cL_mean 8 = .ok (.newarray .long, 2) := by decide +kernel
theorem dL_mean_10 : decode cL_mean 10 = .ok (.astore 8, 2) := by decide +kernel
theorem dL_mean_12 : decode cL_mean 12 = .ok (.lconst 1, 1) := by decide +kernel
theorem dL_mean_13 : decode cL_mean 13 = .ok (.lstore 9, 2) := by decide +kernel
theorem dL_mean_15 : decode cL_mean 15 = .ok (.aload_n 0, 1) := by decide +kernel
theorem dL_mean_16 : decode cL_mean 16 = .ok (.bipush 6, 2) := by decide +kernel
theorem dL_mean_18 : decode cL_mean 18 = .ok (.iaload, 1) := by decide +kernel
theorem dL_mean_19 : decode cL_mean 19 = .ok (.iconst 1, 1) := by decide +kernel
theorem dL_mean_20 : decode cL_mean 20 = .ok (.isub, 1) := by decide +kernel
theorem dL_mean_21 : decode cL_mean 21 = .ok (.istore 11, 2) := by decide +kernel
theorem dL_mean_23 : decode cL_mean 23 = .ok (.iload 11, 2) := by decide +kernel
theorem dL_mean_25 : decode cL_mean 25 = .ok (.ifCond .lt 141, 3) := by decide +kernel
theorem dL_mean_28 : decode cL_mean 28 = .ok (.aload 4, 2) := by decide +kernel
theorem dL_mean_30 : decode cL_mean 30 = .ok (.iload 11, 2) := by decide +kernel
theorem dL_mean_32 : decode cL_mean 32 = .ok (.aload_n 0, 1) := by decide +kernel
theorem dL_mean_33 : decode cL_mean 33 = .ok (.iconst 3, 1) := by decide +kernel
theorem dL_mean_34 : decode cL_mean 34 = .ok (.iaload, 1) := by decide +kernel
theorem dL_mean_35 : decode cL_mean 35 = .ok (.irem, 1) := by decide +kernel
theorem dL_mean_36 : decode cL_mean 36 = .ok (.iaload, 1) := by decide +kernel
theorem dL_mean_37 : decode cL_mean 37 = .ok (.istore 12, 2) := by decide +kernel
theorem dL_mean_39 : decode cL_mean 39 = .ok (.aload_n 3, 1) := by decide +kernel
theorem dL_mean_40 : decode cL_mean 40 = .ok (.iload 12, 2) := by decide +kernel
theorem dL_mean_42 : decode cL_mean 42 = .ok (.invokestatic 14, 3) := by decide +kernel
theorem dL_mean_45 : decode cL_mean 45 = .ok (.istore 13, 2) := by decide +kernel
theorem dL_mean_47 : decode cL_mean 47 = .ok (.iconst 0, 1) := by decide +kernel
theorem dL_mean_48 : decode cL_mean 48 = .ok (.istore 14, 2) := by decide +kernel
theorem dL_mean_50 : decode cL_mean 50 = .ok (.iload 14, 2) := by decide +kernel
theorem dL_mean_52 : decode cL_mean 52 = .ok (.aload_n 0, 1) := by decide +kernel
theorem dL_mean_53 : decode cL_mean 53 = .ok (.iconst 0, 1) := by decide +kernel
theorem dL_mean_54 : decode cL_mean 54 = .ok (.iaload, 1) := by decide +kernel
theorem dL_mean_55 : decode cL_mean 55 = .ok (.if_icmp .ge 63, 3) := by decide +kernel
theorem dL_mean_58 : decode cL_mean 58 = .ok (.aload 7, 2) := by decide +kernel
theorem dL_mean_60 : decode cL_mean 60 = .ok (.iload 14, 2) := by decide +kernel
theorem dL_mean_62 : decode cL_mean 62 = .ok (.lconst 0, 1) := by decide +kernel
theorem dL_mean_63 : decode cL_mean 63 = .ok (.lastore, 1) := by decide +kernel
theorem dL_mean_64 : decode cL_mean 64 = .ok (.iconst 0, 1) := by decide +kernel
theorem dL_mean_65 : decode cL_mean 65 = .ok (.istore 15, 2) := by decide +kernel
theorem dL_mean_67 : decode cL_mean 67 = .ok (.iload 15, 2) := by decide +kernel
theorem dL_mean_69 : decode cL_mean 69 = .ok (.iload 13, 2) := by decide +kernel
theorem dL_mean_71 : decode cL_mean 71 = .ok (.if_icmp .ge 41, 3) := by decide +kernel
theorem dL_mean_74 : decode cL_mean 74 = .ok (.aload 7, 2) := by decide +kernel
theorem dL_mean_76 : decode cL_mean 76 = .ok (.iload 14, 2) := by decide +kernel
theorem dL_mean_78 : decode cL_mean 78 = .ok (.dup2, 1) := by decide +kernel
theorem dL_mean_79 : decode cL_mean 79 = .ok (.laload, 1) := by decide +kernel
theorem dL_mean_80 : decode cL_mean 80 = .ok (.lload 9, 2) := by decide +kernel
theorem dL_mean_82 : decode cL_mean 82 = .ok (.aload 8, 2) := by decide +kernel
theorem dL_mean_84 : decode cL_mean 84 = .ok (.aload_n 0, 1) := by decide +kernel
theorem dL_mean_85 : decode cL_mean 85 = .ok (.aload_n 1, 1) := by decide +kernel
theorem dL_mean_86 : decode cL_mean 86 = .ok (.aload_n 2, 1) := by decide +kernel
theorem dL_mean_87 : decode cL_mean 87 = .ok (.iload 14, 2) := by decide +kernel
theorem dL_mean_89 : decode cL_mean 89 = .ok (.aload_n 3, 1) := by decide +kernel
theorem dL_mean_90 : decode cL_mean 90 = .ok (.bipush 6, 2) := by decide +kernel
theorem dL_mean_92 : decode cL_mean 92 = .ok (.iload 12, 2) := by decide +kernel
theorem dL_mean_94 : decode cL_mean 94 = .ok (.imul, 1) := by decide +kernel
theorem dL_mean_95 : decode cL_mean 95 = .ok (.iload 15, 2) := by decide +kernel
theorem dL_mean_97 : decode cL_mean 97 = .ok (.iadd, 1) := by decide +kernel
theorem dL_mean_98 : decode cL_mean 98 = .ok (.iaload, 1) := by decide +kernel
theorem dL_mean_99 : decode cL_mean 99 = .ok (.invokestatic 20, 3) := by decide +kernel
theorem dL_mean_102 : decode cL_mean 102 = .ok (.laload, 1) := by decide +kernel
theorem dL_mean_103 : decode cL_mean 103 = .ok (.ladd, 1) := by decide +kernel
theorem dL_mean_104 : decode cL_mean 104 = .ok (.ladd, 1) := by decide +kernel
theorem dL_mean_105 : decode cL_mean 105 = .ok (.lastore, 1) := by decide +kernel
theorem dL_mean_106 : decode cL_mean 106 = .ok (.iinc 15 1, 3) := by decide +kernel
theorem dL_mean_109 : decode cL_mean 109 = .ok (.goto (-42), 3) := by decide +kernel
theorem dL_mean_112 : decode cL_mean 112 = .ok (.iinc 14 1, 3) := by decide +kernel
theorem dL_mean_115 : decode cL_mean 115 = .ok (.goto (-65), 3) := by decide +kernel
theorem dL_mean_118 : decode cL_mean 118 = .ok (.lload 9, 2) := by decide +kernel
theorem dL_mean_120 : decode cL_mean 120 = .ok (.iload 13, 2) := by decide +kernel
theorem dL_mean_122 : decode cL_mean 122 = .ok (.i2l, 1) := by decide +kernel
theorem dL_mean_123 : decode cL_mean 123 = .ok (.lmul, 1) := by decide +kernel
theorem dL_mean_124 : decode cL_mean 124 = .ok (.lstore 9, 2) := by decide +kernel
theorem dL_mean_126 : decode cL_mean 126 = .ok (.aload 7, 2) := by decide +kernel
theorem dL_mean_128 : decode cL_mean 128 = .ok (.aload_n 0, 1) := by decide +kernel
theorem dL_mean_129 : decode cL_mean 129 = .ok (.iconst 0, 1) := by decide +kernel
theorem dL_mean_130 : decode cL_mean 130 = .ok (.iaload, 1) := by decide +kernel
theorem dL_mean_131 : decode cL_mean 131 = .ok (.lconst 0, 1) := by decide +kernel
theorem dL_mean_132 : decode cL_mean 132 = .ok (.lastore, 1) := by decide +kernel
theorem dL_mean_133 : decode cL_mean 133 = .ok (.iconst 0, 1) := by decide +kernel
theorem dL_mean_134 : decode cL_mean 134 = .ok (.istore 14, 2) := by decide +kernel
theorem dL_mean_136 : decode cL_mean 136 = .ok (.iload 14, 2) := by decide +kernel
theorem dL_mean_138 : decode cL_mean 138 = .ok (.aload_n 0, 1) := by decide +kernel
theorem dL_mean_139 : decode cL_mean 139 = .ok (.iconst 0, 1) := by decide +kernel
theorem dL_mean_140 : decode cL_mean 140 = .ok (.iaload, 1) := by decide +kernel
theorem dL_mean_141 : decode cL_mean 141 = .ok (.if_icmp .gt 19, 3) := by decide +kernel
theorem dL_mean_144 : decode cL_mean 144 = .ok (.aload 8, 2) := by decide +kernel
theorem dL_mean_146 : decode cL_mean 146 = .ok (.iload 14, 2) := by decide +kernel
theorem dL_mean_148 : decode cL_mean 148 = .ok (.aload 7, 2) := by decide +kernel
theorem dL_mean_150 : decode cL_mean 150 = .ok (.iload 14, 2) := by decide +kernel
theorem dL_mean_152 : decode cL_mean 152 = .ok (.laload, 1) := by decide +kernel
theorem dL_mean_153 : decode cL_mean 153 = .ok (.lastore, 1) := by decide +kernel
theorem dL_mean_154 : decode cL_mean 154 = .ok (.iinc 14 1, 3) := by decide +kernel
theorem dL_mean_157 : decode cL_mean 157 = .ok (.goto (-21), 3) := by decide +kernel
theorem dL_mean_160 : decode cL_mean 160 = .ok (.iinc 11 (-1), 3) := by decide +kernel
theorem dL_mean_163 : decode cL_mean 163 = .ok (.goto (-140), 3) := by decide +kernel
theorem dL_mean_166 : decode cL_mean 166 = .ok (.aload 6, 2) := by decide +kernel
theorem dL_mean_168 : decode cL_mean 168 = .ok (.iconst 0, 1) := by decide +kernel
theorem dL_mean_169 : decode cL_mean 169 = .ok (.aload 8, 2) := by decide +kernel
theorem dL_mean_171 : decode cL_mean 171 = .ok (.iload 5, 2) := by decide +kernel
theorem dL_mean_173 : decode cL_mean 173 = .ok (.laload, 1) := by decide +kernel
theorem dL_mean_174 : decode cL_mean 174 = .ok (.lastore, 1) := by decide +kernel
theorem dL_mean_175 : decode cL_mean 175 = .ok (.aload 6, 2) := by decide +kernel
theorem dL_mean_177 : decode cL_mean 177 = .ok (.iconst 1, 1) := by decide +kernel
theorem dL_mean_178 : decode cL_mean 178 = .ok (.lload 9, 2) := by decide +kernel
theorem dL_mean_180 : decode cL_mean 180 = .ok (.lastore, 1) := by decide +kernel
theorem dL_mean_181 : decode cL_mean 181 = .ok (.return_, 1) := by decide +kernel
theorem dL_isMean_0 : decode cL_isMean 0 = .ok (.iconst 2, 1) := by decide +kernel
theorem dL_isMean_1 : decode cL_isMean 1 = .ok (.newarray .long, 2) := by decide +kernel
theorem dL_isMean_3 : decode cL_isMean 3 = .ok (.astore 7, 2) := by decide +kernel
theorem dL_isMean_5 : decode cL_isMean 5 = .ok (.aload_n 1, 1) := by decide +kernel
theorem dL_isMean_6 : decode cL_isMean 6 = .ok (.aload_n 2, 1) := by decide +kernel
theorem dL_isMean_7 : decode cL_isMean 7 = .ok (.aload_n 3, 1) := by decide +kernel
theorem dL_isMean_8 : decode cL_isMean 8 = .ok (.aload 4, 2) := by decide +kernel
theorem dL_isMean_10 : decode cL_isMean 10 = .ok (.aload 5, 2) := by decide +kernel
theorem dL_isMean_12 : decode cL_isMean 12 = .ok (.iload 6, 2) := by decide +kernel
theorem dL_isMean_14 : decode cL_isMean 14 = .ok (.aload 7, 2) := by decide +kernel
theorem dL_isMean_16 : decode cL_isMean 16 = .ok (.invokestatic 24, 3) := by decide +kernel
theorem dL_isMean_19 : decode cL_isMean 19 = .ok (.aload_n 0, 1) := by decide +kernel
theorem dL_isMean_20 : decode cL_isMean 20 = .ok (.iload 6, 2) := by decide +kernel
theorem dL_isMean_22 : decode cL_isMean 22 = .ok (.iconst 0, 1) := by decide +kernel
theorem dL_isMean_23 : decode cL_isMean 23 = .ok (.invokevirtual 28, 3) := by decide +kernel
theorem dL_isMean_26 : decode cL_isMean 26 = .ok (.lstore 8, 2) := by decide +kernel
theorem dL_isMean_28 : decode cL_isMean 28 = .ok (.aload_n 0, 1) := by decide +kernel
theorem dL_isMean_29 : decode cL_isMean 29 = .ok (.iload 6, 2) := by decide +kernel
theorem dL_isMean_31 : decode cL_isMean 31 = .ok (.iconst 1, 1) := by decide +kernel
theorem dL_isMean_32 : decode cL_isMean 32 = .ok (.invokevirtual 28, 3) := by decide +kernel
theorem dL_isMean_35 : decode cL_isMean 35 = .ok (.lstore 10, 2) := by decide +kernel
theorem dL_isMean_37 : decode cL_isMean 37 = .ok (.lload 10, 2) := by decide +kernel
theorem dL_isMean_39 : decode cL_isMean 39 = .ok (.lconst 0, 1) := by decide +kernel
theorem dL_isMean_40 : decode cL_isMean 40 = .ok (.lcmp, 1) := by decide +kernel
theorem dL_isMean_41 : decode cL_isMean 41 = .ok (.ifCond .le 25, 3) := by decide +kernel
theorem dL_isMean_44 : decode cL_isMean 44 = .ok (.lload 8, 2) := by decide +kernel
theorem dL_isMean_46 : decode cL_isMean 46 = .ok (.aload 7, 2) := by decide +kernel
theorem dL_isMean_48 : decode cL_isMean 48 = .ok (.iconst 1, 1) := by decide +kernel
theorem dL_isMean_49 : decode cL_isMean 49 = .ok (.laload, 1) := by decide +kernel
theorem dL_isMean_50 : decode cL_isMean 50 = .ok (.lmul, 1) := by decide +kernel
theorem dL_isMean_51 : decode cL_isMean 51 = .ok (.aload 7, 2) := by decide +kernel
theorem dL_isMean_53 : decode cL_isMean 53 = .ok (.iconst 0, 1) := by decide +kernel
theorem dL_isMean_54 : decode cL_isMean 54 = .ok (.laload, 1) := by decide +kernel
theorem dL_isMean_55 : decode cL_isMean 55 = .ok (.lload 10, 2) := by decide +kernel
theorem dL_isMean_57 : decode cL_isMean 57 = .ok (.lmul, 1) := by decide +kernel
theorem dL_isMean_58 : decode cL_isMean 58 = .ok (.lcmp, 1) := by decide +kernel
theorem dL_isMean_59 : decode cL_isMean 59 = .ok (.ifCond .ne 7, 3) := by decide +kernel
theorem dL_isMean_62 : decode cL_isMean 62 = .ok (.iconst 1, 1) := by decide +kernel
theorem dL_isMean_63 : decode cL_isMean 63 = .ok (.goto 4, 3) := by decide +kernel
theorem dL_isMean_66 : decode cL_isMean 66 = .ok (.iconst 0, 1) := by decide +kernel
theorem dL_isMean_67 : decode cL_isMean 67 = .ok (.ireturn, 1) := by decide +kernel
theorem dL_dice_0 : decode cL_dice 0 = .ok (.aload_n 0, 1) := by decide +kernel
theorem dL_dice_1 : decode cL_dice 1 = .ok (.invokevirtual 31, 3) := by decide +kernel
theorem dL_dice_4 : decode cL_dice 4 = .ok (.pop, 1) := by decide +kernel
theorem dL_dice_5 : decode cL_dice 5 = .ok (.iload_n 1, 1) := by decide +kernel
theorem dL_dice_6 : decode cL_dice 6 = .ok (.iconst 2, 1) := by decide +kernel
theorem dL_dice_7 : decode cL_dice 7 = .ok (.invokestatic 35, 3) := by decide +kernel
theorem dL_dice_10 : decode cL_dice 10 = .ok (.ifCond .ne 144, 3) := by decide +kernel
theorem dL_dice_13 : decode cL_dice 13 = .ok (.iload_n 2, 1) := by decide +kernel
theorem dL_dice_14 : decode cL_dice 14 = .ok (.iconst 3, 1) := by decide +kernel
theorem dL_dice_15 : decode cL_dice 15 = .ok (.invokestatic 35, 3) := by decide +kernel
theorem dL_dice_18 : decode cL_dice 18 = .ok (.istore 6, 2) := by decide +kernel
theorem dL_dice_20 : decode cL_dice 20 = .ok (.iconst 1, 1) := by decide +kernel
theorem dL_dice_21 : decode cL_dice 21 = .ok (.iload_n 2, 1) := by decide +kernel
theorem dL_dice_22 : decode cL_dice 22 = .ok (.iconst 2, 1) := by decide +kernel
theorem dL_dice_23 : decode cL_dice 23 = .ok (.ishr, 1) := by decide +kernel
theorem dL_dice_24 : decode cL_dice 24 = .ok (.bipush 6, 2) := by decide +kernel
theorem dL_dice_26 : decode cL_dice 26 = .ok (.invokestatic 35, 3) := by decide +kernel
theorem dL_dice_29 : decode cL_dice 29 = .ok (.iadd, 1) := by decide +kernel
theorem dL_dice_30 : decode cL_dice 30 = .ok (.istore 7, 2) := by decide +kernel
theorem dL_dice_32 : decode cL_dice 32 = .ok (.iconst 0, 1) := by decide +kernel
theorem dL_dice_33 : decode cL_dice 33 = .ok (.istore 8, 2) := by decide +kernel
theorem dL_dice_35 : decode cL_dice 35 = .ok (.iload 8, 2) := by decide +kernel
theorem dL_dice_37 : decode cL_dice 37 = .ok (.bipush 6, 2) := by decide +kernel
theorem dL_dice_39 : decode cL_dice 39 = .ok (.if_icmp .ge 46, 3) := by decide +kernel
theorem dL_dice_42 : decode cL_dice 42 = .ok (.aload 4, 2) := by decide +kernel
theorem dL_dice_44 : decode cL_dice 44 = .ok (.bipush 6, 2) := by decide +kernel
theorem dL_dice_46 : decode cL_dice 46 = .ok (.iload 6, 2) := by decide +kernel
theorem dL_dice_48 : decode cL_dice 48 = .ok (.imul, 1) := by decide +kernel
theorem dL_dice_49 : decode cL_dice 49 = .ok (.iload 8, 2) := by decide +kernel
theorem dL_dice_51 : decode cL_dice 51 = .ok (.iadd, 1) := by decide +kernel
theorem dL_dice_52 : decode cL_dice 52 = .ok (.iload 8, 2) := by decide +kernel
theorem dL_dice_54 : decode cL_dice 54 = .ok (.iload 7, 2) := by decide +kernel
theorem dL_dice_56 : decode cL_dice 56 = .ok (.if_icmp .ge 21, 3) := by decide +kernel
theorem dL_dice_59 : decode cL_dice 59 = .ok (.iconst 1, 1) := by decide +kernel
theorem dL_dice_60 : decode cL_dice 60 = .ok (.iload_n 2, 1) := by decide +kernel
theorem dL_dice_61 : decode cL_dice 61 = .ok (.iconst 4, 1) := by decide +kernel
theorem dL_dice_62 : decode cL_dice 62 = .ok (.iconst 3, 1) := by decide +kernel
theorem dL_dice_63 : decode cL_dice 63 = .ok (.iload 8, 2) := by decide +kernel
theorem dL_dice_65 : decode cL_dice 65 = .ok (.imul, 1) := by decide +kernel
theorem dL_dice_66 : decode cL_dice 66 = .ok (.iadd, 1) := by decide +kernel
theorem dL_dice_67 : decode cL_dice 67 = .ok (.ishr, 1) := by decide +kernel
theorem dL_dice_68 : decode cL_dice 68 = .ok (.bipush 9, 2) := by decide +kernel
theorem dL_dice_70 : decode cL_dice 70 = .ok (.invokestatic 35, 3) := by decide +kernel
theorem dL_dice_73 : decode cL_dice 73 = .ok (.iadd, 1) := by decide +kernel
theorem dL_dice_74 : decode cL_dice 74 = .ok (.goto 4, 3) := by decide +kernel
theorem dL_dice_77 : decode cL_dice 77 = .ok (.iconst 0, 1) := by decide +kernel
theorem dL_dice_78 : decode cL_dice 78 = .ok (.iastore, 1) := by decide +kernel
theorem dL_dice_79 : decode cL_dice 79 = .ok (.iinc 8 1, 3) := by decide +kernel
theorem dL_dice_82 : decode cL_dice 82 = .ok (.goto (-47), 3) := by decide +kernel
theorem dL_dice_85 : decode cL_dice 85 = .ok (.iconst 0, 1) := by decide +kernel
theorem dL_dice_86 : decode cL_dice 86 = .ok (.istore 8, 2) := by decide +kernel
theorem dL_dice_88 : decode cL_dice 88 = .ok (.iload 8, 2) := by decide +kernel
theorem dL_dice_90 : decode cL_dice 90 = .ok (.iload 7, 2) := by decide +kernel
theorem dL_dice_92 : decode cL_dice 92 = .ok (.if_icmp .ge 28, 3) := by decide +kernel
theorem dL_dice_95 : decode cL_dice 95 = .ok (.aload_n 0, 1) := by decide +kernel
theorem dL_dice_96 : decode cL_dice 96 = .ok (.bipush 48, 2) := by decide +kernel
theorem dL_dice_98 : decode cL_dice 98 = .ok (.aload 4, 2) := by decide +kernel
theorem dL_dice_100 : decode cL_dice 100 = .ok (.bipush 6, 2) := by decide +kernel
theorem dL_dice_102 : decode cL_dice 102 = .ok (.iload 6, 2) := by decide +kernel
theorem dL_dice_104 : decode cL_dice 104 = .ok (.imul, 1) := by decide +kernel
theorem dL_dice_105 : decode cL_dice 105 = .ok (.iload 8, 2) := by decide +kernel
theorem dL_dice_107 : decode cL_dice 107 = .ok (.iadd, 1) := by decide +kernel
theorem dL_dice_108 : decode cL_dice 108 = .ok (.iaload, 1) := by decide +kernel
theorem dL_dice_109 : decode cL_dice 109 = .ok (.iadd, 1) := by decide +kernel
theorem dL_dice_110 : decode cL_dice 110 = .ok (.invokevirtual 8, 3) := by decide +kernel
theorem dL_dice_113 : decode cL_dice 113 = .ok (.pop, 1) := by decide +kernel
theorem dL_dice_114 : decode cL_dice 114 = .ok (.iinc 8 1, 3) := by decide +kernel
theorem dL_dice_117 : decode cL_dice 117 = .ok (.goto (-29), 3) := by decide +kernel
theorem dL_dice_120 : decode cL_dice 120 = .ok (.aload_n 0, 1) := by decide +kernel
theorem dL_dice_121 : decode cL_dice 121 = .ok (.iconst 0, 1) := by decide +kernel
theorem dL_dice_122 : decode cL_dice 122 = .ok (.invokevirtual 39, 3) := by decide +kernel
theorem dL_dice_125 : decode cL_dice 125 = .ok (.iload 7, 2) := by decide +kernel
theorem dL_dice_127 : decode cL_dice 127 = .ok (.if_icmp .ne 25, 3) := by decide +kernel
theorem dL_dice_130 : decode cL_dice 130 = .ok (.aload_n 0, 1) := by decide +kernel
theorem dL_dice_131 : decode cL_dice 131 = .ok (.iload 6, 2) := by decide +kernel
theorem dL_dice_133 : decode cL_dice 133 = .ok (.invokevirtual 43, 3) := by decide +kernel
theorem dL_dice_136 : decode cL_dice 136 = .ok (.iload 7, 2) := by decide +kernel
theorem dL_dice_138 : decode cL_dice 138 = .ok (.if_icmp .ne 14, 3) := by decide +kernel
theorem dL_dice_141 : decode cL_dice 141 = .ok (.aload_n 0, 1) := by decide +kernel
theorem dL_dice_142 : decode cL_dice 142 = .ok (.invokevirtual 31, 3) := by decide +kernel
theorem dL_dice_145 : decode cL_dice 145 = .ok (.ifCond .ne 7, 3) := by decide +kernel
theorem dL_dice_148 : decode cL_dice 148 = .ok (.iconst 1, 1) := by decide +kernel
theorem dL_dice_149 : decode cL_dice 149 = .ok (.goto 4, 3) := by decide +kernel
theorem dL_dice_152 : decode cL_dice 152 = .ok (.iconst 0, 1) := by decide +kernel
theorem dL_dice_153 : decode cL_dice 153 = .ok (.ireturn, 1) := by decide +kernel
theorem dL_dice_154 : decode cL_dice 154 = .ok (.aload_n 3, 1) := by decide +kernel
theorem dL_dice_155 : decode cL_dice 155 = .ok (.iconst 3, 1) := by decide +kernel
theorem dL_dice_156 : decode cL_dice 156 = .ok (.iconst 1, 1) := by decide +kernel
theorem dL_dice_157 : decode cL_dice 157 = .ok (.iload_n 2, 1) := by decide +kernel
theorem dL_dice_158 : decode cL_dice 158 = .ok (.iconst 4, 1) := by decide +kernel
theorem dL_dice_159 : decode cL_dice 159 = .ok (.invokestatic 35, 3) := by decide +kernel
theorem dL_dice_162 : decode cL_dice 162 = .ok (.iadd, 1) := by decide +kernel
theorem dL_dice_163 : decode cL_dice 163 = .ok (.iastore, 1) := by decide +kernel
theorem dL_dice_164 : decode cL_dice 164 = .ok (.iconst 0, 1) := by decide +kernel
theorem dL_dice_165 : decode cL_dice 165 = .ok (.istore 6, 2) := by decide +kernel
theorem dL_dice_167 : decode cL_dice 167 = .ok (.iload 6, 2) := by decide +kernel
theorem dL_dice_169 : decode cL_dice 169 = .ok (.iconst 4, 1) := by decide +kernel
theorem dL_dice_170 : decode cL_dice 170 = .ok (.if_icmp .ge 38, 3) := by decide +kernel
theorem dL_dice_173 : decode cL_dice 173 = .ok (.aload 5, 2) := by decide +kernel
theorem dL_dice_175 : decode cL_dice 175 = .ok (.iload 6, 2) := by decide +kernel
theorem dL_dice_177 : decode cL_dice 177 = .ok (.iload 6, 2) := by decide +kernel
theorem dL_dice_179 : decode cL_dice 179 = .ok (.aload_n 3, 1) := by decide +kernel
theorem dL_dice_180 : decode cL_dice 180 = .ok (.iconst 3, 1) := by decide +kernel
theorem dL_dice_181 : decode cL_dice 181 = .ok (.iaload, 1) := by decide +kernel
theorem dL_dice_182 : decode cL_dice 182 = .ok (.if_icmp .ge 18, 3) := by decide +kernel
theorem dL_dice_185 : decode cL_dice 185 = .ok (.iload_n 2, 1) := by decide +kernel
theorem dL_dice_186 : decode cL_dice 186 = .ok (.iconst 3, 1) := by decide +kernel
theorem dL_dice_187 : decode cL_dice 187 = .ok (.iconst 2, 1) := by decide +kernel
theorem dL_dice_188 : decode cL_dice 188 = .ok (.iload 6, 2) := by decide +kernel
theorem dL_dice_190 : decode cL_dice 190 = .ok (.imul, 1) := by decide +kernel
theorem dL_dice_191 : decode cL_dice 191 = .ok (.iadd, 1) := by decide +kernel
theorem dL_dice_192 : decode cL_dice 192 = .ok (.ishr, 1) := by decide +kernel
theorem dL_dice_193 : decode cL_dice 193 = .ok (.iconst 3, 1) := by decide +kernel
theorem dL_dice_194 : decode cL_dice 194 = .ok (.invokestatic 35, 3) := by decide +kernel
theorem dL_dice_197 : decode cL_dice 197 = .ok (.goto 4, 3) := by decide +kernel
theorem dL_dice_200 : decode cL_dice 200 = .ok (.iconst (-1), 1) := by decide +kernel
theorem dL_dice_201 : decode cL_dice 201 = .ok (.iastore, 1) := by decide +kernel
theorem dL_dice_202 : decode cL_dice 202 = .ok (.iinc 6 1, 3) := by decide +kernel
theorem dL_dice_205 : decode cL_dice 205 = .ok (.goto (-38), 3) := by decide +kernel
theorem dL_dice_208 : decode cL_dice 208 = .ok (.aload_n 0, 1) := by decide +kernel
theorem dL_dice_209 : decode cL_dice 209 = .ok (.aload 5, 2) := by decide +kernel
theorem dL_dice_211 : decode cL_dice 211 = .ok (.iconst 0, 1) := by decide +kernel
theorem dL_dice_212 : decode cL_dice 212 = .ok (.iaload, 1) := by decide +kernel
theorem dL_dice_213 : decode cL_dice 213 = .ok (.aload 5, 2) := by decide +kernel
theorem dL_dice_215 : decode cL_dice 215 = .ok (.iconst 1, 1) := by decide +kernel
theorem dL_dice_216 : decode cL_dice 216 = .ok (.iaload, 1) := by decide +kernel
theorem dL_dice_217 : decode cL_dice 217 = .ok (.aload 5, 2) := by decide +kernel
theorem dL_dice_219 : decode cL_dice 219 = .ok (.iconst 2, 1) := by decide +kernel
theorem dL_dice_220 : decode cL_dice 220 = .ok (.iaload, 1) := by decide +kernel
theorem dL_dice_221 : decode cL_dice 221 = .ok (.aload 5, 2) := by decide +kernel
theorem dL_dice_223 : decode cL_dice 223 = .ok (.iconst 3, 1) := by decide +kernel
theorem dL_dice_224 : decode cL_dice 224 = .ok (.iaload, 1) := by decide +kernel
theorem dL_dice_225 : decode cL_dice 225 = .ok (.invokevirtual 46, 3) := by decide +kernel
theorem dL_dice_228 : decode cL_dice 228 = .ok (.aload_n 3, 1) := by decide +kernel
theorem dL_dice_229 : decode cL_dice 229 = .ok (.iconst 3, 1) := by decide +kernel
theorem dL_dice_230 : decode cL_dice 230 = .ok (.iaload, 1) := by decide +kernel
theorem dL_dice_231 : decode cL_dice 231 = .ok (.if_icmp .ne 7, 3) := by decide +kernel
theorem dL_dice_234 : decode cL_dice 234 = .ok (.iconst 1, 1) := by decide +kernel
theorem dL_dice_235 : decode cL_dice 235 = .ok (.goto 4, 3) := by decide +kernel
theorem dL_dice_238 : decode cL_dice 238 = .ok (.iconst 0, 1) := by decide +kernel
theorem dL_dice_239 : decode cL_dice 239 = .ok (.ireturn, 1) := by decide +kernel
theorem dL_links_0 : decode cL_links 0 = .ok (.iload_n 1, 1) := by decide +kernel
theorem dL_links_1 : decode cL_links 1 = .ok (.bipush 8, 2) := by decide +kernel
theorem dL_links_3 : decode cL_links 3 = .ok (.invokestatic 35, 3) := by decide +kernel
theorem dL_links_6 : decode cL_links 6 = .ok (.istore 6, 2) := by decide +kernel
theorem dL_links_8 : decode cL_links 8 = .ok (.iload_n 2, 1) := by decide +kernel
theorem dL_links_9 : decode cL_links 9 = .ok (.aload_n 3, 1) := by decide +kernel
theorem dL_links_10 : decode cL_links 10 = .ok (.iconst 0, 1) := by decide +kernel
theorem dL_links_11 : decode cL_links 11 = .ok (.iaload, 1) := by decide +kernel
theorem dL_links_12 : decode cL_links 12 = .ok (.iconst 1, 1) := by decide +kernel
theorem dL_links_13 : decode cL_links 13 = .ok (.iadd, 1) := by decide +kernel
theorem dL_links_14 : decode cL_links 14 = .ok (.invokestatic 35, 3) := by decide +kernel
theorem dL_links_17 : decode cL_links 17 = .ok (.istore 7, 2) := by decide +kernel
theorem dL_links_19 : decode cL_links 19 = .ok (.iload_n 2, 1) := by decide +kernel
theorem dL_links_20 : decode cL_links 20 = .ok (.bipush 6, 2) := by decide +kernel
theorem dL_links_22 : decode cL_links 22 = .ok (.ishr, 1) := by decide +kernel
theorem dL_links_23 : decode cL_links 23 = .ok (.aload_n 3, 1) := by decide +kernel
theorem dL_links_24 : decode cL_links 24 = .ok (.iconst 0, 1) := by decide +kernel
theorem dL_links_25 : decode cL_links 25 = .ok (.iaload, 1) := by decide +kernel
theorem dL_links_26 : decode cL_links 26 = .ok (.iconst 1, 1) := by decide +kernel
theorem dL_links_27 : decode cL_links 27 = .ok (.iadd, 1) := by decide +kernel
theorem dL_links_28 : decode cL_links 28 = .ok (.invokestatic 35, 3) := by decide +kernel
theorem dL_links_31 : decode cL_links 31 = .ok (.istore 8, 2) := by decide +kernel
theorem dL_links_33 : decode cL_links 33 = .ok (.iload 6, 2) := by decide +kernel
theorem dL_links_35 : decode cL_links 35 = .ok (.iconst 5, 1) := by decide +kernel
theorem dL_links_36 : decode cL_links 36 = .ok (.if_icmp .ge 99, 3) := by decide +kernel
theorem dL_links_39 : decode cL_links 39 = .ok (.aload_n 3, 1) := by decide +kernel
theorem dL_links_40 : decode cL_links 40 = .ok (.iconst 1, 1) := by decide +kernel
theorem dL_links_41 : decode cL_links 41 = .ok (.iaload, 1) := by decide +kernel
theorem dL_links_42 : decode cL_links 42 = .ok (.bipush 10, 2) := by decide +kernel
theorem dL_links_44 : decode cL_links 44 = .ok (.if_icmp .ge 91, 3) := by decide +kernel
theorem dL_links_47 : decode cL_links 47 = .ok (.aload_n 3, 1) := by decide +kernel
theorem dL_links_48 : decode cL_links 48 = .ok (.aload 4, 2) := by decide +kernel
theorem dL_links_50 : decode cL_links 50 = .ok (.aload 5, 2) := by decide +kernel
theorem dL_links_52 : decode cL_links 52 = .ok (.iload 7, 2) := by decide +kernel
theorem dL_links_54 : decode cL_links 54 = .ok (.iload 8, 2) := by decide +kernel
theorem dL_links_56 : decode cL_links 56 = .ok (.iconst (-1), 1) := by decide +kernel
theorem dL_links_57 : decode cL_links 57 = .ok (.invokestatic 50, 3) := by decide +kernel
theorem dL_links_60 : decode cL_links 60 = .ok (.ifCond .ne 15, 3) := by decide +kernel
theorem dL_links_63 : decode cL_links 63 = .ok (.aload_n 3, 1) := by decide +kernel
theorem dL_links_64 : decode cL_links 64 = .ok (.iconst 4, 1) := by decide +kernel
theorem dL_links_65 : decode cL_links 65 = .ok (.iaload, 1) := by decide +kernel
theorem dL_links_66 : decode cL_links 66 = .ok (.ifCond .lt 7, 3) := by decide +kernel
theorem dL_links_69 : decode cL_links 69 = .ok (.iconst 1, 1) := by decide +kernel
theorem dL_links_70 : decode cL_links 70 = .ok (.goto 4, 3) := by decide +kernel
theorem dL_links_73 : decode cL_links 73 = .ok (.iconst 0, 1) := by decide +kernel
theorem dL_links_74 : decode cL_links 74 = .ok (.ireturn, 1) := by decide +kernel
theorem dL_links_75 : decode cL_links 75 = .ok (.aload 4, 2) := by decide +kernel
theorem dL_links_77 : decode cL_links 77 = .ok (.aload_n 3, 1) := by decide +kernel
theorem dL_links_78 : decode cL_links 78 = .ok (.iconst 1, 1) := by decide +kernel
theorem dL_links_79 : decode cL_links 79 = .ok (.iaload, 1) := by decide +kernel
theorem dL_links_80 : decode cL_links 80 = .ok (.iload 7, 2) := by decide +kernel
theorem dL_links_82 : decode cL_links 82 = .ok (.iastore, 1) := by decide +kernel
theorem dL_links_83 : decode cL_links 83 = .ok (.aload 5, 2) := by decide +kernel
theorem dL_links_85 : decode cL_links 85 = .ok (.aload_n 3, 1) := by decide +kernel
theorem dL_links_86 : decode cL_links 86 = .ok (.iconst 1, 1) := by decide +kernel
theorem dL_links_87 : decode cL_links 87 = .ok (.iaload, 1) := by decide +kernel
theorem dL_links_88 : decode cL_links 88 = .ok (.iload 8, 2) := by decide +kernel
theorem dL_links_90 : decode cL_links 90 = .ok (.iastore, 1) := by decide +kernel
theorem dL_links_91 : decode cL_links 91 = .ok (.aload_n 3, 1) := by decide +kernel
theorem dL_links_92 : decode cL_links 92 = .ok (.iconst 1, 1) := by decide +kernel
theorem dL_links_93 : decode cL_links 93 = .ok (.dup2, 1) := by decide +kernel
theorem dL_links_94 : decode cL_links 94 = .ok (.iaload, 1) := by decide +kernel
theorem dL_links_95 : decode cL_links 95 = .ok (.iconst 1, 1) := by decide +kernel
theorem dL_links_96 : decode cL_links 96 = .ok (.iadd, 1) := by decide +kernel
theorem dL_links_97 : decode cL_links 97 = .ok (.iastore, 1) := by decide +kernel
theorem dL_links_98 : decode cL_links 98 = .ok (.aload_n 3, 1) := by decide +kernel
theorem dL_links_99 : decode cL_links 99 = .ok (.iconst 4, 1) := by decide +kernel
theorem dL_links_100 : decode cL_links 100 = .ok (.iaload, 1) := by decide +kernel
theorem dL_links_101 : decode cL_links 101 = .ok (.bipush 6, 2) := by decide +kernel
theorem dL_links_103 : decode cL_links 103 = .ok (.if_icmp .ge 10, 3) := by decide +kernel
theorem dL_links_106 : decode cL_links 106 = .ok (.aload_n 3, 1) := by decide +kernel
theorem dL_links_107 : decode cL_links 107 = .ok (.iconst 4, 1) := by decide +kernel
theorem dL_links_108 : decode cL_links 108 = .ok (.dup2, 1) := by decide +kernel
theorem dL_links_109 : decode cL_links 109 = .ok (.iaload, 1) := by decide +kernel
theorem dL_links_110 : decode cL_links 110 = .ok (.iconst 1, 1) := by decide +kernel
theorem dL_links_111 : decode cL_links 111 = .ok (.iadd, 1) := by decide +kernel
theorem dL_links_112 : decode cL_links 112 = .ok (.iastore, 1) := by decide +kernel
theorem dL_links_113 : decode cL_links 113 = .ok (.aload_n 0, 1) := by decide +kernel
theorem dL_links_114 : decode cL_links 114 = .ok (.iload 7, 2) := by decide +kernel
theorem dL_links_116 : decode cL_links 116 = .ok (.iload 8, 2) := by decide +kernel
theorem dL_links_118 : decode cL_links 118 = .ok (.invokevirtual 54, 3) := by decide +kernel
theorem dL_links_121 : decode cL_links 121 = .ok (.aload_n 3, 1) := by decide +kernel
theorem dL_links_122 : decode cL_links 122 = .ok (.iconst 1, 1) := by decide +kernel
theorem dL_links_123 : decode cL_links 123 = .ok (.iaload, 1) := by decide +kernel
theorem dL_links_124 : decode cL_links 124 = .ok (.iconst 1, 1) := by decide +kernel
theorem dL_links_125 : decode cL_links 125 = .ok (.isub, 1) := by decide +kernel
theorem dL_links_126 : decode cL_links 126 = .ok (.if_icmp .ne 7, 3) := by decide +kernel
theorem dL_links_129 : decode cL_links 129 = .ok (.iconst 1, 1) := by decide +kernel
theorem dL_links_130 : decode cL_links 130 = .ok (.goto 4, 3) := by decide +kernel
theorem dL_links_133 : decode cL_links 133 = .ok (.iconst 0, 1) := by decide +kernel
theorem dL_links_134 : decode cL_links 134 = .ok (.ireturn, 1) := by decide +kernel
theorem dL_links_135 : decode cL_links 135 = .ok (.aload_n 3, 1) := by decide +kernel
theorem dL_links_136 : decode cL_links 136 = .ok (.iconst 1, 1) := by decide +kernel
theorem dL_links_137 : decode cL_links 137 = .ok (.iaload, 1) := by decide +kernel
theorem dL_links_138 : decode cL_links 138 = .ok (.ifCond .ne 5, 3) := by decide +kernel
theorem dL_links_141 : decode cL_links 141 = .ok (.iconst 1, 1) := by decide +kernel
theorem dL_links_142 : decode cL_links 142 = .ok (.ireturn, 1) := by decide +kernel
theorem dL_links_143 : decode cL_links 143 = .ok (.iload_n 2, 1) := by decide +kernel
theorem dL_links_144 : decode cL_links 144 = .ok (.bipush 12, 2) := by decide +kernel
theorem dL_links_146 : decode cL_links 146 = .ok (.ishr, 1) := by decide +kernel
theorem dL_links_147 : decode cL_links 147 = .ok (.aload_n 3, 1) := by decide +kernel
theorem dL_links_148 : decode cL_links 148 = .ok (.iconst 1, 1) := by decide +kernel
theorem dL_links_149 : decode cL_links 149 = .ok (.iaload, 1) := by decide +kernel
theorem dL_links_150 : decode cL_links 150 = .ok (.invokestatic 35, 3) := by decide +kernel
theorem dL_links_153 : decode cL_links 153 = .ok (.istore 9, 2) := by decide +kernel
theorem dL_links_155 : decode cL_links 155 = .ok (.iload 6, 2) := by decide +kernel
theorem dL_links_157 : decode cL_links 157 = .ok (.iconst 5, 1) := by decide +kernel
theorem dL_links_158 : decode cL_links 158 = .ok (.if_icmp .ne 73, 3) := by decide +kernel
theorem dL_links_161 : decode cL_links 161 = .ok (.aload_n 3, 1) := by decide +kernel
theorem dL_links_162 : decode cL_links 162 = .ok (.aload 4, 2) := by decide +kernel
theorem dL_links_164 : decode cL_links 164 = .ok (.aload 5, 2) := by decide +kernel
theorem dL_links_166 : decode cL_links 166 = .ok (.iload 7, 2) := by decide +kernel
theorem dL_links_168 : decode cL_links 168 = .ok (.aload 5, 2) := by decide +kernel
theorem dL_links_170 : decode cL_links 170 = .ok (.iload 9, 2) := by decide +kernel
theorem dL_links_172 : decode cL_links 172 = .ok (.iaload, 1) := by decide +kernel
theorem dL_links_173 : decode cL_links 173 = .ok (.iload 9, 2) := by decide +kernel
theorem dL_links_175 : decode cL_links 175 = .ok (.invokestatic 50, 3) := by decide +kernel
theorem dL_links_178 : decode cL_links 178 = .ok (.ifCond .ne 5, 3) := by decide +kernel
theorem dL_links_181 : decode cL_links 181 = .ok (.iconst 1, 1) := by decide +kernel
theorem dL_links_182 : decode cL_links 182 = .ok (.ireturn, 1) := by decide +kernel
theorem dL_links_183 : decode cL_links 183 = .ok (.aload 4, 2) := by decide +kernel
theorem dL_links_185 : decode cL_links 185 = .ok (.iload 9, 2) := by decide +kernel
theorem dL_links_187 : decode cL_links 187 = .ok (.iaload, 1) := by decide +kernel
theorem dL_links_188 : decode cL_links 188 = .ok (.istore 10, 2) := by decide +kernel
theorem dL_links_190 : decode cL_links 190 = .ok (.aload 4, 2) := by decide +kernel
theorem dL_links_192 : decode cL_links 192 = .ok (.iload 9, 2) := by decide +kernel
theorem dL_links_194 : decode cL_links 194 = .ok (.iload 7, 2) := by decide +kernel
theorem dL_links_196 : decode cL_links 196 = .ok (.iastore, 1) := by decide +kernel
theorem dL_links_197 : decode cL_links 197 = .ok (.aload_n 3, 1) := by decide +kernel
theorem dL_links_198 : decode cL_links 198 = .ok (.iconst 4, 1) := by decide +kernel
theorem dL_links_199 : decode cL_links 199 = .ok (.iaload, 1) := by decide +kernel
theorem dL_links_200 : decode cL_links 200 = .ok (.bipush 6, 2) := by decide +kernel
theorem dL_links_202 : decode cL_links 202 = .ok (.if_icmp .ge 10, 3) := by decide +kernel
theorem dL_links_205 : decode cL_links 205 = .ok (.aload_n 3, 1) := by decide +kernel
theorem dL_links_206 : decode cL_links 206 = .ok (.iconst 4, 1) := by decide +kernel
theorem dL_links_207 : decode cL_links 207 = .ok (.dup2, 1) := by decide +kernel
theorem dL_links_208 : decode cL_links 208 = .ok (.iaload, 1) := by decide +kernel
theorem dL_links_209 : decode cL_links 209 = .ok (.iconst 1, 1) := by decide +kernel
theorem dL_links_210 : decode cL_links 210 = .ok (.iadd, 1) := by decide +kernel
theorem dL_links_211 : decode cL_links 211 = .ok (.iastore, 1) := by decide +kernel
theorem dL_links_212 : decode cL_links 212 = .ok (.aload_n 0, 1) := by decide +kernel
theorem dL_links_213 : decode cL_links 213 = .ok (.iload 9, 2) := by decide +kernel
theorem dL_links_215 : decode cL_links 215 = .ok (.iload 7, 2) := by decide +kernel
theorem dL_links_217 : decode cL_links 217 = .ok (.invokevirtual 57, 3) := by decide +kernel
theorem dL_links_220 : decode cL_links 220 = .ok (.iload 10, 2) := by decide +kernel
theorem dL_links_222 : decode cL_links 222 = .ok (.if_icmp .ne 7, 3) := by decide +kernel
theorem dL_links_225 : decode cL_links 225 = .ok (.iconst 1, 1) := by decide +kernel
theorem dL_links_226 : decode cL_links 226 = .ok (.goto 4, 3) := by decide +kernel
theorem dL_links_229 : decode cL_links 229 = .ok (.iconst 0, 1) := by decide +kernel
theorem dL_links_230 : decode cL_links 230 = .ok (.ireturn, 1) := by decide +kernel
theorem dL_links_231 : decode cL_links 231 = .ok (.aload_n 3, 1) := by decide +kernel
theorem dL_links_232 : decode cL_links 232 = .ok (.iconst 1, 1) := by decide +kernel
theorem dL_links_233 : decode cL_links 233 = .ok (.dup2, 1) := by decide +kernel
theorem dL_links_234 : decode cL_links 234 = .ok (.iaload, 1) := by decide +kernel
theorem dL_links_235 : decode cL_links 235 = .ok (.iconst 1, 1) := by decide +kernel
theorem dL_links_236 : decode cL_links 236 = .ok (.isub, 1) := by decide +kernel
theorem dL_links_237 : decode cL_links 237 = .ok (.iastore, 1) := by decide +kernel
theorem dL_links_238 : decode cL_links 238 = .ok (.iload 9, 2) := by decide +kernel
theorem dL_links_240 : decode cL_links 240 = .ok (.istore 10, 2) := by decide +kernel
theorem dL_links_242 : decode cL_links 242 = .ok (.iload 10, 2) := by decide +kernel
theorem dL_links_244 : decode cL_links 244 = .ok (.aload_n 3, 1) := by decide +kernel
theorem dL_links_245 : decode cL_links 245 = .ok (.iconst 1, 1) := by decide +kernel
theorem dL_links_246 : decode cL_links 246 = .ok (.iaload, 1) := by decide +kernel
theorem dL_links_247 : decode cL_links 247 = .ok (.if_icmp .ge 33, 3) := by decide +kernel
theorem dL_links_250 : decode cL_links 250 = .ok (.aload 4, 2) := by decide +kernel
theorem dL_links_252 : decode cL_links 252 = .ok (.iload 10, 2) := by decide +kernel
theorem dL_links_254 : decode cL_links 254 = .ok (.aload 4, 2) := by decide +kernel
theorem dL_links_256 : decode cL_links 256 = .ok (.iload 10, 2) := by decide +kernel
theorem dL_links_258 : decode cL_links 258 = .ok (.iconst 1, 1) := by decide +kernel
theorem dL_links_259 : decode cL_links 259 = .ok (.iadd, 1) := by decide +kernel
theorem dL_links_260 : decode cL_links 260 = .ok (.iaload, 1) := by decide +kernel
theorem dL_links_261 : decode cL_links 261 = .ok (.iastore, 1) := by decide +kernel
theorem dL_links_262 : decode cL_links 262 = .ok (.aload 5, 2) := by decide +kernel
theorem dL_links_264 : decode cL_links 264 = .ok (.iload 10, 2) := by decide +kernel
theorem dL_links_266 : decode cL_links 266 = .ok (.aload 5, 2) := by decide +kernel
theorem dL_links_268 : decode cL_links 268 = .ok (.iload 10, 2) := by decide +kernel
theorem dL_links_270 : decode cL_links 270 = .ok (.iconst 1, 1) := by decide +kernel
theorem dL_links_271 : decode cL_links 271 = .ok (.iadd, 1) := by decide +kernel
theorem dL_links_272 : decode cL_links 272 = .ok (.iaload, 1) := by decide +kernel
theorem dL_links_273 : decode cL_links 273 = .ok (.iastore, 1) := by decide +kernel
theorem dL_links_274 : decode cL_links 274 = .ok (.iinc 10 1, 3) := by decide +kernel
theorem dL_links_277 : decode cL_links 277 = .ok (.goto (-35), 3) := by decide +kernel
theorem dL_links_280 : decode cL_links 280 = .ok (.aload_n 3, 1) := by decide +kernel
theorem dL_links_281 : decode cL_links 281 = .ok (.iconst 4, 1) := by decide +kernel
theorem dL_links_282 : decode cL_links 282 = .ok (.iaload, 1) := by decide +kernel
theorem dL_links_283 : decode cL_links 283 = .ok (.bipush 6, 2) := by decide +kernel
theorem dL_links_285 : decode cL_links 285 = .ok (.if_icmp .ge 10, 3) := by decide +kernel
theorem dL_links_288 : decode cL_links 288 = .ok (.aload_n 3, 1) := by decide +kernel
theorem dL_links_289 : decode cL_links 289 = .ok (.iconst 4, 1) := by decide +kernel
theorem dL_links_290 : decode cL_links 290 = .ok (.dup2, 1) := by decide +kernel
theorem dL_links_291 : decode cL_links 291 = .ok (.iaload, 1) := by decide +kernel
theorem dL_links_292 : decode cL_links 292 = .ok (.iconst 1, 1) := by decide +kernel
theorem dL_links_293 : decode cL_links 293 = .ok (.iadd, 1) := by decide +kernel
theorem dL_links_294 : decode cL_links 294 = .ok (.iastore, 1) := by decide +kernel
theorem dL_links_295 : decode cL_links 295 = .ok (.aload_n 0, 1) := by decide +kernel
theorem dL_links_296 : decode cL_links 296 = .ok (.iload 9, 2) := by decide +kernel
theorem dL_links_298 : decode cL_links 298 = .ok (.invokevirtual 60, 3) := by decide +kernel
theorem dL_links_301 : decode cL_links 301 = .ok (.aload_n 3, 1) := by decide +kernel
theorem dL_links_302 : decode cL_links 302 = .ok (.iconst 1, 1) := by decide +kernel
theorem dL_links_303 : decode cL_links 303 = .ok (.iaload, 1) := by decide +kernel
theorem dL_links_304 : decode cL_links 304 = .ok (.if_icmp .ne 7, 3) := by decide +kernel
theorem dL_links_307 : decode cL_links 307 = .ok (.iconst 1, 1) := by decide +kernel
theorem dL_links_308 : decode cL_links 308 = .ok (.goto 4, 3) := by decide +kernel
theorem dL_links_311 : decode cL_links 311 = .ok (.iconst 0, 1) := by decide +kernel
theorem dL_links_312 : decode cL_links 312 = .ok (.ireturn, 1) := by decide +kernel
theorem dL_rolls_0 : decode cL_rolls 0 = .ok (.aload_n 3, 1) := by decide +kernel
theorem dL_rolls_1 : decode cL_rolls 1 = .ok (.iconst 2, 1) := by decide +kernel
theorem dL_rolls_2 : decode cL_rolls 2 = .ok (.iaload, 1) := by decide +kernel
theorem dL_rolls_3 : decode cL_rolls 3 = .ok (.ifCond .eq 19, 3) := by decide +kernel
theorem dL_rolls_6 : decode cL_rolls 6 = .ok (.iload_n 1, 1) := by decide +kernel
theorem dL_rolls_7 : decode cL_rolls 7 = .ok (.bipush 9, 2) := by decide +kernel
theorem dL_rolls_9 : decode cL_rolls 9 = .ok (.invokestatic 35, 3) := by decide +kernel
theorem dL_rolls_12 : decode cL_rolls 12 = .ok (.ifCond .ne 64, 3) := by decide +kernel
theorem dL_rolls_15 : decode cL_rolls 15 = .ok (.aload_n 3, 1) := by decide +kernel
theorem dL_rolls_16 : decode cL_rolls 16 = .ok (.iconst 2, 1) := by decide +kernel
theorem dL_rolls_17 : decode cL_rolls 17 = .ok (.iaload, 1) := by decide +kernel
theorem dL_rolls_18 : decode cL_rolls 18 = .ok (.iconst 4, 1) := by decide +kernel
theorem dL_rolls_19 : decode cL_rolls 19 = .ok (.if_icmp .ge 57, 3) := by decide +kernel
theorem dL_rolls_22 : decode cL_rolls 22 = .ok (.aload 8, 2) := by decide +kernel
theorem dL_rolls_24 : decode cL_rolls 24 = .ok (.aload_n 3, 1) := by decide +kernel
theorem dL_rolls_25 : decode cL_rolls 25 = .ok (.iconst 2, 1) := by decide +kernel
theorem dL_rolls_26 : decode cL_rolls 26 = .ok (.iaload, 1) := by decide +kernel
theorem dL_rolls_27 : decode cL_rolls 27 = .ok (.iconst 0, 1) := by decide +kernel
theorem dL_rolls_28 : decode cL_rolls 28 = .ok (.iastore, 1) := by decide +kernel
theorem dL_rolls_29 : decode cL_rolls 29 = .ok (.aload 9, 2) := by decide +kernel
theorem dL_rolls_31 : decode cL_rolls 31 = .ok (.aload_n 3, 1) := by decide +kernel
theorem dL_rolls_32 : decode cL_rolls 32 = .ok (.iconst 2, 1) := by decide +kernel
theorem dL_rolls_33 : decode cL_rolls 33 = .ok (.iaload, 1) := by decide +kernel
theorem dL_rolls_34 : decode cL_rolls 34 = .ok (.iconst 0, 1) := by decide +kernel
theorem dL_rolls_35 : decode cL_rolls 35 = .ok (.iastore, 1) := by decide +kernel
theorem dL_rolls_36 : decode cL_rolls 36 = .ok (.aload_n 3, 1) := by decide +kernel
theorem dL_rolls_37 : decode cL_rolls 37 = .ok (.iconst 2, 1) := by decide +kernel
theorem dL_rolls_38 : decode cL_rolls 38 = .ok (.dup2, 1) := by decide +kernel
theorem dL_rolls_39 : decode cL_rolls 39 = .ok (.iaload, 1) := by decide +kernel
theorem dL_rolls_40 : decode cL_rolls 40 = .ok (.iconst 1, 1) := by decide +kernel
theorem dL_rolls_41 : decode cL_rolls 41 = .ok (.iadd, 1) := by decide +kernel
theorem dL_rolls_42 : decode cL_rolls 42 = .ok (.iastore, 1) := by decide +kernel
theorem dL_rolls_43 : decode cL_rolls 43 = .ok (.aload_n 3, 1) := by decide +kernel
theorem dL_rolls_44 : decode cL_rolls 44 = .ok (.iconst 4, 1) := by decide +kernel
theorem dL_rolls_45 : decode cL_rolls 45 = .ok (.iaload, 1) := by decide +kernel
theorem dL_rolls_46 : decode cL_rolls 46 = .ok (.bipush 6, 2) := by decide +kernel
theorem dL_rolls_48 : decode cL_rolls 48 = .ok (.if_icmp .ge 10, 3) := by decide +kernel
theorem dL_rolls_51 : decode cL_rolls 51 = .ok (.aload_n 3, 1) := by decide +kernel
theorem dL_rolls_52 : decode cL_rolls 52 = .ok (.iconst 4, 1) := by decide +kernel
theorem dL_rolls_53 : decode cL_rolls 53 = .ok (.dup2, 1) := by decide +kernel
theorem dL_rolls_54 : decode cL_rolls 54 = .ok (.iaload, 1) := by decide +kernel
theorem dL_rolls_55 : decode cL_rolls 55 = .ok (.iconst 1, 1) := by decide +kernel
theorem dL_rolls_56 : decode cL_rolls 56 = .ok (.iadd, 1) := by decide +kernel
theorem dL_rolls_57 : decode cL_rolls 57 = .ok (.iastore, 1) := by decide +kernel
theorem dL_rolls_58 : decode cL_rolls 58 = .ok (.aload_n 0, 1) := by decide +kernel
theorem dL_rolls_59 : decode cL_rolls 59 = .ok (.invokevirtual 63, 3) := by decide +kernel
theorem dL_rolls_62 : decode cL_rolls 62 = .ok (.aload_n 3, 1) := by decide +kernel
theorem dL_rolls_63 : decode cL_rolls 63 = .ok (.iconst 2, 1) := by decide +kernel
theorem dL_rolls_64 : decode cL_rolls 64 = .ok (.iaload, 1) := by decide +kernel
theorem dL_rolls_65 : decode cL_rolls 65 = .ok (.iconst 1, 1) := by decide +kernel
theorem dL_rolls_66 : decode cL_rolls 66 = .ok (.isub, 1) := by decide +kernel
theorem dL_rolls_67 : decode cL_rolls 67 = .ok (.if_icmp .ne 7, 3) := by decide +kernel
theorem dL_rolls_70 : decode cL_rolls 70 = .ok (.iconst 1, 1) := by decide +kernel
theorem dL_rolls_71 : decode cL_rolls 71 = .ok (.goto 4, 3) := by decide +kernel
theorem dL_rolls_74 : decode cL_rolls 74 = .ok (.iconst 0, 1) := by decide +kernel
theorem dL_rolls_75 : decode cL_rolls 75 = .ok (.ireturn, 1) := by decide +kernel
theorem dL_rolls_76 : decode cL_rolls 76 = .ok (.iload_n 2, 1) := by decide +kernel
theorem dL_rolls_77 : decode cL_rolls 77 = .ok (.aload_n 3, 1) := by decide +kernel
theorem dL_rolls_78 : decode cL_rolls 78 = .ok (.iconst 2, 1) := by decide +kernel
theorem dL_rolls_79 : decode cL_rolls 79 = .ok (.iaload, 1) := by decide +kernel
theorem dL_rolls_80 : decode cL_rolls 80 = .ok (.invokestatic 35, 3) := by decide +kernel
theorem dL_rolls_83 : decode cL_rolls 83 = .ok (.istore 10, 2) := by decide +kernel
theorem dL_rolls_85 : decode cL_rolls 85 = .ok (.aload 8, 2) := by decide +kernel
theorem dL_rolls_87 : decode cL_rolls 87 = .ok (.iload 10, 2) := by decide +kernel
theorem dL_rolls_89 : decode cL_rolls 89 = .ok (.iaload, 1) := by decide +kernel
theorem dL_rolls_90 : decode cL_rolls 90 = .ok (.aload_n 3, 1) := by decide +kernel
theorem dL_rolls_91 : decode cL_rolls 91 = .ok (.iconst 0, 1) := by decide +kernel
theorem dL_rolls_92 : decode cL_rolls 92 = .ok (.iaload, 1) := by decide +kernel
theorem dL_rolls_93 : decode cL_rolls 93 = .ok (.if_icmp .ne 30, 3) := by decide +kernel
theorem dL_rolls_96 : decode cL_rolls 96 = .ok (.aload_n 0, 1) := by decide +kernel
theorem dL_rolls_97 : decode cL_rolls 97 = .ok (.iload 10, 2) := by decide +kernel
theorem dL_rolls_99 : decode cL_rolls 99 = .ok (.iconst 2, 1) := by decide +kernel
theorem dL_rolls_100 : decode cL_rolls 100 = .ok (.invokevirtual 66, 3) := by decide +kernel
theorem dL_rolls_103 : decode cL_rolls 103 = .ok (.iconst 1, 1) := by decide +kernel
theorem dL_rolls_104 : decode cL_rolls 104 = .ok (.if_icmp .ne 17, 3) := by decide +kernel
theorem dL_rolls_107 : decode cL_rolls 107 = .ok (.aload_n 0, 1) := by decide +kernel
theorem dL_rolls_108 : decode cL_rolls 108 = .ok (.iload 10, 2) := by decide +kernel
theorem dL_rolls_110 : decode cL_rolls 110 = .ok (.invokevirtual 69, 3) := by decide +kernel
theorem dL_rolls_113 : decode cL_rolls 113 = .ok (.iconst (-1), 1) := by decide +kernel
theorem dL_rolls_114 : decode cL_rolls 114 = .ok (.if_icmp .ne 7, 3) := by decide +kernel
theorem dL_rolls_117 : decode cL_rolls 117 = .ok (.iconst 1, 1) := by decide +kernel
theorem dL_rolls_118 : decode cL_rolls 118 = .ok (.goto 4, 3) := by decide +kernel
theorem dL_rolls_121 : decode cL_rolls 121 = .ok (.iconst 0, 1) := by decide +kernel
theorem dL_rolls_122 : decode cL_rolls 122 = .ok (.ireturn, 1) := by decide +kernel
theorem dL_rolls_123 : decode cL_rolls 123 = .ok (.aload 7, 2) := by decide +kernel
theorem dL_rolls_125 : decode cL_rolls 125 = .ok (.aload 9, 2) := by decide +kernel
theorem dL_rolls_127 : decode cL_rolls 127 = .ok (.iload 10, 2) := by decide +kernel
theorem dL_rolls_129 : decode cL_rolls 129 = .ok (.iaload, 1) := by decide +kernel
theorem dL_rolls_130 : decode cL_rolls 130 = .ok (.aload_n 3, 1) := by decide +kernel
theorem dL_rolls_131 : decode cL_rolls 131 = .ok (.iconst 3, 1) := by decide +kernel
theorem dL_rolls_132 : decode cL_rolls 132 = .ok (.iaload, 1) := by decide +kernel
theorem dL_rolls_133 : decode cL_rolls 133 = .ok (.irem, 1) := by decide +kernel
theorem dL_rolls_134 : decode cL_rolls 134 = .ok (.iaload, 1) := by decide +kernel
theorem dL_rolls_135 : decode cL_rolls 135 = .ok (.istore 11, 2) := by decide +kernel
theorem dL_rolls_137 : decode cL_rolls 137 = .ok (.iload_n 2, 1) := by decide +kernel
theorem dL_rolls_138 : decode cL_rolls 138 = .ok (.iconst 4, 1) := by decide +kernel
theorem dL_rolls_139 : decode cL_rolls 139 = .ok (.ishr, 1) := by decide +kernel
theorem dL_rolls_140 : decode cL_rolls 140 = .ok (.aload 6, 2) := by decide +kernel
theorem dL_rolls_142 : decode cL_rolls 142 = .ok (.iload 11, 2) := by decide +kernel
theorem dL_rolls_144 : decode cL_rolls 144 = .ok (.invokestatic 14, 3) := by decide +kernel
theorem dL_rolls_147 : decode cL_rolls 147 = .ok (.invokestatic 35, 3) := by decide +kernel
theorem dL_rolls_150 : decode cL_rolls 150 = .ok (.istore 12, 2) := by decide +kernel
theorem dL_rolls_152 : decode cL_rolls 152 = .ok (.aload 6, 2) := by decide +kernel
theorem dL_rolls_154 : decode cL_rolls 154 = .ok (.bipush 6, 2) := by decide +kernel
theorem dL_rolls_156 : decode cL_rolls 156 = .ok (.iload 11, 2) := by decide +kernel
theorem dL_rolls_158 : decode cL_rolls 158 = .ok (.imul, 1) := by decide +kernel
theorem dL_rolls_159 : decode cL_rolls 159 = .ok (.iload 12, 2) := by decide +kernel
theorem dL_rolls_161 : decode cL_rolls 161 = .ok (.iadd, 1) := by decide +kernel
theorem dL_rolls_162 : decode cL_rolls 162 = .ok (.iaload, 1) := by decide +kernel
theorem dL_rolls_163 : decode cL_rolls 163 = .ok (.istore 13, 2) := by decide +kernel
theorem dL_rolls_165 : decode cL_rolls 165 = .ok (.aload_n 3, 1) := by decide +kernel
theorem dL_rolls_166 : decode cL_rolls 166 = .ok (.aload 4, 2) := by decide +kernel
theorem dL_rolls_168 : decode cL_rolls 168 = .ok (.aload 5, 2) := by decide +kernel
theorem dL_rolls_170 : decode cL_rolls 170 = .ok (.aload 8, 2) := by decide +kernel
theorem dL_rolls_172 : decode cL_rolls 172 = .ok (.iload 10, 2) := by decide +kernel
theorem dL_rolls_174 : decode cL_rolls 174 = .ok (.iaload, 1) := by decide +kernel
theorem dL_rolls_175 : decode cL_rolls 175 = .ok (.iload 13, 2) := by decide +kernel
theorem dL_rolls_177 : decode cL_rolls 177 = .ok (.invokestatic 20, 3) := by decide +kernel
theorem dL_rolls_180 : decode cL_rolls 180 = .ok (.istore 14, 2) := by decide +kernel
theorem dL_rolls_182 : decode cL_rolls 182 = .ok (.aload_n 0, 1) := by decide +kernel
theorem dL_rolls_183 : decode cL_rolls 183 = .ok (.aload 8, 2) := by decide +kernel
theorem dL_rolls_185 : decode cL_rolls 185 = .ok (.iload 10, 2) := by decide +kernel
theorem dL_rolls_187 : decode cL_rolls 187 = .ok (.iaload, 1) := by decide +kernel
theorem dL_rolls_188 : decode cL_rolls 188 = .ok (.iload 13, 2) := by decide +kernel
theorem dL_rolls_190 : decode cL_rolls 190 = .ok (.invokevirtual 72, 3) := by decide +kernel
theorem dL_rolls_193 : decode cL_rolls 193 = .ok (.iload 14, 2) := by decide +kernel
theorem dL_rolls_195 : decode cL_rolls 195 = .ok (.if_icmp .ne 15, 3) := by decide +kernel
theorem dL_rolls_198 : decode cL_rolls 198 = .ok (.aload_n 0, 1) := by decide +kernel
theorem dL_rolls_199 : decode cL_rolls 199 = .ok (.iload 10, 2) := by decide +kernel
theorem dL_rolls_201 : decode cL_rolls 201 = .ok (.iconst 3, 1) := by decide +kernel
theorem dL_rolls_202 : decode cL_rolls 202 = .ok (.invokevirtual 66, 3) := by decide +kernel
theorem dL_rolls_205 : decode cL_rolls 205 = .ok (.iload 11, 2) := by decide +kernel
theorem dL_rolls_207 : decode cL_rolls 207 = .ok (.if_icmp .eq 5, 3) := by decide +kernel
theorem dL_rolls_210 : decode cL_rolls 210 = .ok (.iconst 0, 1) := by decide +kernel
theorem dL_rolls_211 : decode cL_rolls 211 = .ok (.ireturn, 1) := by decide +kernel
theorem dL_rolls_212 : decode cL_rolls 212 = .ok (.aload 8, 2) := by decide +kernel
theorem dL_rolls_214 : decode cL_rolls 214 = .ok (.iload 10, 2) := by decide +kernel
theorem dL_rolls_216 : decode cL_rolls 216 = .ok (.iload 14, 2) := by decide +kernel
theorem dL_rolls_218 : decode cL_rolls 218 = .ok (.iastore, 1) := by decide +kernel
theorem dL_rolls_219 : decode cL_rolls 219 = .ok (.aload 9, 2) := by decide +kernel
theorem dL_rolls_221 : decode cL_rolls 221 = .ok (.iload 10, 2) := by decide +kernel
theorem dL_rolls_223 : decode cL_rolls 223 = .ok (.dup2, 1) := by decide +kernel
theorem dL_rolls_224 : decode cL_rolls 224 = .ok (.iaload, 1) := by decide +kernel
theorem dL_rolls_225 : decode cL_rolls 225 = .ok (.iconst 1, 1) := by decide +kernel
theorem dL_rolls_226 : decode cL_rolls 226 = .ok (.iadd, 1) := by decide +kernel
theorem dL_rolls_227 : decode cL_rolls 227 = .ok (.iastore, 1) := by decide +kernel
theorem dL_rolls_228 : decode cL_rolls 228 = .ok (.aload_n 3, 1) := by decide +kernel
theorem dL_rolls_229 : decode cL_rolls 229 = .ok (.iconst 4, 1) := by decide +kernel
theorem dL_rolls_230 : decode cL_rolls 230 = .ok (.iaload, 1) := by decide +kernel
theorem dL_rolls_231 : decode cL_rolls 231 = .ok (.bipush 6, 2) := by decide +kernel
theorem dL_rolls_233 : decode cL_rolls 233 = .ok (.if_icmp .ge 10, 3) := by decide +kernel
theorem dL_rolls_236 : decode cL_rolls 236 = .ok (.aload_n 3, 1) := by decide +kernel
theorem dL_rolls_237 : decode cL_rolls 237 = .ok (.iconst 4, 1) := by decide +kernel
theorem dL_rolls_238 : decode cL_rolls 238 = .ok (.dup2, 1) := by decide +kernel
theorem dL_rolls_239 : decode cL_rolls 239 = .ok (.iaload, 1) := by decide +kernel
theorem dL_rolls_240 : decode cL_rolls 240 = .ok (.iconst 1, 1) := by decide +kernel
theorem dL_rolls_241 : decode cL_rolls 241 = .ok (.iadd, 1) := by decide +kernel
theorem dL_rolls_242 : decode cL_rolls 242 = .ok (.iastore, 1) := by decide +kernel
theorem dL_rolls_243 : decode cL_rolls 243 = .ok (.aload_n 0, 1) := by decide +kernel
theorem dL_rolls_244 : decode cL_rolls 244 = .ok (.iload 10, 2) := by decide +kernel
theorem dL_rolls_246 : decode cL_rolls 246 = .ok (.iload 12, 2) := by decide +kernel
theorem dL_rolls_248 : decode cL_rolls 248 = .ok (.invokevirtual 75, 3) := by decide +kernel
theorem dL_rolls_251 : decode cL_rolls 251 = .ok (.iload 14, 2) := by decide +kernel
theorem dL_rolls_253 : decode cL_rolls 253 = .ok (.if_icmp .ne 7, 3) := by decide +kernel
theorem dL_rolls_256 : decode cL_rolls 256 = .ok (.iconst 1, 1) := by decide +kernel
theorem dL_rolls_257 : decode cL_rolls 257 = .ok (.goto 4, 3) := by decide +kernel
theorem dL_rolls_260 : decode cL_rolls 260 = .ok (.iconst 0, 1) := by decide +kernel
theorem dL_rolls_261 : decode cL_rolls 261 = .ok (.ireturn, 1) := by decide +kernel
theorem dL_agree_0 : decode cL_agree 0 = .ok (.iconst 0, 1) := by decide +kernel
theorem dL_agree_1 : decode cL_agree 1 = .ok (.istore 8, 2) := by decide +kernel
theorem dL_agree_3 : decode cL_agree 3 = .ok (.iconst 0, 1) := by decide +kernel
theorem dL_agree_4 : decode cL_agree 4 = .ok (.istore 9, 2) := by decide +kernel
theorem dL_agree_6 : decode cL_agree 6 = .ok (.iconst 0, 1) := by decide +kernel
theorem dL_agree_7 : decode cL_agree 7 = .ok (.istore 10, 2) := by decide +kernel
theorem dL_agree_9 : decode cL_agree 9 = .ok (.iload 10, 2) := by decide +kernel
theorem dL_agree_11 : decode cL_agree 11 = .ok (.aload_n 1, 1) := by decide +kernel
theorem dL_agree_12 : decode cL_agree 12 = .ok (.iconst 1, 1) := by decide +kernel
theorem dL_agree_13 : decode cL_agree 13 = .ok (.iaload, 1) := by decide +kernel
theorem dL_agree_14 : decode cL_agree 14 = .ok (.if_icmp .ge 72, 3) := by decide +kernel
theorem dL_agree_17 : decode cL_agree 17 = .ok (.aload_n 3, 1) := by decide +kernel
theorem dL_agree_18 : decode cL_agree 18 = .ok (.iload 10, 2) := by decide +kernel
theorem dL_agree_20 : decode cL_agree 20 = .ok (.iaload, 1) := by decide +kernel
theorem dL_agree_21 : decode cL_agree 21 = .ok (.aload_n 2, 1) := by decide +kernel
theorem dL_agree_22 : decode cL_agree 22 = .ok (.iload 10, 2) := by decide +kernel
theorem dL_agree_24 : decode cL_agree 24 = .ok (.iaload, 1) := by decide +kernel
theorem dL_agree_25 : decode cL_agree 25 = .ok (.if_icmp .le 6, 3) := by decide +kernel
theorem dL_agree_28 : decode cL_agree 28 = .ok (.iinc 8 1, 3) := by decide +kernel
theorem dL_agree_31 : decode cL_agree 31 = .ok (.aload_n 0, 1) := by decide +kernel
theorem dL_agree_32 : decode cL_agree 32 = .ok (.iload 10, 2) := by decide +kernel
theorem dL_agree_34 : decode cL_agree 34 = .ok (.iconst 0, 1) := by decide +kernel
theorem dL_agree_35 : decode cL_agree 35 = .ok (.invokevirtual 78, 3) := by decide +kernel
theorem dL_agree_38 : decode cL_agree 38 = .ok (.aload_n 2, 1) := by decide +kernel
theorem dL_agree_39 : decode cL_agree 39 = .ok (.iload 10, 2) := by decide +kernel
theorem dL_agree_41 : decode cL_agree 41 = .ok (.iaload, 1) := by decide +kernel
theorem dL_agree_42 : decode cL_agree 42 = .ok (.if_icmp .ne 36, 3) := by decide +kernel
theorem dL_agree_45 : decode cL_agree 45 = .ok (.aload_n 0, 1) := by decide +kernel
theorem dL_agree_46 : decode cL_agree 46 = .ok (.iload 10, 2) := by decide +kernel
theorem dL_agree_48 : decode cL_agree 48 = .ok (.iconst 1, 1) := by decide +kernel
theorem dL_agree_49 : decode cL_agree 49 = .ok (.invokevirtual 78, 3) := by decide +kernel
theorem dL_agree_52 : decode cL_agree 52 = .ok (.aload_n 3, 1) := by decide +kernel
theorem dL_agree_53 : decode cL_agree 53 = .ok (.iload 10, 2) := by decide +kernel
theorem dL_agree_55 : decode cL_agree 55 = .ok (.iaload, 1) := by decide +kernel
theorem dL_agree_56 : decode cL_agree 56 = .ok (.if_icmp .ne 22, 3) := by decide +kernel
theorem dL_agree_59 : decode cL_agree 59 = .ok (.aload_n 0, 1) := by decide +kernel
theorem dL_agree_60 : decode cL_agree 60 = .ok (.iload 10, 2) := by decide +kernel
theorem dL_agree_62 : decode cL_agree 62 = .ok (.iconst 2, 1) := by decide +kernel
theorem dL_agree_63 : decode cL_agree 63 = .ok (.invokevirtual 78, 3) := by decide +kernel
theorem dL_agree_66 : decode cL_agree 66 = .ok (.aload_n 3, 1) := by decide +kernel
theorem dL_agree_67 : decode cL_agree 67 = .ok (.iload 10, 2) := by decide +kernel
theorem dL_agree_69 : decode cL_agree 69 = .ok (.iaload, 1) := by decide +kernel
theorem dL_agree_70 : decode cL_agree 70 = .ok (.aload_n 2, 1) := by decide +kernel
theorem dL_agree_71 : decode cL_agree 71 = .ok (.iload 10, 2) := by decide +kernel
theorem dL_agree_73 : decode cL_agree 73 = .ok (.iaload, 1) := by decide +kernel
theorem dL_agree_74 : decode cL_agree 74 = .ok (.isub, 1) := by decide +kernel
theorem dL_agree_75 : decode cL_agree 75 = .ok (.if_icmp .eq 5, 3) := by decide +kernel
theorem dL_agree_78 : decode cL_agree 78 = .ok (.iconst 0, 1) := by decide +kernel
theorem dL_agree_79 : decode cL_agree 79 = .ok (.ireturn, 1) := by decide +kernel
theorem dL_agree_80 : decode cL_agree 80 = .ok (.iinc 10 1, 3) := by decide +kernel
theorem dL_agree_83 : decode cL_agree 83 = .ok (.goto (-74), 3) := by decide +kernel
theorem dL_agree_86 : decode cL_agree 86 = .ok (.iconst 0, 1) := by decide +kernel
theorem dL_agree_87 : decode cL_agree 87 = .ok (.istore 10, 2) := by decide +kernel
theorem dL_agree_89 : decode cL_agree 89 = .ok (.iload 10, 2) := by decide +kernel
theorem dL_agree_91 : decode cL_agree 91 = .ok (.bipush 18, 2) := by decide +kernel
theorem dL_agree_93 : decode cL_agree 93 = .ok (.if_icmp .ge 45, 3) := by decide +kernel
theorem dL_agree_96 : decode cL_agree 96 = .ok (.aload_n 0, 1) := by decide +kernel
theorem dL_agree_97 : decode cL_agree 97 = .ok (.iload 10, 2) := by decide +kernel
theorem dL_agree_99 : decode cL_agree 99 = .ok (.bipush 6, 2) := by decide +kernel
theorem dL_agree_101 : decode cL_agree 101 = .ok (.idiv, 1) := by decide +kernel
theorem dL_agree_102 : decode cL_agree 102 = .ok (.iload 10, 2) := by decide +kernel
theorem dL_agree_104 : decode cL_agree 104 = .ok (.bipush 6, 2) := by decide +kernel
theorem dL_agree_106 : decode cL_agree 106 = .ok (.irem, 1) := by decide +kernel
theorem dL_agree_107 : decode cL_agree 107 = .ok (.invokevirtual 81, 3) := by decide +kernel
theorem dL_agree_110 : decode cL_agree 110 = .ok (.aload 4, 2) := by decide +kernel
theorem dL_agree_112 : decode cL_agree 112 = .ok (.iload 10, 2) := by decide +kernel
theorem dL_agree_114 : decode cL_agree 114 = .ok (.iaload, 1) := by decide +kernel
theorem dL_agree_115 : decode cL_agree 115 = .ok (.ifCond .ne 7, 3) := by decide +kernel
theorem dL_agree_118 : decode cL_agree 118 = .ok (.iconst (-1), 1) := by decide +kernel
theorem dL_agree_119 : decode cL_agree 119 = .ok (.goto 8, 3) := by decide +kernel
theorem dL_agree_122 : decode cL_agree 122 = .ok (.aload 4, 2) := by decide +kernel
theorem dL_agree_124 : decode cL_agree 124 = .ok (.iload 10, 2) := by decide +kernel
theorem dL_agree_126 : decode cL_agree 126 = .ok (.iaload, 1) := by decide +kernel
theorem dL_agree_127 : decode cL_agree 127 = .ok (.if_icmp .eq 5, 3) := by decide +kernel
theorem dL_agree_130 : decode cL_agree 130 = .ok (.iconst 0, 1) := by decide +kernel
theorem dL_agree_131 : decode cL_agree 131 = .ok (.ireturn, 1) := by decide +kernel
theorem dL_agree_132 : decode cL_agree 132 = .ok (.iinc 10 1, 3) := by decide +kernel
theorem dL_agree_135 : decode cL_agree 135 = .ok (.goto (-46), 3) := by decide +kernel
theorem dL_agree_138 : decode cL_agree 138 = .ok (.iconst 0, 1) := by decide +kernel
theorem dL_agree_139 : decode cL_agree 139 = .ok (.istore 10, 2) := by decide +kernel
theorem dL_agree_141 : decode cL_agree 141 = .ok (.iload 10, 2) := by decide +kernel
theorem dL_agree_143 : decode cL_agree 143 = .ok (.aload_n 1, 1) := by decide +kernel
theorem dL_agree_144 : decode cL_agree 144 = .ok (.iconst 2, 1) := by decide +kernel
theorem dL_agree_145 : decode cL_agree 145 = .ok (.iaload, 1) := by decide +kernel
theorem dL_agree_146 : decode cL_agree 146 = .ok (.if_icmp .ge 129, 3) := by decide +kernel
theorem dL_agree_149 : decode cL_agree 149 = .ok (.aload 6, 2) := by decide +kernel
theorem dL_agree_151 : decode cL_agree 151 = .ok (.iload 10, 2) := by decide +kernel
theorem dL_agree_153 : decode cL_agree 153 = .ok (.iaload, 1) := by decide +kernel
theorem dL_agree_154 : decode cL_agree 154 = .ok (.aload_n 1, 1) := by decide +kernel
theorem dL_agree_155 : decode cL_agree 155 = .ok (.iconst 0, 1) := by decide +kernel
theorem dL_agree_156 : decode cL_agree 156 = .ok (.iaload, 1) := by decide +kernel
theorem dL_agree_157 : decode cL_agree 157 = .ok (.if_icmp .ne 6, 3) := by decide +kernel
theorem dL_agree_160 : decode cL_agree 160 = .ok (.iinc 9 1, 3) := by decide +kernel
theorem dL_agree_163 : decode cL_agree 163 = .ok (.iconst 1, 1) := by decide +kernel
theorem dL_agree_164 : decode cL_agree 164 = .ok (.istore 11, 2) := by decide +kernel
theorem dL_agree_166 : decode cL_agree 166 = .ok (.iconst 0, 1) := by decide +kernel
theorem dL_agree_167 : decode cL_agree 167 = .ok (.istore 12, 2) := by decide +kernel
theorem dL_agree_169 : decode cL_agree 169 = .ok (.iload 12, 2) := by decide +kernel
theorem dL_agree_171 : decode cL_agree 171 = .ok (.aload_n 1, 1) := by decide +kernel
theorem dL_agree_172 : decode cL_agree 172 = .ok (.iconst 2, 1) := by decide +kernel
theorem dL_agree_173 : decode cL_agree 173 = .ok (.iaload, 1) := by decide +kernel
theorem dL_agree_174 : decode cL_agree 174 = .ok (.if_icmp .ge 51, 3) := by decide +kernel
theorem dL_agree_177 : decode cL_agree 177 = .ok (.aload 6, 2) := by decide +kernel
theorem dL_agree_179 : decode cL_agree 179 = .ok (.iload 12, 2) := by decide +kernel
theorem dL_agree_181 : decode cL_agree 181 = .ok (.iaload, 1) := by decide +kernel
theorem dL_agree_182 : decode cL_agree 182 = .ok (.aload 6, 2) := by decide +kernel
theorem dL_agree_184 : decode cL_agree 184 = .ok (.iload 10, 2) := by decide +kernel
theorem dL_agree_186 : decode cL_agree 186 = .ok (.iaload, 1) := by decide +kernel
theorem dL_agree_187 : decode cL_agree 187 = .ok (.if_icmp .gt 29, 3) := by decide +kernel
theorem dL_agree_190 : decode cL_agree 190 = .ok (.aload 6, 2) := by decide +kernel
theorem dL_agree_192 : decode cL_agree 192 = .ok (.iload 12, 2) := by decide +kernel
theorem dL_agree_194 : decode cL_agree 194 = .ok (.iaload, 1) := by decide +kernel
theorem dL_agree_195 : decode cL_agree 195 = .ok (.aload 6, 2) := by decide +kernel
theorem dL_agree_197 : decode cL_agree 197 = .ok (.iload 10, 2) := by decide +kernel
theorem dL_agree_199 : decode cL_agree 199 = .ok (.iaload, 1) := by decide +kernel
theorem dL_agree_200 : decode cL_agree 200 = .ok (.if_icmp .ne 19, 3) := by decide +kernel
theorem dL_agree_203 : decode cL_agree 203 = .ok (.aload 7, 2) := by decide +kernel
theorem dL_agree_205 : decode cL_agree 205 = .ok (.iload 12, 2) := by decide +kernel
theorem dL_agree_207 : decode cL_agree 207 = .ok (.iaload, 1) := by decide +kernel
theorem dL_agree_208 : decode cL_agree 208 = .ok (.aload 7, 2) := by decide +kernel
theorem dL_agree_210 : decode cL_agree 210 = .ok (.iload 10, 2) := by decide +kernel
theorem dL_agree_212 : decode cL_agree 212 = .ok (.iaload, 1) := by decide +kernel
theorem dL_agree_213 : decode cL_agree 213 = .ok (.if_icmp .ge 6, 3) := by decide +kernel
theorem dL_agree_216 : decode cL_agree 216 = .ok (.iinc 11 1, 3) := by decide +kernel
theorem dL_agree_219 : decode cL_agree 219 = .ok (.iinc 12 1, 3) := by decide +kernel
theorem dL_agree_222 : decode cL_agree 222 = .ok (.goto (-53), 3) := by decide +kernel
theorem dL_agree_225 : decode cL_agree 225 = .ok (.aload_n 0, 1) := by decide +kernel
theorem dL_agree_226 : decode cL_agree 226 = .ok (.iload 10, 2) := by decide +kernel
theorem dL_agree_228 : decode cL_agree 228 = .ok (.iconst 0, 1) := by decide +kernel
theorem dL_agree_229 : decode cL_agree 229 = .ok (.invokevirtual 66, 3) := by decide +kernel
theorem dL_agree_232 : decode cL_agree 232 = .ok (.aload 6, 2) := by decide +kernel
theorem dL_agree_234 : decode cL_agree 234 = .ok (.iload 10, 2) := by decide +kernel
theorem dL_agree_236 : decode cL_agree 236 = .ok (.iaload, 1) := by decide +kernel
theorem dL_agree_237 : decode cL_agree 237 = .ok (.if_icmp .ne 30, 3) := by decide +kernel
theorem dL_agree_240 : decode cL_agree 240 = .ok (.aload_n 0, 1) := by decide +kernel
theorem dL_agree_241 : decode cL_agree 241 = .ok (.iload 10, 2) := by decide +kernel
theorem dL_agree_243 : decode cL_agree 243 = .ok (.iconst 1, 1) := by decide +kernel
theorem dL_agree_244 : decode cL_agree 244 = .ok (.invokevirtual 66, 3) := by decide +kernel
theorem dL_agree_247 : decode cL_agree 247 = .ok (.aload 7, 2) := by decide +kernel
theorem dL_agree_249 : decode cL_agree 249 = .ok (.iload 10, 2) := by decide +kernel
theorem dL_agree_251 : decode cL_agree 251 = .ok (.iaload, 1) := by decide +kernel
theorem dL_agree_252 : decode cL_agree 252 = .ok (.if_icmp .ne 15, 3) := by decide +kernel
theorem dL_agree_255 : decode cL_agree 255 = .ok (.aload_n 0, 1) := by decide +kernel
theorem dL_agree_256 : decode cL_agree 256 = .ok (.iload 10, 2) := by decide +kernel
theorem dL_agree_258 : decode cL_agree 258 = .ok (.iconst 4, 1) := by decide +kernel
theorem dL_agree_259 : decode cL_agree 259 = .ok (.invokevirtual 66, 3) := by decide +kernel
theorem dL_agree_262 : decode cL_agree 262 = .ok (.iload 11, 2) := by decide +kernel
theorem dL_agree_264 : decode cL_agree 264 = .ok (.if_icmp .eq 5, 3) := by decide +kernel
theorem dL_agree_267 : decode cL_agree 267 = .ok (.iconst 0, 1) := by decide +kernel
theorem dL_agree_268 : decode cL_agree 268 = .ok (.ireturn, 1) := by decide +kernel
theorem dL_agree_269 : decode cL_agree 269 = .ok (.iinc 10 1, 3) := by decide +kernel
theorem dL_agree_272 : decode cL_agree 272 = .ok (.goto (-131), 3) := by decide +kernel
theorem dL_agree_275 : decode cL_agree 275 = .ok (.iconst 0, 1) := by decide +kernel
theorem dL_agree_276 : decode cL_agree 276 = .ok (.istore 10, 2) := by decide +kernel
theorem dL_agree_278 : decode cL_agree 278 = .ok (.iload 10, 2) := by decide +kernel
theorem dL_agree_280 : decode cL_agree 280 = .ok (.aload_n 1, 1) := by decide +kernel
theorem dL_agree_281 : decode cL_agree 281 = .ok (.iconst 0, 1) := by decide +kernel
theorem dL_agree_282 : decode cL_agree 282 = .ok (.iaload, 1) := by decide +kernel
theorem dL_agree_283 : decode cL_agree 283 = .ok (.if_icmp .gt 142, 3) := by decide +kernel
theorem dL_agree_286 : decode cL_agree 286 = .ok (.iconst 0, 1) := by decide +kernel
theorem dL_agree_287 : decode cL_agree 287 = .ok (.istore 11, 2) := by decide +kernel
theorem dL_agree_289 : decode cL_agree 289 = .ok (.iconst (-1), 1) := by decide +kernel
theorem dL_agree_290 : decode cL_agree 290 = .ok (.istore 12, 2) := by decide +kernel
theorem dL_agree_292 : decode cL_agree 292 = .ok (.iconst 0, 1) := by decide +kernel
theorem dL_agree_293 : decode cL_agree 293 = .ok (.istore 13, 2) := by decide +kernel
theorem dL_agree_295 : decode cL_agree 295 = .ok (.iconst 0, 1) := by decide +kernel
theorem dL_agree_296 : decode cL_agree 296 = .ok (.istore 14, 2) := by decide +kernel
theorem dL_agree_298 : decode cL_agree 298 = .ok (.iload 14, 2) := by decide +kernel
theorem dL_agree_300 : decode cL_agree 300 = .ok (.aload_n 1, 1) := by decide +kernel
theorem dL_agree_301 : decode cL_agree 301 = .ok (.iconst 1, 1) := by decide +kernel
theorem dL_agree_302 : decode cL_agree 302 = .ok (.iaload, 1) := by decide +kernel
theorem dL_agree_303 : decode cL_agree 303 = .ok (.if_icmp .ge 36, 3) := by decide +kernel
theorem dL_agree_306 : decode cL_agree 306 = .ok (.aload_n 3, 1) := by decide +kernel
theorem dL_agree_307 : decode cL_agree 307 = .ok (.iload 14, 2) := by decide +kernel
theorem dL_agree_309 : decode cL_agree 309 = .ok (.iaload, 1) := by decide +kernel
theorem dL_agree_310 : decode cL_agree 310 = .ok (.iload 10, 2) := by decide +kernel
theorem dL_agree_312 : decode cL_agree 312 = .ok (.if_icmp .ne 6, 3) := by decide +kernel
theorem dL_agree_315 : decode cL_agree 315 = .ok (.iinc 11 1, 3) := by decide +kernel
theorem dL_agree_318 : decode cL_agree 318 = .ok (.aload_n 2, 1) := by decide +kernel
theorem dL_agree_319 : decode cL_agree 319 = .ok (.iload 14, 2) := by decide +kernel
theorem dL_agree_321 : decode cL_agree 321 = .ok (.iaload, 1) := by decide +kernel
theorem dL_agree_322 : decode cL_agree 322 = .ok (.iload 10, 2) := by decide +kernel
theorem dL_agree_324 : decode cL_agree 324 = .ok (.if_icmp .ne 9, 3) := by decide +kernel
theorem dL_agree_327 : decode cL_agree 327 = .ok (.aload_n 3, 1) := by decide +kernel
theorem dL_agree_328 : decode cL_agree 328 = .ok (.iload 14, 2) := by decide +kernel
theorem dL_agree_330 : decode cL_agree 330 = .ok (.iaload, 1) := by decide +kernel
theorem dL_agree_331 : decode cL_agree 331 = .ok (.istore 12, 2) := by decide +kernel
theorem dL_agree_333 : decode cL_agree 333 = .ok (.iinc 14 1, 3) := by decide +kernel
theorem dL_agree_336 : decode cL_agree 336 = .ok (.goto (-38), 3) := by decide +kernel
theorem dL_agree_339 : decode cL_agree 339 = .ok (.iconst 0, 1) := by decide +kernel
theorem dL_agree_340 : decode cL_agree 340 = .ok (.istore 14, 2) := by decide +kernel
theorem dL_agree_342 : decode cL_agree 342 = .ok (.iload 14, 2) := by decide +kernel
theorem dL_agree_344 : decode cL_agree 344 = .ok (.aload_n 1, 1) := by decide +kernel
theorem dL_agree_345 : decode cL_agree 345 = .ok (.iconst 0, 1) := by decide +kernel
theorem dL_agree_346 : decode cL_agree 346 = .ok (.iaload, 1) := by decide +kernel
theorem dL_agree_347 : decode cL_agree 347 = .ok (.if_icmp .gt 26, 3) := by decide +kernel
theorem dL_agree_350 : decode cL_agree 350 = .ok (.aload_n 1, 1) := by decide +kernel
theorem dL_agree_351 : decode cL_agree 351 = .ok (.aload_n 2, 1) := by decide +kernel
theorem dL_agree_352 : decode cL_agree 352 = .ok (.aload_n 3, 1) := by decide +kernel
theorem dL_agree_353 : decode cL_agree 353 = .ok (.iload 10, 2) := by decide +kernel
theorem dL_agree_355 : decode cL_agree 355 = .ok (.iload 14, 2) := by decide +kernel
theorem dL_agree_357 : decode cL_agree 357 = .ok (.iconst (-1), 1) := by decide +kernel
theorem dL_agree_358 : decode cL_agree 358 = .ok (.invokestatic 50, 3) := by decide +kernel
theorem dL_agree_361 : decode cL_agree 361 = .ok (.ifCond .eq 6, 3) := by decide +kernel
theorem dL_agree_364 : decode cL_agree 364 = .ok (.iconst 1, 1) := by decide +kernel
theorem dL_agree_365 : decode cL_agree 365 = .ok (.istore 13, 2) := by decide +kernel
theorem dL_agree_367 : decode cL_agree 367 = .ok (.iinc 14 1, 3) := by decide +kernel
theorem dL_agree_370 : decode cL_agree 370 = .ok (.goto (-28), 3) := by decide +kernel
theorem dL_agree_373 : decode cL_agree 373 = .ok (.aload_n 0, 1) := by decide +kernel
theorem dL_agree_374 : decode cL_agree 374 = .ok (.iload 10, 2) := by decide +kernel
theorem dL_agree_376 : decode cL_agree 376 = .ok (.iconst 0, 1) := by decide +kernel
theorem dL_agree_377 : decode cL_agree 377 = .ok (.invokevirtual 84, 3) := by decide +kernel
theorem dL_agree_380 : decode cL_agree 380 = .ok (.iload 12, 2) := by decide +kernel
theorem dL_agree_382 : decode cL_agree 382 = .ok (.if_icmp .ne 35, 3) := by decide +kernel
theorem dL_agree_385 : decode cL_agree 385 = .ok (.aload_n 0, 1) := by decide +kernel
theorem dL_agree_386 : decode cL_agree 386 = .ok (.iload 10, 2) := by decide +kernel
theorem dL_agree_388 : decode cL_agree 388 = .ok (.iconst 1, 1) := by decide +kernel
theorem dL_agree_389 : decode cL_agree 389 = .ok (.invokevirtual 84, 3) := by decide +kernel
theorem dL_agree_392 : decode cL_agree 392 = .ok (.iload 11, 2) := by decide +kernel
theorem dL_agree_394 : decode cL_agree 394 = .ok (.if_icmp .ne 23, 3) := by decide +kernel
theorem dL_agree_397 : decode cL_agree 397 = .ok (.aload_n 0, 1) := by decide +kernel
theorem dL_agree_398 : decode cL_agree 398 = .ok (.iload 10, 2) := by decide +kernel
theorem dL_agree_400 : decode cL_agree 400 = .ok (.iconst 3, 1) := by decide +kernel
theorem dL_agree_401 : decode cL_agree 401 = .ok (.invokevirtual 84, 3) := by decide +kernel
theorem dL_agree_404 : decode cL_agree 404 = .ok (.iload 13, 2) := by decide +kernel
theorem dL_agree_406 : decode cL_agree 406 = .ok (.ifCond .eq 7, 3) := by decide +kernel
theorem dL_agree_409 : decode cL_agree 409 = .ok (.iconst 1, 1) := by decide +kernel
theorem dL_agree_410 : decode cL_agree 410 = .ok (.goto 4, 3) := by decide +kernel
theorem dL_agree_413 : decode cL_agree 413 = .ok (.iconst 0, 1) := by decide +kernel
theorem dL_agree_414 : decode cL_agree 414 = .ok (.if_icmp .eq 5, 3) := by decide +kernel
theorem dL_agree_417 : decode cL_agree 417 = .ok (.iconst 0, 1) := by decide +kernel
theorem dL_agree_418 : decode cL_agree 418 = .ok (.ireturn, 1) := by decide +kernel
theorem dL_agree_419 : decode cL_agree 419 = .ok (.iinc 10 1, 3) := by decide +kernel
theorem dL_agree_422 : decode cL_agree 422 = .ok (.goto (-144), 3) := by decide +kernel
theorem dL_agree_425 : decode cL_agree 425 = .ok (.aload_n 0, 1) := by decide +kernel
theorem dL_agree_426 : decode cL_agree 426 = .ok (.iconst 0, 1) := by decide +kernel
theorem dL_agree_427 : decode cL_agree 427 = .ok (.invokevirtual 87, 3) := by decide +kernel
theorem dL_agree_430 : decode cL_agree 430 = .ok (.aload_n 1, 1) := by decide +kernel
theorem dL_agree_431 : decode cL_agree 431 = .ok (.iconst 0, 1) := by decide +kernel
theorem dL_agree_432 : decode cL_agree 432 = .ok (.iaload, 1) := by decide +kernel
theorem dL_agree_433 : decode cL_agree 433 = .ok (.if_icmp .ne 87, 3) := by decide +kernel
theorem dL_agree_436 : decode cL_agree 436 = .ok (.aload_n 0, 1) := by decide +kernel
theorem dL_agree_437 : decode cL_agree 437 = .ok (.iconst 1, 1) := by decide +kernel
theorem dL_agree_438 : decode cL_agree 438 = .ok (.invokevirtual 87, 3) := by decide +kernel
theorem dL_agree_441 : decode cL_agree 441 = .ok (.aload_n 1, 1) := by decide +kernel
theorem dL_agree_442 : decode cL_agree 442 = .ok (.iconst 1, 1) := by decide +kernel
theorem dL_agree_443 : decode cL_agree 443 = .ok (.iaload, 1) := by decide +kernel
theorem dL_agree_444 : decode cL_agree 444 = .ok (.if_icmp .ne 76, 3) := by decide +kernel
theorem dL_agree_447 : decode cL_agree 447 = .ok (.aload_n 0, 1) := by decide +kernel
theorem dL_agree_448 : decode cL_agree 448 = .ok (.iconst 2, 1) := by decide +kernel
theorem dL_agree_449 : decode cL_agree 449 = .ok (.invokevirtual 87, 3) := by decide +kernel
theorem dL_agree_452 : decode cL_agree 452 = .ok (.iload 8, 2) := by decide +kernel
theorem dL_agree_454 : decode cL_agree 454 = .ok (.if_icmp .ne 66, 3) := by decide +kernel
theorem dL_agree_457 : decode cL_agree 457 = .ok (.aload_n 0, 1) := by decide +kernel
theorem dL_agree_458 : decode cL_agree 458 = .ok (.iconst 3, 1) := by decide +kernel
theorem dL_agree_459 : decode cL_agree 459 = .ok (.invokevirtual 87, 3) := by decide +kernel
theorem dL_agree_462 : decode cL_agree 462 = .ok (.aload_n 1, 1) := by decide +kernel
theorem dL_agree_463 : decode cL_agree 463 = .ok (.iconst 1, 1) := by decide +kernel
theorem dL_agree_464 : decode cL_agree 464 = .ok (.iaload, 1) := by decide +kernel
theorem dL_agree_465 : decode cL_agree 465 = .ok (.iload 8, 2) := by decide +kernel
theorem dL_agree_467 : decode cL_agree 467 = .ok (.isub, 1) := by decide +kernel
theorem dL_agree_468 : decode cL_agree 468 = .ok (.if_icmp .ne 52, 3) := by decide +kernel
theorem dL_agree_471 : decode cL_agree 471 = .ok (.aload_n 0, 1) := by decide +kernel
theorem dL_agree_472 : decode cL_agree 472 = .ok (.iconst 4, 1) := by decide +kernel
theorem dL_agree_473 : decode cL_agree 473 = .ok (.invokevirtual 87, 3) := by decide +kernel
theorem dL_agree_476 : decode cL_agree 476 = .ok (.aload_n 1, 1) := by decide +kernel
theorem dL_agree_477 : decode cL_agree 477 = .ok (.iconst 2, 1) := by decide +kernel
theorem dL_agree_478 : decode cL_agree 478 = .ok (.iaload, 1) := by decide +kernel
theorem dL_agree_479 : decode cL_agree 479 = .ok (.if_icmp .ne 41, 3) := by decide +kernel
theorem dL_agree_482 : decode cL_agree 482 = .ok (.aload_n 0, 1) := by decide +kernel
theorem dL_agree_483 : decode cL_agree 483 = .ok (.iconst 5, 1) := by decide +kernel
theorem dL_agree_484 : decode cL_agree 484 = .ok (.invokevirtual 87, 3) := by decide +kernel
theorem dL_agree_487 : decode cL_agree 487 = .ok (.iload 9, 2) := by decide +kernel
theorem dL_agree_489 : decode cL_agree 489 = .ok (.if_icmp .ne 31, 3) := by decide +kernel
theorem dL_agree_492 : decode cL_agree 492 = .ok (.aload_n 0, 1) := by decide +kernel
theorem dL_agree_493 : decode cL_agree 493 = .ok (.bipush 6, 2) := by decide +kernel
theorem dL_agree_495 : decode cL_agree 495 = .ok (.invokevirtual 87, 3) := by decide +kernel
theorem dL_agree_498 : decode cL_agree 498 = .ok (.aload_n 1, 1) := by decide +kernel
theorem dL_agree_499 : decode cL_agree 499 = .ok (.iconst 3, 1) := by decide +kernel
theorem dL_agree_500 : decode cL_agree 500 = .ok (.iaload, 1) := by decide +kernel
theorem dL_agree_501 : decode cL_agree 501 = .ok (.if_icmp .ne 19, 3) := by decide +kernel
theorem dL_agree_504 : decode cL_agree 504 = .ok (.aload_n 0, 1) := by decide +kernel
theorem dL_agree_505 : decode cL_agree 505 = .ok (.bipush 9, 2) := by decide +kernel
theorem dL_agree_507 : decode cL_agree 507 = .ok (.invokevirtual 87, 3) := by decide +kernel
theorem dL_agree_510 : decode cL_agree 510 = .ok (.aload_n 1, 1) := by decide +kernel
theorem dL_agree_511 : decode cL_agree 511 = .ok (.iconst 4, 1) := by decide +kernel
theorem dL_agree_512 : decode cL_agree 512 = .ok (.iaload, 1) := by decide +kernel
theorem dL_agree_513 : decode cL_agree 513 = .ok (.if_icmp .ne 7, 3) := by decide +kernel
theorem dL_agree_516 : decode cL_agree 516 = .ok (.iconst 1, 1) := by decide +kernel
theorem dL_agree_517 : decode cL_agree 517 = .ok (.goto 4, 3) := by decide +kernel
theorem dL_agree_520 : decode cL_agree 520 = .ok (.iconst 0, 1) := by decide +kernel
theorem dL_agree_521 : decode cL_agree 521 = .ok (.ireturn, 1) := by decide +kernel
theorem dL_law_0 : decode cL_law 0 = .ok (.new 9, 3) := by decide +kernel
theorem dL_law_3 : decode cL_law 3 = .ok (.dup, 1) := by decide +kernel
theorem dL_law_4 : decode cL_law 4 = .ok (.invokespecial 90, 3) := by decide +kernel
theorem dL_law_7 : decode cL_law 7 = .ok (.astore_n 1, 1) := by decide +kernel
theorem dL_law_8 : decode cL_law 8 = .ok (.bipush 7, 2) := by decide +kernel
theorem dL_law_10 : decode cL_law 10 = .ok (.newarray .int, 2) := by decide +kernel
theorem dL_law_12 : decode cL_law 12 = .ok (.astore_n 2, 1) := by decide +kernel
theorem dL_law_13 : decode cL_law 13 = .ok (.bipush 11, 2) := by decide +kernel
theorem dL_law_15 : decode cL_law 15 = .ok (.newarray .int, 2) := by decide +kernel
theorem dL_law_17 : decode cL_law 17 = .ok (.astore_n 3, 1) := by decide +kernel
theorem dL_law_18 : decode cL_law 18 = .ok (.bipush 11, 2) := by decide +kernel
theorem dL_law_20 : decode cL_law 20 = .ok (.newarray .int, 2) := by decide +kernel
theorem dL_law_22 : decode cL_law 22 = .ok (.astore 4, 2) := by decide +kernel
theorem dL_law_24 : decode cL_law 24 = .ok (.bipush 18, 2) := by decide +kernel
theorem dL_law_26 : decode cL_law 26 = .ok (.newarray .int, 2) := by decide +kernel
theorem dL_law_28 : decode cL_law 28 = .ok (.astore 5, 2) := by decide +kernel
theorem dL_law_30 : decode cL_law 30 = .ok (.iconst 4, 1) := by decide +kernel
theorem dL_law_31 : decode cL_law 31 = .ok (.newarray .int, 2) := by decide +kernel
theorem dL_law_33 : decode cL_law 33 = .ok (.astore 6, 2) := by decide +kernel
theorem dL_law_35 : decode cL_law 35 = .ok (.iconst 4, 1) := by decide +kernel
theorem dL_law_36 : decode cL_law 36 = .ok (.newarray .int, 2) := by decide +kernel
theorem dL_law_38 : decode cL_law 38 = .ok (.astore 7, 2) := by decide +kernel
theorem dL_law_40 : decode cL_law 40 = .ok (.iconst 4, 1) := by decide +kernel
theorem dL_law_41 : decode cL_law 41 = .ok (.newarray .int, 2) := by decide +kernel
theorem dL_law_43 : decode cL_law 43 = .ok (.astore 8, 2) := by decide +kernel
theorem dL_law_45 : decode cL_law 45 = .ok (.aload_n 2, 1) := by decide +kernel
theorem dL_law_46 : decode cL_law 46 = .ok (.iconst 0, 1) := by decide +kernel
theorem dL_law_47 : decode cL_law 47 = .ok (.bipush 20, 2) := by decide +kernel
theorem dL_law_49 : decode cL_law 49 = .ok (.iastore, 1) := by decide +kernel
theorem dL_law_50 : decode cL_law 50 = .ok (.aload_n 2, 1) := by decide +kernel
theorem dL_law_51 : decode cL_law 51 = .ok (.iconst 3, 1) := by decide +kernel
theorem dL_law_52 : decode cL_law 52 = .ok (.iconst 1, 1) := by decide +kernel
theorem dL_law_53 : decode cL_law 53 = .ok (.iastore, 1) := by decide +kernel
theorem dL_law_54 : decode cL_law 54 = .ok (.aload_n 2, 1) := by decide +kernel
theorem dL_law_55 : decode cL_law 55 = .ok (.bipush 6, 2) := by decide +kernel
theorem dL_law_57 : decode cL_law 57 = .ok (.bipush 6, 2) := by decide +kernel
theorem dL_law_59 : decode cL_law 59 = .ok (.iastore, 1) := by decide +kernel
theorem dL_law_60 : decode cL_law 60 = .ok (.iconst 0, 1) := by decide +kernel
theorem dL_law_61 : decode cL_law 61 = .ok (.istore 9, 2) := by decide +kernel
theorem dL_law_63 : decode cL_law 63 = .ok (.iload 9, 2) := by decide +kernel
theorem dL_law_65 : decode cL_law 65 = .ok (.bipush 18, 2) := by decide +kernel
theorem dL_law_67 : decode cL_law 67 = .ok (.if_icmp .ge 21, 3) := by decide +kernel
theorem dL_law_70 : decode cL_law 70 = .ok (.aload 5, 2) := by decide +kernel
theorem dL_law_72 : decode cL_law 72 = .ok (.iload 9, 2) := by decide +kernel
theorem dL_law_74 : decode cL_law 74 = .ok (.iload 9, 2) := by decide +kernel
theorem dL_law_76 : decode cL_law 76 = .ok (.bipush 6, 2) := by decide +kernel
theorem dL_law_78 : decode cL_law 78 = .ok (.irem, 1) := by decide +kernel
theorem dL_law_79 : decode cL_law 79 = .ok (.iconst 1, 1) := by decide +kernel
theorem dL_law_80 : decode cL_law 80 = .ok (.iadd, 1) := by decide +kernel
theorem dL_law_81 : decode cL_law 81 = .ok (.iastore, 1) := by decide +kernel
theorem dL_law_82 : decode cL_law 82 = .ok (.iinc 9 1, 3) := by decide +kernel
theorem dL_law_85 : decode cL_law 85 = .ok (.goto (-22), 3) := by decide +kernel
theorem dL_law_88 : decode cL_law 88 = .ok (.iconst 0, 1) := by decide +kernel
theorem dL_law_89 : decode cL_law 89 = .ok (.istore 9, 2) := by decide +kernel
theorem dL_law_91 : decode cL_law 91 = .ok (.iload 9, 2) := by decide +kernel
theorem dL_law_93 : decode cL_law 93 = .ok (.bipush 40, 2) := by decide +kernel
theorem dL_law_95 : decode cL_law 95 = .ok (.if_icmp .ge 277, 3) := by decide +kernel
theorem dL_law_98 : decode cL_law 98 = .ok (.aload_n 0, 1) := by decide +kernel
theorem dL_law_99 : decode cL_law 99 = .ok (.iconst 2, 1) := by decide +kernel
theorem dL_law_100 : decode cL_law 100 = .ok (.iload 9, 2) := by decide +kernel
theorem dL_law_102 : decode cL_law 102 = .ok (.imul, 1) := by decide +kernel
theorem dL_law_103 : decode cL_law 103 = .ok (.invokestatic 91, 3) := by decide +kernel
theorem dL_law_106 : decode cL_law 106 = .ok (.istore 10, 2) := by decide +kernel
theorem dL_law_108 : decode cL_law 108 = .ok (.aload_n 0, 1) := by decide +kernel
theorem dL_law_109 : decode cL_law 109 = .ok (.iconst 2, 1) := by decide +kernel
theorem dL_law_110 : decode cL_law 110 = .ok (.iload 9, 2) := by decide +kernel
theorem dL_law_112 : decode cL_law 112 = .ok (.imul, 1) := by decide +kernel
theorem dL_law_113 : decode cL_law 113 = .ok (.iconst 1, 1) := by decide +kernel
theorem dL_law_114 : decode cL_law 114 = .ok (.iadd, 1) := by decide +kernel
theorem dL_law_115 : decode cL_law 115 = .ok (.invokestatic 91, 3) := by decide +kernel
theorem dL_law_118 : decode cL_law 118 = .ok (.istore 11, 2) := by decide +kernel
theorem dL_law_120 : decode cL_law 120 = .ok (.iload 10, 2) := by decide +kernel
theorem dL_law_122 : decode cL_law 122 = .ok (.bipush 20, 2) := by decide +kernel
theorem dL_law_124 : decode cL_law 124 = .ok (.ishr, 1) := by decide +kernel
theorem dL_law_125 : decode cL_law 125 = .ok (.bipush 12, 2) := by decide +kernel
theorem dL_law_127 : decode cL_law 127 = .ok (.invokestatic 35, 3) := by decide +kernel
theorem dL_law_130 : decode cL_law 130 = .ok (.istore 12, 2) := by decide +kernel
theorem dL_law_132 : decode cL_law 132 = .ok (.iconst 1, 1) := by decide +kernel
theorem dL_law_133 : decode cL_law 133 = .ok (.istore 13, 2) := by decide +kernel
theorem dL_law_135 : decode cL_law 135 = .ok (.iload 12, 2) := by decide +kernel
theorem dL_law_137 : decode cL_law 137 = .ok (.iconst 4, 1) := by decide +kernel
theorem dL_law_138 : decode cL_law 138 = .ok (.if_icmp .ge 20, 3) := by decide +kernel
theorem dL_law_141 : decode cL_law 141 = .ok (.aload_n 1, 1) := by decide +kernel
theorem dL_law_142 : decode cL_law 142 = .ok (.iload 10, 2) := by decide +kernel
theorem dL_law_144 : decode cL_law 144 = .ok (.iload 11, 2) := by decide +kernel
theorem dL_law_146 : decode cL_law 146 = .ok (.aload_n 2, 1) := by decide +kernel
theorem dL_law_147 : decode cL_law 147 = .ok (.aload_n 3, 1) := by decide +kernel
theorem dL_law_148 : decode cL_law 148 = .ok (.aload 4, 2) := by decide +kernel
theorem dL_law_150 : decode cL_law 150 = .ok (.invokestatic 94, 3) := by decide +kernel
theorem dL_law_153 : decode cL_law 153 = .ok (.istore 13, 2) := by decide +kernel
theorem dL_law_155 : decode cL_law 155 = .ok (.goto 144, 3) := by decide +kernel
theorem dL_law_158 : decode cL_law 158 = .ok (.iload 12, 2) := by decide +kernel
theorem dL_law_160 : decode cL_law 160 = .ok (.bipush 9, 2) := by decide +kernel
theorem dL_law_162 : decode cL_law 162 = .ok (.if_icmp .ge 28, 3) := by decide +kernel
theorem dL_law_165 : decode cL_law 165 = .ok (.aload_n 1, 1) := by decide +kernel
theorem dL_law_166 : decode cL_law 166 = .ok (.iload 10, 2) := by decide +kernel
theorem dL_law_168 : decode cL_law 168 = .ok (.iload 11, 2) := by decide +kernel
theorem dL_law_170 : decode cL_law 170 = .ok (.aload_n 2, 1) := by decide +kernel
theorem dL_law_171 : decode cL_law 171 = .ok (.aload_n 3, 1) := by decide +kernel
theorem dL_law_172 : decode cL_law 172 = .ok (.aload 4, 2) := by decide +kernel
theorem dL_law_174 : decode cL_law 174 = .ok (.aload 5, 2) := by decide +kernel
theorem dL_law_176 : decode cL_law 176 = .ok (.aload 6, 2) := by decide +kernel
theorem dL_law_178 : decode cL_law 178 = .ok (.aload 7, 2) := by decide +kernel
theorem dL_law_180 : decode cL_law 180 = .ok (.aload 8, 2) := by decide +kernel
theorem dL_law_182 : decode cL_law 182 = .ok (.invokestatic 98, 3) := by decide +kernel
theorem dL_law_185 : decode cL_law 185 = .ok (.istore 13, 2) := by decide +kernel
theorem dL_law_187 : decode cL_law 187 = .ok (.goto 112, 3) := by decide +kernel
theorem dL_law_190 : decode cL_law 190 = .ok (.aload_n 2, 1) := by decide +kernel
theorem dL_law_191 : decode cL_law 191 = .ok (.iconst 4, 1) := by decide +kernel
theorem dL_law_192 : decode cL_law 192 = .ok (.iaload, 1) := by decide +kernel
theorem dL_law_193 : decode cL_law 193 = .ok (.bipush 6, 2) := by decide +kernel
theorem dL_law_195 : decode cL_law 195 = .ok (.if_icmp .ge 10, 3) := by decide +kernel
theorem dL_law_198 : decode cL_law 198 = .ok (.aload_n 2, 1) := by decide +kernel
theorem dL_law_199 : decode cL_law 199 = .ok (.iconst 4, 1) := by decide +kernel
theorem dL_law_200 : decode cL_law 200 = .ok (.dup2, 1) := by decide +kernel
theorem dL_law_201 : decode cL_law 201 = .ok (.iaload, 1) := by decide +kernel
theorem dL_law_202 : decode cL_law 202 = .ok (.iconst 1, 1) := by decide +kernel
theorem dL_law_203 : decode cL_law 203 = .ok (.iadd, 1) := by decide +kernel
theorem dL_law_204 : decode cL_law 204 = .ok (.iastore, 1) := by decide +kernel
theorem dL_law_205 : decode cL_law 205 = .ok (.iload 12, 2) := by decide +kernel
theorem dL_law_207 : decode cL_law 207 = .ok (.bipush 11, 2) := by decide +kernel
theorem dL_law_209 : decode cL_law 209 = .ok (.if_icmp .ge 21, 3) := by decide +kernel
theorem dL_law_212 : decode cL_law 212 = .ok (.aload_n 1, 1) := by decide +kernel
theorem dL_law_213 : decode cL_law 213 = .ok (.iload 10, 2) := by decide +kernel
theorem dL_law_215 : decode cL_law 215 = .ok (.iload 11, 2) := by decide +kernel
theorem dL_law_217 : decode cL_law 217 = .ok (.aload_n 2, 1) := by decide +kernel
theorem dL_law_218 : decode cL_law 218 = .ok (.aload 5, 2) := by decide +kernel
theorem dL_law_220 : decode cL_law 220 = .ok (.aload 6, 2) := by decide +kernel
theorem dL_law_222 : decode cL_law 222 = .ok (.invokestatic 102, 3) := by decide +kernel
theorem dL_law_225 : decode cL_law 225 = .ok (.istore 13, 2) := by decide +kernel
theorem dL_law_227 : decode cL_law 227 = .ok (.goto 72, 3) := by decide +kernel
theorem dL_law_230 : decode cL_law 230 = .ok (.iload 10, 2) := by decide +kernel
theorem dL_law_232 : decode cL_law 232 = .ok (.iconst 2, 1) := by decide +kernel
theorem dL_law_233 : decode cL_law 233 = .ok (.invokestatic 35, 3) := by decide +kernel
theorem dL_law_236 : decode cL_law 236 = .ok (.istore 14, 2) := by decide +kernel
theorem dL_law_238 : decode cL_law 238 = .ok (.aload_n 2, 1) := by decide +kernel
theorem dL_law_239 : decode cL_law 239 = .ok (.iconst 5, 1) := by decide +kernel
theorem dL_law_240 : decode cL_law 240 = .ok (.iload 14, 2) := by decide +kernel
theorem dL_law_242 : decode cL_law 242 = .ok (.iadd, 1) := by decide +kernel
theorem dL_law_243 : decode cL_law 243 = .ok (.iaload, 1) := by decide +kernel
theorem dL_law_244 : decode cL_law 244 = .ok (.istore 15, 2) := by decide +kernel
theorem dL_law_246 : decode cL_law 246 = .ok (.aload_n 2, 1) := by decide +kernel
theorem dL_law_247 : decode cL_law 247 = .ok (.iconst 5, 1) := by decide +kernel
theorem dL_law_248 : decode cL_law 248 = .ok (.iload 14, 2) := by decide +kernel
theorem dL_law_250 : decode cL_law 250 = .ok (.iadd, 1) := by decide +kernel
theorem dL_law_251 : decode cL_law 251 = .ok (.iload 14, 2) := by decide +kernel
theorem dL_law_253 : decode cL_law 253 = .ok (.ifCond .ne 12, 3) := by decide +kernel
theorem dL_law_256 : decode cL_law 256 = .ok (.iload 11, 2) := by decide +kernel
theorem dL_law_258 : decode cL_law 258 = .ok (.iconst 3, 1) := by decide +kernel
theorem dL_law_259 : decode cL_law 259 = .ok (.invokestatic 35, 3) := by decide +kernel
theorem dL_law_262 : decode cL_law 262 = .ok (.goto 12, 3) := by decide +kernel
theorem dL_law_265 : decode cL_law 265 = .ok (.iconst 1, 1) := by decide +kernel
theorem dL_law_266 : decode cL_law 266 = .ok (.iload 11, 2) := by decide +kernel
theorem dL_law_268 : decode cL_law 268 = .ok (.bipush 8, 2) := by decide +kernel
theorem dL_law_270 : decode cL_law 270 = .ok (.invokestatic 35, 3) := by decide +kernel
theorem dL_law_273 : decode cL_law 273 = .ok (.iadd, 1) := by decide +kernel
theorem dL_law_274 : decode cL_law 274 = .ok (.iastore, 1) := by decide +kernel
theorem dL_law_275 : decode cL_law 275 = .ok (.aload_n 1, 1) := by decide +kernel
theorem dL_law_276 : decode cL_law 276 = .ok (.iload 14, 2) := by decide +kernel
theorem dL_law_278 : decode cL_law 278 = .ok (.aload_n 2, 1) := by decide +kernel
theorem dL_law_279 : decode cL_law 279 = .ok (.iconst 5, 1) := by decide +kernel
theorem dL_law_280 : decode cL_law 280 = .ok (.iload 14, 2) := by decide +kernel
theorem dL_law_282 : decode cL_law 282 = .ok (.iadd, 1) := by decide +kernel
theorem dL_law_283 : decode cL_law 283 = .ok (.iaload, 1) := by decide +kernel
theorem dL_law_284 : decode cL_law 284 = .ok (.invokevirtual 105, 3) := by decide +kernel
theorem dL_law_287 : decode cL_law 287 = .ok (.iload 15, 2) := by decide +kernel
theorem dL_law_289 : decode cL_law 289 = .ok (.if_icmp .ne 7, 3) := by decide +kernel
theorem dL_law_292 : decode cL_law 292 = .ok (.iconst 1, 1) := by decide +kernel
theorem dL_law_293 : decode cL_law 293 = .ok (.goto 4, 3) := by decide +kernel
theorem dL_law_296 : decode cL_law 296 = .ok (.iconst 0, 1) := by decide +kernel
theorem dL_law_297 : decode cL_law 297 = .ok (.istore 13, 2) := by decide +kernel
theorem dL_law_299 : decode cL_law 299 = .ok (.iload 13, 2) := by decide +kernel
theorem dL_law_301 : decode cL_law 301 = .ok (.ifCond .eq 63, 3) := by decide +kernel
theorem dL_law_304 : decode cL_law 304 = .ok (.aload_n 1, 1) := by decide +kernel
theorem dL_law_305 : decode cL_law 305 = .ok (.aload_n 2, 1) := by decide +kernel
theorem dL_law_306 : decode cL_law 306 = .ok (.aload_n 3, 1) := by decide +kernel
theorem dL_law_307 : decode cL_law 307 = .ok (.aload 4, 2) := by decide +kernel
theorem dL_law_309 : decode cL_law 309 = .ok (.aload 5, 2) := by decide +kernel
theorem dL_law_311 : decode cL_law 311 = .ok (.aload 6, 2) := by decide +kernel
theorem dL_law_313 : decode cL_law 313 = .ok (.aload 7, 2) := by decide +kernel
theorem dL_law_315 : decode cL_law 315 = .ok (.aload 8, 2) := by decide +kernel
theorem dL_law_317 : decode cL_law 317 = .ok (.invokestatic 108, 3) := by decide +kernel
theorem dL_law_320 : decode cL_law 320 = .ok (.ifCond .eq 44, 3) := by decide +kernel
theorem dL_law_323 : decode cL_law 323 = .ok (.aload_n 1, 1) := by decide +kernel
theorem dL_law_324 : decode cL_law 324 = .ok (.aload_n 2, 1) := by decide +kernel
theorem dL_law_325 : decode cL_law 325 = .ok (.aload_n 3, 1) := by decide +kernel
theorem dL_law_326 : decode cL_law 326 = .ok (.aload 4, 2) := by decide +kernel
theorem dL_law_328 : decode cL_law 328 = .ok (.aload 5, 2) := by decide +kernel
theorem dL_law_330 : decode cL_law 330 = .ok (.aload 6, 2) := by decide +kernel
theorem dL_law_332 : decode cL_law 332 = .ok (.iconst 0, 1) := by decide +kernel
theorem dL_law_333 : decode cL_law 333 = .ok (.invokestatic 112, 3) := by decide +kernel
theorem dL_law_336 : decode cL_law 336 = .ok (.ifCond .eq 28, 3) := by decide +kernel
theorem dL_law_339 : decode cL_law 339 = .ok (.aload_n 1, 1) := by decide +kernel
theorem dL_law_340 : decode cL_law 340 = .ok (.aload_n 2, 1) := by decide +kernel
theorem dL_law_341 : decode cL_law 341 = .ok (.aload_n 3, 1) := by decide +kernel
theorem dL_law_342 : decode cL_law 342 = .ok (.aload 4, 2) := by decide +kernel
theorem dL_law_344 : decode cL_law 344 = .ok (.aload 5, 2) := by decide +kernel
theorem dL_law_346 : decode cL_law 346 = .ok (.aload 6, 2) := by decide +kernel
theorem dL_law_348 : decode cL_law 348 = .ok (.iload 11, 2) := by decide +kernel
theorem dL_law_350 : decode cL_law 350 = .ok (.aload_n 2, 1) := by decide +kernel
theorem dL_law_351 : decode cL_law 351 = .ok (.iconst 0, 1) := by decide +kernel
theorem dL_law_352 : decode cL_law 352 = .ok (.iaload, 1) := by decide +kernel
theorem dL_law_353 : decode cL_law 353 = .ok (.iconst 1, 1) := by decide +kernel
theorem dL_law_354 : decode cL_law 354 = .ok (.iadd, 1) := by decide +kernel
theorem dL_law_355 : decode cL_law 355 = .ok (.invokestatic 35, 3) := by decide +kernel
theorem dL_law_358 : decode cL_law 358 = .ok (.invokestatic 112, 3) := by decide +kernel
theorem dL_law_361 : decode cL_law 361 = .ok (.ifCond .ne 5, 3) := by decide +kernel
theorem dL_law_364 : decode cL_law 364 = .ok (.iconst 0, 1) := by decide +kernel
theorem dL_law_365 : decode cL_law 365 = .ok (.ireturn, 1) := by decide +kernel
theorem dL_law_366 : decode cL_law 366 = .ok (.iinc 9 1, 3) := by decide +kernel
theorem dL_law_369 : decode cL_law 369 = .ok (.goto (-278), 3) := by decide +kernel
theorem dL_law_372 : decode cL_law 372 = .ok (.iconst 1, 1) := by decide +kernel
theorem dL_law_373 : decode cL_law 373 = .ok (.ireturn, 1) := by decide +kernel
