theorem dX11_init_0 : decode cX11_init 0 = .ok (.aload_n 0, 1) := by decide +kernel
theorem dX11_init_1 : decode cX11_init 1 = .ok (.invokespecial 1, 3) := by decide +kernel
theorem dX11_init_4 : decode cX11_init 4 = .ok (.aload_n 0, 1) := by decide +kernel
theorem dX11_init_5 : decode cX11_init 5 = .ok (.bipush 61, 2) := by decide +kernel
theorem dX11_init_7 : decode cX11_init 7 = .ok (.newarray .int, 2) := by decide +kernel
theorem dX11_init_9 : decode cX11_init 9 = .ok (.putfield 7, 3) := by decide +kernel
theorem dX11_init_12 : decode cX11_init 12 = .ok (.aload_n 0, 1) := by decide +kernel
theorem dX11_init_13 : decode cX11_init 13 = .ok (.lconst 1, 1) := by decide +kernel
theorem dX11_init_14 : decode cX11_init 14 = .ok (.putfield 13, 3) := by decide +kernel
theorem dX11_init_17 : decode cX11_init 17 = .ok (.aload_n 0, 1) := by decide +kernel
theorem dX11_init_18 : decode cX11_init 18 = .ok (.sipush 366, 3) := by decide +kernel
theorem dX11_init_21 : decode cX11_init 21 = .ok (.newarray .int, 2) := by decide +kernel
theorem dX11_init_23 : decode cX11_init 23 = .ok (.putfield 17, 3) := by decide +kernel
theorem dX11_init_26 : decode cX11_init 26 = .ok (.aload_n 0, 1) := by decide +kernel
theorem dX11_init_27 : decode cX11_init 27 = .ok (.bipush 12, 2) := by decide +kernel
theorem dX11_init_29 : decode cX11_init 29 = .ok (.newarray .long, 2) := by decide +kernel
theorem dX11_init_31 : decode cX11_init 31 = .ok (.putfield 20, 3) := by decide +kernel
theorem dX11_init_34 : decode cX11_init 34 = .ok (.aload_n 0, 1) := by decide +kernel
theorem dX11_init_35 : decode cX11_init 35 = .ok (.bipush 60, 2) := by decide +kernel
theorem dX11_init_37 : decode cX11_init 37 = .ok (.newarray .int, 2) := by decide +kernel
theorem dX11_init_39 : decode cX11_init 39 = .ok (.putfield 24, 3) := by decide +kernel
theorem dX11_init_42 : decode cX11_init 42 = .ok (.aload_n 0, 1) := by decide +kernel
theorem dX11_init_43 : decode cX11_init 43 = .ok (.bipush 61, 2) := by decide +kernel
theorem dX11_init_45 : decode cX11_init 45 = .ok (.newarray .int, 2) := by decide +kernel
theorem dX11_init_47 : decode cX11_init 47 = .ok (.putfield 27, 3) := by decide +kernel
theorem dX11_init_50 : decode cX11_init 50 = .ok (.aload_n 0, 1) := by decide +kernel
theorem dX11_init_51 : decode cX11_init 51 = .ok (.iconst (-1), 1) := by decide +kernel
theorem dX11_init_52 : decode cX11_init 52 = .ok (.putfield 30, 3) := by decide +kernel
theorem dX11_init_55 : decode cX11_init 55 = .ok (.aload_n 0, 1) := by decide +kernel
theorem dX11_init_56 : decode cX11_init 56 = .ok (.iconst (-1), 1) := by decide +kernel
theorem dX11_init_57 : decode cX11_init 57 = .ok (.putfield 34, 3) := by decide +kernel
theorem dX11_init_60 : decode cX11_init 60 = .ok (.aload_n 0, 1) := by decide +kernel
theorem dX11_init_61 : decode cX11_init 61 = .ok (.sipush 410, 3) := by decide +kernel
theorem dX11_init_64 : decode cX11_init 64 = .ok (.newarray .int, 2) := by decide +kernel
theorem dX11_init_66 : decode cX11_init 66 = .ok (.putfield 37, 3) := by decide +kernel
theorem dX11_init_69 : decode cX11_init 69 = .ok (.aload_n 0, 1) := by decide +kernel
theorem dX11_init_70 : decode cX11_init 70 = .ok (.bipush 41, 2) := by decide +kernel
theorem dX11_init_72 : decode cX11_init 72 = .ok (.newarray .long, 2) := by decide +kernel
theorem dX11_init_74 : decode cX11_init 74 = .ok (.putfield 40, 3) := by decide +kernel
theorem dX11_init_77 : decode cX11_init 77 = .ok (.aload_n 0, 1) := by decide +kernel
theorem dX11_init_78 : decode cX11_init 78 = .ok (.bipush 41, 2) := by decide +kernel
theorem dX11_init_80 : decode cX11_init 80 = .ok (.newarray .long, 2) := by decide +kernel
theorem dX11_init_82 : decode cX11_init 82 = .ok (.putfield 43, 3) := by decide +kernel
theorem dX11_init_85 : decode cX11_init 85 = .ok (.aload_n 0, 1) := by decide +kernel
theorem dX11_init_86 : decode cX11_init 86 = .ok (.bipush 20, 2) := by decide +kernel
theorem dX11_init_88 : decode cX11_init 88 = .ok (.newarray .int, 2) := by decide +kernel
theorem dX11_init_90 : decode cX11_init 90 = .ok (.putfield 46, 3) := by decide +kernel
theorem dX11_init_93 : decode cX11_init 93 = .ok (.aload_n 0, 1) := by decide +kernel
theorem dX11_init_94 : decode cX11_init 94 = .ok (.bipush 20, 2) := by decide +kernel
theorem dX11_init_96 : decode cX11_init 96 = .ok (.newarray .int, 2) := by decide +kernel
theorem dX11_init_98 : decode cX11_init 98 = .ok (.putfield 49, 3) := by decide +kernel
theorem dX11_init_101 : decode cX11_init 101 = .ok (.aload_n 0, 1) := by decide +kernel
theorem dX11_init_102 : decode cX11_init 102 = .ok (.sipush 1681, 3) := by decide +kernel
theorem dX11_init_105 : decode cX11_init 105 = .ok (.newarray .int, 2) := by decide +kernel
theorem dX11_init_107 : decode cX11_init 107 = .ok (.putfield 52, 3) := by decide +kernel
theorem dX11_init_110 : decode cX11_init 110 = .ok (.aload_n 0, 1) := by decide +kernel
theorem dX11_init_111 : decode cX11_init 111 = .ok (.getfield 7, 3) := by decide +kernel
theorem dX11_init_114 : decode cX11_init 114 = .ok (.iconst 1, 1) := by decide +kernel
theorem dX11_init_115 : decode cX11_init 115 = .ok (.bipush 6, 2) := by decide +kernel
theorem dX11_init_117 : decode cX11_init 117 = .ok (.iastore, 1) := by decide +kernel
theorem dX11_init_118 : decode cX11_init 118 = .ok (.aload_n 0, 1) := by decide +kernel
theorem dX11_init_119 : decode cX11_init 119 = .ok (.getfield 7, 3) := by decide +kernel
theorem dX11_init_122 : decode cX11_init 122 = .ok (.iconst 2, 1) := by decide +kernel
theorem dX11_init_123 : decode cX11_init 123 = .ok (.bipush 100, 2) := by decide +kernel
theorem dX11_init_125 : decode cX11_init 125 = .ok (.iastore, 1) := by decide +kernel
theorem dX11_init_126 : decode cX11_init 126 = .ok (.aload_n 0, 1) := by decide +kernel
theorem dX11_init_127 : decode cX11_init 127 = .ok (.getfield 7, 3) := by decide +kernel
theorem dX11_init_130 : decode cX11_init 130 = .ok (.iconst 3, 1) := by decide +kernel
theorem dX11_init_131 : decode cX11_init 131 = .ok (.bipush 20, 2) := by decide +kernel
theorem dX11_init_133 : decode cX11_init 133 = .ok (.iastore, 1) := by decide +kernel
theorem dX11_init_134 : decode cX11_init 134 = .ok (.aload_n 0, 1) := by decide +kernel
theorem dX11_init_135 : decode cX11_init 135 = .ok (.getfield 7, 3) := by decide +kernel
theorem dX11_init_138 : decode cX11_init 138 = .ok (.bipush 6, 2) := by decide +kernel
theorem dX11_init_140 : decode cX11_init 140 = .ok (.iconst 1, 1) := by decide +kernel
theorem dX11_init_141 : decode cX11_init 141 = .ok (.iastore, 1) := by decide +kernel
theorem dX11_init_142 : decode cX11_init 142 = .ok (.iconst 0, 1) := by decide +kernel
theorem dX11_init_143 : decode cX11_init 143 = .ok (.istore_n 1, 1) := by decide +kernel
theorem dX11_init_144 : decode cX11_init 144 = .ok (.iload_n 1, 1) := by decide +kernel
theorem dX11_init_145 : decode cX11_init 145 = .ok (.iconst 3, 1) := by decide +kernel
theorem dX11_init_146 : decode cX11_init 146 = .ok (.if_icmp .ge 51, 3) := by decide +kernel
theorem dX11_init_149 : decode cX11_init 149 = .ok (.aload_n 0, 1) := by decide +kernel
theorem dX11_init_150 : decode cX11_init 150 = .ok (.getfield 7, 3) := by decide +kernel
theorem dX11_init_153 : decode cX11_init 153 = .ok (.bipush 28, 2) := by decide +kernel
theorem dX11_init_155 : decode cX11_init 155 = .ok (.iload_n 1, 1) := by decide +kernel
theorem dX11_init_156 : decode cX11_init 156 = .ok (.iadd, 1) := by decide +kernel
theorem dX11_init_157 : decode cX11_init 157 = .ok (.bipush 6, 2) := by decide +kernel
theorem dX11_init_159 : decode cX11_init 159 = .ok (.iastore, 1) := by decide +kernel
theorem dX11_init_160 : decode cX11_init 160 = .ok (.iconst 0, 1) := by decide +kernel
theorem dX11_init_161 : decode cX11_init 161 = .ok (.istore_n 2, 1) := by decide +kernel
theorem dX11_init_162 : decode cX11_init 162 = .ok (.iload_n 2, 1) := by decide +kernel
theorem dX11_init_163 : decode cX11_init 163 = .ok (.bipush 6, 2) := by decide +kernel
theorem dX11_init_165 : decode cX11_init 165 = .ok (.if_icmp .ge 26, 3) := by decide +kernel
theorem dX11_init_168 : decode cX11_init 168 = .ok (.aload_n 0, 1) := by decide +kernel
theorem dX11_init_169 : decode cX11_init 169 = .ok (.getfield 7, 3) := by decide +kernel
theorem dX11_init_172 : decode cX11_init 172 = .ok (.bipush 31, 2) := by decide +kernel
theorem dX11_init_174 : decode cX11_init 174 = .ok (.bipush 6, 2) := by decide +kernel
theorem dX11_init_176 : decode cX11_init 176 = .ok (.iload_n 1, 1) := by decide +kernel
theorem dX11_init_177 : decode cX11_init 177 = .ok (.imul, 1) := by decide +kernel
theorem dX11_init_178 : decode cX11_init 178 = .ok (.iadd, 1) := by decide +kernel
theorem dX11_init_179 : decode cX11_init 179 = .ok (.iload_n 2, 1) := by decide +kernel
theorem dX11_init_180 : decode cX11_init 180 = .ok (.iadd, 1) := by decide +kernel
theorem dX11_init_181 : decode cX11_init 181 = .ok (.iload_n 2, 1) := by decide +kernel
theorem dX11_init_182 : decode cX11_init 182 = .ok (.iconst 1, 1) := by decide +kernel
theorem dX11_init_183 : decode cX11_init 183 = .ok (.iadd, 1) := by decide +kernel
theorem dX11_init_184 : decode cX11_init 184 = .ok (.iastore, 1) := by decide +kernel
theorem dX11_init_185 : decode cX11_init 185 = .ok (.iinc 2 1, 3) := by decide +kernel
theorem dX11_init_188 : decode cX11_init 188 = .ok (.goto (-26), 3) := by decide +kernel
theorem dX11_init_191 : decode cX11_init 191 = .ok (.iinc 1 1, 3) := by decide +kernel
theorem dX11_init_194 : decode cX11_init 194 = .ok (.goto (-50), 3) := by decide +kernel
theorem dX11_init_197 : decode cX11_init 197 = .ok (.return_, 1) := by decide +kernel
theorem dX11_thrown_0 : decode cX11_thrown 0 = .ok (.aload_n 0, 1) := by decide +kernel
theorem dX11_thrown_1 : decode cX11_thrown 1 = .ok (.getfield 55, 3) := by decide +kernel
theorem dX11_thrown_4 : decode cX11_thrown 4 = .ok (.ireturn, 1) := by decide +kernel
theorem dX11_within_0 : decode cX11_within 0 = .ok (.iload_n 0, 1) := by decide +kernel
theorem dX11_within_1 : decode cX11_within 1 = .ok (.iload_n 1, 1) := by decide +kernel
theorem dX11_within_2 : decode cX11_within 2 = .ok (.if_icmp .lt 12, 3) := by decide +kernel
theorem dX11_within_5 : decode cX11_within 5 = .ok (.iload_n 0, 1) := by decide +kernel
theorem dX11_within_6 : decode cX11_within 6 = .ok (.iload_n 2, 1) := by decide +kernel
theorem dX11_within_7 : decode cX11_within 7 = .ok (.if_icmp .gt 7, 3) := by decide +kernel
theorem dX11_within_10 : decode cX11_within 10 = .ok (.iconst 1, 1) := by decide +kernel
theorem dX11_within_11 : decode cX11_within 11 = .ok (.goto 4, 3) := by decide +kernel
theorem dX11_within_14 : decode cX11_within 14 = .ok (.iconst 0, 1) := by decide +kernel
theorem dX11_within_15 : decode cX11_within 15 = .ok (.ireturn, 1) := by decide +kernel
theorem dX11_save_0 : decode cX11_save 0 = .ok (.aload_n 0, 1) := by decide +kernel
theorem dX11_save_1 : decode cX11_save 1 = .ok (.aload_n 0, 1) := by decide +kernel
theorem dX11_save_2 : decode cX11_save 2 = .ok (.getfield 7, 3) := by decide +kernel
theorem dX11_save_5 : decode cX11_save 5 = .ok (.invokevirtual 58, 3) := by decide +kernel
theorem dX11_save_8 : decode cX11_save 8 = .ok (.return_, 1) := by decide +kernel
theorem dX11_keep_0 : decode cX11_keep 0 = .ok (.aload_n 0, 1) := by decide +kernel
theorem dX11_keep_1 : decode cX11_keep 1 = .ok (.getfield 62, 3) := by decide +kernel
theorem dX11_keep_4 : decode cX11_keep 4 = .ok (.bipush 6, 2) := by decide +kernel
theorem dX11_keep_6 : decode cX11_keep 6 = .ok (.if_icmp .ne 72, 3) := by decide +kernel
theorem dX11_keep_9 : decode cX11_keep 9 = .ok (.bipush 61, 2) := by decide +kernel
theorem dX11_keep_11 : decode cX11_keep 11 = .ok (.istore_n 2, 1) := by decide +kernel
theorem dX11_keep_12 : decode cX11_keep 12 = .ok (.iload_n 2, 1) := by decide +kernel
theorem dX11_keep_13 : decode cX11_keep 13 = .ok (.sipush 366, 3) := by decide +kernel
theorem dX11_keep_16 : decode cX11_keep 16 = .ok (.if_icmp .ge 24, 3) := by decide +kernel
theorem dX11_keep_19 : decode cX11_keep 19 = .ok (.aload_n 0, 1) := by decide +kernel
theorem dX11_keep_20 : decode cX11_keep 20 = .ok (.getfield 17, 3) := by decide +kernel
theorem dX11_keep_23 : decode cX11_keep 23 = .ok (.iload_n 2, 1) := by decide +kernel
theorem dX11_keep_24 : decode cX11_keep 24 = .ok (.bipush 61, 2) := by decide +kernel
theorem dX11_keep_26 : decode cX11_keep 26 = .ok (.isub, 1) := by decide +kernel
theorem dX11_keep_27 : decode cX11_keep 27 = .ok (.aload_n 0, 1) := by decide +kernel
theorem dX11_keep_28 : decode cX11_keep 28 = .ok (.getfield 17, 3) := by decide +kernel
theorem dX11_keep_31 : decode cX11_keep 31 = .ok (.iload_n 2, 1) := by decide +kernel
theorem dX11_keep_32 : decode cX11_keep 32 = .ok (.iaload, 1) := by decide +kernel
theorem dX11_keep_33 : decode cX11_keep 33 = .ok (.iastore, 1) := by decide +kernel
theorem dX11_keep_34 : decode cX11_keep 34 = .ok (.iinc 2 1, 3) := by decide +kernel
theorem dX11_keep_37 : decode cX11_keep 37 = .ok (.goto (-25), 3) := by decide +kernel
theorem dX11_keep_40 : decode cX11_keep 40 = .ok (.iconst 2, 1) := by decide +kernel
theorem dX11_keep_41 : decode cX11_keep 41 = .ok (.istore_n 2, 1) := by decide +kernel
theorem dX11_keep_42 : decode cX11_keep 42 = .ok (.iload_n 2, 1) := by decide +kernel
theorem dX11_keep_43 : decode cX11_keep 43 = .ok (.bipush 12, 2) := by decide +kernel
theorem dX11_keep_45 : decode cX11_keep 45 = .ok (.if_icmp .ge 23, 3) := by decide +kernel
theorem dX11_keep_48 : decode cX11_keep 48 = .ok (.aload_n 0, 1) := by decide +kernel
theorem dX11_keep_49 : decode cX11_keep 49 = .ok (.getfield 20, 3) := by decide +kernel
theorem dX11_keep_52 : decode cX11_keep 52 = .ok (.iload_n 2, 1) := by decide +kernel
theorem dX11_keep_53 : decode cX11_keep 53 = .ok (.iconst 2, 1) := by decide +kernel
theorem dX11_keep_54 : decode cX11_keep 54 = .ok (.isub, 1) := by decide +kernel
theorem dX11_keep_55 : decode cX11_keep 55 = .ok (.aload_n 0, 1) := by decide +kernel
theorem dX11_keep_56 : decode cX11_keep 56 = .ok (.getfield 20, 3) := by decide +kernel
theorem dX11_keep_59 : decode cX11_keep 59 = .ok (.iload_n 2, 1) := by decide +kernel
theorem dX11_keep_60 : decode cX11_keep 60 = .ok (.laload, 1) := by decide +kernel
theorem dX11_keep_61 : decode cX11_keep 61 = .ok (.lastore, 1) := by decide +kernel
theorem dX11_keep_62 : decode cX11_keep 62 = .ok (.iinc 2 1, 3) := by decide +kernel
theorem dX11_keep_65 : decode cX11_keep 65 = .ok (.goto (-23), 3) := by decide +kernel
theorem dX11_keep_68 : decode cX11_keep 68 = .ok (.aload_n 0, 1) := by decide +kernel
theorem dX11_keep_69 : decode cX11_keep 69 = .ok (.dup, 1) := by decide +kernel
theorem dX11_keep_70 : decode cX11_keep 70 = .ok (.getfield 62, 3) := by decide +kernel
theorem dX11_keep_73 : decode cX11_keep 73 = .ok (.iconst 1, 1) := by decide +kernel
theorem dX11_keep_74 : decode cX11_keep 74 = .ok (.isub, 1) := by decide +kernel
theorem dX11_keep_75 : decode cX11_keep 75 = .ok (.putfield 62, 3) := by decide +kernel
theorem dX11_keep_78 : decode cX11_keep 78 = .ok (.iconst 0, 1) := by decide +kernel
theorem dX11_keep_79 : decode cX11_keep 79 = .ok (.istore_n 2, 1) := by decide +kernel
theorem dX11_keep_80 : decode cX11_keep 80 = .ok (.iload_n 2, 1) := by decide +kernel
theorem dX11_keep_81 : decode cX11_keep 81 = .ok (.bipush 61, 2) := by decide +kernel
theorem dX11_keep_83 : decode cX11_keep 83 = .ok (.if_icmp .ge 26, 3) := by decide +kernel
theorem dX11_keep_86 : decode cX11_keep 86 = .ok (.aload_n 0, 1) := by decide +kernel
theorem dX11_keep_87 : decode cX11_keep 87 = .ok (.getfield 17, 3) := by decide +kernel
theorem dX11_keep_90 : decode cX11_keep 90 = .ok (.bipush 61, 2) := by decide +kernel
theorem dX11_keep_92 : decode cX11_keep 92 = .ok (.aload_n 0, 1) := by decide +kernel
theorem dX11_keep_93 : decode cX11_keep 93 = .ok (.getfield 62, 3) := by decide +kernel
theorem dX11_keep_96 : decode cX11_keep 96 = .ok (.imul, 1) := by decide +kernel
theorem dX11_keep_97 : decode cX11_keep 97 = .ok (.iload_n 2, 1) := by decide +kernel
theorem dX11_keep_98 : decode cX11_keep 98 = .ok (.iadd, 1) := by decide +kernel
theorem dX11_keep_99 : decode cX11_keep 99 = .ok (.aload_n 1, 1) := by decide +kernel
theorem dX11_keep_100 : decode cX11_keep 100 = .ok (.iload_n 2, 1) := by decide +kernel
theorem dX11_keep_101 : decode cX11_keep 101 = .ok (.iaload, 1) := by decide +kernel
theorem dX11_keep_102 : decode cX11_keep 102 = .ok (.iastore, 1) := by decide +kernel
theorem dX11_keep_103 : decode cX11_keep 103 = .ok (.iinc 2 1, 3) := by decide +kernel
theorem dX11_keep_106 : decode cX11_keep 106 = .ok (.goto (-26), 3) := by decide +kernel
theorem dX11_keep_109 : decode cX11_keep 109 = .ok (.aload_n 0, 1) := by decide +kernel
theorem dX11_keep_110 : decode cX11_keep 110 = .ok (.getfield 20, 3) := by decide +kernel
theorem dX11_keep_113 : decode cX11_keep 113 = .ok (.iconst 2, 1) := by decide +kernel
theorem dX11_keep_114 : decode cX11_keep 114 = .ok (.aload_n 0, 1) := by decide +kernel
theorem dX11_keep_115 : decode cX11_keep 115 = .ok (.getfield 62, 3) := by decide +kernel
theorem dX11_keep_118 : decode cX11_keep 118 = .ok (.imul, 1) := by decide +kernel
theorem dX11_keep_119 : decode cX11_keep 119 = .ok (.aload_n 0, 1) := by decide +kernel
theorem dX11_keep_120 : decode cX11_keep 120 = .ok (.getfield 65, 3) := by decide +kernel
theorem dX11_keep_123 : decode cX11_keep 123 = .ok (.lastore, 1) := by decide +kernel
theorem dX11_keep_124 : decode cX11_keep 124 = .ok (.aload_n 0, 1) := by decide +kernel
theorem dX11_keep_125 : decode cX11_keep 125 = .ok (.getfield 20, 3) := by decide +kernel
theorem dX11_keep_128 : decode cX11_keep 128 = .ok (.iconst 2, 1) := by decide +kernel
theorem dX11_keep_129 : decode cX11_keep 129 = .ok (.aload_n 0, 1) := by decide +kernel
theorem dX11_keep_130 : decode cX11_keep 130 = .ok (.getfield 62, 3) := by decide +kernel
theorem dX11_keep_133 : decode cX11_keep 133 = .ok (.imul, 1) := by decide +kernel
theorem dX11_keep_134 : decode cX11_keep 134 = .ok (.iconst 1, 1) := by decide +kernel
theorem dX11_keep_135 : decode cX11_keep 135 = .ok (.iadd, 1) := by decide +kernel
theorem dX11_keep_136 : decode cX11_keep 136 = .ok (.aload_n 0, 1) := by decide +kernel
theorem dX11_keep_137 : decode cX11_keep 137 = .ok (.getfield 13, 3) := by decide +kernel
theorem dX11_keep_140 : decode cX11_keep 140 = .ok (.lastore, 1) := by decide +kernel
theorem dX11_keep_141 : decode cX11_keep 141 = .ok (.aload_n 0, 1) := by decide +kernel
theorem dX11_keep_142 : decode cX11_keep 142 = .ok (.dup, 1) := by decide +kernel
theorem dX11_keep_143 : decode cX11_keep 143 = .ok (.getfield 62, 3) := by decide +kernel
theorem dX11_keep_146 : decode cX11_keep 146 = .ok (.iconst 1, 1) := by decide +kernel
theorem dX11_keep_147 : decode cX11_keep 147 = .ok (.iadd, 1) := by decide +kernel
theorem dX11_keep_148 : decode cX11_keep 148 = .ok (.putfield 62, 3) := by decide +kernel
theorem dX11_keep_151 : decode cX11_keep 151 = .ok (.return_, 1) := by decide +kernel
theorem dX11_hold_0 : decode cX11_hold 0 = .ok (.iconst 0, 1) := by decide +kernel
theorem dX11_hold_1 : decode cX11_hold 1 = .ok (.istore_n 1, 1) := by decide +kernel
theorem dX11_hold_2 : decode cX11_hold 2 = .ok (.iload_n 1, 1) := by decide +kernel
theorem dX11_hold_3 : decode cX11_hold 3 = .ok (.bipush 61, 2) := by decide +kernel
theorem dX11_hold_5 : decode cX11_hold 5 = .ok (.if_icmp .ge 21, 3) := by decide +kernel
theorem dX11_hold_8 : decode cX11_hold 8 = .ok (.aload_n 0, 1) := by decide +kernel
theorem dX11_hold_9 : decode cX11_hold 9 = .ok (.getfield 27, 3) := by decide +kernel
theorem dX11_hold_12 : decode cX11_hold 12 = .ok (.iload_n 1, 1) := by decide +kernel
theorem dX11_hold_13 : decode cX11_hold 13 = .ok (.aload_n 0, 1) := by decide +kernel
theorem dX11_hold_14 : decode cX11_hold 14 = .ok (.getfield 7, 3) := by decide +kernel
theorem dX11_hold_17 : decode cX11_hold 17 = .ok (.iload_n 1, 1) := by decide +kernel
theorem dX11_hold_18 : decode cX11_hold 18 = .ok (.iaload, 1) := by decide +kernel
theorem dX11_hold_19 : decode cX11_hold 19 = .ok (.iastore, 1) := by decide +kernel
theorem dX11_hold_20 : decode cX11_hold 20 = .ok (.iinc 1 1, 3) := by decide +kernel
theorem dX11_hold_23 : decode cX11_hold 23 = .ok (.goto (-21), 3) := by decide +kernel
theorem dX11_hold_26 : decode cX11_hold 26 = .ok (.return_, 1) := by decide +kernel
theorem dX11_settle_0 : decode cX11_settle 0 = .ok (.aload_n 0, 1) := by decide +kernel
theorem dX11_settle_1 : decode cX11_settle 1 = .ok (.iload_n 1, 1) := by decide +kernel
theorem dX11_settle_2 : decode cX11_settle 2 = .ok (.ifCond .eq 7, 3) := by decide +kernel
theorem dX11_settle_5 : decode cX11_settle 5 = .ok (.iconst 0, 1) := by decide +kernel
theorem dX11_settle_6 : decode cX11_settle 6 = .ok (.goto 4, 3) := by decide +kernel
theorem dX11_settle_9 : decode cX11_settle 9 = .ok (.iload_n 2, 1) := by decide +kernel
theorem dX11_settle_10 : decode cX11_settle 10 = .ok (.putfield 55, 3) := by decide +kernel
theorem dX11_settle_13 : decode cX11_settle 13 = .ok (.iload_n 1, 1) := by decide +kernel
theorem dX11_settle_14 : decode cX11_settle 14 = .ok (.ifCond .eq 12, 3) := by decide +kernel
theorem dX11_settle_17 : decode cX11_settle 17 = .ok (.aload_n 0, 1) := by decide +kernel
theorem dX11_settle_18 : decode cX11_settle 18 = .ok (.aload_n 0, 1) := by decide +kernel
theorem dX11_settle_19 : decode cX11_settle 19 = .ok (.getfield 27, 3) := by decide +kernel
theorem dX11_settle_22 : decode cX11_settle 22 = .ok (.invokevirtual 58, 3) := by decide +kernel
theorem dX11_settle_25 : decode cX11_settle 25 = .ok (.return_, 1) := by decide +kernel
theorem dX11_settle_26 : decode cX11_settle 26 = .ok (.iconst 0, 1) := by decide +kernel
theorem dX11_settle_27 : decode cX11_settle 27 = .ok (.istore_n 3, 1) := by decide +kernel
theorem dX11_settle_28 : decode cX11_settle 28 = .ok (.iload_n 3, 1) := by decide +kernel
theorem dX11_settle_29 : decode cX11_settle 29 = .ok (.bipush 61, 2) := by decide +kernel
theorem dX11_settle_31 : decode cX11_settle 31 = .ok (.if_icmp .ge 21, 3) := by decide +kernel
theorem dX11_settle_34 : decode cX11_settle 34 = .ok (.aload_n 0, 1) := by decide +kernel
theorem dX11_settle_35 : decode cX11_settle 35 = .ok (.getfield 7, 3) := by decide +kernel
theorem dX11_settle_38 : decode cX11_settle 38 = .ok (.iload_n 3, 1) := by decide +kernel
theorem dX11_settle_39 : decode cX11_settle 39 = .ok (.aload_n 0, 1) := by decide +kernel
theorem dX11_settle_40 : decode cX11_settle 40 = .ok (.getfield 27, 3) := by decide +kernel
theorem dX11_settle_43 : decode cX11_settle 43 = .ok (.iload_n 3, 1) := by decide +kernel
theorem dX11_settle_44 : decode cX11_settle 44 = .ok (.iaload, 1) := by decide +kernel
theorem dX11_settle_45 : decode cX11_settle 45 = .ok (.iastore, 1) := by decide +kernel
theorem dX11_settle_46 : decode cX11_settle 46 = .ok (.iinc 3 1, 3) := by decide +kernel
theorem dX11_settle_49 : decode cX11_settle 49 = .ok (.goto (-21), 3) := by decide +kernel
theorem dX11_settle_52 : decode cX11_settle 52 = .ok (.return_, 1) := by decide +kernel
theorem dX11_takeBack_0 : decode cX11_takeBack 0 = .ok (.aload_n 0, 1) := by decide +kernel
theorem dX11_takeBack_1 : decode cX11_takeBack 1 = .ok (.dup, 1) := by decide +kernel
theorem dX11_takeBack_2 : decode cX11_takeBack 2 = .ok (.getfield 62, 3) := by decide +kernel
theorem dX11_takeBack_5 : decode cX11_takeBack 5 = .ok (.iconst 1, 1) := by decide +kernel
theorem dX11_takeBack_6 : decode cX11_takeBack 6 = .ok (.isub, 1) := by decide +kernel
theorem dX11_takeBack_7 : decode cX11_takeBack 7 = .ok (.putfield 62, 3) := by decide +kernel
theorem dX11_takeBack_10 : decode cX11_takeBack 10 = .ok (.iconst 0, 1) := by decide +kernel
theorem dX11_takeBack_11 : decode cX11_takeBack 11 = .ok (.istore_n 1, 1) := by decide +kernel
theorem dX11_takeBack_12 : decode cX11_takeBack 12 = .ok (.iload_n 1, 1) := by decide +kernel
theorem dX11_takeBack_13 : decode cX11_takeBack 13 = .ok (.bipush 61, 2) := by decide +kernel
theorem dX11_takeBack_15 : decode cX11_takeBack 15 = .ok (.if_icmp .ge 29, 3) := by decide +kernel
theorem dX11_takeBack_18 : decode cX11_takeBack 18 = .ok (.aload_n 0, 1) := by decide +kernel
theorem dX11_takeBack_19 : decode cX11_takeBack 19 = .ok (.getfield 7, 3) := by decide +kernel
theorem dX11_takeBack_22 : decode cX11_takeBack 22 = .ok (.iload_n 1, 1) := by decide +kernel
theorem dX11_takeBack_23 : decode cX11_takeBack 23 = .ok (.aload_n 0, 1) := by decide +kernel
theorem dX11_takeBack_24 : decode cX11_takeBack 24 = .ok (.getfield 17, 3) := by decide +kernel
theorem dX11_takeBack_27 : decode cX11_takeBack 27 = .ok (.bipush 61, 2) := by decide +kernel
theorem dX11_takeBack_29 : decode cX11_takeBack 29 = .ok (.aload_n 0, 1) := by decide +kernel
theorem dX11_takeBack_30 : decode cX11_takeBack 30 = .ok (.getfield 62, 3) := by decide +kernel
theorem dX11_takeBack_33 : decode cX11_takeBack 33 = .ok (.imul, 1) := by decide +kernel
theorem dX11_takeBack_34 : decode cX11_takeBack 34 = .ok (.iload_n 1, 1) := by decide +kernel
theorem dX11_takeBack_35 : decode cX11_takeBack 35 = .ok (.iadd, 1) := by decide +kernel
theorem dX11_takeBack_36 : decode cX11_takeBack 36 = .ok (.iaload, 1) := by decide +kernel
theorem dX11_takeBack_37 : decode cX11_takeBack 37 = .ok (.iastore, 1) := by decide +kernel
theorem dX11_takeBack_38 : decode cX11_takeBack 38 = .ok (.iinc 1 1, 3) := by decide +kernel
theorem dX11_takeBack_41 : decode cX11_takeBack 41 = .ok (.goto (-29), 3) := by decide +kernel
theorem dX11_takeBack_44 : decode cX11_takeBack 44 = .ok (.aload_n 0, 1) := by decide +kernel
theorem dX11_takeBack_45 : decode cX11_takeBack 45 = .ok (.aload_n 0, 1) := by decide +kernel
theorem dX11_takeBack_46 : decode cX11_takeBack 46 = .ok (.getfield 20, 3) := by decide +kernel
theorem dX11_takeBack_49 : decode cX11_takeBack 49 = .ok (.iconst 2, 1) := by decide +kernel
theorem dX11_takeBack_50 : decode cX11_takeBack 50 = .ok (.aload_n 0, 1) := by decide +kernel
theorem dX11_takeBack_51 : decode cX11_takeBack 51 = .ok (.getfield 62, 3) := by decide +kernel
theorem dX11_takeBack_54 : decode cX11_takeBack 54 = .ok (.imul, 1) := by decide +kernel
theorem dX11_takeBack_55 : decode cX11_takeBack 55 = .ok (.laload, 1) := by decide +kernel
theorem dX11_takeBack_56 : decode cX11_takeBack 56 = .ok (.putfield 65, 3) := by decide +kernel
theorem dX11_takeBack_59 : decode cX11_takeBack 59 = .ok (.aload_n 0, 1) := by decide +kernel
theorem dX11_takeBack_60 : decode cX11_takeBack 60 = .ok (.aload_n 0, 1) := by decide +kernel
theorem dX11_takeBack_61 : decode cX11_takeBack 61 = .ok (.getfield 20, 3) := by decide +kernel
theorem dX11_takeBack_64 : decode cX11_takeBack 64 = .ok (.iconst 2, 1) := by decide +kernel
theorem dX11_takeBack_65 : decode cX11_takeBack 65 = .ok (.aload_n 0, 1) := by decide +kernel
theorem dX11_takeBack_66 : decode cX11_takeBack 66 = .ok (.getfield 62, 3) := by decide +kernel
theorem dX11_takeBack_69 : decode cX11_takeBack 69 = .ok (.imul, 1) := by decide +kernel
theorem dX11_takeBack_70 : decode cX11_takeBack 70 = .ok (.iconst 1, 1) := by decide +kernel
theorem dX11_takeBack_71 : decode cX11_takeBack 71 = .ok (.iadd, 1) := by decide +kernel
theorem dX11_takeBack_72 : decode cX11_takeBack 72 = .ok (.laload, 1) := by decide +kernel
theorem dX11_takeBack_73 : decode cX11_takeBack 73 = .ok (.putfield 13, 3) := by decide +kernel
theorem dX11_takeBack_76 : decode cX11_takeBack 76 = .ok (.return_, 1) := by decide +kernel
theorem dX11_isSquare_0 : decode cX11_isSquare 0 = .ok (.iload_n 1, 1) := by decide +kernel
theorem dX11_isSquare_1 : decode cX11_isSquare 1 = .ok (.iconst 0, 1) := by decide +kernel
theorem dX11_isSquare_2 : decode cX11_isSquare 2 = .ok (.aload_n 0, 1) := by decide +kernel
theorem dX11_isSquare_3 : decode cX11_isSquare 3 = .ok (.getfield 7, 3) := by decide +kernel
theorem dX11_isSquare_6 : decode cX11_isSquare 6 = .ok (.iconst 3, 1) := by decide +kernel
theorem dX11_isSquare_7 : decode cX11_isSquare 7 = .ok (.iaload, 1) := by decide +kernel
theorem dX11_isSquare_8 : decode cX11_isSquare 8 = .ok (.invokestatic 68, 3) := by decide +kernel
theorem dX11_isSquare_11 : decode cX11_isSquare 11 = .ok (.ireturn, 1) := by decide +kernel
theorem dX11_isLink_0 : decode cX11_isLink 0 = .ok (.iload_n 1, 1) := by decide +kernel
theorem dX11_isLink_1 : decode cX11_isLink 1 = .ok (.iconst 0, 1) := by decide +kernel
theorem dX11_isLink_2 : decode cX11_isLink 2 = .ok (.aload_n 0, 1) := by decide +kernel
theorem dX11_isLink_3 : decode cX11_isLink 3 = .ok (.getfield 7, 3) := by decide +kernel
theorem dX11_isLink_6 : decode cX11_isLink 6 = .ok (.iconst 4, 1) := by decide +kernel
theorem dX11_isLink_7 : decode cX11_isLink 7 = .ok (.iaload, 1) := by decide +kernel
theorem dX11_isLink_8 : decode cX11_isLink 8 = .ok (.iconst 1, 1) := by decide +kernel
theorem dX11_isLink_9 : decode cX11_isLink 9 = .ok (.isub, 1) := by decide +kernel
theorem dX11_isLink_10 : decode cX11_isLink 10 = .ok (.invokestatic 68, 3) := by decide +kernel
theorem dX11_isLink_13 : decode cX11_isLink 13 = .ok (.ireturn, 1) := by decide +kernel
theorem dX11_isDie_0 : decode cX11_isDie 0 = .ok (.iload_n 0, 1) := by decide +kernel
theorem dX11_isDie_1 : decode cX11_isDie 1 = .ok (.iconst 0, 1) := by decide +kernel
theorem dX11_isDie_2 : decode cX11_isDie 2 = .ok (.iconst 2, 1) := by decide +kernel
theorem dX11_isDie_3 : decode cX11_isDie 3 = .ok (.invokestatic 68, 3) := by decide +kernel
theorem dX11_isDie_6 : decode cX11_isDie 6 = .ok (.ireturn, 1) := by decide +kernel
theorem dX11_isPlayer_0 : decode cX11_isPlayer 0 = .ok (.iload_n 1, 1) := by decide +kernel
theorem dX11_isPlayer_1 : decode cX11_isPlayer 1 = .ok (.iconst 0, 1) := by decide +kernel
theorem dX11_isPlayer_2 : decode cX11_isPlayer 2 = .ok (.aload_n 0, 1) := by decide +kernel
theorem dX11_isPlayer_3 : decode cX11_isPlayer 3 = .ok (.getfield 7, 3) := by decide +kernel
theorem dX11_isPlayer_6 : decode cX11_isPlayer 6 = .ok (.iconst 5, 1) := by decide +kernel
theorem dX11_isPlayer_7 : decode cX11_isPlayer 7 = .ok (.iaload, 1) := by decide +kernel
theorem dX11_isPlayer_8 : decode cX11_isPlayer 8 = .ok (.iconst 1, 1) := by decide +kernel
theorem dX11_isPlayer_9 : decode cX11_isPlayer 9 = .ok (.isub, 1) := by decide +kernel
theorem dX11_isPlayer_10 : decode cX11_isPlayer 10 = .ok (.invokestatic 68, 3) := by decide +kernel
theorem dX11_isPlayer_13 : decode cX11_isPlayer 13 = .ok (.ireturn, 1) := by decide +kernel
theorem dX11_isAllowed_0 : decode cX11_isAllowed 0 = .ok (.iload_n 1, 1) := by decide +kernel
theorem dX11_isAllowed_1 : decode cX11_isAllowed 1 = .ok (.ifCond .eq 38, 3) := by decide +kernel
theorem dX11_isAllowed_4 : decode cX11_isAllowed 4 = .ok (.iload_n 1, 1) := by decide +kernel
theorem dX11_isAllowed_5 : decode cX11_isAllowed 5 = .ok (.aload_n 0, 1) := by decide +kernel
theorem dX11_isAllowed_6 : decode cX11_isAllowed 6 = .ok (.getfield 7, 3) := by decide +kernel
theorem dX11_isAllowed_9 : decode cX11_isAllowed 9 = .ok (.iconst 3, 1) := by decide +kernel
theorem dX11_isAllowed_10 : decode cX11_isAllowed 10 = .ok (.iaload, 1) := by decide +kernel
theorem dX11_isAllowed_11 : decode cX11_isAllowed 11 = .ok (.if_icmp .eq 28, 3) := by decide +kernel
theorem dX11_isAllowed_14 : decode cX11_isAllowed 14 = .ok (.iload_n 1, 1) := by decide +kernel
theorem dX11_isAllowed_15 : decode cX11_isAllowed 15 = .ok (.iload_n 2, 1) := by decide +kernel
theorem dX11_isAllowed_16 : decode cX11_isAllowed 16 = .ok (.if_icmp .eq 23, 3) := by decide +kernel
theorem dX11_isAllowed_19 : decode cX11_isAllowed 19 = .ok (.aload_n 0, 1) := by decide +kernel
theorem dX11_isAllowed_20 : decode cX11_isAllowed 20 = .ok (.iload_n 1, 1) := by decide +kernel
theorem dX11_isAllowed_21 : decode cX11_isAllowed 21 = .ok (.invokevirtual 72, 3) := by decide +kernel
theorem dX11_isAllowed_24 : decode cX11_isAllowed 24 = .ok (.ifCond .eq 15, 3) := by decide +kernel
theorem dX11_isAllowed_27 : decode cX11_isAllowed 27 = .ok (.aload_n 0, 1) := by decide +kernel
theorem dX11_isAllowed_28 : decode cX11_isAllowed 28 = .ok (.iload_n 2, 1) := by decide +kernel
theorem dX11_isAllowed_29 : decode cX11_isAllowed 29 = .ok (.invokevirtual 72, 3) := by decide +kernel
theorem dX11_isAllowed_32 : decode cX11_isAllowed 32 = .ok (.ifCond .eq 7, 3) := by decide +kernel
theorem dX11_isAllowed_35 : decode cX11_isAllowed 35 = .ok (.iconst 1, 1) := by decide +kernel
theorem dX11_isAllowed_36 : decode cX11_isAllowed 36 = .ok (.goto 4, 3) := by decide +kernel
theorem dX11_isAllowed_39 : decode cX11_isAllowed 39 = .ok (.iconst 0, 1) := by decide +kernel
theorem dX11_isAllowed_40 : decode cX11_isAllowed 40 = .ok (.istore 4, 2) := by decide +kernel
theorem dX11_isAllowed_42 : decode cX11_isAllowed 42 = .ok (.iconst 0, 1) := by decide +kernel
theorem dX11_isAllowed_43 : decode cX11_isAllowed 43 = .ok (.istore 5, 2) := by decide +kernel
theorem dX11_isAllowed_45 : decode cX11_isAllowed 45 = .ok (.iload 5, 2) := by decide +kernel
theorem dX11_isAllowed_47 : decode cX11_isAllowed 47 = .ok (.aload_n 0, 1) := by decide +kernel
theorem dX11_isAllowed_48 : decode cX11_isAllowed 48 = .ok (.getfield 7, 3) := by decide +kernel
theorem dX11_isAllowed_51 : decode cX11_isAllowed 51 = .ok (.iconst 4, 1) := by decide +kernel
theorem dX11_isAllowed_52 : decode cX11_isAllowed 52 = .ok (.iaload, 1) := by decide +kernel
theorem dX11_isAllowed_53 : decode cX11_isAllowed 53 = .ok (.if_icmp .ge 69, 3) := by decide +kernel
theorem dX11_isAllowed_56 : decode cX11_isAllowed 56 = .ok (.iload 4, 2) := by decide +kernel
theorem dX11_isAllowed_58 : decode cX11_isAllowed 58 = .ok (.ifCond .eq 55, 3) := by decide +kernel
theorem dX11_isAllowed_61 : decode cX11_isAllowed 61 = .ok (.iload 5, 2) := by decide +kernel
theorem dX11_isAllowed_63 : decode cX11_isAllowed 63 = .ok (.iload_n 3, 1) := by decide +kernel
theorem dX11_isAllowed_64 : decode cX11_isAllowed 64 = .ok (.if_icmp .eq 45, 3) := by decide +kernel
theorem dX11_isAllowed_67 : decode cX11_isAllowed 67 = .ok (.iload_n 1, 1) := by decide +kernel
theorem dX11_isAllowed_68 : decode cX11_isAllowed 68 = .ok (.aload_n 0, 1) := by decide +kernel
theorem dX11_isAllowed_69 : decode cX11_isAllowed 69 = .ok (.getfield 7, 3) := by decide +kernel
theorem dX11_isAllowed_72 : decode cX11_isAllowed 72 = .ok (.bipush 8, 2) := by decide +kernel
theorem dX11_isAllowed_74 : decode cX11_isAllowed 74 = .ok (.iload 5, 2) := by decide +kernel
theorem dX11_isAllowed_76 : decode cX11_isAllowed 76 = .ok (.iadd, 1) := by decide +kernel
theorem dX11_isAllowed_77 : decode cX11_isAllowed 77 = .ok (.iaload, 1) := by decide +kernel
theorem dX11_isAllowed_78 : decode cX11_isAllowed 78 = .ok (.if_icmp .eq 35, 3) := by decide +kernel
theorem dX11_isAllowed_81 : decode cX11_isAllowed 81 = .ok (.iload_n 1, 1) := by decide +kernel
theorem dX11_isAllowed_82 : decode cX11_isAllowed 82 = .ok (.aload_n 0, 1) := by decide +kernel
theorem dX11_isAllowed_83 : decode cX11_isAllowed 83 = .ok (.getfield 7, 3) := by decide +kernel
theorem dX11_isAllowed_86 : decode cX11_isAllowed 86 = .ok (.bipush 18, 2) := by decide +kernel
theorem dX11_isAllowed_88 : decode cX11_isAllowed 88 = .ok (.iload 5, 2) := by decide +kernel
theorem dX11_isAllowed_90 : decode cX11_isAllowed 90 = .ok (.iadd, 1) := by decide +kernel
theorem dX11_isAllowed_91 : decode cX11_isAllowed 91 = .ok (.iaload, 1) := by decide +kernel
theorem dX11_isAllowed_92 : decode cX11_isAllowed 92 = .ok (.if_icmp .eq 21, 3) := by decide +kernel
theorem dX11_isAllowed_95 : decode cX11_isAllowed 95 = .ok (.iload_n 2, 1) := by decide +kernel
theorem dX11_isAllowed_96 : decode cX11_isAllowed 96 = .ok (.aload_n 0, 1) := by decide +kernel
theorem dX11_isAllowed_97 : decode cX11_isAllowed 97 = .ok (.getfield 7, 3) := by decide +kernel
theorem dX11_isAllowed_100 : decode cX11_isAllowed 100 = .ok (.bipush 8, 2) := by decide +kernel
theorem dX11_isAllowed_102 : decode cX11_isAllowed 102 = .ok (.iload 5, 2) := by decide +kernel
theorem dX11_isAllowed_104 : decode cX11_isAllowed 104 = .ok (.iadd, 1) := by decide +kernel
theorem dX11_isAllowed_105 : decode cX11_isAllowed 105 = .ok (.iaload, 1) := by decide +kernel
theorem dX11_isAllowed_106 : decode cX11_isAllowed 106 = .ok (.if_icmp .eq 7, 3) := by decide +kernel
theorem dX11_isAllowed_109 : decode cX11_isAllowed 109 = .ok (.iconst 1, 1) := by decide +kernel
theorem dX11_isAllowed_110 : decode cX11_isAllowed 110 = .ok (.goto 4, 3) := by decide +kernel
theorem dX11_isAllowed_113 : decode cX11_isAllowed 113 = .ok (.iconst 0, 1) := by decide +kernel
theorem dX11_isAllowed_114 : decode cX11_isAllowed 114 = .ok (.istore 4, 2) := by decide +kernel
theorem dX11_isAllowed_116 : decode cX11_isAllowed 116 = .ok (.iinc 5 1, 3) := by decide +kernel
theorem dX11_isAllowed_119 : decode cX11_isAllowed 119 = .ok (.goto (-74), 3) := by decide +kernel
theorem dX11_isAllowed_122 : decode cX11_isAllowed 122 = .ok (.iload 4, 2) := by decide +kernel
theorem dX11_isAllowed_124 : decode cX11_isAllowed 124 = .ok (.ireturn, 1) := by decide +kernel
theorem dX11_linkFrom_0 : decode cX11_linkFrom 0 = .ok (.aload_n 0, 1) := by decide +kernel
theorem dX11_linkFrom_1 : decode cX11_linkFrom 1 = .ok (.getfield 30, 3) := by decide +kernel
theorem dX11_linkFrom_4 : decode cX11_linkFrom 4 = .ok (.iload_n 1, 1) := by decide +kernel
theorem dX11_linkFrom_5 : decode cX11_linkFrom 5 = .ok (.if_icmp .ne 14, 3) := by decide +kernel
theorem dX11_linkFrom_8 : decode cX11_linkFrom 8 = .ok (.iload_n 1, 1) := by decide +kernel
theorem dX11_linkFrom_9 : decode cX11_linkFrom 9 = .ok (.ifCond .le 10, 3) := by decide +kernel
theorem dX11_linkFrom_12 : decode cX11_linkFrom 12 = .ok (.aload_n 0, 1) := by decide +kernel
theorem dX11_linkFrom_13 : decode cX11_linkFrom 13 = .ok (.getfield 34, 3) := by decide +kernel
theorem dX11_linkFrom_16 : decode cX11_linkFrom 16 = .ok (.goto 4, 3) := by decide +kernel
theorem dX11_linkFrom_19 : decode cX11_linkFrom 19 = .ok (.iconst (-1), 1) := by decide +kernel
theorem dX11_linkFrom_20 : decode cX11_linkFrom 20 = .ok (.istore_n 2, 1) := by decide +kernel
theorem dX11_linkFrom_21 : decode cX11_linkFrom 21 = .ok (.iconst 0, 1) := by decide +kernel
theorem dX11_linkFrom_22 : decode cX11_linkFrom 22 = .ok (.istore_n 3, 1) := by decide +kernel
theorem dX11_linkFrom_23 : decode cX11_linkFrom 23 = .ok (.iload_n 3, 1) := by decide +kernel
theorem dX11_linkFrom_24 : decode cX11_linkFrom 24 = .ok (.aload_n 0, 1) := by decide +kernel
theorem dX11_linkFrom_25 : decode cX11_linkFrom 25 = .ok (.getfield 7, 3) := by decide +kernel
theorem dX11_linkFrom_28 : decode cX11_linkFrom 28 = .ok (.iconst 4, 1) := by decide +kernel
theorem dX11_linkFrom_29 : decode cX11_linkFrom 29 = .ok (.iaload, 1) := by decide +kernel
theorem dX11_linkFrom_30 : decode cX11_linkFrom 30 = .ok (.if_icmp .ge 36, 3) := by decide +kernel
theorem dX11_linkFrom_33 : decode cX11_linkFrom 33 = .ok (.aload_n 0, 1) := by decide +kernel
theorem dX11_linkFrom_34 : decode cX11_linkFrom 34 = .ok (.getfield 7, 3) := by decide +kernel
theorem dX11_linkFrom_37 : decode cX11_linkFrom 37 = .ok (.bipush 8, 2) := by decide +kernel
theorem dX11_linkFrom_39 : decode cX11_linkFrom 39 = .ok (.iload_n 3, 1) := by decide +kernel
theorem dX11_linkFrom_40 : decode cX11_linkFrom 40 = .ok (.iadd, 1) := by decide +kernel
theorem dX11_linkFrom_41 : decode cX11_linkFrom 41 = .ok (.iaload, 1) := by decide +kernel
theorem dX11_linkFrom_42 : decode cX11_linkFrom 42 = .ok (.iload_n 1, 1) := by decide +kernel
theorem dX11_linkFrom_43 : decode cX11_linkFrom 43 = .ok (.if_icmp .ne 15, 3) := by decide +kernel
theorem dX11_linkFrom_46 : decode cX11_linkFrom 46 = .ok (.aload_n 0, 1) := by decide +kernel
theorem dX11_linkFrom_47 : decode cX11_linkFrom 47 = .ok (.getfield 7, 3) := by decide +kernel
theorem dX11_linkFrom_50 : decode cX11_linkFrom 50 = .ok (.bipush 18, 2) := by decide +kernel
theorem dX11_linkFrom_52 : decode cX11_linkFrom 52 = .ok (.iload_n 3, 1) := by decide +kernel
theorem dX11_linkFrom_53 : decode cX11_linkFrom 53 = .ok (.iadd, 1) := by decide +kernel
theorem dX11_linkFrom_54 : decode cX11_linkFrom 54 = .ok (.iaload, 1) := by decide +kernel
theorem dX11_linkFrom_55 : decode cX11_linkFrom 55 = .ok (.goto 4, 3) := by decide +kernel
theorem dX11_linkFrom_58 : decode cX11_linkFrom 58 = .ok (.iload_n 2, 1) := by decide +kernel
theorem dX11_linkFrom_59 : decode cX11_linkFrom 59 = .ok (.istore_n 2, 1) := by decide +kernel
theorem dX11_linkFrom_60 : decode cX11_linkFrom 60 = .ok (.iinc 3 1, 3) := by decide +kernel
theorem dX11_linkFrom_63 : decode cX11_linkFrom 63 = .ok (.goto (-40), 3) := by decide +kernel
theorem dX11_linkFrom_66 : decode cX11_linkFrom 66 = .ok (.iload_n 2, 1) := by decide +kernel
theorem dX11_linkFrom_67 : decode cX11_linkFrom 67 = .ok (.ireturn, 1) := by decide +kernel
theorem dX11_moved_0 : decode cX11_moved 0 = .ok (.aload_n 0, 1) := by decide +kernel
theorem dX11_moved_1 : decode cX11_moved 1 = .ok (.getfield 7, 3) := by decide +kernel
theorem dX11_moved_4 : decode cX11_moved 4 = .ok (.iconst 3, 1) := by decide +kernel
theorem dX11_moved_5 : decode cX11_moved 5 = .ok (.iaload, 1) := by decide +kernel
theorem dX11_moved_6 : decode cX11_moved 6 = .ok (.istore_n 3, 1) := by decide +kernel
theorem dX11_moved_7 : decode cX11_moved 7 = .ok (.iload_n 1, 1) := by decide +kernel
theorem dX11_moved_8 : decode cX11_moved 8 = .ok (.iload_n 2, 1) := by decide +kernel
theorem dX11_moved_9 : decode cX11_moved 9 = .ok (.iadd, 1) := by decide +kernel
theorem dX11_moved_10 : decode cX11_moved 10 = .ok (.istore 4, 2) := by decide +kernel
theorem dX11_moved_12 : decode cX11_moved 12 = .ok (.iload 4, 2) := by decide +kernel
theorem dX11_moved_14 : decode cX11_moved 14 = .ok (.iload_n 3, 1) := by decide +kernel
theorem dX11_moved_15 : decode cX11_moved 15 = .ok (.if_icmp .le 36, 3) := by decide +kernel
theorem dX11_moved_18 : decode cX11_moved 18 = .ok (.aload_n 0, 1) := by decide +kernel
theorem dX11_moved_19 : decode cX11_moved 19 = .ok (.getfield 7, 3) := by decide +kernel
theorem dX11_moved_22 : decode cX11_moved 22 = .ok (.iconst 0, 1) := by decide +kernel
theorem dX11_moved_23 : decode cX11_moved 23 = .ok (.iaload, 1) := by decide +kernel
theorem dX11_moved_24 : decode cX11_moved 24 = .ok (.ifCond .ne 5, 3) := by decide +kernel
theorem dX11_moved_27 : decode cX11_moved 27 = .ok (.iload_n 1, 1) := by decide +kernel
theorem dX11_moved_28 : decode cX11_moved 28 = .ok (.ireturn, 1) := by decide +kernel
theorem dX11_moved_29 : decode cX11_moved 29 = .ok (.aload_n 0, 1) := by decide +kernel
theorem dX11_moved_30 : decode cX11_moved 30 = .ok (.getfield 7, 3) := by decide +kernel
theorem dX11_moved_33 : decode cX11_moved 33 = .ok (.iconst 0, 1) := by decide +kernel
theorem dX11_moved_34 : decode cX11_moved 34 = .ok (.iaload, 1) := by decide +kernel
theorem dX11_moved_35 : decode cX11_moved 35 = .ok (.iconst 1, 1) := by decide +kernel
theorem dX11_moved_36 : decode cX11_moved 36 = .ok (.if_icmp .ne 12, 3) := by decide +kernel
theorem dX11_moved_39 : decode cX11_moved 39 = .ok (.iconst 2, 1) := by decide +kernel
theorem dX11_moved_40 : decode cX11_moved 40 = .ok (.iload_n 3, 1) := by decide +kernel
theorem dX11_moved_41 : decode cX11_moved 41 = .ok (.imul, 1) := by decide +kernel
theorem dX11_moved_42 : decode cX11_moved 42 = .ok (.iload 4, 2) := by decide +kernel
theorem dX11_moved_44 : decode cX11_moved 44 = .ok (.isub, 1) := by decide +kernel
theorem dX11_moved_45 : decode cX11_moved 45 = .ok (.goto 4, 3) := by decide +kernel
theorem dX11_moved_48 : decode cX11_moved 48 = .ok (.iload_n 3, 1) := by decide +kernel
theorem dX11_moved_49 : decode cX11_moved 49 = .ok (.istore 4, 2) := by decide +kernel
theorem dX11_moved_51 : decode cX11_moved 51 = .ok (.aload_n 0, 1) := by decide +kernel
theorem dX11_moved_52 : decode cX11_moved 52 = .ok (.iload 4, 2) := by decide +kernel
theorem dX11_moved_54 : decode cX11_moved 54 = .ok (.invokevirtual 76, 3) := by decide +kernel
theorem dX11_moved_57 : decode cX11_moved 57 = .ok (.istore 5, 2) := by decide +kernel
theorem dX11_moved_59 : decode cX11_moved 59 = .ok (.iload 5, 2) := by decide +kernel
theorem dX11_moved_61 : decode cX11_moved 61 = .ok (.iconst (-1), 1) := by decide +kernel
theorem dX11_moved_62 : decode cX11_moved 62 = .ok (.if_icmp .ne 8, 3) := by decide +kernel
theorem dX11_moved_65 : decode cX11_moved 65 = .ok (.iload 4, 2) := by decide +kernel
theorem dX11_moved_67 : decode cX11_moved 67 = .ok (.goto 5, 3) := by decide +kernel
theorem dX11_moved_70 : decode cX11_moved 70 = .ok (.iload 5, 2) := by decide +kernel
theorem dX11_moved_72 : decode cX11_moved 72 = .ok (.ireturn, 1) := by decide +kernel
theorem dX11_dieOf_0 : decode cX11_dieOf 0 = .ok (.aload_n 0, 1) := by decide +kernel
theorem dX11_dieOf_1 : decode cX11_dieOf 1 = .ok (.getfield 7, 3) := by decide +kernel
theorem dX11_dieOf_4 : decode cX11_dieOf 4 = .ok (.bipush 49, 2) := by decide +kernel
theorem dX11_dieOf_6 : decode cX11_dieOf 6 = .ok (.iload_n 1, 1) := by decide +kernel
theorem dX11_dieOf_7 : decode cX11_dieOf 7 = .ok (.aload_n 0, 1) := by decide +kernel
theorem dX11_dieOf_8 : decode cX11_dieOf 8 = .ok (.getfield 7, 3) := by decide +kernel
theorem dX11_dieOf_11 : decode cX11_dieOf 11 = .ok (.bipush 6, 2) := by decide +kernel
theorem dX11_dieOf_13 : decode cX11_dieOf 13 = .ok (.iaload, 1) := by decide +kernel
theorem dX11_dieOf_14 : decode cX11_dieOf 14 = .ok (.irem, 1) := by decide +kernel
theorem dX11_dieOf_15 : decode cX11_dieOf 15 = .ok (.iadd, 1) := by decide +kernel
theorem dX11_dieOf_16 : decode cX11_dieOf 16 = .ok (.iaload, 1) := by decide +kernel
theorem dX11_dieOf_17 : decode cX11_dieOf 17 = .ok (.ireturn, 1) := by decide +kernel
theorem dX11_faceOf_0 : decode cX11_faceOf 0 = .ok (.aload_n 0, 1) := by decide +kernel
theorem dX11_faceOf_1 : decode cX11_faceOf 1 = .ok (.getfield 7, 3) := by decide +kernel
theorem dX11_faceOf_4 : decode cX11_faceOf 4 = .ok (.bipush 31, 2) := by decide +kernel
theorem dX11_faceOf_6 : decode cX11_faceOf 6 = .ok (.bipush 6, 2) := by decide +kernel
theorem dX11_faceOf_8 : decode cX11_faceOf 8 = .ok (.iload_n 1, 1) := by decide +kernel
theorem dX11_faceOf_9 : decode cX11_faceOf 9 = .ok (.imul, 1) := by decide +kernel
theorem dX11_faceOf_10 : decode cX11_faceOf 10 = .ok (.iadd, 1) := by decide +kernel
theorem dX11_faceOf_11 : decode cX11_faceOf 11 = .ok (.iload_n 2, 1) := by decide +kernel
theorem dX11_faceOf_12 : decode cX11_faceOf 12 = .ok (.iadd, 1) := by decide +kernel
theorem dX11_faceOf_13 : decode cX11_faceOf 13 = .ok (.iaload, 1) := by decide +kernel
theorem dX11_faceOf_14 : decode cX11_faceOf 14 = .ok (.ireturn, 1) := by decide +kernel
theorem dX11_layMoves_0 : decode cX11_layMoves 0 = .ok (.iconst 0, 1) := by decide +kernel
theorem dX11_layMoves_1 : decode cX11_layMoves 1 = .ok (.istore_n 1, 1) := by decide +kernel
theorem dX11_layMoves_2 : decode cX11_layMoves 2 = .ok (.iload_n 1, 1) := by decide +kernel
theorem dX11_layMoves_3 : decode cX11_layMoves 3 = .ok (.aload_n 0, 1) := by decide +kernel
theorem dX11_layMoves_4 : decode cX11_layMoves 4 = .ok (.getfield 7, 3) := by decide +kernel
theorem dX11_layMoves_7 : decode cX11_layMoves 7 = .ok (.iconst 3, 1) := by decide +kernel
theorem dX11_layMoves_8 : decode cX11_layMoves 8 = .ok (.iaload, 1) := by decide +kernel
theorem dX11_layMoves_9 : decode cX11_layMoves 9 = .ok (.if_icmp .ge 40, 3) := by decide +kernel
theorem dX11_layMoves_12 : decode cX11_layMoves 12 = .ok (.iconst 1, 1) := by decide +kernel
theorem dX11_layMoves_13 : decode cX11_layMoves 13 = .ok (.istore_n 2, 1) := by decide +kernel
theorem dX11_layMoves_14 : decode cX11_layMoves 14 = .ok (.iload_n 2, 1) := by decide +kernel
theorem dX11_layMoves_15 : decode cX11_layMoves 15 = .ok (.bipush 10, 2) := by decide +kernel
theorem dX11_layMoves_17 : decode cX11_layMoves 17 = .ok (.if_icmp .ge 26, 3) := by decide +kernel
theorem dX11_layMoves_20 : decode cX11_layMoves 20 = .ok (.aload_n 0, 1) := by decide +kernel
theorem dX11_layMoves_21 : decode cX11_layMoves 21 = .ok (.getfield 37, 3) := by decide +kernel
theorem dX11_layMoves_24 : decode cX11_layMoves 24 = .ok (.bipush 10, 2) := by decide +kernel
theorem dX11_layMoves_26 : decode cX11_layMoves 26 = .ok (.iload_n 1, 1) := by decide +kernel
theorem dX11_layMoves_27 : decode cX11_layMoves 27 = .ok (.imul, 1) := by decide +kernel
theorem dX11_layMoves_28 : decode cX11_layMoves 28 = .ok (.iload_n 2, 1) := by decide +kernel
theorem dX11_layMoves_29 : decode cX11_layMoves 29 = .ok (.iadd, 1) := by decide +kernel
theorem dX11_layMoves_30 : decode cX11_layMoves 30 = .ok (.aload_n 0, 1) := by decide +kernel
theorem dX11_layMoves_31 : decode cX11_layMoves 31 = .ok (.iload_n 1, 1) := by decide +kernel
theorem dX11_layMoves_32 : decode cX11_layMoves 32 = .ok (.iload_n 2, 1) := by decide +kernel
theorem dX11_layMoves_33 : decode cX11_layMoves 33 = .ok (.invokevirtual 80, 3) := by decide +kernel
theorem dX11_layMoves_36 : decode cX11_layMoves 36 = .ok (.iastore, 1) := by decide +kernel
theorem dX11_layMoves_37 : decode cX11_layMoves 37 = .ok (.iinc 2 1, 3) := by decide +kernel
theorem dX11_layMoves_40 : decode cX11_layMoves 40 = .ok (.goto (-26), 3) := by decide +kernel
theorem dX11_layMoves_43 : decode cX11_layMoves 43 = .ok (.iinc 1 1, 3) := by decide +kernel
theorem dX11_layMoves_46 : decode cX11_layMoves 46 = .ok (.goto (-44), 3) := by decide +kernel
theorem dX11_layMoves_49 : decode cX11_layMoves 49 = .ok (.return_, 1) := by decide +kernel
theorem dX11_turn_0 : decode cX11_turn 0 = .ok (.lconst 0, 1) := by decide +kernel
theorem dX11_turn_1 : decode cX11_turn 1 = .ok (.lstore_n 2, 1) := by decide +kernel
theorem dX11_turn_2 : decode cX11_turn 2 = .ok (.iconst 0, 1) := by decide +kernel
theorem dX11_turn_3 : decode cX11_turn 3 = .ok (.istore 4, 2) := by decide +kernel
theorem dX11_turn_5 : decode cX11_turn 5 = .ok (.iload 4, 2) := by decide +kernel
theorem dX11_turn_7 : decode cX11_turn 7 = .ok (.aload_n 0, 1) := by decide +kernel
theorem dX11_turn_8 : decode cX11_turn 8 = .ok (.getfield 7, 3) := by decide +kernel
theorem dX11_turn_11 : decode cX11_turn 11 = .ok (.iconst 3, 1) := by decide +kernel
theorem dX11_turn_12 : decode cX11_turn 12 = .ok (.iaload, 1) := by decide +kernel
theorem dX11_turn_13 : decode cX11_turn 13 = .ok (.if_icmp .gt 17, 3) := by decide +kernel
theorem dX11_turn_16 : decode cX11_turn 16 = .ok (.aload_n 0, 1) := by decide +kernel
theorem dX11_turn_17 : decode cX11_turn 17 = .ok (.getfield 43, 3) := by decide +kernel
theorem dX11_turn_20 : decode cX11_turn 20 = .ok (.iload 4, 2) := by decide +kernel
theorem dX11_turn_22 : decode cX11_turn 22 = .ok (.lconst 0, 1) := by decide +kernel
theorem dX11_turn_23 : decode cX11_turn 23 = .ok (.lastore, 1) := by decide +kernel
theorem dX11_turn_24 : decode cX11_turn 24 = .ok (.iinc 4 1, 3) := by decide +kernel
theorem dX11_turn_27 : decode cX11_turn 27 = .ok (.goto (-22), 3) := by decide +kernel
theorem dX11_turn_30 : decode cX11_turn 30 = .ok (.iconst 0, 1) := by decide +kernel
theorem dX11_turn_31 : decode cX11_turn 31 = .ok (.istore 4, 2) := by decide +kernel
theorem dX11_turn_33 : decode cX11_turn 33 = .ok (.iload 4, 2) := by decide +kernel
theorem dX11_turn_35 : decode cX11_turn 35 = .ok (.aload_n 0, 1) := by decide +kernel
theorem dX11_turn_36 : decode cX11_turn 36 = .ok (.getfield 7, 3) := by decide +kernel
theorem dX11_turn_39 : decode cX11_turn 39 = .ok (.iconst 3, 1) := by decide +kernel
theorem dX11_turn_40 : decode cX11_turn 40 = .ok (.iaload, 1) := by decide +kernel
theorem dX11_turn_41 : decode cX11_turn 41 = .ok (.if_icmp .ge 77, 3) := by decide +kernel
theorem dX11_turn_44 : decode cX11_turn 44 = .ok (.iconst 0, 1) := by decide +kernel
theorem dX11_turn_45 : decode cX11_turn 45 = .ok (.istore 5, 2) := by decide +kernel
theorem dX11_turn_47 : decode cX11_turn 47 = .ok (.iload 5, 2) := by decide +kernel
theorem dX11_turn_49 : decode cX11_turn 49 = .ok (.aload_n 0, 1) := by decide +kernel
theorem dX11_turn_50 : decode cX11_turn 50 = .ok (.getfield 7, 3) := by decide +kernel
theorem dX11_turn_53 : decode cX11_turn 53 = .ok (.bipush 28, 2) := by decide +kernel
theorem dX11_turn_55 : decode cX11_turn 55 = .ok (.iload_n 1, 1) := by decide +kernel
theorem dX11_turn_56 : decode cX11_turn 56 = .ok (.iadd, 1) := by decide +kernel
theorem dX11_turn_57 : decode cX11_turn 57 = .ok (.iaload, 1) := by decide +kernel
theorem dX11_turn_58 : decode cX11_turn 58 = .ok (.if_icmp .ge 54, 3) := by decide +kernel
theorem dX11_turn_61 : decode cX11_turn 61 = .ok (.aload_n 0, 1) := by decide +kernel
theorem dX11_turn_62 : decode cX11_turn 62 = .ok (.getfield 40, 3) := by decide +kernel
theorem dX11_turn_65 : decode cX11_turn 65 = .ok (.iload 4, 2) := by decide +kernel
theorem dX11_turn_67 : decode cX11_turn 67 = .ok (.laload, 1) := by decide +kernel
theorem dX11_turn_68 : decode cX11_turn 68 = .ok (.lconst 0, 1) := by decide +kernel
theorem dX11_turn_69 : decode cX11_turn 69 = .ok (.lcmp, 1) := by decide +kernel
theorem dX11_turn_70 : decode cX11_turn 70 = .ok (.ifCond .le 42, 3) := by decide +kernel
theorem dX11_turn_73 : decode cX11_turn 73 = .ok (.aload_n 0, 1) := by decide +kernel
theorem dX11_turn_74 : decode cX11_turn 74 = .ok (.getfield 43, 3) := by decide +kernel
theorem dX11_turn_77 : decode cX11_turn 77 = .ok (.aload_n 0, 1) := by decide +kernel
theorem dX11_turn_78 : decode cX11_turn 78 = .ok (.getfield 37, 3) := by decide +kernel
theorem dX11_turn_81 : decode cX11_turn 81 = .ok (.bipush 10, 2) := by decide +kernel
theorem dX11_turn_83 : decode cX11_turn 83 = .ok (.iload 4, 2) := by decide +kernel
theorem dX11_turn_85 : decode cX11_turn 85 = .ok (.imul, 1) := by decide +kernel
theorem dX11_turn_86 : decode cX11_turn 86 = .ok (.aload_n 0, 1) := by decide +kernel
theorem dX11_turn_87 : decode cX11_turn 87 = .ok (.iload_n 1, 1) := by decide +kernel
theorem dX11_turn_88 : decode cX11_turn 88 = .ok (.iload 5, 2) := by decide +kernel
theorem dX11_turn_90 : decode cX11_turn 90 = .ok (.invokevirtual 84, 3) := by decide +kernel
theorem dX11_turn_93 : decode cX11_turn 93 = .ok (.iadd, 1) := by decide +kernel
theorem dX11_turn_94 : decode cX11_turn 94 = .ok (.iaload, 1) := by decide +kernel
theorem dX11_turn_95 : decode cX11_turn 95 = .ok (.dup2, 1) := by decide +kernel
theorem dX11_turn_96 : decode cX11_turn 96 = .ok (.laload, 1) := by decide +kernel
theorem dX11_turn_97 : decode cX11_turn 97 = .ok (.aload_n 0, 1) := by decide +kernel
theorem dX11_turn_98 : decode cX11_turn 98 = .ok (.getfield 40, 3) := by decide +kernel
theorem dX11_turn_101 : decode cX11_turn 101 = .ok (.iload 4, 2) := by decide +kernel
theorem dX11_turn_103 : decode cX11_turn 103 = .ok (.laload, 1) := by decide +kernel
theorem dX11_turn_104 : decode cX11_turn 104 = .ok (.ladd, 1) := by decide +kernel
theorem dX11_turn_105 : decode cX11_turn 105 = .ok (.lastore, 1) := by decide +kernel
theorem dX11_turn_106 : decode cX11_turn 106 = .ok (.iinc 5 1, 3) := by decide +kernel
theorem dX11_turn_109 : decode cX11_turn 109 = .ok (.goto (-62), 3) := by decide +kernel
theorem dX11_turn_112 : decode cX11_turn 112 = .ok (.iinc 4 1, 3) := by decide +kernel
theorem dX11_turn_115 : decode cX11_turn 115 = .ok (.goto (-82), 3) := by decide +kernel
theorem dX11_turn_118 : decode cX11_turn 118 = .ok (.iconst 0, 1) := by decide +kernel
theorem dX11_turn_119 : decode cX11_turn 119 = .ok (.istore 4, 2) := by decide +kernel
theorem dX11_turn_121 : decode cX11_turn 121 = .ok (.iload 4, 2) := by decide +kernel
theorem dX11_turn_123 : decode cX11_turn 123 = .ok (.aload_n 0, 1) := by decide +kernel
theorem dX11_turn_124 : decode cX11_turn 124 = .ok (.getfield 7, 3) := by decide +kernel
theorem dX11_turn_127 : decode cX11_turn 127 = .ok (.iconst 3, 1) := by decide +kernel
theorem dX11_turn_128 : decode cX11_turn 128 = .ok (.iaload, 1) := by decide +kernel
theorem dX11_turn_129 : decode cX11_turn 129 = .ok (.if_icmp .ge 23, 3) := by decide +kernel
theorem dX11_turn_132 : decode cX11_turn 132 = .ok (.aload_n 0, 1) := by decide +kernel
theorem dX11_turn_133 : decode cX11_turn 133 = .ok (.getfield 40, 3) := by decide +kernel
theorem dX11_turn_136 : decode cX11_turn 136 = .ok (.iload 4, 2) := by decide +kernel
theorem dX11_turn_138 : decode cX11_turn 138 = .ok (.aload_n 0, 1) := by decide +kernel
theorem dX11_turn_139 : decode cX11_turn 139 = .ok (.getfield 43, 3) := by decide +kernel
theorem dX11_turn_142 : decode cX11_turn 142 = .ok (.iload 4, 2) := by decide +kernel
theorem dX11_turn_144 : decode cX11_turn 144 = .ok (.laload, 1) := by decide +kernel
theorem dX11_turn_145 : decode cX11_turn 145 = .ok (.lastore, 1) := by decide +kernel
theorem dX11_turn_146 : decode cX11_turn 146 = .ok (.iinc 4 1, 3) := by decide +kernel
theorem dX11_turn_149 : decode cX11_turn 149 = .ok (.goto (-28), 3) := by decide +kernel
theorem dX11_turn_152 : decode cX11_turn 152 = .ok (.aload_n 0, 1) := by decide +kernel
theorem dX11_turn_153 : decode cX11_turn 153 = .ok (.getfield 43, 3) := by decide +kernel
theorem dX11_turn_156 : decode cX11_turn 156 = .ok (.aload_n 0, 1) := by decide +kernel
theorem dX11_turn_157 : decode cX11_turn 157 = .ok (.getfield 7, 3) := by decide +kernel
theorem dX11_turn_160 : decode cX11_turn 160 = .ok (.iconst 3, 1) := by decide +kernel
theorem dX11_turn_161 : decode cX11_turn 161 = .ok (.iaload, 1) := by decide +kernel
theorem dX11_turn_162 : decode cX11_turn 162 = .ok (.laload, 1) := by decide +kernel
theorem dX11_turn_163 : decode cX11_turn 163 = .ok (.lstore_n 2, 1) := by decide +kernel
theorem dX11_turn_164 : decode cX11_turn 164 = .ok (.lload_n 2, 1) := by decide +kernel
theorem dX11_turn_165 : decode cX11_turn 165 = .ok (.lreturn, 1) := by decide +kernel
theorem dX11_countRolls_0 : decode cX11_countRolls 0 = .ok (.iconst 0, 1) := by decide +kernel
theorem dX11_countRolls_1 : decode cX11_countRolls 1 = .ok (.istore_n 3, 1) := by decide +kernel
theorem dX11_countRolls_2 : decode cX11_countRolls 2 = .ok (.iload_n 3, 1) := by decide +kernel
theorem dX11_countRolls_3 : decode cX11_countRolls 3 = .ok (.aload_n 0, 1) := by decide +kernel
theorem dX11_countRolls_4 : decode cX11_countRolls 4 = .ok (.getfield 7, 3) := by decide +kernel
theorem dX11_countRolls_7 : decode cX11_countRolls 7 = .ok (.iconst 3, 1) := by decide +kernel
theorem dX11_countRolls_8 : decode cX11_countRolls 8 = .ok (.iaload, 1) := by decide +kernel
theorem dX11_countRolls_9 : decode cX11_countRolls 9 = .ok (.if_icmp .gt 25, 3) := by decide +kernel
theorem dX11_countRolls_12 : decode cX11_countRolls 12 = .ok (.aload_n 0, 1) := by decide +kernel
theorem dX11_countRolls_13 : decode cX11_countRolls 13 = .ok (.getfield 40, 3) := by decide +kernel
theorem dX11_countRolls_16 : decode cX11_countRolls 16 = .ok (.iload_n 3, 1) := by decide +kernel
theorem dX11_countRolls_17 : decode cX11_countRolls 17 = .ok (.iload_n 3, 1) := by decide +kernel
theorem dX11_countRolls_18 : decode cX11_countRolls 18 = .ok (.iload_n 1, 1) := by decide +kernel
theorem dX11_countRolls_19 : decode cX11_countRolls 19 = .ok (.if_icmp .ne 7, 3) := by decide +kernel
theorem dX11_countRolls_22 : decode cX11_countRolls 22 = .ok (.lconst 1, 1) := by decide +kernel
theorem dX11_countRolls_23 : decode cX11_countRolls 23 = .ok (.goto 4, 3) := by decide +kernel
theorem dX11_countRolls_26 : decode cX11_countRolls 26 = .ok (.lconst 0, 1) := by decide +kernel
theorem dX11_countRolls_27 : decode cX11_countRolls 27 = .ok (.lastore, 1) := by decide +kernel
theorem dX11_countRolls_28 : decode cX11_countRolls 28 = .ok (.iinc 3 1, 3) := by decide +kernel
theorem dX11_countRolls_31 : decode cX11_countRolls 31 = .ok (.goto (-29), 3) := by decide +kernel
theorem dX11_countRolls_34 : decode cX11_countRolls 34 = .ok (.aload_n 0, 1) := by decide +kernel
theorem dX11_countRolls_35 : decode cX11_countRolls 35 = .ok (.lconst 1, 1) := by decide +kernel
theorem dX11_countRolls_36 : decode cX11_countRolls 36 = .ok (.putfield 87, 3) := by decide +kernel
theorem dX11_countRolls_39 : decode cX11_countRolls 39 = .ok (.aload_n 0, 1) := by decide +kernel
theorem dX11_countRolls_40 : decode cX11_countRolls 40 = .ok (.lconst 0, 1) := by decide +kernel
theorem dX11_countRolls_41 : decode cX11_countRolls 41 = .ok (.putfield 90, 3) := by decide +kernel
theorem dX11_countRolls_44 : decode cX11_countRolls 44 = .ok (.aload_n 0, 1) := by decide +kernel
theorem dX11_countRolls_45 : decode cX11_countRolls 45 = .ok (.iload_n 1, 1) := by decide +kernel
theorem dX11_countRolls_46 : decode cX11_countRolls 46 = .ok (.aload_n 0, 1) := by decide +kernel
theorem dX11_countRolls_47 : decode cX11_countRolls 47 = .ok (.getfield 7, 3) := by decide +kernel
theorem dX11_countRolls_50 : decode cX11_countRolls 50 = .ok (.iconst 3, 1) := by decide +kernel
theorem dX11_countRolls_51 : decode cX11_countRolls 51 = .ok (.iaload, 1) := by decide +kernel
theorem dX11_countRolls_52 : decode cX11_countRolls 52 = .ok (.if_icmp .ne 7, 3) := by decide +kernel
theorem dX11_countRolls_55 : decode cX11_countRolls 55 = .ok (.lconst 1, 1) := by decide +kernel
theorem dX11_countRolls_56 : decode cX11_countRolls 56 = .ok (.goto 4, 3) := by decide +kernel
theorem dX11_countRolls_59 : decode cX11_countRolls 59 = .ok (.lconst 0, 1) := by decide +kernel
theorem dX11_countRolls_60 : decode cX11_countRolls 60 = .ok (.putfield 93, 3) := by decide +kernel
theorem dX11_countRolls_63 : decode cX11_countRolls 63 = .ok (.iconst 0, 1) := by decide +kernel
theorem dX11_countRolls_64 : decode cX11_countRolls 64 = .ok (.istore_n 3, 1) := by decide +kernel
theorem dX11_countRolls_65 : decode cX11_countRolls 65 = .ok (.iload_n 3, 1) := by decide +kernel
theorem dX11_countRolls_66 : decode cX11_countRolls 66 = .ok (.iload_n 2, 1) := by decide +kernel
theorem dX11_countRolls_67 : decode cX11_countRolls 67 = .ok (.if_icmp .ge 83, 3) := by decide +kernel
theorem dX11_countRolls_70 : decode cX11_countRolls 70 = .ok (.aload_n 0, 1) := by decide +kernel
theorem dX11_countRolls_71 : decode cX11_countRolls 71 = .ok (.iload_n 3, 1) := by decide +kernel
theorem dX11_countRolls_72 : decode cX11_countRolls 72 = .ok (.invokevirtual 96, 3) := by decide +kernel
theorem dX11_countRolls_75 : decode cX11_countRolls 75 = .ok (.istore 4, 2) := by decide +kernel
theorem dX11_countRolls_77 : decode cX11_countRolls 77 = .ok (.aload_n 0, 1) := by decide +kernel
theorem dX11_countRolls_78 : decode cX11_countRolls 78 = .ok (.getfield 7, 3) := by decide +kernel
theorem dX11_countRolls_81 : decode cX11_countRolls 81 = .ok (.bipush 28, 2) := by decide +kernel
theorem dX11_countRolls_83 : decode cX11_countRolls 83 = .ok (.iload 4, 2) := by decide +kernel
theorem dX11_countRolls_85 : decode cX11_countRolls 85 = .ok (.iadd, 1) := by decide +kernel
theorem dX11_countRolls_86 : decode cX11_countRolls 86 = .ok (.iaload, 1) := by decide +kernel
theorem dX11_countRolls_87 : decode cX11_countRolls 87 = .ok (.istore 5, 2) := by decide +kernel
theorem dX11_countRolls_89 : decode cX11_countRolls 89 = .ok (.aload_n 0, 1) := by decide +kernel
theorem dX11_countRolls_90 : decode cX11_countRolls 90 = .ok (.iload 4, 2) := by decide +kernel
theorem dX11_countRolls_92 : decode cX11_countRolls 92 = .ok (.invokevirtual 99, 3) := by decide +kernel
theorem dX11_countRolls_95 : decode cX11_countRolls 95 = .ok (.lstore 6, 2) := by decide +kernel
theorem dX11_countRolls_97 : decode cX11_countRolls 97 = .ok (.aload_n 0, 1) := by decide +kernel
theorem dX11_countRolls_98 : decode cX11_countRolls 98 = .ok (.dup, 1) := by decide +kernel
theorem dX11_countRolls_99 : decode cX11_countRolls 99 = .ok (.getfield 87, 3) := by decide +kernel
theorem dX11_countRolls_102 : decode cX11_countRolls 102 = .ok (.iload 5, 2) := by decide +kernel
theorem dX11_countRolls_104 : decode cX11_countRolls 104 = .ok (.i2l, 1) := by decide +kernel
theorem dX11_countRolls_105 : decode cX11_countRolls 105 = .ok (.lmul, 1) := by decide +kernel
theorem dX11_countRolls_106 : decode cX11_countRolls 106 = .ok (.putfield 87, 3) := by decide +kernel
theorem dX11_countRolls_109 : decode cX11_countRolls 109 = .ok (.aload_n 0, 1) := by decide +kernel
theorem dX11_countRolls_110 : decode cX11_countRolls 110 = .ok (.iload 5, 2) := by decide +kernel
theorem dX11_countRolls_112 : decode cX11_countRolls 112 = .ok (.i2l, 1) := by decide +kernel
theorem dX11_countRolls_113 : decode cX11_countRolls 113 = .ok (.aload_n 0, 1) := by decide +kernel
theorem dX11_countRolls_114 : decode cX11_countRolls 114 = .ok (.getfield 93, 3) := by decide +kernel
theorem dX11_countRolls_117 : decode cX11_countRolls 117 = .ok (.lmul, 1) := by decide +kernel
theorem dX11_countRolls_118 : decode cX11_countRolls 118 = .ok (.lload 6, 2) := by decide +kernel
theorem dX11_countRolls_120 : decode cX11_countRolls 120 = .ok (.ladd, 1) := by decide +kernel
theorem dX11_countRolls_121 : decode cX11_countRolls 121 = .ok (.putfield 93, 3) := by decide +kernel
theorem dX11_countRolls_124 : decode cX11_countRolls 124 = .ok (.aload_n 0, 1) := by decide +kernel
theorem dX11_countRolls_125 : decode cX11_countRolls 125 = .ok (.iload 5, 2) := by decide +kernel
theorem dX11_countRolls_127 : decode cX11_countRolls 127 = .ok (.i2l, 1) := by decide +kernel
theorem dX11_countRolls_128 : decode cX11_countRolls 128 = .ok (.aload_n 0, 1) := by decide +kernel
theorem dX11_countRolls_129 : decode cX11_countRolls 129 = .ok (.getfield 90, 3) := by decide +kernel
theorem dX11_countRolls_132 : decode cX11_countRolls 132 = .ok (.lmul, 1) := by decide +kernel
theorem dX11_countRolls_133 : decode cX11_countRolls 133 = .ok (.lload 6, 2) := by decide +kernel
theorem dX11_countRolls_135 : decode cX11_countRolls 135 = .ok (.iload_n 3, 1) := by decide +kernel
theorem dX11_countRolls_136 : decode cX11_countRolls 136 = .ok (.iconst 1, 1) := by decide +kernel
theorem dX11_countRolls_137 : decode cX11_countRolls 137 = .ok (.iadd, 1) := by decide +kernel
theorem dX11_countRolls_138 : decode cX11_countRolls 138 = .ok (.i2l, 1) := by decide +kernel
theorem dX11_countRolls_139 : decode cX11_countRolls 139 = .ok (.lmul, 1) := by decide +kernel
theorem dX11_countRolls_140 : decode cX11_countRolls 140 = .ok (.ladd, 1) := by decide +kernel
theorem dX11_countRolls_141 : decode cX11_countRolls 141 = .ok (.putfield 90, 3) := by decide +kernel
theorem dX11_countRolls_144 : decode cX11_countRolls 144 = .ok (.iinc 3 1, 3) := by decide +kernel
theorem dX11_countRolls_147 : decode cX11_countRolls 147 = .ok (.goto (-82), 3) := by decide +kernel
theorem dX11_countRolls_150 : decode cX11_countRolls 150 = .ok (.aload_n 0, 1) := by decide +kernel
theorem dX11_countRolls_151 : decode cX11_countRolls 151 = .ok (.dup, 1) := by decide +kernel
theorem dX11_countRolls_152 : decode cX11_countRolls 152 = .ok (.getfield 90, 3) := by decide +kernel
theorem dX11_countRolls_155 : decode cX11_countRolls 155 = .ok (.iload_n 1, 1) := by decide +kernel
theorem dX11_countRolls_156 : decode cX11_countRolls 156 = .ok (.aload_n 0, 1) := by decide +kernel
theorem dX11_countRolls_157 : decode cX11_countRolls 157 = .ok (.getfield 7, 3) := by decide +kernel
theorem dX11_countRolls_160 : decode cX11_countRolls 160 = .ok (.iconst 3, 1) := by decide +kernel
theorem dX11_countRolls_161 : decode cX11_countRolls 161 = .ok (.iaload, 1) := by decide +kernel
theorem dX11_countRolls_162 : decode cX11_countRolls 162 = .ok (.if_icmp .ne 7, 3) := by decide +kernel
theorem dX11_countRolls_165 : decode cX11_countRolls 165 = .ok (.lconst 0, 1) := by decide +kernel
theorem dX11_countRolls_166 : decode cX11_countRolls 166 = .ok (.goto 15, 3) := by decide +kernel
theorem dX11_countRolls_169 : decode cX11_countRolls 169 = .ok (.aload_n 0, 1) := by decide +kernel
theorem dX11_countRolls_170 : decode cX11_countRolls 170 = .ok (.getfield 87, 3) := by decide +kernel
theorem dX11_countRolls_173 : decode cX11_countRolls 173 = .ok (.aload_n 0, 1) := by decide +kernel
theorem dX11_countRolls_174 : decode cX11_countRolls 174 = .ok (.getfield 93, 3) := by decide +kernel
theorem dX11_countRolls_177 : decode cX11_countRolls 177 = .ok (.lsub, 1) := by decide +kernel
theorem dX11_countRolls_178 : decode cX11_countRolls 178 = .ok (.iload_n 2, 1) := by decide +kernel
theorem dX11_countRolls_179 : decode cX11_countRolls 179 = .ok (.i2l, 1) := by decide +kernel
theorem dX11_countRolls_180 : decode cX11_countRolls 180 = .ok (.lmul, 1) := by decide +kernel
theorem dX11_countRolls_181 : decode cX11_countRolls 181 = .ok (.ladd, 1) := by decide +kernel
theorem dX11_countRolls_182 : decode cX11_countRolls 182 = .ok (.putfield 90, 3) := by decide +kernel
theorem dX11_countRolls_185 : decode cX11_countRolls 185 = .ok (.return_, 1) := by decide +kernel
theorem dX11_common_0 : decode cX11_common 0 = .ok (.lload_n 0, 1) := by decide +kernel
theorem dX11_common_1 : decode cX11_common 1 = .ok (.lstore 4, 2) := by decide +kernel
theorem dX11_common_3 : decode cX11_common 3 = .ok (.lload_n 2, 1) := by decide +kernel
theorem dX11_common_4 : decode cX11_common 4 = .ok (.lstore 6, 2) := by decide +kernel
theorem dX11_common_6 : decode cX11_common 6 = .ok (.lload 6, 2) := by decide +kernel
theorem dX11_common_8 : decode cX11_common 8 = .ok (.lconst 0, 1) := by decide +kernel
theorem dX11_common_9 : decode cX11_common 9 = .ok (.lcmp, 1) := by decide +kernel
theorem dX11_common_10 : decode cX11_common 10 = .ok (.ifCond .le 21, 3) := by decide +kernel
theorem dX11_common_13 : decode cX11_common 13 = .ok (.lload 4, 2) := by decide +kernel
theorem dX11_common_15 : decode cX11_common 15 = .ok (.lload 6, 2) := by decide +kernel
theorem dX11_common_17 : decode cX11_common 17 = .ok (.lrem, 1) := by decide +kernel
theorem dX11_common_18 : decode cX11_common 18 = .ok (.lstore 8, 2) := by decide +kernel
theorem dX11_common_20 : decode cX11_common 20 = .ok (.lload 6, 2) := by decide +kernel
theorem dX11_common_22 : decode cX11_common 22 = .ok (.lstore 4, 2) := by decide +kernel
theorem dX11_common_24 : decode cX11_common 24 = .ok (.lload 8, 2) := by decide +kernel
theorem dX11_common_26 : decode cX11_common 26 = .ok (.lstore 6, 2) := by decide +kernel
theorem dX11_common_28 : decode cX11_common 28 = .ok (.goto (-22), 3) := by decide +kernel
theorem dX11_common_31 : decode cX11_common 31 = .ok (.lload 4, 2) := by decide +kernel
theorem dX11_common_33 : decode cX11_common 33 = .ok (.lreturn, 1) := by decide +kernel
theorem dX11_part_0 : decode cX11_part 0 = .ok (.lload_n 2, 1) := by decide +kernel
theorem dX11_part_1 : decode cX11_part 1 = .ok (.lload_n 0, 1) := by decide +kernel
theorem dX11_part_2 : decode cX11_part 2 = .ok (.invokestatic 103, 3) := by decide +kernel
theorem dX11_part_5 : decode cX11_part 5 = .ok (.lstore 5, 2) := by decide +kernel
theorem dX11_part_7 : decode cX11_part 7 = .ok (.iload 4, 2) := by decide +kernel
theorem dX11_part_9 : decode cX11_part 9 = .ok (.ifCond .ne 10, 3) := by decide +kernel
theorem dX11_part_12 : decode cX11_part 12 = .ok (.lload_n 0, 1) := by decide +kernel
theorem dX11_part_13 : decode cX11_part 13 = .ok (.lload 5, 2) := by decide +kernel
theorem dX11_part_15 : decode cX11_part 15 = .ok (.ldiv, 1) := by decide +kernel
theorem dX11_part_16 : decode cX11_part 16 = .ok (.goto 7, 3) := by decide +kernel
theorem dX11_part_19 : decode cX11_part 19 = .ok (.lload_n 2, 1) := by decide +kernel
theorem dX11_part_20 : decode cX11_part 20 = .ok (.lload 5, 2) := by decide +kernel
theorem dX11_part_22 : decode cX11_part 22 = .ok (.ldiv, 1) := by decide +kernel
theorem dX11_part_23 : decode cX11_part 23 = .ok (.lreturn, 1) := by decide +kernel
theorem dX11_countMean_0 : decode cX11_countMean 0 = .ok (.aload_n 0, 1) := by decide +kernel
theorem dX11_countMean_1 : decode cX11_countMean 1 = .ok (.iload_n 1, 1) := by decide +kernel
theorem dX11_countMean_2 : decode cX11_countMean 2 = .ok (.aload_n 0, 1) := by decide +kernel
theorem dX11_countMean_3 : decode cX11_countMean 3 = .ok (.getfield 7, 3) := by decide +kernel
theorem dX11_countMean_6 : decode cX11_countMean 6 = .ok (.iconst 1, 1) := by decide +kernel
theorem dX11_countMean_7 : decode cX11_countMean 7 = .ok (.iaload, 1) := by decide +kernel
theorem dX11_countMean_8 : decode cX11_countMean 8 = .ok (.invokevirtual 107, 3) := by decide +kernel
theorem dX11_countMean_11 : decode cX11_countMean 11 = .ok (.return_, 1) := by decide +kernel
theorem dX11_isKept_0 : decode cX11_isKept 0 = .ok (.aload_n 0, 1) := by decide +kernel
theorem dX11_isKept_1 : decode cX11_isKept 1 = .ok (.getfield 7, 3) := by decide +kernel
theorem dX11_isKept_4 : decode cX11_isKept 4 = .ok (.bipush 7, 2) := by decide +kernel
theorem dX11_isKept_6 : decode cX11_isKept 6 = .ok (.iaload, 1) := by decide +kernel
theorem dX11_isKept_7 : decode cX11_isKept 7 = .ok (.ifCond .ne 5, 3) := by decide +kernel
theorem dX11_isKept_10 : decode cX11_isKept 10 = .ok (.iconst 1, 1) := by decide +kernel
theorem dX11_isKept_11 : decode cX11_isKept 11 = .ok (.ireturn, 1) := by decide +kernel
theorem dX11_isKept_12 : decode cX11_isKept 12 = .ok (.aload_n 0, 1) := by decide +kernel
theorem dX11_isKept_13 : decode cX11_isKept 13 = .ok (.invokevirtual 111, 3) := by decide +kernel
theorem dX11_isKept_16 : decode cX11_isKept 16 = .ok (.aload_n 0, 1) := by decide +kernel
theorem dX11_isKept_17 : decode cX11_isKept 17 = .ok (.iconst 0, 1) := by decide +kernel
theorem dX11_isKept_18 : decode cX11_isKept 18 = .ok (.invokevirtual 114, 3) := by decide +kernel
theorem dX11_isKept_21 : decode cX11_isKept 21 = .ok (.aload_n 0, 1) := by decide +kernel
theorem dX11_isKept_22 : decode cX11_isKept 22 = .ok (.getfield 90, 3) := by decide +kernel
theorem dX11_isKept_25 : decode cX11_isKept 25 = .ok (.aload_n 0, 1) := by decide +kernel
theorem dX11_isKept_26 : decode cX11_isKept 26 = .ok (.getfield 87, 3) := by decide +kernel
theorem dX11_isKept_29 : decode cX11_isKept 29 = .ok (.iconst 0, 1) := by decide +kernel
theorem dX11_isKept_30 : decode cX11_isKept 30 = .ok (.invokestatic 118, 3) := by decide +kernel
theorem dX11_isKept_33 : decode cX11_isKept 33 = .ok (.lstore_n 1, 1) := by decide +kernel
theorem dX11_isKept_34 : decode cX11_isKept 34 = .ok (.aload_n 0, 1) := by decide +kernel
theorem dX11_isKept_35 : decode cX11_isKept 35 = .ok (.getfield 90, 3) := by decide +kernel
theorem dX11_isKept_38 : decode cX11_isKept 38 = .ok (.aload_n 0, 1) := by decide +kernel
theorem dX11_isKept_39 : decode cX11_isKept 39 = .ok (.getfield 87, 3) := by decide +kernel
theorem dX11_isKept_42 : decode cX11_isKept 42 = .ok (.iconst 1, 1) := by decide +kernel
theorem dX11_isKept_43 : decode cX11_isKept 43 = .ok (.invokestatic 118, 3) := by decide +kernel
theorem dX11_isKept_46 : decode cX11_isKept 46 = .ok (.lstore_n 3, 1) := by decide +kernel
theorem dX11_isKept_47 : decode cX11_isKept 47 = .ok (.lload_n 1, 1) := by decide +kernel
theorem dX11_isKept_48 : decode cX11_isKept 48 = .ok (.aload_n 0, 1) := by decide +kernel
theorem dX11_isKept_49 : decode cX11_isKept 49 = .ok (.getfield 13, 3) := by decide +kernel
theorem dX11_isKept_52 : decode cX11_isKept 52 = .ok (.lmul, 1) := by decide +kernel
theorem dX11_isKept_53 : decode cX11_isKept 53 = .ok (.aload_n 0, 1) := by decide +kernel
theorem dX11_isKept_54 : decode cX11_isKept 54 = .ok (.getfield 65, 3) := by decide +kernel
theorem dX11_isKept_57 : decode cX11_isKept 57 = .ok (.lload_n 3, 1) := by decide +kernel
theorem dX11_isKept_58 : decode cX11_isKept 58 = .ok (.lmul, 1) := by decide +kernel
theorem dX11_isKept_59 : decode cX11_isKept 59 = .ok (.lsub, 1) := by decide +kernel
theorem dX11_isKept_60 : decode cX11_isKept 60 = .ok (.lstore 5, 2) := by decide +kernel
theorem dX11_isKept_62 : decode cX11_isKept 62 = .ok (.ldc2_w 122, 3) := by decide +kernel
theorem dX11_isKept_65 : decode cX11_isKept 65 = .ok (.lload 5, 2) := by decide +kernel
theorem dX11_isKept_67 : decode cX11_isKept 67 = .ok (.lconst 0, 1) := by decide +kernel
theorem dX11_isKept_68 : decode cX11_isKept 68 = .ok (.lcmp, 1) := by decide +kernel
theorem dX11_isKept_69 : decode cX11_isKept 69 = .ok (.ifCond .ge 9, 3) := by decide +kernel
theorem dX11_isKept_72 : decode cX11_isKept 72 = .ok (.lload 5, 2) := by decide +kernel
theorem dX11_isKept_74 : decode cX11_isKept 74 = .ok (.lneg, 1) := by decide +kernel
theorem dX11_isKept_75 : decode cX11_isKept 75 = .ok (.goto 5, 3) := by decide +kernel
theorem dX11_isKept_78 : decode cX11_isKept 78 = .ok (.lload 5, 2) := by decide +kernel
theorem dX11_isKept_80 : decode cX11_isKept 80 = .ok (.lmul, 1) := by decide +kernel
theorem dX11_isKept_81 : decode cX11_isKept 81 = .ok (.aload_n 0, 1) := by decide +kernel
theorem dX11_isKept_82 : decode cX11_isKept 82 = .ok (.getfield 7, 3) := by decide +kernel
theorem dX11_isKept_85 : decode cX11_isKept 85 = .ok (.iconst 2, 1) := by decide +kernel
theorem dX11_isKept_86 : decode cX11_isKept 86 = .ok (.iaload, 1) := by decide +kernel
theorem dX11_isKept_87 : decode cX11_isKept 87 = .ok (.i2l, 1) := by decide +kernel
theorem dX11_isKept_88 : decode cX11_isKept 88 = .ok (.lload_n 3, 1) := by decide +kernel
theorem dX11_isKept_89 : decode cX11_isKept 89 = .ok (.lmul, 1) := by decide +kernel
theorem dX11_isKept_90 : decode cX11_isKept 90 = .ok (.aload_n 0, 1) := by decide +kernel
theorem dX11_isKept_91 : decode cX11_isKept 91 = .ok (.getfield 13, 3) := by decide +kernel
theorem dX11_isKept_94 : decode cX11_isKept 94 = .ok (.lmul, 1) := by decide +kernel
theorem dX11_isKept_95 : decode cX11_isKept 95 = .ok (.lcmp, 1) := by decide +kernel
theorem dX11_isKept_96 : decode cX11_isKept 96 = .ok (.ifCond .gt 7, 3) := by decide +kernel
theorem dX11_isKept_99 : decode cX11_isKept 99 = .ok (.iconst 1, 1) := by decide +kernel
theorem dX11_isKept_100 : decode cX11_isKept 100 = .ok (.goto 4, 3) := by decide +kernel
theorem dX11_isKept_103 : decode cX11_isKept 103 = .ok (.iconst 0, 1) := by decide +kernel
theorem dX11_isKept_104 : decode cX11_isKept 104 = .ok (.ireturn, 1) := by decide +kernel
theorem dX11_load_0 : decode cX11_load 0 = .ok (.aload_n 0, 1) := by decide +kernel
theorem dX11_load_1 : decode cX11_load 1 = .ok (.iconst 1, 1) := by decide +kernel
theorem dX11_load_2 : decode cX11_load 2 = .ok (.invokevirtual 124, 3) := by decide +kernel
theorem dX11_load_5 : decode cX11_load 5 = .ok (.aload_n 0, 1) := by decide +kernel
theorem dX11_load_6 : decode cX11_load 6 = .ok (.getfield 128, 3) := by decide +kernel
theorem dX11_load_9 : decode cX11_load 9 = .ok (.if_icmp .ne 14, 3) := by decide +kernel
theorem dX11_load_12 : decode cX11_load 12 = .ok (.aload_n 0, 1) := by decide +kernel
theorem dX11_load_13 : decode cX11_load 13 = .ok (.invokevirtual 131, 3) := by decide +kernel
theorem dX11_load_16 : decode cX11_load 16 = .ok (.ifCond .eq 7, 3) := by decide +kernel
theorem dX11_load_19 : decode cX11_load 19 = .ok (.iconst 1, 1) := by decide +kernel
theorem dX11_load_20 : decode cX11_load 20 = .ok (.goto 4, 3) := by decide +kernel
theorem dX11_load_23 : decode cX11_load 23 = .ok (.iconst 0, 1) := by decide +kernel
theorem dX11_load_24 : decode cX11_load 24 = .ok (.istore_n 1, 1) := by decide +kernel
theorem dX11_load_25 : decode cX11_load 25 = .ok (.aload_n 0, 1) := by decide +kernel
theorem dX11_load_26 : decode cX11_load 26 = .ok (.iload_n 1, 1) := by decide +kernel
theorem dX11_load_27 : decode cX11_load 27 = .ok (.ifCond .ne 7, 3) := by decide +kernel
theorem dX11_load_30 : decode cX11_load 30 = .ok (.iconst 1, 1) := by decide +kernel
theorem dX11_load_31 : decode cX11_load 31 = .ok (.goto 28, 3) := by decide +kernel
theorem dX11_load_34 : decode cX11_load 34 = .ok (.aload_n 0, 1) := by decide +kernel
theorem dX11_load_35 : decode cX11_load 35 = .ok (.getfield 7, 3) := by decide +kernel
theorem dX11_load_38 : decode cX11_load 38 = .ok (.bipush 7, 2) := by decide +kernel
theorem dX11_load_40 : decode cX11_load 40 = .ok (.iaload, 1) := by decide +kernel
theorem dX11_load_41 : decode cX11_load 41 = .ok (.iconst 1, 1) := by decide +kernel
theorem dX11_load_42 : decode cX11_load 42 = .ok (.if_icmp .eq 12, 3) := by decide +kernel
theorem dX11_load_45 : decode cX11_load 45 = .ok (.aload_n 0, 1) := by decide +kernel
theorem dX11_load_46 : decode cX11_load 46 = .ok (.getfield 135, 3) := by decide +kernel
theorem dX11_load_49 : decode cX11_load 49 = .ok (.bipush 10, 2) := by decide +kernel
theorem dX11_load_51 : decode cX11_load 51 = .ok (.if_icmp .le 7, 3) := by decide +kernel
theorem dX11_load_54 : decode cX11_load 54 = .ok (.iconst 2, 1) := by decide +kernel
theorem dX11_load_55 : decode cX11_load 55 = .ok (.goto 4, 3) := by decide +kernel
theorem dX11_load_58 : decode cX11_load 58 = .ok (.iconst 0, 1) := by decide +kernel
theorem dX11_load_59 : decode cX11_load 59 = .ok (.putfield 55, 3) := by decide +kernel
theorem dX11_load_62 : decode cX11_load 62 = .ok (.aload_n 0, 1) := by decide +kernel
theorem dX11_load_63 : decode cX11_load 63 = .ok (.getfield 55, 3) := by decide +kernel
theorem dX11_load_66 : decode cX11_load 66 = .ok (.ifCond .le 5, 3) := by decide +kernel
theorem dX11_load_69 : decode cX11_load 69 = .ok (.iconst 0, 1) := by decide +kernel
theorem dX11_load_70 : decode cX11_load 70 = .ok (.ireturn, 1) := by decide +kernel
theorem dX11_load_71 : decode cX11_load 71 = .ok (.aload_n 0, 1) := by decide +kernel
theorem dX11_load_72 : decode cX11_load 72 = .ok (.invokevirtual 138, 3) := by decide +kernel
theorem dX11_load_75 : decode cX11_load 75 = .ok (.aload_n 0, 1) := by decide +kernel
theorem dX11_load_76 : decode cX11_load 76 = .ok (.getfield 7, 3) := by decide +kernel
theorem dX11_load_79 : decode cX11_load 79 = .ok (.iconst 3, 1) := by decide +kernel
theorem dX11_load_80 : decode cX11_load 80 = .ok (.aload_n 0, 1) := by decide +kernel
theorem dX11_load_81 : decode cX11_load 81 = .ok (.getfield 141, 3) := by decide +kernel
theorem dX11_load_84 : decode cX11_load 84 = .ok (.iastore, 1) := by decide +kernel
theorem dX11_load_85 : decode cX11_load 85 = .ok (.aload_n 0, 1) := by decide +kernel
theorem dX11_load_86 : decode cX11_load 86 = .ok (.getfield 7, 3) := by decide +kernel
theorem dX11_load_89 : decode cX11_load 89 = .ok (.iconst 4, 1) := by decide +kernel
theorem dX11_load_90 : decode cX11_load 90 = .ok (.iconst 0, 1) := by decide +kernel
theorem dX11_load_91 : decode cX11_load 91 = .ok (.iastore, 1) := by decide +kernel
theorem dX11_load_92 : decode cX11_load 92 = .ok (.iconst 1, 1) := by decide +kernel
theorem dX11_load_93 : decode cX11_load 93 = .ok (.istore_n 2, 1) := by decide +kernel
theorem dX11_load_94 : decode cX11_load 94 = .ok (.iconst 0, 1) := by decide +kernel
theorem dX11_load_95 : decode cX11_load 95 = .ok (.istore_n 3, 1) := by decide +kernel
theorem dX11_load_96 : decode cX11_load 96 = .ok (.iload_n 3, 1) := by decide +kernel
theorem dX11_load_97 : decode cX11_load 97 = .ok (.aload_n 0, 1) := by decide +kernel
theorem dX11_load_98 : decode cX11_load 98 = .ok (.getfield 135, 3) := by decide +kernel
theorem dX11_load_101 : decode cX11_load 101 = .ok (.if_icmp .ge 79, 3) := by decide +kernel
theorem dX11_load_104 : decode cX11_load 104 = .ok (.iload_n 2, 1) := by decide +kernel
theorem dX11_load_105 : decode cX11_load 105 = .ok (.ifCond .eq 27, 3) := by decide +kernel
theorem dX11_load_108 : decode cX11_load 108 = .ok (.aload_n 0, 1) := by decide +kernel
theorem dX11_load_109 : decode cX11_load 109 = .ok (.aload_n 0, 1) := by decide +kernel
theorem dX11_load_110 : decode cX11_load 110 = .ok (.getfield 46, 3) := by decide +kernel
theorem dX11_load_113 : decode cX11_load 113 = .ok (.iload_n 3, 1) := by decide +kernel
theorem dX11_load_114 : decode cX11_load 114 = .ok (.iaload, 1) := by decide +kernel
theorem dX11_load_115 : decode cX11_load 115 = .ok (.aload_n 0, 1) := by decide +kernel
theorem dX11_load_116 : decode cX11_load 116 = .ok (.getfield 49, 3) := by decide +kernel
theorem dX11_load_119 : decode cX11_load 119 = .ok (.iload_n 3, 1) := by decide +kernel
theorem dX11_load_120 : decode cX11_load 120 = .ok (.iaload, 1) := by decide +kernel
theorem dX11_load_121 : decode cX11_load 121 = .ok (.iconst (-1), 1) := by decide +kernel
theorem dX11_load_122 : decode cX11_load 122 = .ok (.invokevirtual 144, 3) := by decide +kernel
theorem dX11_load_125 : decode cX11_load 125 = .ok (.ifCond .eq 7, 3) := by decide +kernel
theorem dX11_load_128 : decode cX11_load 128 = .ok (.iconst 1, 1) := by decide +kernel
theorem dX11_load_129 : decode cX11_load 129 = .ok (.goto 4, 3) := by decide +kernel
theorem dX11_load_132 : decode cX11_load 132 = .ok (.iconst 0, 1) := by decide +kernel
theorem dX11_load_133 : decode cX11_load 133 = .ok (.istore_n 2, 1) := by decide +kernel
theorem dX11_load_134 : decode cX11_load 134 = .ok (.aload_n 0, 1) := by decide +kernel
theorem dX11_load_135 : decode cX11_load 135 = .ok (.getfield 7, 3) := by decide +kernel
theorem dX11_load_138 : decode cX11_load 138 = .ok (.bipush 8, 2) := by decide +kernel
theorem dX11_load_140 : decode cX11_load 140 = .ok (.iload_n 3, 1) := by decide +kernel
theorem dX11_load_141 : decode cX11_load 141 = .ok (.iadd, 1) := by decide +kernel
theorem dX11_load_142 : decode cX11_load 142 = .ok (.aload_n 0, 1) := by decide +kernel
theorem dX11_load_143 : decode cX11_load 143 = .ok (.getfield 46, 3) := by decide +kernel
theorem dX11_load_146 : decode cX11_load 146 = .ok (.iload_n 3, 1) := by decide +kernel
theorem dX11_load_147 : decode cX11_load 147 = .ok (.iaload, 1) := by decide +kernel
theorem dX11_load_148 : decode cX11_load 148 = .ok (.iastore, 1) := by decide +kernel
theorem dX11_load_149 : decode cX11_load 149 = .ok (.aload_n 0, 1) := by decide +kernel
theorem dX11_load_150 : decode cX11_load 150 = .ok (.getfield 7, 3) := by decide +kernel
theorem dX11_load_153 : decode cX11_load 153 = .ok (.bipush 18, 2) := by decide +kernel
theorem dX11_load_155 : decode cX11_load 155 = .ok (.iload_n 3, 1) := by decide +kernel
theorem dX11_load_156 : decode cX11_load 156 = .ok (.iadd, 1) := by decide +kernel
theorem dX11_load_157 : decode cX11_load 157 = .ok (.aload_n 0, 1) := by decide +kernel
theorem dX11_load_158 : decode cX11_load 158 = .ok (.getfield 49, 3) := by decide +kernel
theorem dX11_load_161 : decode cX11_load 161 = .ok (.iload_n 3, 1) := by decide +kernel
theorem dX11_load_162 : decode cX11_load 162 = .ok (.iaload, 1) := by decide +kernel
theorem dX11_load_163 : decode cX11_load 163 = .ok (.iastore, 1) := by decide +kernel
theorem dX11_load_164 : decode cX11_load 164 = .ok (.aload_n 0, 1) := by decide +kernel
theorem dX11_load_165 : decode cX11_load 165 = .ok (.getfield 7, 3) := by decide +kernel
theorem dX11_load_168 : decode cX11_load 168 = .ok (.iconst 4, 1) := by decide +kernel
theorem dX11_load_169 : decode cX11_load 169 = .ok (.dup2, 1) := by decide +kernel
theorem dX11_load_170 : decode cX11_load 170 = .ok (.iaload, 1) := by decide +kernel
theorem dX11_load_171 : decode cX11_load 171 = .ok (.iconst 1, 1) := by decide +kernel
theorem dX11_load_172 : decode cX11_load 172 = .ok (.iadd, 1) := by decide +kernel
theorem dX11_load_173 : decode cX11_load 173 = .ok (.iastore, 1) := by decide +kernel
theorem dX11_load_174 : decode cX11_load 174 = .ok (.iinc 3 1, 3) := by decide +kernel
theorem dX11_load_177 : decode cX11_load 177 = .ok (.goto (-81), 3) := by decide +kernel
theorem dX11_load_180 : decode cX11_load 180 = .ok (.iconst 0, 1) := by decide +kernel
theorem dX11_load_181 : decode cX11_load 181 = .ok (.istore_n 3, 1) := by decide +kernel
theorem dX11_load_182 : decode cX11_load 182 = .ok (.iload_n 3, 1) := by decide +kernel
theorem dX11_load_183 : decode cX11_load 183 = .ok (.iconst 4, 1) := by decide +kernel
theorem dX11_load_184 : decode cX11_load 184 = .ok (.if_icmp .ge 29, 3) := by decide +kernel
theorem dX11_load_187 : decode cX11_load 187 = .ok (.aload_n 0, 1) := by decide +kernel
theorem dX11_load_188 : decode cX11_load 188 = .ok (.getfield 7, 3) := by decide +kernel
theorem dX11_load_191 : decode cX11_load 191 = .ok (.bipush 53, 2) := by decide +kernel
theorem dX11_load_193 : decode cX11_load 193 = .ok (.iload_n 3, 1) := by decide +kernel
theorem dX11_load_194 : decode cX11_load 194 = .ok (.iadd, 1) := by decide +kernel
theorem dX11_load_195 : decode cX11_load 195 = .ok (.iconst 0, 1) := by decide +kernel
theorem dX11_load_196 : decode cX11_load 196 = .ok (.iastore, 1) := by decide +kernel
theorem dX11_load_197 : decode cX11_load 197 = .ok (.aload_n 0, 1) := by decide +kernel
theorem dX11_load_198 : decode cX11_load 198 = .ok (.getfield 7, 3) := by decide +kernel
theorem dX11_load_201 : decode cX11_load 201 = .ok (.bipush 57, 2) := by decide +kernel
theorem dX11_load_203 : decode cX11_load 203 = .ok (.iload_n 3, 1) := by decide +kernel
theorem dX11_load_204 : decode cX11_load 204 = .ok (.iadd, 1) := by decide +kernel
theorem dX11_load_205 : decode cX11_load 205 = .ok (.iconst 0, 1) := by decide +kernel
theorem dX11_load_206 : decode cX11_load 206 = .ok (.iastore, 1) := by decide +kernel
theorem dX11_load_207 : decode cX11_load 207 = .ok (.iinc 3 1, 3) := by decide +kernel
theorem dX11_load_210 : decode cX11_load 210 = .ok (.goto (-28), 3) := by decide +kernel
theorem dX11_load_213 : decode cX11_load 213 = .ok (.aload_n 0, 1) := by decide +kernel
theorem dX11_load_214 : decode cX11_load 214 = .ok (.iload_n 2, 1) := by decide +kernel
theorem dX11_load_215 : decode cX11_load 215 = .ok (.iconst 2, 1) := by decide +kernel
theorem dX11_load_216 : decode cX11_load 216 = .ok (.invokevirtual 147, 3) := by decide +kernel
theorem dX11_load_219 : decode cX11_load 219 = .ok (.aload_n 0, 1) := by decide +kernel
theorem dX11_load_220 : decode cX11_load 220 = .ok (.iload_n 2, 1) := by decide +kernel
theorem dX11_load_221 : decode cX11_load 221 = .ok (.ifCond .eq 7, 3) := by decide +kernel
theorem dX11_load_224 : decode cX11_load 224 = .ok (.iconst 0, 1) := by decide +kernel
theorem dX11_load_225 : decode cX11_load 225 = .ok (.goto 7, 3) := by decide +kernel
theorem dX11_load_228 : decode cX11_load 228 = .ok (.aload_n 0, 1) := by decide +kernel
theorem dX11_load_229 : decode cX11_load 229 = .ok (.getfield 128, 3) := by decide +kernel
theorem dX11_load_232 : decode cX11_load 232 = .ok (.putfield 128, 3) := by decide +kernel
theorem dX11_load_235 : decode cX11_load 235 = .ok (.iload_n 2, 1) := by decide +kernel
theorem dX11_load_236 : decode cX11_load 236 = .ok (.ifCond .eq 10, 3) := by decide +kernel
theorem dX11_load_239 : decode cX11_load 239 = .ok (.aload_n 0, 1) := by decide +kernel
theorem dX11_load_240 : decode cX11_load 240 = .ok (.getfield 135, 3) := by decide +kernel
theorem dX11_load_243 : decode cX11_load 243 = .ok (.goto 4, 3) := by decide +kernel
theorem dX11_load_246 : decode cX11_load 246 = .ok (.iconst 0, 1) := by decide +kernel
theorem dX11_load_247 : decode cX11_load 247 = .ok (.ireturn, 1) := by decide +kernel
theorem dX11_die_0 : decode cX11_die 0 = .ok (.aload_n 0, 1) := by decide +kernel
theorem dX11_die_1 : decode cX11_die 1 = .ok (.iload_n 1, 1) := by decide +kernel
theorem dX11_die_2 : decode cX11_die 2 = .ok (.invokestatic 151, 3) := by decide +kernel
theorem dX11_die_5 : decode cX11_die 5 = .ok (.ifCond .ne 7, 3) := by decide +kernel
theorem dX11_die_8 : decode cX11_die 8 = .ok (.iconst 1, 1) := by decide +kernel
theorem dX11_die_9 : decode cX11_die 9 = .ok (.goto 27, 3) := by decide +kernel
theorem dX11_die_12 : decode cX11_die 12 = .ok (.aload_n 0, 1) := by decide +kernel
theorem dX11_die_13 : decode cX11_die 13 = .ok (.iconst 0, 1) := by decide +kernel
theorem dX11_die_14 : decode cX11_die 14 = .ok (.invokevirtual 124, 3) := by decide +kernel
theorem dX11_die_17 : decode cX11_die 17 = .ok (.aload_n 0, 1) := by decide +kernel
theorem dX11_die_18 : decode cX11_die 18 = .ok (.getfield 128, 3) := by decide +kernel
theorem dX11_die_21 : decode cX11_die 21 = .ok (.if_icmp .ne 14, 3) := by decide +kernel
theorem dX11_die_24 : decode cX11_die 24 = .ok (.aload_n 0, 1) := by decide +kernel
theorem dX11_die_25 : decode cX11_die 25 = .ok (.getfield 128, 3) := by decide +kernel
theorem dX11_die_28 : decode cX11_die 28 = .ok (.ifCond .le 7, 3) := by decide +kernel
theorem dX11_die_31 : decode cX11_die 31 = .ok (.iconst 0, 1) := by decide +kernel
theorem dX11_die_32 : decode cX11_die 32 = .ok (.goto 4, 3) := by decide +kernel
theorem dX11_die_35 : decode cX11_die 35 = .ok (.iconst 2, 1) := by decide +kernel
theorem dX11_die_36 : decode cX11_die 36 = .ok (.putfield 55, 3) := by decide +kernel
theorem dX11_die_39 : decode cX11_die 39 = .ok (.aload_n 0, 1) := by decide +kernel
theorem dX11_die_40 : decode cX11_die 40 = .ok (.getfield 55, 3) := by decide +kernel
theorem dX11_die_43 : decode cX11_die 43 = .ok (.ifCond .le 5, 3) := by decide +kernel
theorem dX11_die_46 : decode cX11_die 46 = .ok (.iconst 0, 1) := by decide +kernel
theorem dX11_die_47 : decode cX11_die 47 = .ok (.ireturn, 1) := by decide +kernel
theorem dX11_die_48 : decode cX11_die 48 = .ok (.aload_n 0, 1) := by decide +kernel
theorem dX11_die_49 : decode cX11_die 49 = .ok (.invokevirtual 138, 3) := by decide +kernel
theorem dX11_die_52 : decode cX11_die 52 = .ok (.aload_n 0, 1) := by decide +kernel
theorem dX11_die_53 : decode cX11_die 53 = .ok (.getfield 7, 3) := by decide +kernel
theorem dX11_die_56 : decode cX11_die 56 = .ok (.bipush 28, 2) := by decide +kernel
theorem dX11_die_58 : decode cX11_die 58 = .ok (.iload_n 1, 1) := by decide +kernel
theorem dX11_die_59 : decode cX11_die 59 = .ok (.iadd, 1) := by decide +kernel
theorem dX11_die_60 : decode cX11_die 60 = .ok (.aload_n 0, 1) := by decide +kernel
theorem dX11_die_61 : decode cX11_die 61 = .ok (.getfield 128, 3) := by decide +kernel
theorem dX11_die_64 : decode cX11_die 64 = .ok (.iastore, 1) := by decide +kernel
theorem dX11_die_65 : decode cX11_die 65 = .ok (.iconst 0, 1) := by decide +kernel
theorem dX11_die_66 : decode cX11_die 66 = .ok (.istore_n 2, 1) := by decide +kernel
theorem dX11_die_67 : decode cX11_die 67 = .ok (.iload_n 2, 1) := by decide +kernel
theorem dX11_die_68 : decode cX11_die 68 = .ok (.bipush 6, 2) := by decide +kernel
theorem dX11_die_70 : decode cX11_die 70 = .ok (.if_icmp .ge 44, 3) := by decide +kernel
theorem dX11_die_73 : decode cX11_die 73 = .ok (.aload_n 0, 1) := by decide +kernel
theorem dX11_die_74 : decode cX11_die 74 = .ok (.getfield 7, 3) := by decide +kernel
theorem dX11_die_77 : decode cX11_die 77 = .ok (.bipush 31, 2) := by decide +kernel
theorem dX11_die_79 : decode cX11_die 79 = .ok (.bipush 6, 2) := by decide +kernel
theorem dX11_die_81 : decode cX11_die 81 = .ok (.iload_n 1, 1) := by decide +kernel
theorem dX11_die_82 : decode cX11_die 82 = .ok (.imul, 1) := by decide +kernel
theorem dX11_die_83 : decode cX11_die 83 = .ok (.iadd, 1) := by decide +kernel
theorem dX11_die_84 : decode cX11_die 84 = .ok (.iload_n 2, 1) := by decide +kernel
theorem dX11_die_85 : decode cX11_die 85 = .ok (.iadd, 1) := by decide +kernel
theorem dX11_die_86 : decode cX11_die 86 = .ok (.iload_n 2, 1) := by decide +kernel
theorem dX11_die_87 : decode cX11_die 87 = .ok (.aload_n 0, 1) := by decide +kernel
theorem dX11_die_88 : decode cX11_die 88 = .ok (.getfield 128, 3) := by decide +kernel
theorem dX11_die_91 : decode cX11_die 91 = .ok (.if_icmp .ge 15, 3) := by decide +kernel
theorem dX11_die_94 : decode cX11_die 94 = .ok (.aload_n 0, 1) := by decide +kernel
theorem dX11_die_95 : decode cX11_die 95 = .ok (.getfield 24, 3) := by decide +kernel
theorem dX11_die_98 : decode cX11_die 98 = .ok (.iload_n 2, 1) := by decide +kernel
theorem dX11_die_99 : decode cX11_die 99 = .ok (.iaload, 1) := by decide +kernel
theorem dX11_die_100 : decode cX11_die 100 = .ok (.bipush 48, 2) := by decide +kernel
theorem dX11_die_102 : decode cX11_die 102 = .ok (.isub, 1) := by decide +kernel
theorem dX11_die_103 : decode cX11_die 103 = .ok (.goto 4, 3) := by decide +kernel
theorem dX11_die_106 : decode cX11_die 106 = .ok (.iconst 0, 1) := by decide +kernel
theorem dX11_die_107 : decode cX11_die 107 = .ok (.iastore, 1) := by decide +kernel
theorem dX11_die_108 : decode cX11_die 108 = .ok (.iinc 2 1, 3) := by decide +kernel
theorem dX11_die_111 : decode cX11_die 111 = .ok (.goto (-44), 3) := by decide +kernel
theorem dX11_die_114 : decode cX11_die 114 = .ok (.aload_n 0, 1) := by decide +kernel
theorem dX11_die_115 : decode cX11_die 115 = .ok (.aload_n 0, 1) := by decide +kernel
theorem dX11_die_116 : decode cX11_die 116 = .ok (.invokevirtual 154, 3) := by decide +kernel
theorem dX11_die_119 : decode cX11_die 119 = .ok (.iconst 3, 1) := by decide +kernel
theorem dX11_die_120 : decode cX11_die 120 = .ok (.invokevirtual 147, 3) := by decide +kernel
theorem dX11_die_123 : decode cX11_die 123 = .ok (.aload_n 0, 1) := by decide +kernel
theorem dX11_die_124 : decode cX11_die 124 = .ok (.aload_n 0, 1) := by decide +kernel
theorem dX11_die_125 : decode cX11_die 125 = .ok (.getfield 55, 3) := by decide +kernel
theorem dX11_die_128 : decode cX11_die 128 = .ok (.ifCond .ne 7, 3) := by decide +kernel
theorem dX11_die_131 : decode cX11_die 131 = .ok (.iconst 0, 1) := by decide +kernel
theorem dX11_die_132 : decode cX11_die 132 = .ok (.goto 7, 3) := by decide +kernel
theorem dX11_die_135 : decode cX11_die 135 = .ok (.aload_n 0, 1) := by decide +kernel
theorem dX11_die_136 : decode cX11_die 136 = .ok (.getfield 128, 3) := by decide +kernel
theorem dX11_die_139 : decode cX11_die 139 = .ok (.putfield 128, 3) := by decide +kernel
theorem dX11_die_142 : decode cX11_die 142 = .ok (.aload_n 0, 1) := by decide +kernel
theorem dX11_die_143 : decode cX11_die 143 = .ok (.getfield 55, 3) := by decide +kernel
theorem dX11_die_146 : decode cX11_die 146 = .ok (.ifCond .ne 15, 3) := by decide +kernel
theorem dX11_die_149 : decode cX11_die 149 = .ok (.aload_n 0, 1) := by decide +kernel
theorem dX11_die_150 : decode cX11_die 150 = .ok (.getfield 7, 3) := by decide +kernel
theorem dX11_die_153 : decode cX11_die 153 = .ok (.bipush 28, 2) := by decide +kernel
theorem dX11_die_155 : decode cX11_die 155 = .ok (.iload_n 1, 1) := by decide +kernel
theorem dX11_die_156 : decode cX11_die 156 = .ok (.iadd, 1) := by decide +kernel
theorem dX11_die_157 : decode cX11_die 157 = .ok (.iaload, 1) := by decide +kernel
theorem dX11_die_158 : decode cX11_die 158 = .ok (.goto 4, 3) := by decide +kernel
theorem dX11_die_161 : decode cX11_die 161 = .ok (.iconst 0, 1) := by decide +kernel
theorem dX11_die_162 : decode cX11_die 162 = .ok (.ireturn, 1) := by decide +kernel
theorem dX11_isOrdered_0 : decode cX11_isOrdered 0 = .ok (.iload_n 1, 1) := by decide +kernel
theorem dX11_isOrdered_1 : decode cX11_isOrdered 1 = .ok (.iconst (-1), 1) := by decide +kernel
theorem dX11_isOrdered_2 : decode cX11_isOrdered 2 = .ok (.if_icmp .eq 15, 3) := by decide +kernel
theorem dX11_isOrdered_5 : decode cX11_isOrdered 5 = .ok (.iload_n 1, 1) := by decide +kernel
theorem dX11_isOrdered_6 : decode cX11_isOrdered 6 = .ok (.invokestatic 151, 3) := by decide +kernel
theorem dX11_isOrdered_9 : decode cX11_isOrdered 9 = .ok (.ifCond .eq 12, 3) := by decide +kernel
theorem dX11_isOrdered_12 : decode cX11_isOrdered 12 = .ok (.iload_n 0, 1) := by decide +kernel
theorem dX11_isOrdered_13 : decode cX11_isOrdered 13 = .ok (.iconst (-1), 1) := by decide +kernel
theorem dX11_isOrdered_14 : decode cX11_isOrdered 14 = .ok (.if_icmp .eq 7, 3) := by decide +kernel
theorem dX11_isOrdered_17 : decode cX11_isOrdered 17 = .ok (.iconst 1, 1) := by decide +kernel
theorem dX11_isOrdered_18 : decode cX11_isOrdered 18 = .ok (.goto 4, 3) := by decide +kernel
theorem dX11_isOrdered_21 : decode cX11_isOrdered 21 = .ok (.iconst 0, 1) := by decide +kernel
theorem dX11_isOrdered_22 : decode cX11_isOrdered 22 = .ok (.ireturn, 1) := by decide +kernel
theorem dX11_order_0 : decode cX11_order 0 = .ok (.iload_n 1, 1) := by decide +kernel
theorem dX11_order_1 : decode cX11_order 1 = .ok (.invokestatic 151, 3) := by decide +kernel
theorem dX11_order_4 : decode cX11_order 4 = .ok (.ifCond .eq 32, 3) := by decide +kernel
theorem dX11_order_7 : decode cX11_order 7 = .ok (.iload_n 1, 1) := by decide +kernel
theorem dX11_order_8 : decode cX11_order 8 = .ok (.iload_n 2, 1) := by decide +kernel
theorem dX11_order_9 : decode cX11_order 9 = .ok (.invokestatic 157, 3) := by decide +kernel
theorem dX11_order_12 : decode cX11_order 12 = .ok (.ifCond .eq 24, 3) := by decide +kernel
theorem dX11_order_15 : decode cX11_order 15 = .ok (.iload_n 2, 1) := by decide +kernel
theorem dX11_order_16 : decode cX11_order 16 = .ok (.iload_n 3, 1) := by decide +kernel
theorem dX11_order_17 : decode cX11_order 17 = .ok (.invokestatic 157, 3) := by decide +kernel
theorem dX11_order_20 : decode cX11_order 20 = .ok (.ifCond .eq 16, 3) := by decide +kernel
theorem dX11_order_23 : decode cX11_order 23 = .ok (.iload_n 3, 1) := by decide +kernel
theorem dX11_order_24 : decode cX11_order 24 = .ok (.iload 4, 2) := by decide +kernel
theorem dX11_order_26 : decode cX11_order 26 = .ok (.invokestatic 157, 3) := by decide +kernel
theorem dX11_order_29 : decode cX11_order 29 = .ok (.ifCond .eq 7, 3) := by decide +kernel
theorem dX11_order_32 : decode cX11_order 32 = .ok (.iconst 1, 1) := by decide +kernel
theorem dX11_order_33 : decode cX11_order 33 = .ok (.goto 4, 3) := by decide +kernel
theorem dX11_order_36 : decode cX11_order 36 = .ok (.iconst 0, 1) := by decide +kernel
theorem dX11_order_37 : decode cX11_order 37 = .ok (.istore 5, 2) := by decide +kernel
theorem dX11_order_39 : decode cX11_order 39 = .ok (.aload_n 0, 1) := by decide +kernel
theorem dX11_order_40 : decode cX11_order 40 = .ok (.iload 5, 2) := by decide +kernel
theorem dX11_order_42 : decode cX11_order 42 = .ok (.ifCond .ne 7, 3) := by decide +kernel
theorem dX11_order_45 : decode cX11_order 45 = .ok (.iconst 1, 1) := by decide +kernel
theorem dX11_order_46 : decode cX11_order 46 = .ok (.goto 19, 3) := by decide +kernel
theorem dX11_order_49 : decode cX11_order 49 = .ok (.aload_n 0, 1) := by decide +kernel
theorem dX11_order_50 : decode cX11_order 50 = .ok (.getfield 7, 3) := by decide +kernel
theorem dX11_order_53 : decode cX11_order 53 = .ok (.bipush 7, 2) := by decide +kernel
theorem dX11_order_55 : decode cX11_order 55 = .ok (.iaload, 1) := by decide +kernel
theorem dX11_order_56 : decode cX11_order 56 = .ok (.iconst 1, 1) := by decide +kernel
theorem dX11_order_57 : decode cX11_order 57 = .ok (.if_icmp .ne 7, 3) := by decide +kernel
theorem dX11_order_60 : decode cX11_order 60 = .ok (.iconst 2, 1) := by decide +kernel
theorem dX11_order_61 : decode cX11_order 61 = .ok (.goto 4, 3) := by decide +kernel
theorem dX11_order_64 : decode cX11_order 64 = .ok (.iconst 0, 1) := by decide +kernel
theorem dX11_order_65 : decode cX11_order 65 = .ok (.putfield 55, 3) := by decide +kernel
theorem dX11_order_68 : decode cX11_order 68 = .ok (.aload_n 0, 1) := by decide +kernel
theorem dX11_order_69 : decode cX11_order 69 = .ok (.getfield 55, 3) := by decide +kernel
theorem dX11_order_72 : decode cX11_order 72 = .ok (.ifCond .le 5, 3) := by decide +kernel
theorem dX11_order_75 : decode cX11_order 75 = .ok (.iconst 0, 1) := by decide +kernel
theorem dX11_order_76 : decode cX11_order 76 = .ok (.ireturn, 1) := by decide +kernel
theorem dX11_order_77 : decode cX11_order 77 = .ok (.aload_n 0, 1) := by decide +kernel
theorem dX11_order_78 : decode cX11_order 78 = .ok (.invokevirtual 161, 3) := by decide +kernel
theorem dX11_order_81 : decode cX11_order 81 = .ok (.aload_n 0, 1) := by decide +kernel
theorem dX11_order_82 : decode cX11_order 82 = .ok (.getfield 7, 3) := by decide +kernel
theorem dX11_order_85 : decode cX11_order 85 = .ok (.bipush 49, 2) := by decide +kernel
theorem dX11_order_87 : decode cX11_order 87 = .ok (.iload_n 1, 1) := by decide +kernel
theorem dX11_order_88 : decode cX11_order 88 = .ok (.iastore, 1) := by decide +kernel
theorem dX11_order_89 : decode cX11_order 89 = .ok (.aload_n 0, 1) := by decide +kernel
theorem dX11_order_90 : decode cX11_order 90 = .ok (.getfield 7, 3) := by decide +kernel
theorem dX11_order_93 : decode cX11_order 93 = .ok (.bipush 50, 2) := by decide +kernel
theorem dX11_order_95 : decode cX11_order 95 = .ok (.iload_n 2, 1) := by decide +kernel
theorem dX11_order_96 : decode cX11_order 96 = .ok (.iastore, 1) := by decide +kernel
theorem dX11_order_97 : decode cX11_order 97 = .ok (.aload_n 0, 1) := by decide +kernel
theorem dX11_order_98 : decode cX11_order 98 = .ok (.getfield 7, 3) := by decide +kernel
theorem dX11_order_101 : decode cX11_order 101 = .ok (.bipush 51, 2) := by decide +kernel
theorem dX11_order_103 : decode cX11_order 103 = .ok (.iload_n 3, 1) := by decide +kernel
theorem dX11_order_104 : decode cX11_order 104 = .ok (.iastore, 1) := by decide +kernel
theorem dX11_order_105 : decode cX11_order 105 = .ok (.aload_n 0, 1) := by decide +kernel
theorem dX11_order_106 : decode cX11_order 106 = .ok (.getfield 7, 3) := by decide +kernel
theorem dX11_order_109 : decode cX11_order 109 = .ok (.bipush 52, 2) := by decide +kernel
theorem dX11_order_111 : decode cX11_order 111 = .ok (.iload 4, 2) := by decide +kernel
theorem dX11_order_113 : decode cX11_order 113 = .ok (.iastore, 1) := by decide +kernel
theorem dX11_order_114 : decode cX11_order 114 = .ok (.aload_n 0, 1) := by decide +kernel
theorem dX11_order_115 : decode cX11_order 115 = .ok (.getfield 7, 3) := by decide +kernel
theorem dX11_order_118 : decode cX11_order 118 = .ok (.bipush 6, 2) := by decide +kernel
theorem dX11_order_120 : decode cX11_order 120 = .ok (.iload_n 2, 1) := by decide +kernel
theorem dX11_order_121 : decode cX11_order 121 = .ok (.iconst (-1), 1) := by decide +kernel
theorem dX11_order_122 : decode cX11_order 122 = .ok (.if_icmp .ne 7, 3) := by decide +kernel
theorem dX11_order_125 : decode cX11_order 125 = .ok (.iconst 1, 1) := by decide +kernel
theorem dX11_order_126 : decode cX11_order 126 = .ok (.goto 23, 3) := by decide +kernel
theorem dX11_order_129 : decode cX11_order 129 = .ok (.iload_n 3, 1) := by decide +kernel
theorem dX11_order_130 : decode cX11_order 130 = .ok (.iconst (-1), 1) := by decide +kernel
theorem dX11_order_131 : decode cX11_order 131 = .ok (.if_icmp .ne 7, 3) := by decide +kernel
theorem dX11_order_134 : decode cX11_order 134 = .ok (.iconst 2, 1) := by decide +kernel
theorem dX11_order_135 : decode cX11_order 135 = .ok (.goto 14, 3) := by decide +kernel
theorem dX11_order_138 : decode cX11_order 138 = .ok (.iload 4, 2) := by decide +kernel
theorem dX11_order_140 : decode cX11_order 140 = .ok (.iconst (-1), 1) := by decide +kernel
theorem dX11_order_141 : decode cX11_order 141 = .ok (.if_icmp .ne 7, 3) := by decide +kernel
theorem dX11_order_144 : decode cX11_order 144 = .ok (.iconst 3, 1) := by decide +kernel
theorem dX11_order_145 : decode cX11_order 145 = .ok (.goto 4, 3) := by decide +kernel
theorem dX11_order_148 : decode cX11_order 148 = .ok (.iconst 4, 1) := by decide +kernel
theorem dX11_order_149 : decode cX11_order 149 = .ok (.iastore, 1) := by decide +kernel
theorem dX11_order_150 : decode cX11_order 150 = .ok (.aload_n 0, 1) := by decide +kernel
theorem dX11_order_151 : decode cX11_order 151 = .ok (.getfield 7, 3) := by decide +kernel
theorem dX11_order_154 : decode cX11_order 154 = .ok (.bipush 6, 2) := by decide +kernel
theorem dX11_order_156 : decode cX11_order 156 = .ok (.iaload, 1) := by decide +kernel
theorem dX11_order_157 : decode cX11_order 157 = .ok (.ireturn, 1) := by decide +kernel
theorem dX11_isKeptWith_0 : decode cX11_isKeptWith 0 = .ok (.aload_n 0, 1) := by decide +kernel
theorem dX11_isKeptWith_1 : decode cX11_isKeptWith 1 = .ok (.iload_n 1, 1) := by decide +kernel
theorem dX11_isKeptWith_2 : decode cX11_isKeptWith 2 = .ok (.putfield 30, 3) := by decide +kernel
theorem dX11_isKeptWith_5 : decode cX11_isKeptWith 5 = .ok (.aload_n 0, 1) := by decide +kernel
theorem dX11_isKeptWith_6 : decode cX11_isKeptWith 6 = .ok (.iload_n 2, 1) := by decide +kernel
theorem dX11_isKeptWith_7 : decode cX11_isKeptWith 7 = .ok (.putfield 34, 3) := by decide +kernel
theorem dX11_isKeptWith_10 : decode cX11_isKeptWith 10 = .ok (.aload_n 0, 1) := by decide +kernel
theorem dX11_isKeptWith_11 : decode cX11_isKeptWith 11 = .ok (.invokevirtual 154, 3) := by decide +kernel
theorem dX11_isKeptWith_14 : decode cX11_isKeptWith 14 = .ok (.istore_n 3, 1) := by decide +kernel
theorem dX11_isKeptWith_15 : decode cX11_isKeptWith 15 = .ok (.aload_n 0, 1) := by decide +kernel
theorem dX11_isKeptWith_16 : decode cX11_isKeptWith 16 = .ok (.iconst (-1), 1) := by decide +kernel
theorem dX11_isKeptWith_17 : decode cX11_isKeptWith 17 = .ok (.putfield 30, 3) := by decide +kernel
theorem dX11_isKeptWith_20 : decode cX11_isKeptWith 20 = .ok (.aload_n 0, 1) := by decide +kernel
theorem dX11_isKeptWith_21 : decode cX11_isKeptWith 21 = .ok (.iconst (-1), 1) := by decide +kernel
theorem dX11_isKeptWith_22 : decode cX11_isKeptWith 22 = .ok (.putfield 34, 3) := by decide +kernel
theorem dX11_isKeptWith_25 : decode cX11_isKeptWith 25 = .ok (.iload_n 3, 1) := by decide +kernel
theorem dX11_isKeptWith_26 : decode cX11_isKeptWith 26 = .ok (.ireturn, 1) := by decide +kernel
theorem dX11_refusedLink_0 : decode cX11_refusedLink 0 = .ok (.aload_n 0, 1) := by decide +kernel
theorem dX11_refusedLink_1 : decode cX11_refusedLink 1 = .ok (.iload_n 1, 1) := by decide +kernel
theorem dX11_refusedLink_2 : decode cX11_refusedLink 2 = .ok (.invokevirtual 72, 3) := by decide +kernel
theorem dX11_refusedLink_5 : decode cX11_refusedLink 5 = .ok (.ifCond .eq 11, 3) := by decide +kernel
theorem dX11_refusedLink_8 : decode cX11_refusedLink 8 = .ok (.aload_n 0, 1) := by decide +kernel
theorem dX11_refusedLink_9 : decode cX11_refusedLink 9 = .ok (.iload_n 2, 1) := by decide +kernel
theorem dX11_refusedLink_10 : decode cX11_refusedLink 10 = .ok (.invokevirtual 72, 3) := by decide +kernel
theorem dX11_refusedLink_13 : decode cX11_refusedLink 13 = .ok (.ifCond .ne 5, 3) := by decide +kernel
theorem dX11_refusedLink_16 : decode cX11_refusedLink 16 = .ok (.iconst 1, 1) := by decide +kernel
theorem dX11_refusedLink_17 : decode cX11_refusedLink 17 = .ok (.ireturn, 1) := by decide +kernel
theorem dX11_refusedLink_18 : decode cX11_refusedLink 18 = .ok (.aload_n 0, 1) := by decide +kernel
theorem dX11_refusedLink_19 : decode cX11_refusedLink 19 = .ok (.iload_n 1, 1) := by decide +kernel
theorem dX11_refusedLink_20 : decode cX11_refusedLink 20 = .ok (.iload_n 2, 1) := by decide +kernel
theorem dX11_refusedLink_21 : decode cX11_refusedLink 21 = .ok (.iconst (-1), 1) := by decide +kernel
theorem dX11_refusedLink_22 : decode cX11_refusedLink 22 = .ok (.invokevirtual 144, 3) := by decide +kernel
theorem dX11_refusedLink_25 : decode cX11_refusedLink 25 = .ok (.ifCond .ne 7, 3) := by decide +kernel
theorem dX11_refusedLink_28 : decode cX11_refusedLink 28 = .ok (.iconst 2, 1) := by decide +kernel
theorem dX11_refusedLink_29 : decode cX11_refusedLink 29 = .ok (.goto 28, 3) := by decide +kernel
theorem dX11_refusedLink_32 : decode cX11_refusedLink 32 = .ok (.aload_n 0, 1) := by decide +kernel
theorem dX11_refusedLink_33 : decode cX11_refusedLink 33 = .ok (.getfield 7, 3) := by decide +kernel
theorem dX11_refusedLink_36 : decode cX11_refusedLink 36 = .ok (.iconst 4, 1) := by decide +kernel
theorem dX11_refusedLink_37 : decode cX11_refusedLink 37 = .ok (.iaload, 1) := by decide +kernel
theorem dX11_refusedLink_38 : decode cX11_refusedLink 38 = .ok (.bipush 10, 2) := by decide +kernel
theorem dX11_refusedLink_40 : decode cX11_refusedLink 40 = .ok (.if_icmp .eq 12, 3) := by decide +kernel
theorem dX11_refusedLink_43 : decode cX11_refusedLink 43 = .ok (.aload_n 0, 1) := by decide +kernel
theorem dX11_refusedLink_44 : decode cX11_refusedLink 44 = .ok (.iload_n 1, 1) := by decide +kernel
theorem dX11_refusedLink_45 : decode cX11_refusedLink 45 = .ok (.iload_n 2, 1) := by decide +kernel
theorem dX11_refusedLink_46 : decode cX11_refusedLink 46 = .ok (.invokevirtual 164, 3) := by decide +kernel
theorem dX11_refusedLink_49 : decode cX11_refusedLink 49 = .ok (.ifCond .ne 7, 3) := by decide +kernel
theorem dX11_refusedLink_52 : decode cX11_refusedLink 52 = .ok (.iconst 3, 1) := by decide +kernel
theorem dX11_refusedLink_53 : decode cX11_refusedLink 53 = .ok (.goto 4, 3) := by decide +kernel
theorem dX11_refusedLink_56 : decode cX11_refusedLink 56 = .ok (.iconst 0, 1) := by decide +kernel
theorem dX11_refusedLink_57 : decode cX11_refusedLink 57 = .ok (.ireturn, 1) := by decide +kernel
theorem dX11_link_0 : decode cX11_link 0 = .ok (.aload_n 0, 1) := by decide +kernel
theorem dX11_link_1 : decode cX11_link 1 = .ok (.aload_n 0, 1) := by decide +kernel
theorem dX11_link_2 : decode cX11_link 2 = .ok (.iload_n 1, 1) := by decide +kernel
theorem dX11_link_3 : decode cX11_link 3 = .ok (.iload_n 2, 1) := by decide +kernel
theorem dX11_link_4 : decode cX11_link 4 = .ok (.invokevirtual 167, 3) := by decide +kernel
theorem dX11_link_7 : decode cX11_link 7 = .ok (.putfield 55, 3) := by decide +kernel
theorem dX11_link_10 : decode cX11_link 10 = .ok (.aload_n 0, 1) := by decide +kernel
theorem dX11_link_11 : decode cX11_link 11 = .ok (.getfield 55, 3) := by decide +kernel
theorem dX11_link_14 : decode cX11_link 14 = .ok (.ifCond .le 5, 3) := by decide +kernel
theorem dX11_link_17 : decode cX11_link 17 = .ok (.iconst 0, 1) := by decide +kernel
theorem dX11_link_18 : decode cX11_link 18 = .ok (.ireturn, 1) := by decide +kernel
theorem dX11_link_19 : decode cX11_link 19 = .ok (.aload_n 0, 1) := by decide +kernel
theorem dX11_link_20 : decode cX11_link 20 = .ok (.invokevirtual 161, 3) := by decide +kernel
theorem dX11_link_23 : decode cX11_link 23 = .ok (.aload_n 0, 1) := by decide +kernel
theorem dX11_link_24 : decode cX11_link 24 = .ok (.getfield 7, 3) := by decide +kernel
theorem dX11_link_27 : decode cX11_link 27 = .ok (.bipush 8, 2) := by decide +kernel
theorem dX11_link_29 : decode cX11_link 29 = .ok (.aload_n 0, 1) := by decide +kernel
theorem dX11_link_30 : decode cX11_link 30 = .ok (.getfield 7, 3) := by decide +kernel
theorem dX11_link_33 : decode cX11_link 33 = .ok (.iconst 4, 1) := by decide +kernel
theorem dX11_link_34 : decode cX11_link 34 = .ok (.iaload, 1) := by decide +kernel
theorem dX11_link_35 : decode cX11_link 35 = .ok (.iadd, 1) := by decide +kernel
theorem dX11_link_36 : decode cX11_link 36 = .ok (.iload_n 1, 1) := by decide +kernel
theorem dX11_link_37 : decode cX11_link 37 = .ok (.iastore, 1) := by decide +kernel
theorem dX11_link_38 : decode cX11_link 38 = .ok (.aload_n 0, 1) := by decide +kernel
theorem dX11_link_39 : decode cX11_link 39 = .ok (.getfield 7, 3) := by decide +kernel
theorem dX11_link_42 : decode cX11_link 42 = .ok (.bipush 18, 2) := by decide +kernel
theorem dX11_link_44 : decode cX11_link 44 = .ok (.aload_n 0, 1) := by decide +kernel
theorem dX11_link_45 : decode cX11_link 45 = .ok (.getfield 7, 3) := by decide +kernel
theorem dX11_link_48 : decode cX11_link 48 = .ok (.iconst 4, 1) := by decide +kernel
theorem dX11_link_49 : decode cX11_link 49 = .ok (.iaload, 1) := by decide +kernel
theorem dX11_link_50 : decode cX11_link 50 = .ok (.iadd, 1) := by decide +kernel
theorem dX11_link_51 : decode cX11_link 51 = .ok (.iload_n 2, 1) := by decide +kernel
theorem dX11_link_52 : decode cX11_link 52 = .ok (.iastore, 1) := by decide +kernel
theorem dX11_link_53 : decode cX11_link 53 = .ok (.aload_n 0, 1) := by decide +kernel
theorem dX11_link_54 : decode cX11_link 54 = .ok (.getfield 7, 3) := by decide +kernel
theorem dX11_link_57 : decode cX11_link 57 = .ok (.iconst 4, 1) := by decide +kernel
theorem dX11_link_58 : decode cX11_link 58 = .ok (.dup2, 1) := by decide +kernel
theorem dX11_link_59 : decode cX11_link 59 = .ok (.iaload, 1) := by decide +kernel
theorem dX11_link_60 : decode cX11_link 60 = .ok (.iconst 1, 1) := by decide +kernel
theorem dX11_link_61 : decode cX11_link 61 = .ok (.iadd, 1) := by decide +kernel
theorem dX11_link_62 : decode cX11_link 62 = .ok (.iastore, 1) := by decide +kernel
theorem dX11_link_63 : decode cX11_link 63 = .ok (.aload_n 0, 1) := by decide +kernel
theorem dX11_link_64 : decode cX11_link 64 = .ok (.getfield 7, 3) := by decide +kernel
theorem dX11_link_67 : decode cX11_link 67 = .ok (.iconst 4, 1) := by decide +kernel
theorem dX11_link_68 : decode cX11_link 68 = .ok (.iaload, 1) := by decide +kernel
theorem dX11_link_69 : decode cX11_link 69 = .ok (.iconst 1, 1) := by decide +kernel
theorem dX11_link_70 : decode cX11_link 70 = .ok (.isub, 1) := by decide +kernel
theorem dX11_link_71 : decode cX11_link 71 = .ok (.ireturn, 1) := by decide +kernel
theorem dX11_unlink_0 : decode cX11_unlink 0 = .ok (.aload_n 0, 1) := by decide +kernel
theorem dX11_unlink_1 : decode cX11_unlink 1 = .ok (.aload_n 0, 1) := by decide +kernel
theorem dX11_unlink_2 : decode cX11_unlink 2 = .ok (.iload_n 1, 1) := by decide +kernel
theorem dX11_unlink_3 : decode cX11_unlink 3 = .ok (.invokevirtual 170, 3) := by decide +kernel
theorem dX11_unlink_6 : decode cX11_unlink 6 = .ok (.ifCond .eq 7, 3) := by decide +kernel
theorem dX11_unlink_9 : decode cX11_unlink 9 = .ok (.iconst 0, 1) := by decide +kernel
theorem dX11_unlink_10 : decode cX11_unlink 10 = .ok (.goto 4, 3) := by decide +kernel
theorem dX11_unlink_13 : decode cX11_unlink 13 = .ok (.iconst 1, 1) := by decide +kernel
theorem dX11_unlink_14 : decode cX11_unlink 14 = .ok (.putfield 55, 3) := by decide +kernel
theorem dX11_unlink_17 : decode cX11_unlink 17 = .ok (.aload_n 0, 1) := by decide +kernel
theorem dX11_unlink_18 : decode cX11_unlink 18 = .ok (.getfield 55, 3) := by decide +kernel
theorem dX11_unlink_21 : decode cX11_unlink 21 = .ok (.ifCond .le 5, 3) := by decide +kernel
theorem dX11_unlink_24 : decode cX11_unlink 24 = .ok (.iconst 0, 1) := by decide +kernel
theorem dX11_unlink_25 : decode cX11_unlink 25 = .ok (.ireturn, 1) := by decide +kernel
theorem dX11_unlink_26 : decode cX11_unlink 26 = .ok (.aload_n 0, 1) := by decide +kernel
theorem dX11_unlink_27 : decode cX11_unlink 27 = .ok (.invokevirtual 138, 3) := by decide +kernel
theorem dX11_unlink_30 : decode cX11_unlink 30 = .ok (.aload_n 0, 1) := by decide +kernel
theorem dX11_unlink_31 : decode cX11_unlink 31 = .ok (.getfield 7, 3) := by decide +kernel
theorem dX11_unlink_34 : decode cX11_unlink 34 = .ok (.iconst 4, 1) := by decide +kernel
theorem dX11_unlink_35 : decode cX11_unlink 35 = .ok (.dup2, 1) := by decide +kernel
theorem dX11_unlink_36 : decode cX11_unlink 36 = .ok (.iaload, 1) := by decide +kernel
theorem dX11_unlink_37 : decode cX11_unlink 37 = .ok (.iconst 1, 1) := by decide +kernel
theorem dX11_unlink_38 : decode cX11_unlink 38 = .ok (.isub, 1) := by decide +kernel
theorem dX11_unlink_39 : decode cX11_unlink 39 = .ok (.iastore, 1) := by decide +kernel
theorem dX11_unlink_40 : decode cX11_unlink 40 = .ok (.iload_n 1, 1) := by decide +kernel
theorem dX11_unlink_41 : decode cX11_unlink 41 = .ok (.istore_n 2, 1) := by decide +kernel
theorem dX11_unlink_42 : decode cX11_unlink 42 = .ok (.iload_n 2, 1) := by decide +kernel
theorem dX11_unlink_43 : decode cX11_unlink 43 = .ok (.aload_n 0, 1) := by decide +kernel
theorem dX11_unlink_44 : decode cX11_unlink 44 = .ok (.getfield 7, 3) := by decide +kernel
theorem dX11_unlink_47 : decode cX11_unlink 47 = .ok (.iconst 4, 1) := by decide +kernel
theorem dX11_unlink_48 : decode cX11_unlink 48 = .ok (.iaload, 1) := by decide +kernel
theorem dX11_unlink_49 : decode cX11_unlink 49 = .ok (.if_icmp .ge 49, 3) := by decide +kernel
theorem dX11_unlink_52 : decode cX11_unlink 52 = .ok (.aload_n 0, 1) := by decide +kernel
theorem dX11_unlink_53 : decode cX11_unlink 53 = .ok (.getfield 7, 3) := by decide +kernel
theorem dX11_unlink_56 : decode cX11_unlink 56 = .ok (.bipush 8, 2) := by decide +kernel
theorem dX11_unlink_58 : decode cX11_unlink 58 = .ok (.iload_n 2, 1) := by decide +kernel
theorem dX11_unlink_59 : decode cX11_unlink 59 = .ok (.iadd, 1) := by decide +kernel
theorem dX11_unlink_60 : decode cX11_unlink 60 = .ok (.aload_n 0, 1) := by decide +kernel
theorem dX11_unlink_61 : decode cX11_unlink 61 = .ok (.getfield 7, 3) := by decide +kernel
theorem dX11_unlink_64 : decode cX11_unlink 64 = .ok (.bipush 8, 2) := by decide +kernel
theorem dX11_unlink_66 : decode cX11_unlink 66 = .ok (.iload_n 2, 1) := by decide +kernel
theorem dX11_unlink_67 : decode cX11_unlink 67 = .ok (.iadd, 1) := by decide +kernel
theorem dX11_unlink_68 : decode cX11_unlink 68 = .ok (.iconst 1, 1) := by decide +kernel
theorem dX11_unlink_69 : decode cX11_unlink 69 = .ok (.iadd, 1) := by decide +kernel
theorem dX11_unlink_70 : decode cX11_unlink 70 = .ok (.iaload, 1) := by decide +kernel
theorem dX11_unlink_71 : decode cX11_unlink 71 = .ok (.iastore, 1) := by decide +kernel
theorem dX11_unlink_72 : decode cX11_unlink 72 = .ok (.aload_n 0, 1) := by decide +kernel
theorem dX11_unlink_73 : decode cX11_unlink 73 = .ok (.getfield 7, 3) := by decide +kernel
theorem dX11_unlink_76 : decode cX11_unlink 76 = .ok (.bipush 18, 2) := by decide +kernel
theorem dX11_unlink_78 : decode cX11_unlink 78 = .ok (.iload_n 2, 1) := by decide +kernel
theorem dX11_unlink_79 : decode cX11_unlink 79 = .ok (.iadd, 1) := by decide +kernel
theorem dX11_unlink_80 : decode cX11_unlink 80 = .ok (.aload_n 0, 1) := by decide +kernel
theorem dX11_unlink_81 : decode cX11_unlink 81 = .ok (.getfield 7, 3) := by decide +kernel
theorem dX11_unlink_84 : decode cX11_unlink 84 = .ok (.bipush 18, 2) := by decide +kernel
theorem dX11_unlink_86 : decode cX11_unlink 86 = .ok (.iload_n 2, 1) := by decide +kernel
theorem dX11_unlink_87 : decode cX11_unlink 87 = .ok (.iadd, 1) := by decide +kernel
theorem dX11_unlink_88 : decode cX11_unlink 88 = .ok (.iconst 1, 1) := by decide +kernel
theorem dX11_unlink_89 : decode cX11_unlink 89 = .ok (.iadd, 1) := by decide +kernel
theorem dX11_unlink_90 : decode cX11_unlink 90 = .ok (.iaload, 1) := by decide +kernel
theorem dX11_unlink_91 : decode cX11_unlink 91 = .ok (.iastore, 1) := by decide +kernel
theorem dX11_unlink_92 : decode cX11_unlink 92 = .ok (.iinc 2 1, 3) := by decide +kernel
theorem dX11_unlink_95 : decode cX11_unlink 95 = .ok (.goto (-53), 3) := by decide +kernel
theorem dX11_unlink_98 : decode cX11_unlink 98 = .ok (.aload_n 0, 1) := by decide +kernel
theorem dX11_unlink_99 : decode cX11_unlink 99 = .ok (.aload_n 0, 1) := by decide +kernel
theorem dX11_unlink_100 : decode cX11_unlink 100 = .ok (.invokevirtual 154, 3) := by decide +kernel
theorem dX11_unlink_103 : decode cX11_unlink 103 = .ok (.iconst 2, 1) := by decide +kernel
theorem dX11_unlink_104 : decode cX11_unlink 104 = .ok (.invokevirtual 147, 3) := by decide +kernel
theorem dX11_unlink_107 : decode cX11_unlink 107 = .ok (.aload_n 0, 1) := by decide +kernel
theorem dX11_unlink_108 : decode cX11_unlink 108 = .ok (.getfield 55, 3) := by decide +kernel
theorem dX11_unlink_111 : decode cX11_unlink 111 = .ok (.ifCond .ne 12, 3) := by decide +kernel
theorem dX11_unlink_114 : decode cX11_unlink 114 = .ok (.aload_n 0, 1) := by decide +kernel
theorem dX11_unlink_115 : decode cX11_unlink 115 = .ok (.getfield 7, 3) := by decide +kernel
theorem dX11_unlink_118 : decode cX11_unlink 118 = .ok (.iconst 4, 1) := by decide +kernel
theorem dX11_unlink_119 : decode cX11_unlink 119 = .ok (.iaload, 1) := by decide +kernel
theorem dX11_unlink_120 : decode cX11_unlink 120 = .ok (.goto 4, 3) := by decide +kernel
theorem dX11_unlink_123 : decode cX11_unlink 123 = .ok (.iconst 0, 1) := by decide +kernel
theorem dX11_unlink_124 : decode cX11_unlink 124 = .ok (.ireturn, 1) := by decide +kernel
theorem dX11_shift_0 : decode cX11_shift 0 = .ok (.aload_n 0, 1) := by decide +kernel
theorem dX11_shift_1 : decode cX11_shift 1 = .ok (.aload_n 0, 1) := by decide +kernel
theorem dX11_shift_2 : decode cX11_shift 2 = .ok (.iload_n 1, 1) := by decide +kernel
theorem dX11_shift_3 : decode cX11_shift 3 = .ok (.invokevirtual 170, 3) := by decide +kernel
theorem dX11_shift_6 : decode cX11_shift 6 = .ok (.ifCond .eq 11, 3) := by decide +kernel
theorem dX11_shift_9 : decode cX11_shift 9 = .ok (.aload_n 0, 1) := by decide +kernel
theorem dX11_shift_10 : decode cX11_shift 10 = .ok (.iload_n 2, 1) := by decide +kernel
theorem dX11_shift_11 : decode cX11_shift 11 = .ok (.invokevirtual 72, 3) := by decide +kernel
theorem dX11_shift_14 : decode cX11_shift 14 = .ok (.ifCond .ne 7, 3) := by decide +kernel
theorem dX11_shift_17 : decode cX11_shift 17 = .ok (.iconst 1, 1) := by decide +kernel
theorem dX11_shift_18 : decode cX11_shift 18 = .ok (.goto 26, 3) := by decide +kernel
theorem dX11_shift_21 : decode cX11_shift 21 = .ok (.aload_n 0, 1) := by decide +kernel
theorem dX11_shift_22 : decode cX11_shift 22 = .ok (.iload_n 2, 1) := by decide +kernel
theorem dX11_shift_23 : decode cX11_shift 23 = .ok (.aload_n 0, 1) := by decide +kernel
theorem dX11_shift_24 : decode cX11_shift 24 = .ok (.getfield 7, 3) := by decide +kernel
theorem dX11_shift_27 : decode cX11_shift 27 = .ok (.bipush 18, 2) := by decide +kernel
theorem dX11_shift_29 : decode cX11_shift 29 = .ok (.iload_n 1, 1) := by decide +kernel
theorem dX11_shift_30 : decode cX11_shift 30 = .ok (.iadd, 1) := by decide +kernel
theorem dX11_shift_31 : decode cX11_shift 31 = .ok (.iaload, 1) := by decide +kernel
theorem dX11_shift_32 : decode cX11_shift 32 = .ok (.iload_n 1, 1) := by decide +kernel
theorem dX11_shift_33 : decode cX11_shift 33 = .ok (.invokevirtual 144, 3) := by decide +kernel
theorem dX11_shift_36 : decode cX11_shift 36 = .ok (.ifCond .eq 7, 3) := by decide +kernel
theorem dX11_shift_39 : decode cX11_shift 39 = .ok (.iconst 0, 1) := by decide +kernel
theorem dX11_shift_40 : decode cX11_shift 40 = .ok (.goto 4, 3) := by decide +kernel
theorem dX11_shift_43 : decode cX11_shift 43 = .ok (.iconst 2, 1) := by decide +kernel
theorem dX11_shift_44 : decode cX11_shift 44 = .ok (.putfield 55, 3) := by decide +kernel
theorem dX11_shift_47 : decode cX11_shift 47 = .ok (.aload_n 0, 1) := by decide +kernel
theorem dX11_shift_48 : decode cX11_shift 48 = .ok (.getfield 55, 3) := by decide +kernel
theorem dX11_shift_51 : decode cX11_shift 51 = .ok (.ifCond .le 5, 3) := by decide +kernel
theorem dX11_shift_54 : decode cX11_shift 54 = .ok (.iconst 0, 1) := by decide +kernel
theorem dX11_shift_55 : decode cX11_shift 55 = .ok (.ireturn, 1) := by decide +kernel
theorem dX11_shift_56 : decode cX11_shift 56 = .ok (.aload_n 0, 1) := by decide +kernel
theorem dX11_shift_57 : decode cX11_shift 57 = .ok (.invokevirtual 138, 3) := by decide +kernel
theorem dX11_shift_60 : decode cX11_shift 60 = .ok (.aload_n 0, 1) := by decide +kernel
theorem dX11_shift_61 : decode cX11_shift 61 = .ok (.getfield 7, 3) := by decide +kernel
theorem dX11_shift_64 : decode cX11_shift 64 = .ok (.bipush 8, 2) := by decide +kernel
theorem dX11_shift_66 : decode cX11_shift 66 = .ok (.iload_n 1, 1) := by decide +kernel
theorem dX11_shift_67 : decode cX11_shift 67 = .ok (.iadd, 1) := by decide +kernel
theorem dX11_shift_68 : decode cX11_shift 68 = .ok (.iaload, 1) := by decide +kernel
theorem dX11_shift_69 : decode cX11_shift 69 = .ok (.istore_n 3, 1) := by decide +kernel
theorem dX11_shift_70 : decode cX11_shift 70 = .ok (.aload_n 0, 1) := by decide +kernel
theorem dX11_shift_71 : decode cX11_shift 71 = .ok (.getfield 7, 3) := by decide +kernel
theorem dX11_shift_74 : decode cX11_shift 74 = .ok (.bipush 8, 2) := by decide +kernel
theorem dX11_shift_76 : decode cX11_shift 76 = .ok (.iload_n 1, 1) := by decide +kernel
theorem dX11_shift_77 : decode cX11_shift 77 = .ok (.iadd, 1) := by decide +kernel
theorem dX11_shift_78 : decode cX11_shift 78 = .ok (.iload_n 2, 1) := by decide +kernel
theorem dX11_shift_79 : decode cX11_shift 79 = .ok (.iastore, 1) := by decide +kernel
theorem dX11_shift_80 : decode cX11_shift 80 = .ok (.aload_n 0, 1) := by decide +kernel
theorem dX11_shift_81 : decode cX11_shift 81 = .ok (.aload_n 0, 1) := by decide +kernel
theorem dX11_shift_82 : decode cX11_shift 82 = .ok (.invokevirtual 154, 3) := by decide +kernel
theorem dX11_shift_85 : decode cX11_shift 85 = .ok (.iconst 3, 1) := by decide +kernel
theorem dX11_shift_86 : decode cX11_shift 86 = .ok (.invokevirtual 147, 3) := by decide +kernel
theorem dX11_shift_89 : decode cX11_shift 89 = .ok (.aload_n 0, 1) := by decide +kernel
theorem dX11_shift_90 : decode cX11_shift 90 = .ok (.getfield 55, 3) := by decide +kernel
theorem dX11_shift_93 : decode cX11_shift 93 = .ok (.ifCond .ne 7, 3) := by decide +kernel
theorem dX11_shift_96 : decode cX11_shift 96 = .ok (.iload_n 3, 1) := by decide +kernel
theorem dX11_shift_97 : decode cX11_shift 97 = .ok (.goto 4, 3) := by decide +kernel
theorem dX11_shift_100 : decode cX11_shift 100 = .ok (.iconst 0, 1) := by decide +kernel
theorem dX11_shift_101 : decode cX11_shift 101 = .ok (.ireturn, 1) := by decide +kernel
theorem dX11_isSetting_0 : decode cX11_isSetting 0 = .ok (.iload_n 0, 1) := by decide +kernel
theorem dX11_isSetting_1 : decode cX11_isSetting 1 = .ok (.iconst 0, 1) := by decide +kernel
theorem dX11_isSetting_2 : decode cX11_isSetting 2 = .ok (.iconst 2, 1) := by decide +kernel
theorem dX11_isSetting_3 : decode cX11_isSetting 3 = .ok (.invokestatic 68, 3) := by decide +kernel
theorem dX11_isSetting_6 : decode cX11_isSetting 6 = .ok (.ireturn, 1) := by decide +kernel
theorem dX11_isValue_0 : decode cX11_isValue 0 = .ok (.iload_n 0, 1) := by decide +kernel
theorem dX11_isValue_1 : decode cX11_isValue 1 = .ok (.ifCond .ne 12, 3) := by decide +kernel
theorem dX11_isValue_4 : decode cX11_isValue 4 = .ok (.iload_n 1, 1) := by decide +kernel
theorem dX11_isValue_5 : decode cX11_isValue 5 = .ok (.iconst 0, 1) := by decide +kernel
theorem dX11_isValue_6 : decode cX11_isValue 6 = .ok (.iconst 2, 1) := by decide +kernel
theorem dX11_isValue_7 : decode cX11_isValue 7 = .ok (.invokestatic 68, 3) := by decide +kernel
theorem dX11_isValue_10 : decode cX11_isValue 10 = .ok (.goto 26, 3) := by decide +kernel
theorem dX11_isValue_13 : decode cX11_isValue 13 = .ok (.iload_n 0, 1) := by decide +kernel
theorem dX11_isValue_14 : decode cX11_isValue 14 = .ok (.iconst 1, 1) := by decide +kernel
theorem dX11_isValue_15 : decode cX11_isValue 15 = .ok (.if_icmp .ne 13, 3) := by decide +kernel
theorem dX11_isValue_18 : decode cX11_isValue 18 = .ok (.iload_n 1, 1) := by decide +kernel
theorem dX11_isValue_19 : decode cX11_isValue 19 = .ok (.iconst 1, 1) := by decide +kernel
theorem dX11_isValue_20 : decode cX11_isValue 20 = .ok (.bipush 8, 2) := by decide +kernel
theorem dX11_isValue_22 : decode cX11_isValue 22 = .ok (.invokestatic 68, 3) := by decide +kernel
theorem dX11_isValue_25 : decode cX11_isValue 25 = .ok (.goto 11, 3) := by decide +kernel
theorem dX11_isValue_28 : decode cX11_isValue 28 = .ok (.iload_n 1, 1) := by decide +kernel
theorem dX11_isValue_29 : decode cX11_isValue 29 = .ok (.iconst 0, 1) := by decide +kernel
theorem dX11_isValue_30 : decode cX11_isValue 30 = .ok (.sipush 5000, 3) := by decide +kernel
theorem dX11_isValue_33 : decode cX11_isValue 33 = .ok (.invokestatic 68, 3) := by decide +kernel
theorem dX11_isValue_36 : decode cX11_isValue 36 = .ok (.ireturn, 1) := by decide +kernel
theorem dX11_set_0 : decode cX11_set 0 = .ok (.aload_n 0, 1) := by decide +kernel
theorem dX11_set_1 : decode cX11_set 1 = .ok (.iload_n 1, 1) := by decide +kernel
theorem dX11_set_2 : decode cX11_set 2 = .ok (.invokestatic 173, 3) := by decide +kernel
theorem dX11_set_5 : decode cX11_set 5 = .ok (.ifCond .ne 7, 3) := by decide +kernel
theorem dX11_set_8 : decode cX11_set 8 = .ok (.iconst 1, 1) := by decide +kernel
theorem dX11_set_9 : decode cX11_set 9 = .ok (.goto 31, 3) := by decide +kernel
theorem dX11_set_12 : decode cX11_set 12 = .ok (.iload_n 1, 1) := by decide +kernel
theorem dX11_set_13 : decode cX11_set 13 = .ok (.iload_n 2, 1) := by decide +kernel
theorem dX11_set_14 : decode cX11_set 14 = .ok (.invokestatic 176, 3) := by decide +kernel
theorem dX11_set_17 : decode cX11_set 17 = .ok (.ifCond .ne 7, 3) := by decide +kernel
theorem dX11_set_20 : decode cX11_set 20 = .ok (.iconst 2, 1) := by decide +kernel
theorem dX11_set_21 : decode cX11_set 21 = .ok (.goto 19, 3) := by decide +kernel
theorem dX11_set_24 : decode cX11_set 24 = .ok (.aload_n 0, 1) := by decide +kernel
theorem dX11_set_25 : decode cX11_set 25 = .ok (.getfield 7, 3) := by decide +kernel
theorem dX11_set_28 : decode cX11_set 28 = .ok (.bipush 7, 2) := by decide +kernel
theorem dX11_set_30 : decode cX11_set 30 = .ok (.iaload, 1) := by decide +kernel
theorem dX11_set_31 : decode cX11_set 31 = .ok (.iconst 1, 1) := by decide +kernel
theorem dX11_set_32 : decode cX11_set 32 = .ok (.if_icmp .ne 7, 3) := by decide +kernel
theorem dX11_set_35 : decode cX11_set 35 = .ok (.iconst 3, 1) := by decide +kernel
theorem dX11_set_36 : decode cX11_set 36 = .ok (.goto 4, 3) := by decide +kernel
theorem dX11_set_39 : decode cX11_set 39 = .ok (.iconst 0, 1) := by decide +kernel
theorem dX11_set_40 : decode cX11_set 40 = .ok (.putfield 55, 3) := by decide +kernel
theorem dX11_set_43 : decode cX11_set 43 = .ok (.aload_n 0, 1) := by decide +kernel
theorem dX11_set_44 : decode cX11_set 44 = .ok (.getfield 55, 3) := by decide +kernel
theorem dX11_set_47 : decode cX11_set 47 = .ok (.ifCond .le 5, 3) := by decide +kernel
theorem dX11_set_50 : decode cX11_set 50 = .ok (.iconst 0, 1) := by decide +kernel
theorem dX11_set_51 : decode cX11_set 51 = .ok (.ireturn, 1) := by decide +kernel
theorem dX11_set_52 : decode cX11_set 52 = .ok (.aload_n 0, 1) := by decide +kernel
theorem dX11_set_53 : decode cX11_set 53 = .ok (.invokevirtual 161, 3) := by decide +kernel
theorem dX11_set_56 : decode cX11_set 56 = .ok (.aload_n 0, 1) := by decide +kernel
theorem dX11_set_57 : decode cX11_set 57 = .ok (.getfield 7, 3) := by decide +kernel
theorem dX11_set_60 : decode cX11_set 60 = .ok (.iconst 0, 1) := by decide +kernel
theorem dX11_set_61 : decode cX11_set 61 = .ok (.iload_n 1, 1) := by decide +kernel
theorem dX11_set_62 : decode cX11_set 62 = .ok (.iadd, 1) := by decide +kernel
theorem dX11_set_63 : decode cX11_set 63 = .ok (.iaload, 1) := by decide +kernel
theorem dX11_set_64 : decode cX11_set 64 = .ok (.istore_n 3, 1) := by decide +kernel
theorem dX11_set_65 : decode cX11_set 65 = .ok (.aload_n 0, 1) := by decide +kernel
theorem dX11_set_66 : decode cX11_set 66 = .ok (.getfield 7, 3) := by decide +kernel
theorem dX11_set_69 : decode cX11_set 69 = .ok (.iconst 0, 1) := by decide +kernel
theorem dX11_set_70 : decode cX11_set 70 = .ok (.iload_n 1, 1) := by decide +kernel
theorem dX11_set_71 : decode cX11_set 71 = .ok (.iadd, 1) := by decide +kernel
theorem dX11_set_72 : decode cX11_set 72 = .ok (.iload_n 2, 1) := by decide +kernel
theorem dX11_set_73 : decode cX11_set 73 = .ok (.iastore, 1) := by decide +kernel
theorem dX11_set_74 : decode cX11_set 74 = .ok (.iload_n 3, 1) := by decide +kernel
theorem dX11_set_75 : decode cX11_set 75 = .ok (.ireturn, 1) := by decide +kernel
theorem dX11_promisedNow_0 : decode cX11_promisedNow 0 = .ok (.ldc2_w 122, 3) := by decide +kernel
theorem dX11_promisedNow_3 : decode cX11_promisedNow 3 = .ok (.aload_n 0, 1) := by decide +kernel
theorem dX11_promisedNow_4 : decode cX11_promisedNow 4 = .ok (.getfield 65, 3) := by decide +kernel
theorem dX11_promisedNow_7 : decode cX11_promisedNow 7 = .ok (.lmul, 1) := by decide +kernel
theorem dX11_promisedNow_8 : decode cX11_promisedNow 8 = .ok (.aload_n 0, 1) := by decide +kernel
theorem dX11_promisedNow_9 : decode cX11_promisedNow 9 = .ok (.getfield 13, 3) := by decide +kernel
theorem dX11_promisedNow_12 : decode cX11_promisedNow 12 = .ok (.ldiv, 1) := by decide +kernel
theorem dX11_promisedNow_13 : decode cX11_promisedNow 13 = .ok (.l2i, 1) := by decide +kernel
theorem dX11_promisedNow_14 : decode cX11_promisedNow 14 = .ok (.ireturn, 1) := by decide +kernel
theorem dX11_promise_0 : decode cX11_promise 0 = .ok (.aload_n 0, 1) := by decide +kernel
theorem dX11_promise_1 : decode cX11_promise 1 = .ok (.iconst 0, 1) := by decide +kernel
theorem dX11_promise_2 : decode cX11_promise 2 = .ok (.putfield 55, 3) := by decide +kernel
theorem dX11_promise_5 : decode cX11_promise 5 = .ok (.aload_n 0, 1) := by decide +kernel
theorem dX11_promise_6 : decode cX11_promise 6 = .ok (.invokevirtual 161, 3) := by decide +kernel
theorem dX11_promise_9 : decode cX11_promise 9 = .ok (.aload_n 0, 1) := by decide +kernel
theorem dX11_promise_10 : decode cX11_promise 10 = .ok (.invokevirtual 111, 3) := by decide +kernel
theorem dX11_promise_13 : decode cX11_promise 13 = .ok (.aload_n 0, 1) := by decide +kernel
theorem dX11_promise_14 : decode cX11_promise 14 = .ok (.iconst 0, 1) := by decide +kernel
theorem dX11_promise_15 : decode cX11_promise 15 = .ok (.invokevirtual 114, 3) := by decide +kernel
theorem dX11_promise_18 : decode cX11_promise 18 = .ok (.aload_n 0, 1) := by decide +kernel
theorem dX11_promise_19 : decode cX11_promise 19 = .ok (.aload_n 0, 1) := by decide +kernel
theorem dX11_promise_20 : decode cX11_promise 20 = .ok (.getfield 90, 3) := by decide +kernel
theorem dX11_promise_23 : decode cX11_promise 23 = .ok (.aload_n 0, 1) := by decide +kernel
theorem dX11_promise_24 : decode cX11_promise 24 = .ok (.getfield 87, 3) := by decide +kernel
theorem dX11_promise_27 : decode cX11_promise 27 = .ok (.iconst 0, 1) := by decide +kernel
theorem dX11_promise_28 : decode cX11_promise 28 = .ok (.invokestatic 118, 3) := by decide +kernel
theorem dX11_promise_31 : decode cX11_promise 31 = .ok (.putfield 65, 3) := by decide +kernel
theorem dX11_promise_34 : decode cX11_promise 34 = .ok (.aload_n 0, 1) := by decide +kernel
theorem dX11_promise_35 : decode cX11_promise 35 = .ok (.aload_n 0, 1) := by decide +kernel
theorem dX11_promise_36 : decode cX11_promise 36 = .ok (.getfield 90, 3) := by decide +kernel
theorem dX11_promise_39 : decode cX11_promise 39 = .ok (.aload_n 0, 1) := by decide +kernel
theorem dX11_promise_40 : decode cX11_promise 40 = .ok (.getfield 87, 3) := by decide +kernel
theorem dX11_promise_43 : decode cX11_promise 43 = .ok (.iconst 1, 1) := by decide +kernel
theorem dX11_promise_44 : decode cX11_promise 44 = .ok (.invokestatic 118, 3) := by decide +kernel
theorem dX11_promise_47 : decode cX11_promise 47 = .ok (.putfield 13, 3) := by decide +kernel
theorem dX11_promise_50 : decode cX11_promise 50 = .ok (.aload_n 0, 1) := by decide +kernel
theorem dX11_promise_51 : decode cX11_promise 51 = .ok (.getfield 7, 3) := by decide +kernel
theorem dX11_promise_54 : decode cX11_promise 54 = .ok (.bipush 7, 2) := by decide +kernel
theorem dX11_promise_56 : decode cX11_promise 56 = .ok (.iconst 1, 1) := by decide +kernel
theorem dX11_promise_57 : decode cX11_promise 57 = .ok (.iastore, 1) := by decide +kernel
theorem dX11_promise_58 : decode cX11_promise 58 = .ok (.aload_n 0, 1) := by decide +kernel
theorem dX11_promise_59 : decode cX11_promise 59 = .ok (.invokevirtual 179, 3) := by decide +kernel
theorem dX11_promise_62 : decode cX11_promise 62 = .ok (.ireturn, 1) := by decide +kernel
theorem dX11_release_0 : decode cX11_release 0 = .ok (.aload_n 0, 1) := by decide +kernel
theorem dX11_release_1 : decode cX11_release 1 = .ok (.iconst 0, 1) := by decide +kernel
theorem dX11_release_2 : decode cX11_release 2 = .ok (.putfield 55, 3) := by decide +kernel
theorem dX11_release_5 : decode cX11_release 5 = .ok (.aload_n 0, 1) := by decide +kernel
theorem dX11_release_6 : decode cX11_release 6 = .ok (.invokevirtual 161, 3) := by decide +kernel
theorem dX11_release_9 : decode cX11_release 9 = .ok (.aload_n 0, 1) := by decide +kernel
theorem dX11_release_10 : decode cX11_release 10 = .ok (.getfield 7, 3) := by decide +kernel
theorem dX11_release_13 : decode cX11_release 13 = .ok (.bipush 7, 2) := by decide +kernel
theorem dX11_release_15 : decode cX11_release 15 = .ok (.iaload, 1) := by decide +kernel
theorem dX11_release_16 : decode cX11_release 16 = .ok (.istore_n 1, 1) := by decide +kernel
theorem dX11_release_17 : decode cX11_release 17 = .ok (.aload_n 0, 1) := by decide +kernel
theorem dX11_release_18 : decode cX11_release 18 = .ok (.getfield 7, 3) := by decide +kernel
theorem dX11_release_21 : decode cX11_release 21 = .ok (.bipush 7, 2) := by decide +kernel
theorem dX11_release_23 : decode cX11_release 23 = .ok (.iconst 0, 1) := by decide +kernel
theorem dX11_release_24 : decode cX11_release 24 = .ok (.iastore, 1) := by decide +kernel
theorem dX11_release_25 : decode cX11_release 25 = .ok (.iload_n 1, 1) := by decide +kernel
theorem dX11_release_26 : decode cX11_release 26 = .ok (.ireturn, 1) := by decide +kernel
theorem dX11_addPlayer_0 : decode cX11_addPlayer 0 = .ok (.aload_n 0, 1) := by decide +kernel
theorem dX11_addPlayer_1 : decode cX11_addPlayer 1 = .ok (.aload_n 0, 1) := by decide +kernel
theorem dX11_addPlayer_2 : decode cX11_addPlayer 2 = .ok (.getfield 7, 3) := by decide +kernel
theorem dX11_addPlayer_5 : decode cX11_addPlayer 5 = .ok (.iconst 5, 1) := by decide +kernel
theorem dX11_addPlayer_6 : decode cX11_addPlayer 6 = .ok (.iaload, 1) := by decide +kernel
theorem dX11_addPlayer_7 : decode cX11_addPlayer 7 = .ok (.iconst 4, 1) := by decide +kernel
theorem dX11_addPlayer_8 : decode cX11_addPlayer 8 = .ok (.if_icmp .ne 7, 3) := by decide +kernel
theorem dX11_addPlayer_11 : decode cX11_addPlayer 11 = .ok (.iconst 1, 1) := by decide +kernel
theorem dX11_addPlayer_12 : decode cX11_addPlayer 12 = .ok (.goto 4, 3) := by decide +kernel
theorem dX11_addPlayer_15 : decode cX11_addPlayer 15 = .ok (.iconst 0, 1) := by decide +kernel
theorem dX11_addPlayer_16 : decode cX11_addPlayer 16 = .ok (.putfield 55, 3) := by decide +kernel
theorem dX11_addPlayer_19 : decode cX11_addPlayer 19 = .ok (.aload_n 0, 1) := by decide +kernel
theorem dX11_addPlayer_20 : decode cX11_addPlayer 20 = .ok (.getfield 55, 3) := by decide +kernel
theorem dX11_addPlayer_23 : decode cX11_addPlayer 23 = .ok (.ifCond .le 5, 3) := by decide +kernel
theorem dX11_addPlayer_26 : decode cX11_addPlayer 26 = .ok (.iconst 0, 1) := by decide +kernel
theorem dX11_addPlayer_27 : decode cX11_addPlayer 27 = .ok (.ireturn, 1) := by decide +kernel
theorem dX11_addPlayer_28 : decode cX11_addPlayer 28 = .ok (.aload_n 0, 1) := by decide +kernel
theorem dX11_addPlayer_29 : decode cX11_addPlayer 29 = .ok (.invokevirtual 161, 3) := by decide +kernel
theorem dX11_addPlayer_32 : decode cX11_addPlayer 32 = .ok (.aload_n 0, 1) := by decide +kernel
theorem dX11_addPlayer_33 : decode cX11_addPlayer 33 = .ok (.getfield 7, 3) := by decide +kernel
theorem dX11_addPlayer_36 : decode cX11_addPlayer 36 = .ok (.bipush 53, 2) := by decide +kernel
theorem dX11_addPlayer_38 : decode cX11_addPlayer 38 = .ok (.aload_n 0, 1) := by decide +kernel
theorem dX11_addPlayer_39 : decode cX11_addPlayer 39 = .ok (.getfield 7, 3) := by decide +kernel
theorem dX11_addPlayer_42 : decode cX11_addPlayer 42 = .ok (.iconst 5, 1) := by decide +kernel
theorem dX11_addPlayer_43 : decode cX11_addPlayer 43 = .ok (.iaload, 1) := by decide +kernel
theorem dX11_addPlayer_44 : decode cX11_addPlayer 44 = .ok (.iadd, 1) := by decide +kernel
theorem dX11_addPlayer_45 : decode cX11_addPlayer 45 = .ok (.iconst 0, 1) := by decide +kernel
theorem dX11_addPlayer_46 : decode cX11_addPlayer 46 = .ok (.iastore, 1) := by decide +kernel
theorem dX11_addPlayer_47 : decode cX11_addPlayer 47 = .ok (.aload_n 0, 1) := by decide +kernel
theorem dX11_addPlayer_48 : decode cX11_addPlayer 48 = .ok (.getfield 7, 3) := by decide +kernel
theorem dX11_addPlayer_51 : decode cX11_addPlayer 51 = .ok (.bipush 57, 2) := by decide +kernel
theorem dX11_addPlayer_53 : decode cX11_addPlayer 53 = .ok (.aload_n 0, 1) := by decide +kernel
theorem dX11_addPlayer_54 : decode cX11_addPlayer 54 = .ok (.getfield 7, 3) := by decide +kernel
theorem dX11_addPlayer_57 : decode cX11_addPlayer 57 = .ok (.iconst 5, 1) := by decide +kernel
theorem dX11_addPlayer_58 : decode cX11_addPlayer 58 = .ok (.iaload, 1) := by decide +kernel
theorem dX11_addPlayer_59 : decode cX11_addPlayer 59 = .ok (.iadd, 1) := by decide +kernel
theorem dX11_addPlayer_60 : decode cX11_addPlayer 60 = .ok (.iconst 0, 1) := by decide +kernel
theorem dX11_addPlayer_61 : decode cX11_addPlayer 61 = .ok (.iastore, 1) := by decide +kernel
theorem dX11_addPlayer_62 : decode cX11_addPlayer 62 = .ok (.aload_n 0, 1) := by decide +kernel
theorem dX11_addPlayer_63 : decode cX11_addPlayer 63 = .ok (.getfield 7, 3) := by decide +kernel
theorem dX11_addPlayer_66 : decode cX11_addPlayer 66 = .ok (.iconst 5, 1) := by decide +kernel
theorem dX11_addPlayer_67 : decode cX11_addPlayer 67 = .ok (.dup2, 1) := by decide +kernel
theorem dX11_addPlayer_68 : decode cX11_addPlayer 68 = .ok (.iaload, 1) := by decide +kernel
theorem dX11_addPlayer_69 : decode cX11_addPlayer 69 = .ok (.iconst 1, 1) := by decide +kernel
theorem dX11_addPlayer_70 : decode cX11_addPlayer 70 = .ok (.iadd, 1) := by decide +kernel
theorem dX11_addPlayer_71 : decode cX11_addPlayer 71 = .ok (.iastore, 1) := by decide +kernel
theorem dX11_addPlayer_72 : decode cX11_addPlayer 72 = .ok (.aload_n 0, 1) := by decide +kernel
theorem dX11_addPlayer_73 : decode cX11_addPlayer 73 = .ok (.getfield 7, 3) := by decide +kernel
theorem dX11_addPlayer_76 : decode cX11_addPlayer 76 = .ok (.iconst 5, 1) := by decide +kernel
theorem dX11_addPlayer_77 : decode cX11_addPlayer 77 = .ok (.iaload, 1) := by decide +kernel
theorem dX11_addPlayer_78 : decode cX11_addPlayer 78 = .ok (.iconst 1, 1) := by decide +kernel
theorem dX11_addPlayer_79 : decode cX11_addPlayer 79 = .ok (.isub, 1) := by decide +kernel
theorem dX11_addPlayer_80 : decode cX11_addPlayer 80 = .ok (.ireturn, 1) := by decide +kernel
theorem dX11_isHome_0 : decode cX11_isHome 0 = .ok (.aload_n 0, 1) := by decide +kernel
theorem dX11_isHome_1 : decode cX11_isHome 1 = .ok (.getfield 7, 3) := by decide +kernel
theorem dX11_isHome_4 : decode cX11_isHome 4 = .ok (.bipush 53, 2) := by decide +kernel
theorem dX11_isHome_6 : decode cX11_isHome 6 = .ok (.iload_n 1, 1) := by decide +kernel
theorem dX11_isHome_7 : decode cX11_isHome 7 = .ok (.iadd, 1) := by decide +kernel
theorem dX11_isHome_8 : decode cX11_isHome 8 = .ok (.iaload, 1) := by decide +kernel
theorem dX11_isHome_9 : decode cX11_isHome 9 = .ok (.aload_n 0, 1) := by decide +kernel
theorem dX11_isHome_10 : decode cX11_isHome 10 = .ok (.getfield 7, 3) := by decide +kernel
theorem dX11_isHome_13 : decode cX11_isHome 13 = .ok (.iconst 3, 1) := by decide +kernel
theorem dX11_isHome_14 : decode cX11_isHome 14 = .ok (.iaload, 1) := by decide +kernel
theorem dX11_isHome_15 : decode cX11_isHome 15 = .ok (.if_icmp .ne 7, 3) := by decide +kernel
theorem dX11_isHome_18 : decode cX11_isHome 18 = .ok (.iconst 1, 1) := by decide +kernel
theorem dX11_isHome_19 : decode cX11_isHome 19 = .ok (.goto 4, 3) := by decide +kernel
theorem dX11_isHome_22 : decode cX11_isHome 22 = .ok (.iconst 0, 1) := by decide +kernel
theorem dX11_isHome_23 : decode cX11_isHome 23 = .ok (.ireturn, 1) := by decide +kernel
theorem dX11_roll_0 : decode cX11_roll 0 = .ok (.aload_n 0, 1) := by decide +kernel
theorem dX11_roll_1 : decode cX11_roll 1 = .ok (.aload_n 0, 1) := by decide +kernel
theorem dX11_roll_2 : decode cX11_roll 2 = .ok (.iload_n 1, 1) := by decide +kernel
theorem dX11_roll_3 : decode cX11_roll 3 = .ok (.invokevirtual 183, 3) := by decide +kernel
theorem dX11_roll_6 : decode cX11_roll 6 = .ok (.ifCond .eq 7, 3) := by decide +kernel
theorem dX11_roll_9 : decode cX11_roll 9 = .ok (.iconst 0, 1) := by decide +kernel
theorem dX11_roll_10 : decode cX11_roll 10 = .ok (.goto 4, 3) := by decide +kernel
theorem dX11_roll_13 : decode cX11_roll 13 = .ok (.iconst 1, 1) := by decide +kernel
theorem dX11_roll_14 : decode cX11_roll 14 = .ok (.putfield 55, 3) := by decide +kernel
theorem dX11_roll_17 : decode cX11_roll 17 = .ok (.aload_n 0, 1) := by decide +kernel
theorem dX11_roll_18 : decode cX11_roll 18 = .ok (.getfield 55, 3) := by decide +kernel
theorem dX11_roll_21 : decode cX11_roll 21 = .ok (.ifCond .ne 72, 3) := by decide +kernel
theorem dX11_roll_24 : decode cX11_roll 24 = .ok (.iload_n 2, 1) := by decide +kernel
theorem dX11_roll_25 : decode cX11_roll 25 = .ok (.iconst 0, 1) := by decide +kernel
theorem dX11_roll_26 : decode cX11_roll 26 = .ok (.aload_n 0, 1) := by decide +kernel
theorem dX11_roll_27 : decode cX11_roll 27 = .ok (.getfield 7, 3) := by decide +kernel
theorem dX11_roll_30 : decode cX11_roll 30 = .ok (.bipush 28, 2) := by decide +kernel
theorem dX11_roll_32 : decode cX11_roll 32 = .ok (.aload_n 0, 1) := by decide +kernel
theorem dX11_roll_33 : decode cX11_roll 33 = .ok (.aload_n 0, 1) := by decide +kernel
theorem dX11_roll_34 : decode cX11_roll 34 = .ok (.getfield 7, 3) := by decide +kernel
theorem dX11_roll_37 : decode cX11_roll 37 = .ok (.bipush 57, 2) := by decide +kernel
theorem dX11_roll_39 : decode cX11_roll 39 = .ok (.iload_n 1, 1) := by decide +kernel
theorem dX11_roll_40 : decode cX11_roll 40 = .ok (.iadd, 1) := by decide +kernel
theorem dX11_roll_41 : decode cX11_roll 41 = .ok (.iaload, 1) := by decide +kernel
theorem dX11_roll_42 : decode cX11_roll 42 = .ok (.invokevirtual 96, 3) := by decide +kernel
theorem dX11_roll_45 : decode cX11_roll 45 = .ok (.iadd, 1) := by decide +kernel
theorem dX11_roll_46 : decode cX11_roll 46 = .ok (.iaload, 1) := by decide +kernel
theorem dX11_roll_47 : decode cX11_roll 47 = .ok (.iconst 1, 1) := by decide +kernel
theorem dX11_roll_48 : decode cX11_roll 48 = .ok (.isub, 1) := by decide +kernel
theorem dX11_roll_49 : decode cX11_roll 49 = .ok (.invokestatic 68, 3) := by decide +kernel
theorem dX11_roll_52 : decode cX11_roll 52 = .ok (.istore_n 3, 1) := by decide +kernel
theorem dX11_roll_53 : decode cX11_roll 53 = .ok (.aload_n 0, 1) := by decide +kernel
theorem dX11_roll_54 : decode cX11_roll 54 = .ok (.iload_n 3, 1) := by decide +kernel
theorem dX11_roll_55 : decode cX11_roll 55 = .ok (.ifCond .ne 7, 3) := by decide +kernel
theorem dX11_roll_58 : decode cX11_roll 58 = .ok (.iconst 2, 1) := by decide +kernel
theorem dX11_roll_59 : decode cX11_roll 59 = .ok (.goto 31, 3) := by decide +kernel
theorem dX11_roll_62 : decode cX11_roll 62 = .ok (.aload_n 0, 1) := by decide +kernel
theorem dX11_roll_63 : decode cX11_roll 63 = .ok (.iload_n 1, 1) := by decide +kernel
theorem dX11_roll_64 : decode cX11_roll 64 = .ok (.invokevirtual 186, 3) := by decide +kernel
theorem dX11_roll_67 : decode cX11_roll 67 = .ok (.ifCond .ne 18, 3) := by decide +kernel
theorem dX11_roll_70 : decode cX11_roll 70 = .ok (.aload_n 0, 1) := by decide +kernel
theorem dX11_roll_71 : decode cX11_roll 71 = .ok (.getfield 7, 3) := by decide +kernel
theorem dX11_roll_74 : decode cX11_roll 74 = .ok (.bipush 57, 2) := by decide +kernel
theorem dX11_roll_76 : decode cX11_roll 76 = .ok (.iload_n 1, 1) := by decide +kernel
theorem dX11_roll_77 : decode cX11_roll 77 = .ok (.iadd, 1) := by decide +kernel
theorem dX11_roll_78 : decode cX11_roll 78 = .ok (.iaload, 1) := by decide +kernel
theorem dX11_roll_79 : decode cX11_roll 79 = .ok (.sipush 1000, 3) := by decide +kernel
theorem dX11_roll_82 : decode cX11_roll 82 = .ok (.if_icmp .ne 7, 3) := by decide +kernel
theorem dX11_roll_85 : decode cX11_roll 85 = .ok (.iconst 3, 1) := by decide +kernel
theorem dX11_roll_86 : decode cX11_roll 86 = .ok (.goto 4, 3) := by decide +kernel
theorem dX11_roll_89 : decode cX11_roll 89 = .ok (.iconst 0, 1) := by decide +kernel
theorem dX11_roll_90 : decode cX11_roll 90 = .ok (.putfield 55, 3) := by decide +kernel
theorem dX11_roll_93 : decode cX11_roll 93 = .ok (.aload_n 0, 1) := by decide +kernel
theorem dX11_roll_94 : decode cX11_roll 94 = .ok (.getfield 55, 3) := by decide +kernel
theorem dX11_roll_97 : decode cX11_roll 97 = .ok (.ifCond .le 5, 3) := by decide +kernel
theorem dX11_roll_100 : decode cX11_roll 100 = .ok (.iconst 0, 1) := by decide +kernel
theorem dX11_roll_101 : decode cX11_roll 101 = .ok (.ireturn, 1) := by decide +kernel
theorem dX11_roll_102 : decode cX11_roll 102 = .ok (.aload_n 0, 1) := by decide +kernel
theorem dX11_roll_103 : decode cX11_roll 103 = .ok (.invokevirtual 161, 3) := by decide +kernel
theorem dX11_roll_106 : decode cX11_roll 106 = .ok (.aload_n 0, 1) := by decide +kernel
theorem dX11_roll_107 : decode cX11_roll 107 = .ok (.aload_n 0, 1) := by decide +kernel
theorem dX11_roll_108 : decode cX11_roll 108 = .ok (.aload_n 0, 1) := by decide +kernel
theorem dX11_roll_109 : decode cX11_roll 109 = .ok (.getfield 7, 3) := by decide +kernel
theorem dX11_roll_112 : decode cX11_roll 112 = .ok (.bipush 57, 2) := by decide +kernel
theorem dX11_roll_114 : decode cX11_roll 114 = .ok (.iload_n 1, 1) := by decide +kernel
theorem dX11_roll_115 : decode cX11_roll 115 = .ok (.iadd, 1) := by decide +kernel
theorem dX11_roll_116 : decode cX11_roll 116 = .ok (.iaload, 1) := by decide +kernel
theorem dX11_roll_117 : decode cX11_roll 117 = .ok (.invokevirtual 96, 3) := by decide +kernel
theorem dX11_roll_120 : decode cX11_roll 120 = .ok (.iload_n 2, 1) := by decide +kernel
theorem dX11_roll_121 : decode cX11_roll 121 = .ok (.invokevirtual 84, 3) := by decide +kernel
theorem dX11_roll_124 : decode cX11_roll 124 = .ok (.istore_n 3, 1) := by decide +kernel
theorem dX11_roll_125 : decode cX11_roll 125 = .ok (.aload_n 0, 1) := by decide +kernel
theorem dX11_roll_126 : decode cX11_roll 126 = .ok (.getfield 7, 3) := by decide +kernel
theorem dX11_roll_129 : decode cX11_roll 129 = .ok (.bipush 53, 2) := by decide +kernel
theorem dX11_roll_131 : decode cX11_roll 131 = .ok (.iload_n 1, 1) := by decide +kernel
theorem dX11_roll_132 : decode cX11_roll 132 = .ok (.iadd, 1) := by decide +kernel
theorem dX11_roll_133 : decode cX11_roll 133 = .ok (.aload_n 0, 1) := by decide +kernel
theorem dX11_roll_134 : decode cX11_roll 134 = .ok (.aload_n 0, 1) := by decide +kernel
theorem dX11_roll_135 : decode cX11_roll 135 = .ok (.getfield 7, 3) := by decide +kernel
theorem dX11_roll_138 : decode cX11_roll 138 = .ok (.bipush 53, 2) := by decide +kernel
theorem dX11_roll_140 : decode cX11_roll 140 = .ok (.iload_n 1, 1) := by decide +kernel
theorem dX11_roll_141 : decode cX11_roll 141 = .ok (.iadd, 1) := by decide +kernel
theorem dX11_roll_142 : decode cX11_roll 142 = .ok (.iaload, 1) := by decide +kernel
theorem dX11_roll_143 : decode cX11_roll 143 = .ok (.iload_n 3, 1) := by decide +kernel
theorem dX11_roll_144 : decode cX11_roll 144 = .ok (.invokevirtual 80, 3) := by decide +kernel
theorem dX11_roll_147 : decode cX11_roll 147 = .ok (.iastore, 1) := by decide +kernel
theorem dX11_roll_148 : decode cX11_roll 148 = .ok (.aload_n 0, 1) := by decide +kernel
theorem dX11_roll_149 : decode cX11_roll 149 = .ok (.getfield 7, 3) := by decide +kernel
theorem dX11_roll_152 : decode cX11_roll 152 = .ok (.bipush 57, 2) := by decide +kernel
theorem dX11_roll_154 : decode cX11_roll 154 = .ok (.iload_n 1, 1) := by decide +kernel
theorem dX11_roll_155 : decode cX11_roll 155 = .ok (.iadd, 1) := by decide +kernel
theorem dX11_roll_156 : decode cX11_roll 156 = .ok (.dup2, 1) := by decide +kernel
theorem dX11_roll_157 : decode cX11_roll 157 = .ok (.iaload, 1) := by decide +kernel
theorem dX11_roll_158 : decode cX11_roll 158 = .ok (.iconst 1, 1) := by decide +kernel
theorem dX11_roll_159 : decode cX11_roll 159 = .ok (.iadd, 1) := by decide +kernel
theorem dX11_roll_160 : decode cX11_roll 160 = .ok (.iastore, 1) := by decide +kernel
theorem dX11_roll_161 : decode cX11_roll 161 = .ok (.aload_n 0, 1) := by decide +kernel
theorem dX11_roll_162 : decode cX11_roll 162 = .ok (.getfield 7, 3) := by decide +kernel
theorem dX11_roll_165 : decode cX11_roll 165 = .ok (.bipush 53, 2) := by decide +kernel
theorem dX11_roll_167 : decode cX11_roll 167 = .ok (.iload_n 1, 1) := by decide +kernel
theorem dX11_roll_168 : decode cX11_roll 168 = .ok (.iadd, 1) := by decide +kernel
theorem dX11_roll_169 : decode cX11_roll 169 = .ok (.iaload, 1) := by decide +kernel
theorem dX11_roll_170 : decode cX11_roll 170 = .ok (.ireturn, 1) := by decide +kernel
theorem dX11_append_0 : decode cX11_append 0 = .ok (.aload_n 0, 1) := by decide +kernel
theorem dX11_append_1 : decode cX11_append 1 = .ok (.iload_n 1, 1) := by decide +kernel
theorem dX11_append_2 : decode cX11_append 2 = .ok (.bipush 33, 2) := by decide +kernel
theorem dX11_append_4 : decode cX11_append 4 = .ok (.bipush 126, 2) := by decide +kernel
theorem dX11_append_6 : decode cX11_append 6 = .ok (.invokestatic 68, 3) := by decide +kernel
theorem dX11_append_9 : decode cX11_append 9 = .ok (.ifCond .ne 7, 3) := by decide +kernel
theorem dX11_append_12 : decode cX11_append 12 = .ok (.iconst 1, 1) := by decide +kernel
theorem dX11_append_13 : decode cX11_append 13 = .ok (.goto 17, 3) := by decide +kernel
theorem dX11_append_16 : decode cX11_append 16 = .ok (.aload_n 0, 1) := by decide +kernel
theorem dX11_append_17 : decode cX11_append 17 = .ok (.getfield 128, 3) := by decide +kernel
theorem dX11_append_20 : decode cX11_append 20 = .ok (.bipush 60, 2) := by decide +kernel
theorem dX11_append_22 : decode cX11_append 22 = .ok (.if_icmp .ne 7, 3) := by decide +kernel
theorem dX11_append_25 : decode cX11_append 25 = .ok (.iconst 2, 1) := by decide +kernel
theorem dX11_append_26 : decode cX11_append 26 = .ok (.goto 4, 3) := by decide +kernel
theorem dX11_append_29 : decode cX11_append 29 = .ok (.iconst 0, 1) := by decide +kernel
theorem dX11_append_30 : decode cX11_append 30 = .ok (.putfield 55, 3) := by decide +kernel
theorem dX11_append_33 : decode cX11_append 33 = .ok (.aload_n 0, 1) := by decide +kernel
theorem dX11_append_34 : decode cX11_append 34 = .ok (.getfield 55, 3) := by decide +kernel
theorem dX11_append_37 : decode cX11_append 37 = .ok (.ifCond .le 5, 3) := by decide +kernel
theorem dX11_append_40 : decode cX11_append 40 = .ok (.iconst 0, 1) := by decide +kernel
theorem dX11_append_41 : decode cX11_append 41 = .ok (.ireturn, 1) := by decide +kernel
theorem dX11_append_42 : decode cX11_append 42 = .ok (.aload_n 0, 1) := by decide +kernel
theorem dX11_append_43 : decode cX11_append 43 = .ok (.getfield 24, 3) := by decide +kernel
theorem dX11_append_46 : decode cX11_append 46 = .ok (.aload_n 0, 1) := by decide +kernel
theorem dX11_append_47 : decode cX11_append 47 = .ok (.getfield 128, 3) := by decide +kernel
theorem dX11_append_50 : decode cX11_append 50 = .ok (.iload_n 1, 1) := by decide +kernel
theorem dX11_append_51 : decode cX11_append 51 = .ok (.iastore, 1) := by decide +kernel
theorem dX11_append_52 : decode cX11_append 52 = .ok (.aload_n 0, 1) := by decide +kernel
theorem dX11_append_53 : decode cX11_append 53 = .ok (.dup, 1) := by decide +kernel
theorem dX11_append_54 : decode cX11_append 54 = .ok (.getfield 128, 3) := by decide +kernel
theorem dX11_append_57 : decode cX11_append 57 = .ok (.iconst 1, 1) := by decide +kernel
theorem dX11_append_58 : decode cX11_append 58 = .ok (.iadd, 1) := by decide +kernel
theorem dX11_append_59 : decode cX11_append 59 = .ok (.putfield 128, 3) := by decide +kernel
theorem dX11_append_62 : decode cX11_append 62 = .ok (.aload_n 0, 1) := by decide +kernel
theorem dX11_append_63 : decode cX11_append 63 = .ok (.getfield 128, 3) := by decide +kernel
theorem dX11_append_66 : decode cX11_append 66 = .ok (.ireturn, 1) := by decide +kernel
theorem dX11_clearBuffer_0 : decode cX11_clearBuffer 0 = .ok (.aload_n 0, 1) := by decide +kernel
theorem dX11_clearBuffer_1 : decode cX11_clearBuffer 1 = .ok (.iconst 0, 1) := by decide +kernel
theorem dX11_clearBuffer_2 : decode cX11_clearBuffer 2 = .ok (.putfield 55, 3) := by decide +kernel
theorem dX11_clearBuffer_5 : decode cX11_clearBuffer 5 = .ok (.aload_n 0, 1) := by decide +kernel
theorem dX11_clearBuffer_6 : decode cX11_clearBuffer 6 = .ok (.getfield 128, 3) := by decide +kernel
theorem dX11_clearBuffer_9 : decode cX11_clearBuffer 9 = .ok (.istore_n 1, 1) := by decide +kernel
theorem dX11_clearBuffer_10 : decode cX11_clearBuffer 10 = .ok (.aload_n 0, 1) := by decide +kernel
theorem dX11_clearBuffer_11 : decode cX11_clearBuffer 11 = .ok (.iconst 0, 1) := by decide +kernel
theorem dX11_clearBuffer_12 : decode cX11_clearBuffer 12 = .ok (.putfield 128, 3) := by decide +kernel
theorem dX11_clearBuffer_15 : decode cX11_clearBuffer 15 = .ok (.iload_n 1, 1) := by decide +kernel
theorem dX11_clearBuffer_16 : decode cX11_clearBuffer 16 = .ok (.ireturn, 1) := by decide +kernel
theorem dX11_takesDigit_0 : decode cX11_takesDigit 0 = .ok (.aload_n 0, 1) := by decide +kernel
theorem dX11_takesDigit_1 : decode cX11_takesDigit 1 = .ok (.getfield 189, 3) := by decide +kernel
theorem dX11_takesDigit_4 : decode cX11_takesDigit 4 = .ok (.iconst (-1), 1) := by decide +kernel
theorem dX11_takesDigit_5 : decode cX11_takesDigit 5 = .ok (.if_icmp .ne 7, 3) := by decide +kernel
theorem dX11_takesDigit_8 : decode cX11_takesDigit 8 = .ok (.iload_n 1, 1) := by decide +kernel
theorem dX11_takesDigit_9 : decode cX11_takesDigit 9 = .ok (.goto 12, 3) := by decide +kernel
theorem dX11_takesDigit_12 : decode cX11_takesDigit 12 = .ok (.bipush 10, 2) := by decide +kernel
theorem dX11_takesDigit_14 : decode cX11_takesDigit 14 = .ok (.aload_n 0, 1) := by decide +kernel
theorem dX11_takesDigit_15 : decode cX11_takesDigit 15 = .ok (.getfield 189, 3) := by decide +kernel
theorem dX11_takesDigit_18 : decode cX11_takesDigit 18 = .ok (.imul, 1) := by decide +kernel
theorem dX11_takesDigit_19 : decode cX11_takesDigit 19 = .ok (.iload_n 1, 1) := by decide +kernel
theorem dX11_takesDigit_20 : decode cX11_takesDigit 20 = .ok (.iadd, 1) := by decide +kernel
theorem dX11_takesDigit_21 : decode cX11_takesDigit 21 = .ok (.istore_n 2, 1) := by decide +kernel
theorem dX11_takesDigit_22 : decode cX11_takesDigit 22 = .ok (.iload_n 1, 1) := by decide +kernel
theorem dX11_takesDigit_23 : decode cX11_takesDigit 23 = .ok (.iconst 0, 1) := by decide +kernel
theorem dX11_takesDigit_24 : decode cX11_takesDigit 24 = .ok (.bipush 9, 2) := by decide +kernel
theorem dX11_takesDigit_26 : decode cX11_takesDigit 26 = .ok (.invokestatic 68, 3) := by decide +kernel
theorem dX11_takesDigit_29 : decode cX11_takesDigit 29 = .ok (.ifCond .eq 20, 3) := by decide +kernel
theorem dX11_takesDigit_32 : decode cX11_takesDigit 32 = .ok (.aload_n 0, 1) := by decide +kernel
theorem dX11_takesDigit_33 : decode cX11_takesDigit 33 = .ok (.getfield 189, 3) := by decide +kernel
theorem dX11_takesDigit_36 : decode cX11_takesDigit 36 = .ok (.ifCond .eq 13, 3) := by decide +kernel
theorem dX11_takesDigit_39 : decode cX11_takesDigit 39 = .ok (.iload_n 2, 1) := by decide +kernel
theorem dX11_takesDigit_40 : decode cX11_takesDigit 40 = .ok (.bipush 40, 2) := by decide +kernel
theorem dX11_takesDigit_42 : decode cX11_takesDigit 42 = .ok (.if_icmp .gt 7, 3) := by decide +kernel
theorem dX11_takesDigit_45 : decode cX11_takesDigit 45 = .ok (.iconst 1, 1) := by decide +kernel
theorem dX11_takesDigit_46 : decode cX11_takesDigit 46 = .ok (.goto 4, 3) := by decide +kernel
theorem dX11_takesDigit_49 : decode cX11_takesDigit 49 = .ok (.iconst 0, 1) := by decide +kernel
theorem dX11_takesDigit_50 : decode cX11_takesDigit 50 = .ok (.istore_n 3, 1) := by decide +kernel
theorem dX11_takesDigit_51 : decode cX11_takesDigit 51 = .ok (.aload_n 0, 1) := by decide +kernel
theorem dX11_takesDigit_52 : decode cX11_takesDigit 52 = .ok (.getfield 192, 3) := by decide +kernel
theorem dX11_takesDigit_55 : decode cX11_takesDigit 55 = .ok (.ifCond .ne 55, 3) := by decide +kernel
theorem dX11_takesDigit_58 : decode cX11_takesDigit 58 = .ok (.iload_n 3, 1) := by decide +kernel
theorem dX11_takesDigit_59 : decode cX11_takesDigit 59 = .ok (.ifCond .eq 49, 3) := by decide +kernel
theorem dX11_takesDigit_62 : decode cX11_takesDigit 62 = .ok (.aload_n 0, 1) := by decide +kernel
theorem dX11_takesDigit_63 : decode cX11_takesDigit 63 = .ok (.getfield 189, 3) := by decide +kernel
theorem dX11_takesDigit_66 : decode cX11_takesDigit 66 = .ok (.iconst (-1), 1) := by decide +kernel
theorem dX11_takesDigit_67 : decode cX11_takesDigit 67 = .ok (.if_icmp .ne 26, 3) := by decide +kernel
theorem dX11_takesDigit_70 : decode cX11_takesDigit 70 = .ok (.iload_n 2, 1) := by decide +kernel
theorem dX11_takesDigit_71 : decode cX11_takesDigit 71 = .ok (.iconst 1, 1) := by decide +kernel
theorem dX11_takesDigit_72 : decode cX11_takesDigit 72 = .ok (.iconst 4, 1) := by decide +kernel
theorem dX11_takesDigit_73 : decode cX11_takesDigit 73 = .ok (.invokestatic 68, 3) := by decide +kernel
theorem dX11_takesDigit_76 : decode cX11_takesDigit 76 = .ok (.ifCond .ne 28, 3) := by decide +kernel
theorem dX11_takesDigit_79 : decode cX11_takesDigit 79 = .ok (.iload_n 2, 1) := by decide +kernel
theorem dX11_takesDigit_80 : decode cX11_takesDigit 80 = .ok (.bipush 8, 2) := by decide +kernel
theorem dX11_takesDigit_82 : decode cX11_takesDigit 82 = .ok (.bipush 9, 2) := by decide +kernel
theorem dX11_takesDigit_84 : decode cX11_takesDigit 84 = .ok (.invokestatic 68, 3) := by decide +kernel
theorem dX11_takesDigit_87 : decode cX11_takesDigit 87 = .ok (.ifCond .eq 21, 3) := by decide +kernel
theorem dX11_takesDigit_90 : decode cX11_takesDigit 90 = .ok (.goto 14, 3) := by decide +kernel
theorem dX11_takesDigit_93 : decode cX11_takesDigit 93 = .ok (.iload_n 2, 1) := by decide +kernel
theorem dX11_takesDigit_94 : decode cX11_takesDigit 94 = .ok (.bipush 10, 2) := by decide +kernel
theorem dX11_takesDigit_96 : decode cX11_takesDigit 96 = .ok (.bipush 40, 2) := by decide +kernel
theorem dX11_takesDigit_98 : decode cX11_takesDigit 98 = .ok (.invokestatic 68, 3) := by decide +kernel
theorem dX11_takesDigit_101 : decode cX11_takesDigit 101 = .ok (.ifCond .eq 7, 3) := by decide +kernel
theorem dX11_takesDigit_104 : decode cX11_takesDigit 104 = .ok (.iconst 1, 1) := by decide +kernel
theorem dX11_takesDigit_105 : decode cX11_takesDigit 105 = .ok (.goto 4, 3) := by decide +kernel
theorem dX11_takesDigit_108 : decode cX11_takesDigit 108 = .ok (.iconst 0, 1) := by decide +kernel
theorem dX11_takesDigit_109 : decode cX11_takesDigit 109 = .ok (.istore_n 3, 1) := by decide +kernel
theorem dX11_takesDigit_110 : decode cX11_takesDigit 110 = .ok (.aload_n 0, 1) := by decide +kernel
theorem dX11_takesDigit_111 : decode cX11_takesDigit 111 = .ok (.iload_n 3, 1) := by decide +kernel
theorem dX11_takesDigit_112 : decode cX11_takesDigit 112 = .ok (.ifCond .eq 7, 3) := by decide +kernel
theorem dX11_takesDigit_115 : decode cX11_takesDigit 115 = .ok (.iload_n 2, 1) := by decide +kernel
theorem dX11_takesDigit_116 : decode cX11_takesDigit 116 = .ok (.goto 7, 3) := by decide +kernel
theorem dX11_takesDigit_119 : decode cX11_takesDigit 119 = .ok (.aload_n 0, 1) := by decide +kernel
theorem dX11_takesDigit_120 : decode cX11_takesDigit 120 = .ok (.getfield 189, 3) := by decide +kernel
theorem dX11_takesDigit_123 : decode cX11_takesDigit 123 = .ok (.putfield 189, 3) := by decide +kernel
theorem dX11_takesDigit_126 : decode cX11_takesDigit 126 = .ok (.iload_n 3, 1) := by decide +kernel
theorem dX11_takesDigit_127 : decode cX11_takesDigit 127 = .ok (.ireturn, 1) := by decide +kernel
theorem dX11_ends_0 : decode cX11_ends 0 = .ok (.aload_n 0, 1) := by decide +kernel
theorem dX11_ends_1 : decode cX11_ends 1 = .ok (.getfield 192, 3) := by decide +kernel
theorem dX11_ends_4 : decode cX11_ends 4 = .ok (.ifCond .ne 14, 3) := by decide +kernel
theorem dX11_ends_7 : decode cX11_ends 7 = .ok (.aload_n 0, 1) := by decide +kernel
theorem dX11_ends_8 : decode cX11_ends 8 = .ok (.aload_n 0, 1) := by decide +kernel
theorem dX11_ends_9 : decode cX11_ends 9 = .ok (.getfield 189, 3) := by decide +kernel
theorem dX11_ends_12 : decode cX11_ends 12 = .ok (.putfield 141, 3) := by decide +kernel
theorem dX11_ends_15 : decode cX11_ends 15 = .ok (.goto 50, 3) := by decide +kernel
theorem dX11_ends_18 : decode cX11_ends 18 = .ok (.aload_n 0, 1) := by decide +kernel
theorem dX11_ends_19 : decode cX11_ends 19 = .ok (.getfield 192, 3) := by decide +kernel
theorem dX11_ends_22 : decode cX11_ends 22 = .ok (.iconst 1, 1) := by decide +kernel
theorem dX11_ends_23 : decode cX11_ends 23 = .ok (.if_icmp .ne 19, 3) := by decide +kernel
theorem dX11_ends_26 : decode cX11_ends 26 = .ok (.aload_n 0, 1) := by decide +kernel
theorem dX11_ends_27 : decode cX11_ends 27 = .ok (.getfield 46, 3) := by decide +kernel
theorem dX11_ends_30 : decode cX11_ends 30 = .ok (.aload_n 0, 1) := by decide +kernel
theorem dX11_ends_31 : decode cX11_ends 31 = .ok (.getfield 135, 3) := by decide +kernel
theorem dX11_ends_34 : decode cX11_ends 34 = .ok (.aload_n 0, 1) := by decide +kernel
theorem dX11_ends_35 : decode cX11_ends 35 = .ok (.getfield 189, 3) := by decide +kernel
theorem dX11_ends_38 : decode cX11_ends 38 = .ok (.iastore, 1) := by decide +kernel
theorem dX11_ends_39 : decode cX11_ends 39 = .ok (.goto 26, 3) := by decide +kernel
theorem dX11_ends_42 : decode cX11_ends 42 = .ok (.aload_n 0, 1) := by decide +kernel
theorem dX11_ends_43 : decode cX11_ends 43 = .ok (.getfield 49, 3) := by decide +kernel
theorem dX11_ends_46 : decode cX11_ends 46 = .ok (.aload_n 0, 1) := by decide +kernel
theorem dX11_ends_47 : decode cX11_ends 47 = .ok (.getfield 135, 3) := by decide +kernel
theorem dX11_ends_50 : decode cX11_ends 50 = .ok (.aload_n 0, 1) := by decide +kernel
theorem dX11_ends_51 : decode cX11_ends 51 = .ok (.getfield 189, 3) := by decide +kernel
theorem dX11_ends_54 : decode cX11_ends 54 = .ok (.iastore, 1) := by decide +kernel
theorem dX11_ends_55 : decode cX11_ends 55 = .ok (.aload_n 0, 1) := by decide +kernel
theorem dX11_ends_56 : decode cX11_ends 56 = .ok (.dup, 1) := by decide +kernel
theorem dX11_ends_57 : decode cX11_ends 57 = .ok (.getfield 135, 3) := by decide +kernel
theorem dX11_ends_60 : decode cX11_ends 60 = .ok (.iconst 1, 1) := by decide +kernel
theorem dX11_ends_61 : decode cX11_ends 61 = .ok (.iadd, 1) := by decide +kernel
theorem dX11_ends_62 : decode cX11_ends 62 = .ok (.putfield 135, 3) := by decide +kernel
theorem dX11_ends_65 : decode cX11_ends 65 = .ok (.aload_n 0, 1) := by decide +kernel
theorem dX11_ends_66 : decode cX11_ends 66 = .ok (.iconst (-1), 1) := by decide +kernel
theorem dX11_ends_67 : decode cX11_ends 67 = .ok (.putfield 189, 3) := by decide +kernel
theorem dX11_ends_70 : decode cX11_ends 70 = .ok (.aload_n 0, 1) := by decide +kernel
theorem dX11_ends_71 : decode cX11_ends 71 = .ok (.iload_n 1, 1) := by decide +kernel
theorem dX11_ends_72 : decode cX11_ends 72 = .ok (.putfield 192, 3) := by decide +kernel
theorem dX11_ends_75 : decode cX11_ends 75 = .ok (.iconst 1, 1) := by decide +kernel
theorem dX11_ends_76 : decode cX11_ends 76 = .ok (.ireturn, 1) := by decide +kernel
theorem dX11_takesOfBoard_0 : decode cX11_takesOfBoard 0 = .ok (.iload_n 1, 1) := by decide +kernel
theorem dX11_takesOfBoard_1 : decode cX11_takesOfBoard 1 = .ok (.bipush 58, 2) := by decide +kernel
theorem dX11_takesOfBoard_3 : decode cX11_takesOfBoard 3 = .ok (.if_icmp .ne 25, 3) := by decide +kernel
theorem dX11_takesOfBoard_6 : decode cX11_takesOfBoard 6 = .ok (.aload_n 0, 1) := by decide +kernel
theorem dX11_takesOfBoard_7 : decode cX11_takesOfBoard 7 = .ok (.getfield 192, 3) := by decide +kernel
theorem dX11_takesOfBoard_10 : decode cX11_takesOfBoard 10 = .ok (.ifCond .ne 18, 3) := by decide +kernel
theorem dX11_takesOfBoard_13 : decode cX11_takesOfBoard 13 = .ok (.aload_n 0, 1) := by decide +kernel
theorem dX11_takesOfBoard_14 : decode cX11_takesOfBoard 14 = .ok (.getfield 189, 3) := by decide +kernel
theorem dX11_takesOfBoard_17 : decode cX11_takesOfBoard 17 = .ok (.bipush 7, 2) := by decide +kernel
theorem dX11_takesOfBoard_19 : decode cX11_takesOfBoard 19 = .ok (.if_icmp .le 9, 3) := by decide +kernel
theorem dX11_takesOfBoard_22 : decode cX11_takesOfBoard 22 = .ok (.aload_n 0, 1) := by decide +kernel
theorem dX11_takesOfBoard_23 : decode cX11_takesOfBoard 23 = .ok (.iconst 1, 1) := by decide +kernel
theorem dX11_takesOfBoard_24 : decode cX11_takesOfBoard 24 = .ok (.invokevirtual 195, 3) := by decide +kernel
theorem dX11_takesOfBoard_27 : decode cX11_takesOfBoard 27 = .ok (.ireturn, 1) := by decide +kernel
theorem dX11_takesOfBoard_28 : decode cX11_takesOfBoard 28 = .ok (.iload_n 1, 1) := by decide +kernel
theorem dX11_takesOfBoard_29 : decode cX11_takesOfBoard 29 = .ok (.bipush 62, 2) := by decide +kernel
theorem dX11_takesOfBoard_31 : decode cX11_takesOfBoard 31 = .ok (.if_icmp .ne 25, 3) := by decide +kernel
theorem dX11_takesOfBoard_34 : decode cX11_takesOfBoard 34 = .ok (.aload_n 0, 1) := by decide +kernel
theorem dX11_takesOfBoard_35 : decode cX11_takesOfBoard 35 = .ok (.getfield 192, 3) := by decide +kernel
theorem dX11_takesOfBoard_38 : decode cX11_takesOfBoard 38 = .ok (.iconst 1, 1) := by decide +kernel
theorem dX11_takesOfBoard_39 : decode cX11_takesOfBoard 39 = .ok (.if_icmp .ne 17, 3) := by decide +kernel
theorem dX11_takesOfBoard_42 : decode cX11_takesOfBoard 42 = .ok (.aload_n 0, 1) := by decide +kernel
theorem dX11_takesOfBoard_43 : decode cX11_takesOfBoard 43 = .ok (.getfield 189, 3) := by decide +kernel
theorem dX11_takesOfBoard_46 : decode cX11_takesOfBoard 46 = .ok (.iconst (-1), 1) := by decide +kernel
theorem dX11_takesOfBoard_47 : decode cX11_takesOfBoard 47 = .ok (.if_icmp .eq 9, 3) := by decide +kernel
theorem dX11_takesOfBoard_50 : decode cX11_takesOfBoard 50 = .ok (.aload_n 0, 1) := by decide +kernel
theorem dX11_takesOfBoard_51 : decode cX11_takesOfBoard 51 = .ok (.iconst 2, 1) := by decide +kernel
theorem dX11_takesOfBoard_52 : decode cX11_takesOfBoard 52 = .ok (.invokevirtual 195, 3) := by decide +kernel
theorem dX11_takesOfBoard_55 : decode cX11_takesOfBoard 55 = .ok (.ireturn, 1) := by decide +kernel
theorem dX11_takesOfBoard_56 : decode cX11_takesOfBoard 56 = .ok (.iload_n 1, 1) := by decide +kernel
theorem dX11_takesOfBoard_57 : decode cX11_takesOfBoard 57 = .ok (.bipush 44, 2) := by decide +kernel
theorem dX11_takesOfBoard_59 : decode cX11_takesOfBoard 59 = .ok (.if_icmp .ne 25, 3) := by decide +kernel
theorem dX11_takesOfBoard_62 : decode cX11_takesOfBoard 62 = .ok (.aload_n 0, 1) := by decide +kernel
theorem dX11_takesOfBoard_63 : decode cX11_takesOfBoard 63 = .ok (.getfield 192, 3) := by decide +kernel
theorem dX11_takesOfBoard_66 : decode cX11_takesOfBoard 66 = .ok (.iconst 2, 1) := by decide +kernel
theorem dX11_takesOfBoard_67 : decode cX11_takesOfBoard 67 = .ok (.if_icmp .ne 17, 3) := by decide +kernel
theorem dX11_takesOfBoard_70 : decode cX11_takesOfBoard 70 = .ok (.aload_n 0, 1) := by decide +kernel
theorem dX11_takesOfBoard_71 : decode cX11_takesOfBoard 71 = .ok (.getfield 189, 3) := by decide +kernel
theorem dX11_takesOfBoard_74 : decode cX11_takesOfBoard 74 = .ok (.iconst (-1), 1) := by decide +kernel
theorem dX11_takesOfBoard_75 : decode cX11_takesOfBoard 75 = .ok (.if_icmp .eq 9, 3) := by decide +kernel
theorem dX11_takesOfBoard_78 : decode cX11_takesOfBoard 78 = .ok (.aload_n 0, 1) := by decide +kernel
theorem dX11_takesOfBoard_79 : decode cX11_takesOfBoard 79 = .ok (.iconst 1, 1) := by decide +kernel
theorem dX11_takesOfBoard_80 : decode cX11_takesOfBoard 80 = .ok (.invokevirtual 195, 3) := by decide +kernel
theorem dX11_takesOfBoard_83 : decode cX11_takesOfBoard 83 = .ok (.ireturn, 1) := by decide +kernel
theorem dX11_takesOfBoard_84 : decode cX11_takesOfBoard 84 = .ok (.aload_n 0, 1) := by decide +kernel
theorem dX11_takesOfBoard_85 : decode cX11_takesOfBoard 85 = .ok (.iload_n 1, 1) := by decide +kernel
theorem dX11_takesOfBoard_86 : decode cX11_takesOfBoard 86 = .ok (.bipush 48, 2) := by decide +kernel
theorem dX11_takesOfBoard_88 : decode cX11_takesOfBoard 88 = .ok (.isub, 1) := by decide +kernel
theorem dX11_takesOfBoard_89 : decode cX11_takesOfBoard 89 = .ok (.invokevirtual 198, 3) := by decide +kernel
theorem dX11_takesOfBoard_92 : decode cX11_takesOfBoard 92 = .ok (.ireturn, 1) := by decide +kernel
theorem dX11_rightUpTo_0 : decode cX11_rightUpTo 0 = .ok (.aload_n 0, 1) := by decide +kernel
theorem dX11_rightUpTo_1 : decode cX11_rightUpTo 1 = .ok (.iconst 0, 1) := by decide +kernel
theorem dX11_rightUpTo_2 : decode cX11_rightUpTo 2 = .ok (.putfield 135, 3) := by decide +kernel
theorem dX11_rightUpTo_5 : decode cX11_rightUpTo 5 = .ok (.aload_n 0, 1) := by decide +kernel
theorem dX11_rightUpTo_6 : decode cX11_rightUpTo 6 = .ok (.iconst (-1), 1) := by decide +kernel
theorem dX11_rightUpTo_7 : decode cX11_rightUpTo 7 = .ok (.putfield 189, 3) := by decide +kernel
theorem dX11_rightUpTo_10 : decode cX11_rightUpTo 10 = .ok (.aload_n 0, 1) := by decide +kernel
theorem dX11_rightUpTo_11 : decode cX11_rightUpTo 11 = .ok (.iconst 0, 1) := by decide +kernel
theorem dX11_rightUpTo_12 : decode cX11_rightUpTo 12 = .ok (.putfield 192, 3) := by decide +kernel
theorem dX11_rightUpTo_15 : decode cX11_rightUpTo 15 = .ok (.iconst 0, 1) := by decide +kernel
theorem dX11_rightUpTo_16 : decode cX11_rightUpTo 16 = .ok (.istore_n 2, 1) := by decide +kernel
theorem dX11_rightUpTo_17 : decode cX11_rightUpTo 17 = .ok (.iload_n 2, 1) := by decide +kernel
theorem dX11_rightUpTo_18 : decode cX11_rightUpTo 18 = .ok (.aload_n 0, 1) := by decide +kernel
theorem dX11_rightUpTo_19 : decode cX11_rightUpTo 19 = .ok (.getfield 128, 3) := by decide +kernel
theorem dX11_rightUpTo_22 : decode cX11_rightUpTo 22 = .ok (.if_icmp .ge 51, 3) := by decide +kernel
theorem dX11_rightUpTo_25 : decode cX11_rightUpTo 25 = .ok (.iload_n 1, 1) := by decide +kernel
theorem dX11_rightUpTo_26 : decode cX11_rightUpTo 26 = .ok (.ifCond .eq 19, 3) := by decide +kernel
theorem dX11_rightUpTo_29 : decode cX11_rightUpTo 29 = .ok (.aload_n 0, 1) := by decide +kernel
theorem dX11_rightUpTo_30 : decode cX11_rightUpTo 30 = .ok (.aload_n 0, 1) := by decide +kernel
theorem dX11_rightUpTo_31 : decode cX11_rightUpTo 31 = .ok (.getfield 24, 3) := by decide +kernel
theorem dX11_rightUpTo_34 : decode cX11_rightUpTo 34 = .ok (.iload_n 2, 1) := by decide +kernel
theorem dX11_rightUpTo_35 : decode cX11_rightUpTo 35 = .ok (.iaload, 1) := by decide +kernel
theorem dX11_rightUpTo_36 : decode cX11_rightUpTo 36 = .ok (.invokevirtual 201, 3) := by decide +kernel
theorem dX11_rightUpTo_39 : decode cX11_rightUpTo 39 = .ok (.ifCond .eq 34, 3) := by decide +kernel
theorem dX11_rightUpTo_42 : decode cX11_rightUpTo 42 = .ok (.goto 25, 3) := by decide +kernel
theorem dX11_rightUpTo_45 : decode cX11_rightUpTo 45 = .ok (.iload_n 2, 1) := by decide +kernel
theorem dX11_rightUpTo_46 : decode cX11_rightUpTo 46 = .ok (.bipush 6, 2) := by decide +kernel
theorem dX11_rightUpTo_48 : decode cX11_rightUpTo 48 = .ok (.if_icmp .ge 25, 3) := by decide +kernel
theorem dX11_rightUpTo_51 : decode cX11_rightUpTo 51 = .ok (.aload_n 0, 1) := by decide +kernel
theorem dX11_rightUpTo_52 : decode cX11_rightUpTo 52 = .ok (.getfield 24, 3) := by decide +kernel
theorem dX11_rightUpTo_55 : decode cX11_rightUpTo 55 = .ok (.iload_n 2, 1) := by decide +kernel
theorem dX11_rightUpTo_56 : decode cX11_rightUpTo 56 = .ok (.iaload, 1) := by decide +kernel
theorem dX11_rightUpTo_57 : decode cX11_rightUpTo 57 = .ok (.bipush 49, 2) := by decide +kernel
theorem dX11_rightUpTo_59 : decode cX11_rightUpTo 59 = .ok (.bipush 57, 2) := by decide +kernel
theorem dX11_rightUpTo_61 : decode cX11_rightUpTo 61 = .ok (.invokestatic 68, 3) := by decide +kernel
theorem dX11_rightUpTo_64 : decode cX11_rightUpTo 64 = .ok (.ifCond .eq 9, 3) := by decide +kernel
theorem dX11_rightUpTo_67 : decode cX11_rightUpTo 67 = .ok (.iinc 2 1, 3) := by decide +kernel
theorem dX11_rightUpTo_70 : decode cX11_rightUpTo 70 = .ok (.goto (-53), 3) := by decide +kernel
theorem dX11_rightUpTo_73 : decode cX11_rightUpTo 73 = .ok (.iload_n 2, 1) := by decide +kernel
theorem dX11_rightUpTo_74 : decode cX11_rightUpTo 74 = .ok (.ireturn, 1) := by decide +kernel
theorem dX11_isWholeBoard_0 : decode cX11_isWholeBoard 0 = .ok (.aload_n 0, 1) := by decide +kernel
theorem dX11_isWholeBoard_1 : decode cX11_isWholeBoard 1 = .ok (.getfield 192, 3) := by decide +kernel
theorem dX11_isWholeBoard_4 : decode cX11_isWholeBoard 4 = .ok (.ifCond .ne 12, 3) := by decide +kernel
theorem dX11_isWholeBoard_7 : decode cX11_isWholeBoard 7 = .ok (.aload_n 0, 1) := by decide +kernel
theorem dX11_isWholeBoard_8 : decode cX11_isWholeBoard 8 = .ok (.getfield 189, 3) := by decide +kernel
theorem dX11_isWholeBoard_11 : decode cX11_isWholeBoard 11 = .ok (.bipush 7, 2) := by decide +kernel
theorem dX11_isWholeBoard_13 : decode cX11_isWholeBoard 13 = .ok (.if_icmp .gt 19, 3) := by decide +kernel
theorem dX11_isWholeBoard_16 : decode cX11_isWholeBoard 16 = .ok (.aload_n 0, 1) := by decide +kernel
theorem dX11_isWholeBoard_17 : decode cX11_isWholeBoard 17 = .ok (.getfield 192, 3) := by decide +kernel
theorem dX11_isWholeBoard_20 : decode cX11_isWholeBoard 20 = .ok (.iconst 2, 1) := by decide +kernel
theorem dX11_isWholeBoard_21 : decode cX11_isWholeBoard 21 = .ok (.if_icmp .ne 15, 3) := by decide +kernel
theorem dX11_isWholeBoard_24 : decode cX11_isWholeBoard 24 = .ok (.aload_n 0, 1) := by decide +kernel
theorem dX11_isWholeBoard_25 : decode cX11_isWholeBoard 25 = .ok (.getfield 189, 3) := by decide +kernel
theorem dX11_isWholeBoard_28 : decode cX11_isWholeBoard 28 = .ok (.iconst (-1), 1) := by decide +kernel
theorem dX11_isWholeBoard_29 : decode cX11_isWholeBoard 29 = .ok (.if_icmp .eq 7, 3) := by decide +kernel
theorem dX11_isWholeBoard_32 : decode cX11_isWholeBoard 32 = .ok (.iconst 1, 1) := by decide +kernel
theorem dX11_isWholeBoard_33 : decode cX11_isWholeBoard 33 = .ok (.goto 4, 3) := by decide +kernel
theorem dX11_isWholeBoard_36 : decode cX11_isWholeBoard 36 = .ok (.iconst 0, 1) := by decide +kernel
theorem dX11_isWholeBoard_37 : decode cX11_isWholeBoard 37 = .ok (.istore_n 1, 1) := by decide +kernel
theorem dX11_isWholeBoard_38 : decode cX11_isWholeBoard 38 = .ok (.iload_n 1, 1) := by decide +kernel
theorem dX11_isWholeBoard_39 : decode cX11_isWholeBoard 39 = .ok (.ifCond .eq 15, 3) := by decide +kernel
theorem dX11_isWholeBoard_42 : decode cX11_isWholeBoard 42 = .ok (.aload_n 0, 1) := by decide +kernel
theorem dX11_isWholeBoard_43 : decode cX11_isWholeBoard 43 = .ok (.iconst 3, 1) := by decide +kernel
theorem dX11_isWholeBoard_44 : decode cX11_isWholeBoard 44 = .ok (.invokevirtual 195, 3) := by decide +kernel
theorem dX11_isWholeBoard_47 : decode cX11_isWholeBoard 47 = .ok (.ifCond .eq 7, 3) := by decide +kernel
theorem dX11_isWholeBoard_50 : decode cX11_isWholeBoard 50 = .ok (.iconst 1, 1) := by decide +kernel
theorem dX11_isWholeBoard_51 : decode cX11_isWholeBoard 51 = .ok (.goto 4, 3) := by decide +kernel
theorem dX11_isWholeBoard_54 : decode cX11_isWholeBoard 54 = .ok (.iconst 0, 1) := by decide +kernel
theorem dX11_isWholeBoard_55 : decode cX11_isWholeBoard 55 = .ok (.ireturn, 1) := by decide +kernel
theorem dX11_firstError_0 : decode cX11_firstError 0 = .ok (.aload_n 0, 1) := by decide +kernel
theorem dX11_firstError_1 : decode cX11_firstError 1 = .ok (.iconst 0, 1) := by decide +kernel
theorem dX11_firstError_2 : decode cX11_firstError 2 = .ok (.putfield 55, 3) := by decide +kernel
theorem dX11_firstError_5 : decode cX11_firstError 5 = .ok (.aload_n 0, 1) := by decide +kernel
theorem dX11_firstError_6 : decode cX11_firstError 6 = .ok (.iload_n 1, 1) := by decide +kernel
theorem dX11_firstError_7 : decode cX11_firstError 7 = .ok (.invokevirtual 124, 3) := by decide +kernel
theorem dX11_firstError_10 : decode cX11_firstError 10 = .ok (.ireturn, 1) := by decide +kernel
theorem dX11_undo_0 : decode cX11_undo 0 = .ok (.aload_n 0, 1) := by decide +kernel
theorem dX11_undo_1 : decode cX11_undo 1 = .ok (.aload_n 0, 1) := by decide +kernel
theorem dX11_undo_2 : decode cX11_undo 2 = .ok (.getfield 62, 3) := by decide +kernel
theorem dX11_undo_5 : decode cX11_undo 5 = .ok (.ifCond .le 7, 3) := by decide +kernel
theorem dX11_undo_8 : decode cX11_undo 8 = .ok (.iconst 0, 1) := by decide +kernel
theorem dX11_undo_9 : decode cX11_undo 9 = .ok (.goto 4, 3) := by decide +kernel
theorem dX11_undo_12 : decode cX11_undo 12 = .ok (.iconst 1, 1) := by decide +kernel
theorem dX11_undo_13 : decode cX11_undo 13 = .ok (.putfield 55, 3) := by decide +kernel
theorem dX11_undo_16 : decode cX11_undo 16 = .ok (.aload_n 0, 1) := by decide +kernel
theorem dX11_undo_17 : decode cX11_undo 17 = .ok (.getfield 55, 3) := by decide +kernel
theorem dX11_undo_20 : decode cX11_undo 20 = .ok (.ifCond .le 5, 3) := by decide +kernel
theorem dX11_undo_23 : decode cX11_undo 23 = .ok (.iconst 0, 1) := by decide +kernel
theorem dX11_undo_24 : decode cX11_undo 24 = .ok (.ireturn, 1) := by decide +kernel
theorem dX11_undo_25 : decode cX11_undo 25 = .ok (.aload_n 0, 1) := by decide +kernel
theorem dX11_undo_26 : decode cX11_undo 26 = .ok (.invokevirtual 204, 3) := by decide +kernel
theorem dX11_undo_29 : decode cX11_undo 29 = .ok (.aload_n 0, 1) := by decide +kernel
theorem dX11_undo_30 : decode cX11_undo 30 = .ok (.getfield 62, 3) := by decide +kernel
theorem dX11_undo_33 : decode cX11_undo 33 = .ok (.ireturn, 1) := by decide +kernel
theorem dX11_endingAt_0 : decode cX11_endingAt 0 = .ok (.iconst 0, 1) := by decide +kernel
theorem dX11_endingAt_1 : decode cX11_endingAt 1 = .ok (.istore_n 2, 1) := by decide +kernel
theorem dX11_endingAt_2 : decode cX11_endingAt 2 = .ok (.iconst 0, 1) := by decide +kernel
theorem dX11_endingAt_3 : decode cX11_endingAt 3 = .ok (.istore_n 3, 1) := by decide +kernel
theorem dX11_endingAt_4 : decode cX11_endingAt 4 = .ok (.iload_n 3, 1) := by decide +kernel
theorem dX11_endingAt_5 : decode cX11_endingAt 5 = .ok (.aload_n 0, 1) := by decide +kernel
theorem dX11_endingAt_6 : decode cX11_endingAt 6 = .ok (.getfield 7, 3) := by decide +kernel
theorem dX11_endingAt_9 : decode cX11_endingAt 9 = .ok (.iconst 4, 1) := by decide +kernel
theorem dX11_endingAt_10 : decode cX11_endingAt 10 = .ok (.iaload, 1) := by decide +kernel
theorem dX11_endingAt_11 : decode cX11_endingAt 11 = .ok (.if_icmp .ge 30, 3) := by decide +kernel
theorem dX11_endingAt_14 : decode cX11_endingAt 14 = .ok (.iload_n 2, 1) := by decide +kernel
theorem dX11_endingAt_15 : decode cX11_endingAt 15 = .ok (.aload_n 0, 1) := by decide +kernel
theorem dX11_endingAt_16 : decode cX11_endingAt 16 = .ok (.getfield 7, 3) := by decide +kernel
theorem dX11_endingAt_19 : decode cX11_endingAt 19 = .ok (.bipush 18, 2) := by decide +kernel
theorem dX11_endingAt_21 : decode cX11_endingAt 21 = .ok (.iload_n 3, 1) := by decide +kernel
theorem dX11_endingAt_22 : decode cX11_endingAt 22 = .ok (.iadd, 1) := by decide +kernel
theorem dX11_endingAt_23 : decode cX11_endingAt 23 = .ok (.iaload, 1) := by decide +kernel
theorem dX11_endingAt_24 : decode cX11_endingAt 24 = .ok (.iload_n 1, 1) := by decide +kernel
theorem dX11_endingAt_25 : decode cX11_endingAt 25 = .ok (.if_icmp .ne 7, 3) := by decide +kernel
theorem dX11_endingAt_28 : decode cX11_endingAt 28 = .ok (.iconst 1, 1) := by decide +kernel
theorem dX11_endingAt_29 : decode cX11_endingAt 29 = .ok (.goto 4, 3) := by decide +kernel
theorem dX11_endingAt_32 : decode cX11_endingAt 32 = .ok (.iconst 0, 1) := by decide +kernel
theorem dX11_endingAt_33 : decode cX11_endingAt 33 = .ok (.iadd, 1) := by decide +kernel
theorem dX11_endingAt_34 : decode cX11_endingAt 34 = .ok (.istore_n 2, 1) := by decide +kernel
theorem dX11_endingAt_35 : decode cX11_endingAt 35 = .ok (.iinc 3 1, 3) := by decide +kernel
theorem dX11_endingAt_38 : decode cX11_endingAt 38 = .ok (.goto (-34), 3) := by decide +kernel
theorem dX11_endingAt_41 : decode cX11_endingAt 41 = .ok (.iload_n 2, 1) := by decide +kernel
theorem dX11_endingAt_42 : decode cX11_endingAt 42 = .ok (.ireturn, 1) := by decide +kernel
theorem dX11_playersOn_0 : decode cX11_playersOn 0 = .ok (.iconst 0, 1) := by decide +kernel
theorem dX11_playersOn_1 : decode cX11_playersOn 1 = .ok (.istore_n 2, 1) := by decide +kernel
theorem dX11_playersOn_2 : decode cX11_playersOn 2 = .ok (.iconst 0, 1) := by decide +kernel
theorem dX11_playersOn_3 : decode cX11_playersOn 3 = .ok (.istore_n 3, 1) := by decide +kernel
theorem dX11_playersOn_4 : decode cX11_playersOn 4 = .ok (.iload_n 3, 1) := by decide +kernel
theorem dX11_playersOn_5 : decode cX11_playersOn 5 = .ok (.aload_n 0, 1) := by decide +kernel
theorem dX11_playersOn_6 : decode cX11_playersOn 6 = .ok (.getfield 7, 3) := by decide +kernel
theorem dX11_playersOn_9 : decode cX11_playersOn 9 = .ok (.iconst 5, 1) := by decide +kernel
theorem dX11_playersOn_10 : decode cX11_playersOn 10 = .ok (.iaload, 1) := by decide +kernel
theorem dX11_playersOn_11 : decode cX11_playersOn 11 = .ok (.if_icmp .ge 30, 3) := by decide +kernel
theorem dX11_playersOn_14 : decode cX11_playersOn 14 = .ok (.iload_n 2, 1) := by decide +kernel
theorem dX11_playersOn_15 : decode cX11_playersOn 15 = .ok (.aload_n 0, 1) := by decide +kernel
theorem dX11_playersOn_16 : decode cX11_playersOn 16 = .ok (.getfield 7, 3) := by decide +kernel
theorem dX11_playersOn_19 : decode cX11_playersOn 19 = .ok (.bipush 53, 2) := by decide +kernel
theorem dX11_playersOn_21 : decode cX11_playersOn 21 = .ok (.iload_n 3, 1) := by decide +kernel
theorem dX11_playersOn_22 : decode cX11_playersOn 22 = .ok (.iadd, 1) := by decide +kernel
theorem dX11_playersOn_23 : decode cX11_playersOn 23 = .ok (.iaload, 1) := by decide +kernel
theorem dX11_playersOn_24 : decode cX11_playersOn 24 = .ok (.iload_n 1, 1) := by decide +kernel
theorem dX11_playersOn_25 : decode cX11_playersOn 25 = .ok (.if_icmp .ne 7, 3) := by decide +kernel
theorem dX11_playersOn_28 : decode cX11_playersOn 28 = .ok (.iconst 1, 1) := by decide +kernel
theorem dX11_playersOn_29 : decode cX11_playersOn 29 = .ok (.goto 4, 3) := by decide +kernel
theorem dX11_playersOn_32 : decode cX11_playersOn 32 = .ok (.iconst 0, 1) := by decide +kernel
theorem dX11_playersOn_33 : decode cX11_playersOn 33 = .ok (.iadd, 1) := by decide +kernel
theorem dX11_playersOn_34 : decode cX11_playersOn 34 = .ok (.istore_n 2, 1) := by decide +kernel
theorem dX11_playersOn_35 : decode cX11_playersOn 35 = .ok (.iinc 3 1, 3) := by decide +kernel
theorem dX11_playersOn_38 : decode cX11_playersOn 38 = .ok (.goto (-34), 3) := by decide +kernel
theorem dX11_playersOn_41 : decode cX11_playersOn 41 = .ok (.iload_n 2, 1) := by decide +kernel
theorem dX11_playersOn_42 : decode cX11_playersOn 42 = .ok (.ireturn, 1) := by decide +kernel
theorem dX11_canBegin_0 : decode cX11_canBegin 0 = .ok (.iconst 0, 1) := by decide +kernel
theorem dX11_canBegin_1 : decode cX11_canBegin 1 = .ok (.istore_n 2, 1) := by decide +kernel
theorem dX11_canBegin_2 : decode cX11_canBegin 2 = .ok (.iconst 0, 1) := by decide +kernel
theorem dX11_canBegin_3 : decode cX11_canBegin 3 = .ok (.istore_n 3, 1) := by decide +kernel
theorem dX11_canBegin_4 : decode cX11_canBegin 4 = .ok (.iload_n 3, 1) := by decide +kernel
theorem dX11_canBegin_5 : decode cX11_canBegin 5 = .ok (.aload_n 0, 1) := by decide +kernel
theorem dX11_canBegin_6 : decode cX11_canBegin 6 = .ok (.getfield 7, 3) := by decide +kernel
theorem dX11_canBegin_9 : decode cX11_canBegin 9 = .ok (.iconst 3, 1) := by decide +kernel
theorem dX11_canBegin_10 : decode cX11_canBegin 10 = .ok (.iaload, 1) := by decide +kernel
theorem dX11_canBegin_11 : decode cX11_canBegin 11 = .ok (.if_icmp .gt 29, 3) := by decide +kernel
theorem dX11_canBegin_14 : decode cX11_canBegin 14 = .ok (.iload_n 2, 1) := by decide +kernel
theorem dX11_canBegin_15 : decode cX11_canBegin 15 = .ok (.ifCond .ne 13, 3) := by decide +kernel
theorem dX11_canBegin_18 : decode cX11_canBegin 18 = .ok (.aload_n 0, 1) := by decide +kernel
theorem dX11_canBegin_19 : decode cX11_canBegin 19 = .ok (.iload_n 1, 1) := by decide +kernel
theorem dX11_canBegin_20 : decode cX11_canBegin 20 = .ok (.iload_n 3, 1) := by decide +kernel
theorem dX11_canBegin_21 : decode cX11_canBegin 21 = .ok (.iconst (-1), 1) := by decide +kernel
theorem dX11_canBegin_22 : decode cX11_canBegin 22 = .ok (.invokevirtual 144, 3) := by decide +kernel
theorem dX11_canBegin_25 : decode cX11_canBegin 25 = .ok (.ifCond .eq 7, 3) := by decide +kernel
theorem dX11_canBegin_28 : decode cX11_canBegin 28 = .ok (.iconst 1, 1) := by decide +kernel
theorem dX11_canBegin_29 : decode cX11_canBegin 29 = .ok (.goto 4, 3) := by decide +kernel
theorem dX11_canBegin_32 : decode cX11_canBegin 32 = .ok (.iconst 0, 1) := by decide +kernel
theorem dX11_canBegin_33 : decode cX11_canBegin 33 = .ok (.istore_n 2, 1) := by decide +kernel
theorem dX11_canBegin_34 : decode cX11_canBegin 34 = .ok (.iinc 3 1, 3) := by decide +kernel
theorem dX11_canBegin_37 : decode cX11_canBegin 37 = .ok (.goto (-33), 3) := by decide +kernel
theorem dX11_canBegin_40 : decode cX11_canBegin 40 = .ok (.iload_n 2, 1) := by decide +kernel
theorem dX11_canBegin_41 : decode cX11_canBegin 41 = .ok (.ireturn, 1) := by decide +kernel
theorem dX11_squareNow_0 : decode cX11_squareNow 0 = .ok (.iload_n 2, 1) := by decide +kernel
theorem dX11_squareNow_1 : decode cX11_squareNow 1 = .ok (.tableswitch 45 0 2 #[27, 33, 39], 27) := by decide +kernel
theorem dX11_squareNow_28 : decode cX11_squareNow 28 = .ok (.aload_n 0, 1) := by decide +kernel
theorem dX11_squareNow_29 : decode cX11_squareNow 29 = .ok (.iload_n 1, 1) := by decide +kernel
theorem dX11_squareNow_30 : decode cX11_squareNow 30 = .ok (.invokevirtual 76, 3) := by decide +kernel
theorem dX11_squareNow_33 : decode cX11_squareNow 33 = .ok (.ireturn, 1) := by decide +kernel
theorem dX11_squareNow_34 : decode cX11_squareNow 34 = .ok (.aload_n 0, 1) := by decide +kernel
theorem dX11_squareNow_35 : decode cX11_squareNow 35 = .ok (.iload_n 1, 1) := by decide +kernel
theorem dX11_squareNow_36 : decode cX11_squareNow 36 = .ok (.invokevirtual 207, 3) := by decide +kernel
theorem dX11_squareNow_39 : decode cX11_squareNow 39 = .ok (.ireturn, 1) := by decide +kernel
theorem dX11_squareNow_40 : decode cX11_squareNow 40 = .ok (.aload_n 0, 1) := by decide +kernel
theorem dX11_squareNow_41 : decode cX11_squareNow 41 = .ok (.iload_n 1, 1) := by decide +kernel
theorem dX11_squareNow_42 : decode cX11_squareNow 42 = .ok (.invokevirtual 210, 3) := by decide +kernel
theorem dX11_squareNow_45 : decode cX11_squareNow 45 = .ok (.ireturn, 1) := by decide +kernel
theorem dX11_squareNow_46 : decode cX11_squareNow 46 = .ok (.aload_n 0, 1) := by decide +kernel
theorem dX11_squareNow_47 : decode cX11_squareNow 47 = .ok (.iload_n 1, 1) := by decide +kernel
theorem dX11_squareNow_48 : decode cX11_squareNow 48 = .ok (.invokevirtual 213, 3) := by decide +kernel
theorem dX11_squareNow_51 : decode cX11_squareNow 51 = .ok (.ifCond .eq 7, 3) := by decide +kernel
theorem dX11_squareNow_54 : decode cX11_squareNow 54 = .ok (.iconst 1, 1) := by decide +kernel
theorem dX11_squareNow_55 : decode cX11_squareNow 55 = .ok (.goto 4, 3) := by decide +kernel
theorem dX11_squareNow_58 : decode cX11_squareNow 58 = .ok (.iconst 0, 1) := by decide +kernel
theorem dX11_squareNow_59 : decode cX11_squareNow 59 = .ok (.ireturn, 1) := by decide +kernel
theorem dX11_square_0 : decode cX11_square 0 = .ok (.aload_n 0, 1) := by decide +kernel
theorem dX11_square_1 : decode cX11_square 1 = .ok (.aload_n 0, 1) := by decide +kernel
theorem dX11_square_2 : decode cX11_square 2 = .ok (.iload_n 1, 1) := by decide +kernel
theorem dX11_square_3 : decode cX11_square 3 = .ok (.invokevirtual 72, 3) := by decide +kernel
theorem dX11_square_6 : decode cX11_square 6 = .ok (.ifCond .ne 7, 3) := by decide +kernel
theorem dX11_square_9 : decode cX11_square 9 = .ok (.iconst 1, 1) := by decide +kernel
theorem dX11_square_10 : decode cX11_square 10 = .ok (.goto 17, 3) := by decide +kernel
theorem dX11_square_13 : decode cX11_square 13 = .ok (.iload_n 2, 1) := by decide +kernel
theorem dX11_square_14 : decode cX11_square 14 = .ok (.iconst 0, 1) := by decide +kernel
theorem dX11_square_15 : decode cX11_square 15 = .ok (.iconst 3, 1) := by decide +kernel
theorem dX11_square_16 : decode cX11_square 16 = .ok (.invokestatic 68, 3) := by decide +kernel
theorem dX11_square_19 : decode cX11_square 19 = .ok (.ifCond .eq 7, 3) := by decide +kernel
theorem dX11_square_22 : decode cX11_square 22 = .ok (.iconst 0, 1) := by decide +kernel
theorem dX11_square_23 : decode cX11_square 23 = .ok (.goto 4, 3) := by decide +kernel
theorem dX11_square_26 : decode cX11_square 26 = .ok (.iconst 2, 1) := by decide +kernel
theorem dX11_square_27 : decode cX11_square 27 = .ok (.putfield 55, 3) := by decide +kernel
theorem dX11_square_30 : decode cX11_square 30 = .ok (.aload_n 0, 1) := by decide +kernel
theorem dX11_square_31 : decode cX11_square 31 = .ok (.getfield 55, 3) := by decide +kernel
theorem dX11_square_34 : decode cX11_square 34 = .ok (.ifCond .le 7, 3) := by decide +kernel
theorem dX11_square_37 : decode cX11_square 37 = .ok (.iconst 0, 1) := by decide +kernel
theorem dX11_square_38 : decode cX11_square 38 = .ok (.goto 9, 3) := by decide +kernel
theorem dX11_square_41 : decode cX11_square 41 = .ok (.aload_n 0, 1) := by decide +kernel
theorem dX11_square_42 : decode cX11_square 42 = .ok (.iload_n 1, 1) := by decide +kernel
theorem dX11_square_43 : decode cX11_square 43 = .ok (.iload_n 2, 1) := by decide +kernel
theorem dX11_square_44 : decode cX11_square 44 = .ok (.invokevirtual 216, 3) := by decide +kernel
theorem dX11_square_47 : decode cX11_square 47 = .ok (.ireturn, 1) := by decide +kernel
theorem dX11_linkNow_0 : decode cX11_linkNow 0 = .ok (.iload_n 2, 1) := by decide +kernel
theorem dX11_linkNow_1 : decode cX11_linkNow 1 = .ok (.ifCond .ne 15, 3) := by decide +kernel
theorem dX11_linkNow_4 : decode cX11_linkNow 4 = .ok (.aload_n 0, 1) := by decide +kernel
theorem dX11_linkNow_5 : decode cX11_linkNow 5 = .ok (.getfield 7, 3) := by decide +kernel
theorem dX11_linkNow_8 : decode cX11_linkNow 8 = .ok (.bipush 8, 2) := by decide +kernel
theorem dX11_linkNow_10 : decode cX11_linkNow 10 = .ok (.iload_n 1, 1) := by decide +kernel
theorem dX11_linkNow_11 : decode cX11_linkNow 11 = .ok (.iadd, 1) := by decide +kernel
theorem dX11_linkNow_12 : decode cX11_linkNow 12 = .ok (.iaload, 1) := by decide +kernel
theorem dX11_linkNow_13 : decode cX11_linkNow 13 = .ok (.goto 39, 3) := by decide +kernel
theorem dX11_linkNow_16 : decode cX11_linkNow 16 = .ok (.iload_n 2, 1) := by decide +kernel
theorem dX11_linkNow_17 : decode cX11_linkNow 17 = .ok (.iconst 1, 1) := by decide +kernel
theorem dX11_linkNow_18 : decode cX11_linkNow 18 = .ok (.if_icmp .ne 15, 3) := by decide +kernel
theorem dX11_linkNow_21 : decode cX11_linkNow 21 = .ok (.aload_n 0, 1) := by decide +kernel
theorem dX11_linkNow_22 : decode cX11_linkNow 22 = .ok (.getfield 7, 3) := by decide +kernel
theorem dX11_linkNow_25 : decode cX11_linkNow 25 = .ok (.bipush 18, 2) := by decide +kernel
theorem dX11_linkNow_27 : decode cX11_linkNow 27 = .ok (.iload_n 1, 1) := by decide +kernel
theorem dX11_linkNow_28 : decode cX11_linkNow 28 = .ok (.iadd, 1) := by decide +kernel
theorem dX11_linkNow_29 : decode cX11_linkNow 29 = .ok (.iaload, 1) := by decide +kernel
theorem dX11_linkNow_30 : decode cX11_linkNow 30 = .ok (.goto 22, 3) := by decide +kernel
theorem dX11_linkNow_33 : decode cX11_linkNow 33 = .ok (.aload_n 0, 1) := by decide +kernel
theorem dX11_linkNow_34 : decode cX11_linkNow 34 = .ok (.getfield 7, 3) := by decide +kernel
theorem dX11_linkNow_37 : decode cX11_linkNow 37 = .ok (.bipush 18, 2) := by decide +kernel
theorem dX11_linkNow_39 : decode cX11_linkNow 39 = .ok (.iload_n 1, 1) := by decide +kernel
theorem dX11_linkNow_40 : decode cX11_linkNow 40 = .ok (.iadd, 1) := by decide +kernel
theorem dX11_linkNow_41 : decode cX11_linkNow 41 = .ok (.iaload, 1) := by decide +kernel
theorem dX11_linkNow_42 : decode cX11_linkNow 42 = .ok (.aload_n 0, 1) := by decide +kernel
theorem dX11_linkNow_43 : decode cX11_linkNow 43 = .ok (.getfield 7, 3) := by decide +kernel
theorem dX11_linkNow_46 : decode cX11_linkNow 46 = .ok (.bipush 8, 2) := by decide +kernel
theorem dX11_linkNow_48 : decode cX11_linkNow 48 = .ok (.iload_n 1, 1) := by decide +kernel
theorem dX11_linkNow_49 : decode cX11_linkNow 49 = .ok (.iadd, 1) := by decide +kernel
theorem dX11_linkNow_50 : decode cX11_linkNow 50 = .ok (.iaload, 1) := by decide +kernel
theorem dX11_linkNow_51 : decode cX11_linkNow 51 = .ok (.isub, 1) := by decide +kernel
theorem dX11_linkNow_52 : decode cX11_linkNow 52 = .ok (.ireturn, 1) := by decide +kernel
theorem dX11_linkOf_0 : decode cX11_linkOf 0 = .ok (.aload_n 0, 1) := by decide +kernel
theorem dX11_linkOf_1 : decode cX11_linkOf 1 = .ok (.aload_n 0, 1) := by decide +kernel
theorem dX11_linkOf_2 : decode cX11_linkOf 2 = .ok (.iload_n 1, 1) := by decide +kernel
theorem dX11_linkOf_3 : decode cX11_linkOf 3 = .ok (.invokevirtual 170, 3) := by decide +kernel
theorem dX11_linkOf_6 : decode cX11_linkOf 6 = .ok (.ifCond .ne 7, 3) := by decide +kernel
theorem dX11_linkOf_9 : decode cX11_linkOf 9 = .ok (.iconst 1, 1) := by decide +kernel
theorem dX11_linkOf_10 : decode cX11_linkOf 10 = .ok (.goto 17, 3) := by decide +kernel
theorem dX11_linkOf_13 : decode cX11_linkOf 13 = .ok (.iload_n 2, 1) := by decide +kernel
theorem dX11_linkOf_14 : decode cX11_linkOf 14 = .ok (.iconst 0, 1) := by decide +kernel
theorem dX11_linkOf_15 : decode cX11_linkOf 15 = .ok (.iconst 2, 1) := by decide +kernel
theorem dX11_linkOf_16 : decode cX11_linkOf 16 = .ok (.invokestatic 68, 3) := by decide +kernel
theorem dX11_linkOf_19 : decode cX11_linkOf 19 = .ok (.ifCond .eq 7, 3) := by decide +kernel
theorem dX11_linkOf_22 : decode cX11_linkOf 22 = .ok (.iconst 0, 1) := by decide +kernel
theorem dX11_linkOf_23 : decode cX11_linkOf 23 = .ok (.goto 4, 3) := by decide +kernel
theorem dX11_linkOf_26 : decode cX11_linkOf 26 = .ok (.iconst 2, 1) := by decide +kernel
theorem dX11_linkOf_27 : decode cX11_linkOf 27 = .ok (.putfield 55, 3) := by decide +kernel
theorem dX11_linkOf_30 : decode cX11_linkOf 30 = .ok (.aload_n 0, 1) := by decide +kernel
theorem dX11_linkOf_31 : decode cX11_linkOf 31 = .ok (.getfield 55, 3) := by decide +kernel
theorem dX11_linkOf_34 : decode cX11_linkOf 34 = .ok (.ifCond .le 7, 3) := by decide +kernel
theorem dX11_linkOf_37 : decode cX11_linkOf 37 = .ok (.iconst 0, 1) := by decide +kernel
theorem dX11_linkOf_38 : decode cX11_linkOf 38 = .ok (.goto 9, 3) := by decide +kernel
theorem dX11_linkOf_41 : decode cX11_linkOf 41 = .ok (.aload_n 0, 1) := by decide +kernel
theorem dX11_linkOf_42 : decode cX11_linkOf 42 = .ok (.iload_n 1, 1) := by decide +kernel
theorem dX11_linkOf_43 : decode cX11_linkOf 43 = .ok (.iload_n 2, 1) := by decide +kernel
theorem dX11_linkOf_44 : decode cX11_linkOf 44 = .ok (.invokevirtual 219, 3) := by decide +kernel
theorem dX11_linkOf_47 : decode cX11_linkOf 47 = .ok (.ireturn, 1) := by decide +kernel
theorem dX11_faceNow_0 : decode cX11_faceNow 0 = .ok (.iload_n 2, 1) := by decide +kernel
theorem dX11_faceNow_1 : decode cX11_faceNow 1 = .ok (.aload_n 0, 1) := by decide +kernel
theorem dX11_faceNow_2 : decode cX11_faceNow 2 = .ok (.getfield 7, 3) := by decide +kernel
theorem dX11_faceNow_5 : decode cX11_faceNow 5 = .ok (.bipush 28, 2) := by decide +kernel
theorem dX11_faceNow_7 : decode cX11_faceNow 7 = .ok (.iload_n 1, 1) := by decide +kernel
theorem dX11_faceNow_8 : decode cX11_faceNow 8 = .ok (.iadd, 1) := by decide +kernel
theorem dX11_faceNow_9 : decode cX11_faceNow 9 = .ok (.iaload, 1) := by decide +kernel
theorem dX11_faceNow_10 : decode cX11_faceNow 10 = .ok (.if_icmp .ge 12, 3) := by decide +kernel
theorem dX11_faceNow_13 : decode cX11_faceNow 13 = .ok (.aload_n 0, 1) := by decide +kernel
theorem dX11_faceNow_14 : decode cX11_faceNow 14 = .ok (.iload_n 1, 1) := by decide +kernel
theorem dX11_faceNow_15 : decode cX11_faceNow 15 = .ok (.iload_n 2, 1) := by decide +kernel
theorem dX11_faceNow_16 : decode cX11_faceNow 16 = .ok (.invokevirtual 84, 3) := by decide +kernel
theorem dX11_faceNow_19 : decode cX11_faceNow 19 = .ok (.goto 4, 3) := by decide +kernel
theorem dX11_faceNow_22 : decode cX11_faceNow 22 = .ok (.iconst (-1), 1) := by decide +kernel
theorem dX11_faceNow_23 : decode cX11_faceNow 23 = .ok (.ireturn, 1) := by decide +kernel
theorem dX11_face_0 : decode cX11_face 0 = .ok (.aload_n 0, 1) := by decide +kernel
theorem dX11_face_1 : decode cX11_face 1 = .ok (.iload_n 1, 1) := by decide +kernel
theorem dX11_face_2 : decode cX11_face 2 = .ok (.invokestatic 151, 3) := by decide +kernel
theorem dX11_face_5 : decode cX11_face 5 = .ok (.ifCond .ne 7, 3) := by decide +kernel
theorem dX11_face_8 : decode cX11_face 8 = .ok (.iconst 1, 1) := by decide +kernel
theorem dX11_face_9 : decode cX11_face 9 = .ok (.goto 17, 3) := by decide +kernel
theorem dX11_face_12 : decode cX11_face 12 = .ok (.iload_n 2, 1) := by decide +kernel
theorem dX11_face_13 : decode cX11_face 13 = .ok (.iconst 0, 1) := by decide +kernel
theorem dX11_face_14 : decode cX11_face 14 = .ok (.iconst 5, 1) := by decide +kernel
theorem dX11_face_15 : decode cX11_face 15 = .ok (.invokestatic 68, 3) := by decide +kernel
theorem dX11_face_18 : decode cX11_face 18 = .ok (.ifCond .eq 7, 3) := by decide +kernel
theorem dX11_face_21 : decode cX11_face 21 = .ok (.iconst 0, 1) := by decide +kernel
theorem dX11_face_22 : decode cX11_face 22 = .ok (.goto 4, 3) := by decide +kernel
theorem dX11_face_25 : decode cX11_face 25 = .ok (.iconst 2, 1) := by decide +kernel
theorem dX11_face_26 : decode cX11_face 26 = .ok (.putfield 55, 3) := by decide +kernel
theorem dX11_face_29 : decode cX11_face 29 = .ok (.aload_n 0, 1) := by decide +kernel
theorem dX11_face_30 : decode cX11_face 30 = .ok (.getfield 55, 3) := by decide +kernel
theorem dX11_face_33 : decode cX11_face 33 = .ok (.ifCond .le 7, 3) := by decide +kernel
theorem dX11_face_36 : decode cX11_face 36 = .ok (.iconst 0, 1) := by decide +kernel
theorem dX11_face_37 : decode cX11_face 37 = .ok (.goto 9, 3) := by decide +kernel
theorem dX11_face_40 : decode cX11_face 40 = .ok (.aload_n 0, 1) := by decide +kernel
theorem dX11_face_41 : decode cX11_face 41 = .ok (.iload_n 1, 1) := by decide +kernel
theorem dX11_face_42 : decode cX11_face 42 = .ok (.iload_n 2, 1) := by decide +kernel
theorem dX11_face_43 : decode cX11_face 43 = .ok (.invokevirtual 222, 3) := by decide +kernel
theorem dX11_face_46 : decode cX11_face 46 = .ok (.ireturn, 1) := by decide +kernel
theorem dX11_rankOf_0 : decode cX11_rankOf 0 = .ok (.iconst 1, 1) := by decide +kernel
theorem dX11_rankOf_1 : decode cX11_rankOf 1 = .ok (.istore_n 2, 1) := by decide +kernel
theorem dX11_rankOf_2 : decode cX11_rankOf 2 = .ok (.iconst 0, 1) := by decide +kernel
theorem dX11_rankOf_3 : decode cX11_rankOf 3 = .ok (.istore_n 3, 1) := by decide +kernel
theorem dX11_rankOf_4 : decode cX11_rankOf 4 = .ok (.iload_n 3, 1) := by decide +kernel
theorem dX11_rankOf_5 : decode cX11_rankOf 5 = .ok (.aload_n 0, 1) := by decide +kernel
theorem dX11_rankOf_6 : decode cX11_rankOf 6 = .ok (.getfield 7, 3) := by decide +kernel
theorem dX11_rankOf_9 : decode cX11_rankOf 9 = .ok (.iconst 5, 1) := by decide +kernel
theorem dX11_rankOf_10 : decode cX11_rankOf 10 = .ok (.iaload, 1) := by decide +kernel
theorem dX11_rankOf_11 : decode cX11_rankOf 11 = .ok (.if_icmp .ge 69, 3) := by decide +kernel
theorem dX11_rankOf_14 : decode cX11_rankOf 14 = .ok (.aload_n 0, 1) := by decide +kernel
theorem dX11_rankOf_15 : decode cX11_rankOf 15 = .ok (.getfield 7, 3) := by decide +kernel
theorem dX11_rankOf_18 : decode cX11_rankOf 18 = .ok (.bipush 53, 2) := by decide +kernel
theorem dX11_rankOf_20 : decode cX11_rankOf 20 = .ok (.iload_n 3, 1) := by decide +kernel
theorem dX11_rankOf_21 : decode cX11_rankOf 21 = .ok (.iadd, 1) := by decide +kernel
theorem dX11_rankOf_22 : decode cX11_rankOf 22 = .ok (.iaload, 1) := by decide +kernel
theorem dX11_rankOf_23 : decode cX11_rankOf 23 = .ok (.aload_n 0, 1) := by decide +kernel
theorem dX11_rankOf_24 : decode cX11_rankOf 24 = .ok (.getfield 7, 3) := by decide +kernel
theorem dX11_rankOf_27 : decode cX11_rankOf 27 = .ok (.bipush 53, 2) := by decide +kernel
theorem dX11_rankOf_29 : decode cX11_rankOf 29 = .ok (.iload_n 1, 1) := by decide +kernel
theorem dX11_rankOf_30 : decode cX11_rankOf 30 = .ok (.iadd, 1) := by decide +kernel
theorem dX11_rankOf_31 : decode cX11_rankOf 31 = .ok (.iaload, 1) := by decide +kernel
theorem dX11_rankOf_32 : decode cX11_rankOf 32 = .ok (.isub, 1) := by decide +kernel
theorem dX11_rankOf_33 : decode cX11_rankOf 33 = .ok (.istore 4, 2) := by decide +kernel
theorem dX11_rankOf_35 : decode cX11_rankOf 35 = .ok (.iload_n 2, 1) := by decide +kernel
theorem dX11_rankOf_36 : decode cX11_rankOf 36 = .ok (.iload 4, 2) := by decide +kernel
theorem dX11_rankOf_38 : decode cX11_rankOf 38 = .ok (.ifCond .gt 29, 3) := by decide +kernel
theorem dX11_rankOf_41 : decode cX11_rankOf 41 = .ok (.iload 4, 2) := by decide +kernel
theorem dX11_rankOf_43 : decode cX11_rankOf 43 = .ok (.ifCond .ne 28, 3) := by decide +kernel
theorem dX11_rankOf_46 : decode cX11_rankOf 46 = .ok (.aload_n 0, 1) := by decide +kernel
theorem dX11_rankOf_47 : decode cX11_rankOf 47 = .ok (.getfield 7, 3) := by decide +kernel
theorem dX11_rankOf_50 : decode cX11_rankOf 50 = .ok (.bipush 57, 2) := by decide +kernel
theorem dX11_rankOf_52 : decode cX11_rankOf 52 = .ok (.iload_n 3, 1) := by decide +kernel
theorem dX11_rankOf_53 : decode cX11_rankOf 53 = .ok (.iadd, 1) := by decide +kernel
theorem dX11_rankOf_54 : decode cX11_rankOf 54 = .ok (.iaload, 1) := by decide +kernel
theorem dX11_rankOf_55 : decode cX11_rankOf 55 = .ok (.aload_n 0, 1) := by decide +kernel
theorem dX11_rankOf_56 : decode cX11_rankOf 56 = .ok (.getfield 7, 3) := by decide +kernel
theorem dX11_rankOf_59 : decode cX11_rankOf 59 = .ok (.bipush 57, 2) := by decide +kernel
theorem dX11_rankOf_61 : decode cX11_rankOf 61 = .ok (.iload_n 1, 1) := by decide +kernel
theorem dX11_rankOf_62 : decode cX11_rankOf 62 = .ok (.iadd, 1) := by decide +kernel
theorem dX11_rankOf_63 : decode cX11_rankOf 63 = .ok (.iaload, 1) := by decide +kernel
theorem dX11_rankOf_64 : decode cX11_rankOf 64 = .ok (.if_icmp .ge 7, 3) := by decide +kernel
theorem dX11_rankOf_67 : decode cX11_rankOf 67 = .ok (.iconst 1, 1) := by decide +kernel
theorem dX11_rankOf_68 : decode cX11_rankOf 68 = .ok (.goto 4, 3) := by decide +kernel
theorem dX11_rankOf_71 : decode cX11_rankOf 71 = .ok (.iconst 0, 1) := by decide +kernel
theorem dX11_rankOf_72 : decode cX11_rankOf 72 = .ok (.iadd, 1) := by decide +kernel
theorem dX11_rankOf_73 : decode cX11_rankOf 73 = .ok (.istore_n 2, 1) := by decide +kernel
theorem dX11_rankOf_74 : decode cX11_rankOf 74 = .ok (.iinc 3 1, 3) := by decide +kernel
theorem dX11_rankOf_77 : decode cX11_rankOf 77 = .ok (.goto (-73), 3) := by decide +kernel
theorem dX11_rankOf_80 : decode cX11_rankOf 80 = .ok (.iload_n 2, 1) := by decide +kernel
theorem dX11_rankOf_81 : decode cX11_rankOf 81 = .ok (.ireturn, 1) := by decide +kernel
theorem dX11_playerNow_0 : decode cX11_playerNow 0 = .ok (.iload_n 2, 1) := by decide +kernel
theorem dX11_playerNow_1 : decode cX11_playerNow 1 = .ok (.tableswitch 79 0 3 #[31, 41, 51, 65], 31) := by decide +kernel
theorem dX11_playerNow_32 : decode cX11_playerNow 32 = .ok (.aload_n 0, 1) := by decide +kernel
theorem dX11_playerNow_33 : decode cX11_playerNow 33 = .ok (.getfield 7, 3) := by decide +kernel
theorem dX11_playerNow_36 : decode cX11_playerNow 36 = .ok (.bipush 53, 2) := by decide +kernel
theorem dX11_playerNow_38 : decode cX11_playerNow 38 = .ok (.iload_n 1, 1) := by decide +kernel
theorem dX11_playerNow_39 : decode cX11_playerNow 39 = .ok (.iadd, 1) := by decide +kernel
theorem dX11_playerNow_40 : decode cX11_playerNow 40 = .ok (.iaload, 1) := by decide +kernel
theorem dX11_playerNow_41 : decode cX11_playerNow 41 = .ok (.ireturn, 1) := by decide +kernel
theorem dX11_playerNow_42 : decode cX11_playerNow 42 = .ok (.aload_n 0, 1) := by decide +kernel
theorem dX11_playerNow_43 : decode cX11_playerNow 43 = .ok (.getfield 7, 3) := by decide +kernel
theorem dX11_playerNow_46 : decode cX11_playerNow 46 = .ok (.bipush 57, 2) := by decide +kernel
theorem dX11_playerNow_48 : decode cX11_playerNow 48 = .ok (.iload_n 1, 1) := by decide +kernel
theorem dX11_playerNow_49 : decode cX11_playerNow 49 = .ok (.iadd, 1) := by decide +kernel
theorem dX11_playerNow_50 : decode cX11_playerNow 50 = .ok (.iaload, 1) := by decide +kernel
theorem dX11_playerNow_51 : decode cX11_playerNow 51 = .ok (.ireturn, 1) := by decide +kernel
theorem dX11_playerNow_52 : decode cX11_playerNow 52 = .ok (.aload_n 0, 1) := by decide +kernel
theorem dX11_playerNow_53 : decode cX11_playerNow 53 = .ok (.iload_n 1, 1) := by decide +kernel
theorem dX11_playerNow_54 : decode cX11_playerNow 54 = .ok (.invokevirtual 186, 3) := by decide +kernel
theorem dX11_playerNow_57 : decode cX11_playerNow 57 = .ok (.ifCond .eq 7, 3) := by decide +kernel
theorem dX11_playerNow_60 : decode cX11_playerNow 60 = .ok (.iconst 1, 1) := by decide +kernel
theorem dX11_playerNow_61 : decode cX11_playerNow 61 = .ok (.goto 4, 3) := by decide +kernel
theorem dX11_playerNow_64 : decode cX11_playerNow 64 = .ok (.iconst 0, 1) := by decide +kernel
theorem dX11_playerNow_65 : decode cX11_playerNow 65 = .ok (.ireturn, 1) := by decide +kernel
theorem dX11_playerNow_66 : decode cX11_playerNow 66 = .ok (.aload_n 0, 1) := by decide +kernel
theorem dX11_playerNow_67 : decode cX11_playerNow 67 = .ok (.aload_n 0, 1) := by decide +kernel
theorem dX11_playerNow_68 : decode cX11_playerNow 68 = .ok (.getfield 7, 3) := by decide +kernel
theorem dX11_playerNow_71 : decode cX11_playerNow 71 = .ok (.bipush 57, 2) := by decide +kernel
theorem dX11_playerNow_73 : decode cX11_playerNow 73 = .ok (.iload_n 1, 1) := by decide +kernel
theorem dX11_playerNow_74 : decode cX11_playerNow 74 = .ok (.iadd, 1) := by decide +kernel
theorem dX11_playerNow_75 : decode cX11_playerNow 75 = .ok (.iaload, 1) := by decide +kernel
theorem dX11_playerNow_76 : decode cX11_playerNow 76 = .ok (.invokevirtual 96, 3) := by decide +kernel
theorem dX11_playerNow_79 : decode cX11_playerNow 79 = .ok (.ireturn, 1) := by decide +kernel
theorem dX11_playerNow_80 : decode cX11_playerNow 80 = .ok (.aload_n 0, 1) := by decide +kernel
theorem dX11_playerNow_81 : decode cX11_playerNow 81 = .ok (.iload_n 1, 1) := by decide +kernel
theorem dX11_playerNow_82 : decode cX11_playerNow 82 = .ok (.invokevirtual 225, 3) := by decide +kernel
theorem dX11_playerNow_85 : decode cX11_playerNow 85 = .ok (.ireturn, 1) := by decide +kernel
theorem dX11_player_0 : decode cX11_player 0 = .ok (.aload_n 0, 1) := by decide +kernel
theorem dX11_player_1 : decode cX11_player 1 = .ok (.aload_n 0, 1) := by decide +kernel
theorem dX11_player_2 : decode cX11_player 2 = .ok (.iload_n 1, 1) := by decide +kernel
theorem dX11_player_3 : decode cX11_player 3 = .ok (.invokevirtual 183, 3) := by decide +kernel
theorem dX11_player_6 : decode cX11_player 6 = .ok (.ifCond .ne 7, 3) := by decide +kernel
theorem dX11_player_9 : decode cX11_player 9 = .ok (.iconst 1, 1) := by decide +kernel
theorem dX11_player_10 : decode cX11_player 10 = .ok (.goto 17, 3) := by decide +kernel
theorem dX11_player_13 : decode cX11_player 13 = .ok (.iload_n 2, 1) := by decide +kernel
theorem dX11_player_14 : decode cX11_player 14 = .ok (.iconst 0, 1) := by decide +kernel
theorem dX11_player_15 : decode cX11_player 15 = .ok (.iconst 4, 1) := by decide +kernel
theorem dX11_player_16 : decode cX11_player 16 = .ok (.invokestatic 68, 3) := by decide +kernel
theorem dX11_player_19 : decode cX11_player 19 = .ok (.ifCond .eq 7, 3) := by decide +kernel
theorem dX11_player_22 : decode cX11_player 22 = .ok (.iconst 0, 1) := by decide +kernel
theorem dX11_player_23 : decode cX11_player 23 = .ok (.goto 4, 3) := by decide +kernel
theorem dX11_player_26 : decode cX11_player 26 = .ok (.iconst 2, 1) := by decide +kernel
theorem dX11_player_27 : decode cX11_player 27 = .ok (.putfield 55, 3) := by decide +kernel
theorem dX11_player_30 : decode cX11_player 30 = .ok (.aload_n 0, 1) := by decide +kernel
theorem dX11_player_31 : decode cX11_player 31 = .ok (.getfield 55, 3) := by decide +kernel
theorem dX11_player_34 : decode cX11_player 34 = .ok (.ifCond .le 7, 3) := by decide +kernel
theorem dX11_player_37 : decode cX11_player 37 = .ok (.iconst 0, 1) := by decide +kernel
theorem dX11_player_38 : decode cX11_player 38 = .ok (.goto 9, 3) := by decide +kernel
theorem dX11_player_41 : decode cX11_player 41 = .ok (.aload_n 0, 1) := by decide +kernel
theorem dX11_player_42 : decode cX11_player 42 = .ok (.iload_n 1, 1) := by decide +kernel
theorem dX11_player_43 : decode cX11_player 43 = .ok (.iload_n 2, 1) := by decide +kernel
theorem dX11_player_44 : decode cX11_player 44 = .ok (.invokevirtual 228, 3) := by decide +kernel
theorem dX11_player_47 : decode cX11_player 47 = .ok (.ireturn, 1) := by decide +kernel
theorem dX11_ladders_0 : decode cX11_ladders 0 = .ok (.iconst 0, 1) := by decide +kernel
theorem dX11_ladders_1 : decode cX11_ladders 1 = .ok (.istore_n 1, 1) := by decide +kernel
theorem dX11_ladders_2 : decode cX11_ladders 2 = .ok (.iconst 0, 1) := by decide +kernel
theorem dX11_ladders_3 : decode cX11_ladders 3 = .ok (.istore_n 2, 1) := by decide +kernel
theorem dX11_ladders_4 : decode cX11_ladders 4 = .ok (.iload_n 2, 1) := by decide +kernel
theorem dX11_ladders_5 : decode cX11_ladders 5 = .ok (.aload_n 0, 1) := by decide +kernel
theorem dX11_ladders_6 : decode cX11_ladders 6 = .ok (.getfield 7, 3) := by decide +kernel
theorem dX11_ladders_9 : decode cX11_ladders 9 = .ok (.iconst 4, 1) := by decide +kernel
theorem dX11_ladders_10 : decode cX11_ladders 10 = .ok (.iaload, 1) := by decide +kernel
theorem dX11_ladders_11 : decode cX11_ladders 11 = .ok (.if_icmp .ge 38, 3) := by decide +kernel
theorem dX11_ladders_14 : decode cX11_ladders 14 = .ok (.iload_n 1, 1) := by decide +kernel
theorem dX11_ladders_15 : decode cX11_ladders 15 = .ok (.aload_n 0, 1) := by decide +kernel
theorem dX11_ladders_16 : decode cX11_ladders 16 = .ok (.getfield 7, 3) := by decide +kernel
theorem dX11_ladders_19 : decode cX11_ladders 19 = .ok (.bipush 18, 2) := by decide +kernel
theorem dX11_ladders_21 : decode cX11_ladders 21 = .ok (.iload_n 2, 1) := by decide +kernel
theorem dX11_ladders_22 : decode cX11_ladders 22 = .ok (.iadd, 1) := by decide +kernel
theorem dX11_ladders_23 : decode cX11_ladders 23 = .ok (.iaload, 1) := by decide +kernel
theorem dX11_ladders_24 : decode cX11_ladders 24 = .ok (.aload_n 0, 1) := by decide +kernel
theorem dX11_ladders_25 : decode cX11_ladders 25 = .ok (.getfield 7, 3) := by decide +kernel
theorem dX11_ladders_28 : decode cX11_ladders 28 = .ok (.bipush 8, 2) := by decide +kernel
theorem dX11_ladders_30 : decode cX11_ladders 30 = .ok (.iload_n 2, 1) := by decide +kernel
theorem dX11_ladders_31 : decode cX11_ladders 31 = .ok (.iadd, 1) := by decide +kernel
theorem dX11_ladders_32 : decode cX11_ladders 32 = .ok (.iaload, 1) := by decide +kernel
theorem dX11_ladders_33 : decode cX11_ladders 33 = .ok (.if_icmp .le 7, 3) := by decide +kernel
theorem dX11_ladders_36 : decode cX11_ladders 36 = .ok (.iconst 1, 1) := by decide +kernel
theorem dX11_ladders_37 : decode cX11_ladders 37 = .ok (.goto 4, 3) := by decide +kernel
theorem dX11_ladders_40 : decode cX11_ladders 40 = .ok (.iconst 0, 1) := by decide +kernel
theorem dX11_ladders_41 : decode cX11_ladders 41 = .ok (.iadd, 1) := by decide +kernel
theorem dX11_ladders_42 : decode cX11_ladders 42 = .ok (.istore_n 1, 1) := by decide +kernel
theorem dX11_ladders_43 : decode cX11_ladders 43 = .ok (.iinc 2 1, 3) := by decide +kernel
theorem dX11_ladders_46 : decode cX11_ladders 46 = .ok (.goto (-42), 3) := by decide +kernel
theorem dX11_ladders_49 : decode cX11_ladders 49 = .ok (.iload_n 1, 1) := by decide +kernel
theorem dX11_ladders_50 : decode cX11_ladders 50 = .ok (.ireturn, 1) := by decide +kernel
theorem dX11_counted_0 : decode cX11_counted 0 = .ok (.iload_n 1, 1) := by decide +kernel
theorem dX11_counted_1 : decode cX11_counted 1 = .ok (.tableswitch 145 0 9 #[55, 62, 69, 74, 86, 93, 104, 112, 120, 140], 55) := by decide +kernel
theorem dX11_counted_56 : decode cX11_counted 56 = .ok (.aload_n 0, 1) := by decide +kernel
theorem dX11_counted_57 : decode cX11_counted 57 = .ok (.getfield 7, 3) := by decide +kernel
theorem dX11_counted_60 : decode cX11_counted 60 = .ok (.iconst 3, 1) := by decide +kernel
theorem dX11_counted_61 : decode cX11_counted 61 = .ok (.iaload, 1) := by decide +kernel
theorem dX11_counted_62 : decode cX11_counted 62 = .ok (.ireturn, 1) := by decide +kernel
theorem dX11_counted_63 : decode cX11_counted 63 = .ok (.aload_n 0, 1) := by decide +kernel
theorem dX11_counted_64 : decode cX11_counted 64 = .ok (.getfield 7, 3) := by decide +kernel
theorem dX11_counted_67 : decode cX11_counted 67 = .ok (.iconst 4, 1) := by decide +kernel
theorem dX11_counted_68 : decode cX11_counted 68 = .ok (.iaload, 1) := by decide +kernel
theorem dX11_counted_69 : decode cX11_counted 69 = .ok (.ireturn, 1) := by decide +kernel
theorem dX11_counted_70 : decode cX11_counted 70 = .ok (.aload_n 0, 1) := by decide +kernel
theorem dX11_counted_71 : decode cX11_counted 71 = .ok (.invokevirtual 231, 3) := by decide +kernel
theorem dX11_counted_74 : decode cX11_counted 74 = .ok (.ireturn, 1) := by decide +kernel
theorem dX11_counted_75 : decode cX11_counted 75 = .ok (.aload_n 0, 1) := by decide +kernel
theorem dX11_counted_76 : decode cX11_counted 76 = .ok (.getfield 7, 3) := by decide +kernel
theorem dX11_counted_79 : decode cX11_counted 79 = .ok (.iconst 4, 1) := by decide +kernel
theorem dX11_counted_80 : decode cX11_counted 80 = .ok (.iaload, 1) := by decide +kernel
theorem dX11_counted_81 : decode cX11_counted 81 = .ok (.aload_n 0, 1) := by decide +kernel
theorem dX11_counted_82 : decode cX11_counted 82 = .ok (.invokevirtual 231, 3) := by decide +kernel
theorem dX11_counted_85 : decode cX11_counted 85 = .ok (.isub, 1) := by decide +kernel
theorem dX11_counted_86 : decode cX11_counted 86 = .ok (.ireturn, 1) := by decide +kernel
theorem dX11_counted_87 : decode cX11_counted 87 = .ok (.aload_n 0, 1) := by decide +kernel
theorem dX11_counted_88 : decode cX11_counted 88 = .ok (.getfield 7, 3) := by decide +kernel
theorem dX11_counted_91 : decode cX11_counted 91 = .ok (.iconst 5, 1) := by decide +kernel
theorem dX11_counted_92 : decode cX11_counted 92 = .ok (.iaload, 1) := by decide +kernel
theorem dX11_counted_93 : decode cX11_counted 93 = .ok (.ireturn, 1) := by decide +kernel
theorem dX11_counted_94 : decode cX11_counted 94 = .ok (.aload_n 0, 1) := by decide +kernel
theorem dX11_counted_95 : decode cX11_counted 95 = .ok (.aload_n 0, 1) := by decide +kernel
theorem dX11_counted_96 : decode cX11_counted 96 = .ok (.getfield 7, 3) := by decide +kernel
theorem dX11_counted_99 : decode cX11_counted 99 = .ok (.iconst 3, 1) := by decide +kernel
theorem dX11_counted_100 : decode cX11_counted 100 = .ok (.iaload, 1) := by decide +kernel
theorem dX11_counted_101 : decode cX11_counted 101 = .ok (.invokevirtual 210, 3) := by decide +kernel
theorem dX11_counted_104 : decode cX11_counted 104 = .ok (.ireturn, 1) := by decide +kernel
theorem dX11_counted_105 : decode cX11_counted 105 = .ok (.aload_n 0, 1) := by decide +kernel
theorem dX11_counted_106 : decode cX11_counted 106 = .ok (.getfield 7, 3) := by decide +kernel
theorem dX11_counted_109 : decode cX11_counted 109 = .ok (.bipush 6, 2) := by decide +kernel
theorem dX11_counted_111 : decode cX11_counted 111 = .ok (.iaload, 1) := by decide +kernel
theorem dX11_counted_112 : decode cX11_counted 112 = .ok (.ireturn, 1) := by decide +kernel
theorem dX11_counted_113 : decode cX11_counted 113 = .ok (.aload_n 0, 1) := by decide +kernel
theorem dX11_counted_114 : decode cX11_counted 114 = .ok (.getfield 7, 3) := by decide +kernel
theorem dX11_counted_117 : decode cX11_counted 117 = .ok (.bipush 7, 2) := by decide +kernel
theorem dX11_counted_119 : decode cX11_counted 119 = .ok (.iaload, 1) := by decide +kernel
theorem dX11_counted_120 : decode cX11_counted 120 = .ok (.ireturn, 1) := by decide +kernel
theorem dX11_counted_121 : decode cX11_counted 121 = .ok (.aload_n 0, 1) := by decide +kernel
theorem dX11_counted_122 : decode cX11_counted 122 = .ok (.getfield 7, 3) := by decide +kernel
theorem dX11_counted_125 : decode cX11_counted 125 = .ok (.bipush 7, 2) := by decide +kernel
theorem dX11_counted_127 : decode cX11_counted 127 = .ok (.iaload, 1) := by decide +kernel
theorem dX11_counted_128 : decode cX11_counted 128 = .ok (.iconst 1, 1) := by decide +kernel
theorem dX11_counted_129 : decode cX11_counted 129 = .ok (.if_icmp .ne 10, 3) := by decide +kernel
theorem dX11_counted_132 : decode cX11_counted 132 = .ok (.aload_n 0, 1) := by decide +kernel
theorem dX11_counted_133 : decode cX11_counted 133 = .ok (.invokevirtual 179, 3) := by decide +kernel
theorem dX11_counted_136 : decode cX11_counted 136 = .ok (.goto 4, 3) := by decide +kernel
theorem dX11_counted_139 : decode cX11_counted 139 = .ok (.iconst (-1), 1) := by decide +kernel
theorem dX11_counted_140 : decode cX11_counted 140 = .ok (.ireturn, 1) := by decide +kernel
theorem dX11_counted_141 : decode cX11_counted 141 = .ok (.aload_n 0, 1) := by decide +kernel
theorem dX11_counted_142 : decode cX11_counted 142 = .ok (.getfield 62, 3) := by decide +kernel
theorem dX11_counted_145 : decode cX11_counted 145 = .ok (.ireturn, 1) := by decide +kernel
theorem dX11_counted_146 : decode cX11_counted 146 = .ok (.iload_n 1, 1) := by decide +kernel
theorem dX11_counted_147 : decode cX11_counted 147 = .ok (.bipush 10, 2) := by decide +kernel
theorem dX11_counted_149 : decode cX11_counted 149 = .ok (.isub, 1) := by decide +kernel
theorem dX11_counted_150 : decode cX11_counted 150 = .ok (.aload_n 0, 1) := by decide +kernel
theorem dX11_counted_151 : decode cX11_counted 151 = .ok (.getfield 7, 3) := by decide +kernel
theorem dX11_counted_154 : decode cX11_counted 154 = .ok (.bipush 6, 2) := by decide +kernel
theorem dX11_counted_156 : decode cX11_counted 156 = .ok (.iaload, 1) := by decide +kernel
theorem dX11_counted_157 : decode cX11_counted 157 = .ok (.if_icmp .ge 18, 3) := by decide +kernel
theorem dX11_counted_160 : decode cX11_counted 160 = .ok (.aload_n 0, 1) := by decide +kernel
theorem dX11_counted_161 : decode cX11_counted 161 = .ok (.getfield 7, 3) := by decide +kernel
theorem dX11_counted_164 : decode cX11_counted 164 = .ok (.bipush 49, 2) := by decide +kernel
theorem dX11_counted_166 : decode cX11_counted 166 = .ok (.iload_n 1, 1) := by decide +kernel
theorem dX11_counted_167 : decode cX11_counted 167 = .ok (.iadd, 1) := by decide +kernel
theorem dX11_counted_168 : decode cX11_counted 168 = .ok (.bipush 10, 2) := by decide +kernel
theorem dX11_counted_170 : decode cX11_counted 170 = .ok (.isub, 1) := by decide +kernel
theorem dX11_counted_171 : decode cX11_counted 171 = .ok (.iaload, 1) := by decide +kernel
theorem dX11_counted_172 : decode cX11_counted 172 = .ok (.goto 4, 3) := by decide +kernel
theorem dX11_counted_175 : decode cX11_counted 175 = .ok (.iconst (-1), 1) := by decide +kernel
theorem dX11_counted_176 : decode cX11_counted 176 = .ok (.ireturn, 1) := by decide +kernel
theorem dX11_count_0 : decode cX11_count 0 = .ok (.aload_n 0, 1) := by decide +kernel
theorem dX11_count_1 : decode cX11_count 1 = .ok (.iload_n 1, 1) := by decide +kernel
theorem dX11_count_2 : decode cX11_count 2 = .ok (.iconst 0, 1) := by decide +kernel
theorem dX11_count_3 : decode cX11_count 3 = .ok (.bipush 13, 2) := by decide +kernel
theorem dX11_count_5 : decode cX11_count 5 = .ok (.invokestatic 68, 3) := by decide +kernel
theorem dX11_count_8 : decode cX11_count 8 = .ok (.ifCond .eq 7, 3) := by decide +kernel
theorem dX11_count_11 : decode cX11_count 11 = .ok (.iconst 0, 1) := by decide +kernel
theorem dX11_count_12 : decode cX11_count 12 = .ok (.goto 4, 3) := by decide +kernel
theorem dX11_count_15 : decode cX11_count 15 = .ok (.iconst 1, 1) := by decide +kernel
theorem dX11_count_16 : decode cX11_count 16 = .ok (.putfield 55, 3) := by decide +kernel
theorem dX11_count_19 : decode cX11_count 19 = .ok (.aload_n 0, 1) := by decide +kernel
theorem dX11_count_20 : decode cX11_count 20 = .ok (.getfield 55, 3) := by decide +kernel
theorem dX11_count_23 : decode cX11_count 23 = .ok (.ifCond .le 7, 3) := by decide +kernel
theorem dX11_count_26 : decode cX11_count 26 = .ok (.iconst 0, 1) := by decide +kernel
theorem dX11_count_27 : decode cX11_count 27 = .ok (.goto 8, 3) := by decide +kernel
theorem dX11_count_30 : decode cX11_count 30 = .ok (.aload_n 0, 1) := by decide +kernel
theorem dX11_count_31 : decode cX11_count 31 = .ok (.iload_n 1, 1) := by decide +kernel
theorem dX11_count_32 : decode cX11_count 32 = .ok (.invokevirtual 234, 3) := by decide +kernel
theorem dX11_count_35 : decode cX11_count 35 = .ok (.ireturn, 1) := by decide +kernel
theorem dX11_setting_0 : decode cX11_setting 0 = .ok (.aload_n 0, 1) := by decide +kernel
theorem dX11_setting_1 : decode cX11_setting 1 = .ok (.iload_n 1, 1) := by decide +kernel
theorem dX11_setting_2 : decode cX11_setting 2 = .ok (.invokestatic 173, 3) := by decide +kernel
theorem dX11_setting_5 : decode cX11_setting 5 = .ok (.ifCond .eq 7, 3) := by decide +kernel
theorem dX11_setting_8 : decode cX11_setting 8 = .ok (.iconst 0, 1) := by decide +kernel
theorem dX11_setting_9 : decode cX11_setting 9 = .ok (.goto 4, 3) := by decide +kernel
theorem dX11_setting_12 : decode cX11_setting 12 = .ok (.iconst 1, 1) := by decide +kernel
theorem dX11_setting_13 : decode cX11_setting 13 = .ok (.putfield 55, 3) := by decide +kernel
theorem dX11_setting_16 : decode cX11_setting 16 = .ok (.aload_n 0, 1) := by decide +kernel
theorem dX11_setting_17 : decode cX11_setting 17 = .ok (.getfield 55, 3) := by decide +kernel
theorem dX11_setting_20 : decode cX11_setting 20 = .ok (.ifCond .le 7, 3) := by decide +kernel
theorem dX11_setting_23 : decode cX11_setting 23 = .ok (.iconst 0, 1) := by decide +kernel
theorem dX11_setting_24 : decode cX11_setting 24 = .ok (.goto 11, 3) := by decide +kernel
theorem dX11_setting_27 : decode cX11_setting 27 = .ok (.aload_n 0, 1) := by decide +kernel
theorem dX11_setting_28 : decode cX11_setting 28 = .ok (.getfield 7, 3) := by decide +kernel
theorem dX11_setting_31 : decode cX11_setting 31 = .ok (.iconst 0, 1) := by decide +kernel
theorem dX11_setting_32 : decode cX11_setting 32 = .ok (.iload_n 1, 1) := by decide +kernel
theorem dX11_setting_33 : decode cX11_setting 33 = .ok (.iadd, 1) := by decide +kernel
theorem dX11_setting_34 : decode cX11_setting 34 = .ok (.iaload, 1) := by decide +kernel
theorem dX11_setting_35 : decode cX11_setting 35 = .ok (.ireturn, 1) := by decide +kernel
theorem dX11_after_0 : decode cX11_after 0 = .ok (.aload_n 0, 1) := by decide +kernel
theorem dX11_after_1 : decode cX11_after 1 = .ok (.aload_n 0, 1) := by decide +kernel
theorem dX11_after_2 : decode cX11_after 2 = .ok (.iload_n 1, 1) := by decide +kernel
theorem dX11_after_3 : decode cX11_after 3 = .ok (.invokevirtual 72, 3) := by decide +kernel
theorem dX11_after_6 : decode cX11_after 6 = .ok (.ifCond .eq 13, 3) := by decide +kernel
theorem dX11_after_9 : decode cX11_after 9 = .ok (.iload_n 1, 1) := by decide +kernel
theorem dX11_after_10 : decode cX11_after 10 = .ok (.aload_n 0, 1) := by decide +kernel
theorem dX11_after_11 : decode cX11_after 11 = .ok (.getfield 7, 3) := by decide +kernel
theorem dX11_after_14 : decode cX11_after 14 = .ok (.iconst 3, 1) := by decide +kernel
theorem dX11_after_15 : decode cX11_after 15 = .ok (.iaload, 1) := by decide +kernel
theorem dX11_after_16 : decode cX11_after 16 = .ok (.if_icmp .ne 7, 3) := by decide +kernel
theorem dX11_after_19 : decode cX11_after 19 = .ok (.iconst 1, 1) := by decide +kernel
theorem dX11_after_20 : decode cX11_after 20 = .ok (.goto 18, 3) := by decide +kernel
theorem dX11_after_23 : decode cX11_after 23 = .ok (.iload_n 2, 1) := by decide +kernel
theorem dX11_after_24 : decode cX11_after 24 = .ok (.iconst 1, 1) := by decide +kernel
theorem dX11_after_25 : decode cX11_after 25 = .ok (.bipush 9, 2) := by decide +kernel
theorem dX11_after_27 : decode cX11_after 27 = .ok (.invokestatic 68, 3) := by decide +kernel
theorem dX11_after_30 : decode cX11_after 30 = .ok (.ifCond .eq 7, 3) := by decide +kernel
theorem dX11_after_33 : decode cX11_after 33 = .ok (.iconst 0, 1) := by decide +kernel
theorem dX11_after_34 : decode cX11_after 34 = .ok (.goto 4, 3) := by decide +kernel
theorem dX11_after_37 : decode cX11_after 37 = .ok (.iconst 2, 1) := by decide +kernel
theorem dX11_after_38 : decode cX11_after 38 = .ok (.putfield 55, 3) := by decide +kernel
theorem dX11_after_41 : decode cX11_after 41 = .ok (.aload_n 0, 1) := by decide +kernel
theorem dX11_after_42 : decode cX11_after 42 = .ok (.getfield 55, 3) := by decide +kernel
theorem dX11_after_45 : decode cX11_after 45 = .ok (.ifCond .le 7, 3) := by decide +kernel
theorem dX11_after_48 : decode cX11_after 48 = .ok (.iconst 0, 1) := by decide +kernel
theorem dX11_after_49 : decode cX11_after 49 = .ok (.goto 9, 3) := by decide +kernel
theorem dX11_after_52 : decode cX11_after 52 = .ok (.aload_n 0, 1) := by decide +kernel
theorem dX11_after_53 : decode cX11_after 53 = .ok (.iload_n 1, 1) := by decide +kernel
theorem dX11_after_54 : decode cX11_after 54 = .ok (.iload_n 2, 1) := by decide +kernel
theorem dX11_after_55 : decode cX11_after 55 = .ok (.invokevirtual 80, 3) := by decide +kernel
theorem dX11_after_58 : decode cX11_after 58 = .ok (.ireturn, 1) := by decide +kernel
theorem dX11_meanNow_0 : decode cX11_meanNow 0 = .ok (.aload_n 0, 1) := by decide +kernel
theorem dX11_meanNow_1 : decode cX11_meanNow 1 = .ok (.invokevirtual 111, 3) := by decide +kernel
theorem dX11_meanNow_4 : decode cX11_meanNow 4 = .ok (.aload_n 0, 1) := by decide +kernel
theorem dX11_meanNow_5 : decode cX11_meanNow 5 = .ok (.iload_n 1, 1) := by decide +kernel
theorem dX11_meanNow_6 : decode cX11_meanNow 6 = .ok (.invokevirtual 114, 3) := by decide +kernel
theorem dX11_meanNow_9 : decode cX11_meanNow 9 = .ok (.aload_n 0, 1) := by decide +kernel
theorem dX11_meanNow_10 : decode cX11_meanNow 10 = .ok (.getfield 90, 3) := by decide +kernel
theorem dX11_meanNow_13 : decode cX11_meanNow 13 = .ok (.aload_n 0, 1) := by decide +kernel
theorem dX11_meanNow_14 : decode cX11_meanNow 14 = .ok (.getfield 87, 3) := by decide +kernel
theorem dX11_meanNow_17 : decode cX11_meanNow 17 = .ok (.iload_n 2, 1) := by decide +kernel
theorem dX11_meanNow_18 : decode cX11_meanNow 18 = .ok (.invokestatic 118, 3) := by decide +kernel
theorem dX11_meanNow_21 : decode cX11_meanNow 21 = .ok (.lreturn, 1) := by decide +kernel
theorem dX11_mean_0 : decode cX11_mean 0 = .ok (.aload_n 0, 1) := by decide +kernel
theorem dX11_mean_1 : decode cX11_mean 1 = .ok (.aload_n 0, 1) := by decide +kernel
theorem dX11_mean_2 : decode cX11_mean 2 = .ok (.iload_n 1, 1) := by decide +kernel
theorem dX11_mean_3 : decode cX11_mean 3 = .ok (.invokevirtual 72, 3) := by decide +kernel
theorem dX11_mean_6 : decode cX11_mean 6 = .ok (.ifCond .ne 7, 3) := by decide +kernel
theorem dX11_mean_9 : decode cX11_mean 9 = .ok (.iconst 1, 1) := by decide +kernel
theorem dX11_mean_10 : decode cX11_mean 10 = .ok (.goto 17, 3) := by decide +kernel
theorem dX11_mean_13 : decode cX11_mean 13 = .ok (.iload_n 2, 1) := by decide +kernel
theorem dX11_mean_14 : decode cX11_mean 14 = .ok (.iconst 0, 1) := by decide +kernel
theorem dX11_mean_15 : decode cX11_mean 15 = .ok (.iconst 1, 1) := by decide +kernel
theorem dX11_mean_16 : decode cX11_mean 16 = .ok (.invokestatic 68, 3) := by decide +kernel
theorem dX11_mean_19 : decode cX11_mean 19 = .ok (.ifCond .eq 7, 3) := by decide +kernel
theorem dX11_mean_22 : decode cX11_mean 22 = .ok (.iconst 0, 1) := by decide +kernel
theorem dX11_mean_23 : decode cX11_mean 23 = .ok (.goto 4, 3) := by decide +kernel
theorem dX11_mean_26 : decode cX11_mean 26 = .ok (.iconst 2, 1) := by decide +kernel
theorem dX11_mean_27 : decode cX11_mean 27 = .ok (.putfield 55, 3) := by decide +kernel
theorem dX11_mean_30 : decode cX11_mean 30 = .ok (.aload_n 0, 1) := by decide +kernel
theorem dX11_mean_31 : decode cX11_mean 31 = .ok (.getfield 55, 3) := by decide +kernel
theorem dX11_mean_34 : decode cX11_mean 34 = .ok (.ifCond .le 7, 3) := by decide +kernel
theorem dX11_mean_37 : decode cX11_mean 37 = .ok (.lconst 0, 1) := by decide +kernel
theorem dX11_mean_38 : decode cX11_mean 38 = .ok (.goto 9, 3) := by decide +kernel
theorem dX11_mean_41 : decode cX11_mean 41 = .ok (.aload_n 0, 1) := by decide +kernel
theorem dX11_mean_42 : decode cX11_mean 42 = .ok (.iload_n 1, 1) := by decide +kernel
theorem dX11_mean_43 : decode cX11_mean 43 = .ok (.iload_n 2, 1) := by decide +kernel
theorem dX11_mean_44 : decode cX11_mean 44 = .ok (.invokevirtual 237, 3) := by decide +kernel
theorem dX11_mean_47 : decode cX11_mean 47 = .ok (.lreturn, 1) := by decide +kernel
theorem dX11_chanceNow_0 : decode cX11_chanceNow 0 = .ok (.aload_n 0, 1) := by decide +kernel
theorem dX11_chanceNow_1 : decode cX11_chanceNow 1 = .ok (.invokevirtual 111, 3) := by decide +kernel
theorem dX11_chanceNow_4 : decode cX11_chanceNow 4 = .ok (.aload_n 0, 1) := by decide +kernel
theorem dX11_chanceNow_5 : decode cX11_chanceNow 5 = .ok (.iload_n 1, 1) := by decide +kernel
theorem dX11_chanceNow_6 : decode cX11_chanceNow 6 = .ok (.iload_n 2, 1) := by decide +kernel
theorem dX11_chanceNow_7 : decode cX11_chanceNow 7 = .ok (.invokevirtual 107, 3) := by decide +kernel
theorem dX11_chanceNow_10 : decode cX11_chanceNow 10 = .ok (.aload_n 0, 1) := by decide +kernel
theorem dX11_chanceNow_11 : decode cX11_chanceNow 11 = .ok (.getfield 93, 3) := by decide +kernel
theorem dX11_chanceNow_14 : decode cX11_chanceNow 14 = .ok (.aload_n 0, 1) := by decide +kernel
theorem dX11_chanceNow_15 : decode cX11_chanceNow 15 = .ok (.getfield 87, 3) := by decide +kernel
theorem dX11_chanceNow_18 : decode cX11_chanceNow 18 = .ok (.iload_n 3, 1) := by decide +kernel
theorem dX11_chanceNow_19 : decode cX11_chanceNow 19 = .ok (.invokestatic 118, 3) := by decide +kernel
theorem dX11_chanceNow_22 : decode cX11_chanceNow 22 = .ok (.lreturn, 1) := by decide +kernel
theorem dX11_chance_0 : decode cX11_chance 0 = .ok (.aload_n 0, 1) := by decide +kernel
theorem dX11_chance_1 : decode cX11_chance 1 = .ok (.aload_n 0, 1) := by decide +kernel
theorem dX11_chance_2 : decode cX11_chance 2 = .ok (.iload_n 1, 1) := by decide +kernel
theorem dX11_chance_3 : decode cX11_chance 3 = .ok (.invokevirtual 72, 3) := by decide +kernel
theorem dX11_chance_6 : decode cX11_chance 6 = .ok (.ifCond .ne 7, 3) := by decide +kernel
theorem dX11_chance_9 : decode cX11_chance 9 = .ok (.iconst 1, 1) := by decide +kernel
theorem dX11_chance_10 : decode cX11_chance 10 = .ok (.goto 27, 3) := by decide +kernel
theorem dX11_chance_13 : decode cX11_chance 13 = .ok (.iload_n 2, 1) := by decide +kernel
theorem dX11_chance_14 : decode cX11_chance 14 = .ok (.iconst 0, 1) := by decide +kernel
theorem dX11_chance_15 : decode cX11_chance 15 = .ok (.bipush 8, 2) := by decide +kernel
theorem dX11_chance_17 : decode cX11_chance 17 = .ok (.invokestatic 68, 3) := by decide +kernel
theorem dX11_chance_20 : decode cX11_chance 20 = .ok (.ifCond .eq 16, 3) := by decide +kernel
theorem dX11_chance_23 : decode cX11_chance 23 = .ok (.iload_n 3, 1) := by decide +kernel
theorem dX11_chance_24 : decode cX11_chance 24 = .ok (.iconst 0, 1) := by decide +kernel
theorem dX11_chance_25 : decode cX11_chance 25 = .ok (.iconst 1, 1) := by decide +kernel
theorem dX11_chance_26 : decode cX11_chance 26 = .ok (.invokestatic 68, 3) := by decide +kernel
theorem dX11_chance_29 : decode cX11_chance 29 = .ok (.ifCond .eq 7, 3) := by decide +kernel
theorem dX11_chance_32 : decode cX11_chance 32 = .ok (.iconst 0, 1) := by decide +kernel
theorem dX11_chance_33 : decode cX11_chance 33 = .ok (.goto 4, 3) := by decide +kernel
theorem dX11_chance_36 : decode cX11_chance 36 = .ok (.iconst 2, 1) := by decide +kernel
theorem dX11_chance_37 : decode cX11_chance 37 = .ok (.putfield 55, 3) := by decide +kernel
theorem dX11_chance_40 : decode cX11_chance 40 = .ok (.aload_n 0, 1) := by decide +kernel
theorem dX11_chance_41 : decode cX11_chance 41 = .ok (.getfield 55, 3) := by decide +kernel
theorem dX11_chance_44 : decode cX11_chance 44 = .ok (.ifCond .le 7, 3) := by decide +kernel
theorem dX11_chance_47 : decode cX11_chance 47 = .ok (.lconst 0, 1) := by decide +kernel
theorem dX11_chance_48 : decode cX11_chance 48 = .ok (.goto 10, 3) := by decide +kernel
theorem dX11_chance_51 : decode cX11_chance 51 = .ok (.aload_n 0, 1) := by decide +kernel
theorem dX11_chance_52 : decode cX11_chance 52 = .ok (.iload_n 1, 1) := by decide +kernel
theorem dX11_chance_53 : decode cX11_chance 53 = .ok (.iload_n 2, 1) := by decide +kernel
theorem dX11_chance_54 : decode cX11_chance 54 = .ok (.iload_n 3, 1) := by decide +kernel
theorem dX11_chance_55 : decode cX11_chance 55 = .ok (.invokevirtual 241, 3) := by decide +kernel
theorem dX11_chance_58 : decode cX11_chance 58 = .ok (.lreturn, 1) := by decide +kernel
theorem dX11_layLeft_0 : decode cX11_layLeft 0 = .ok (.aload_n 0, 1) := by decide +kernel
theorem dX11_layLeft_1 : decode cX11_layLeft 1 = .ok (.invokevirtual 111, 3) := by decide +kernel
theorem dX11_layLeft_4 : decode cX11_layLeft 4 = .ok (.bipush 40, 2) := by decide +kernel
theorem dX11_layLeft_6 : decode cX11_layLeft 6 = .ok (.istore_n 1, 1) := by decide +kernel
theorem dX11_layLeft_7 : decode cX11_layLeft 7 = .ok (.iload_n 1, 1) := by decide +kernel
theorem dX11_layLeft_8 : decode cX11_layLeft 8 = .ok (.ifCond .lt 151, 3) := by decide +kernel
theorem dX11_layLeft_11 : decode cX11_layLeft 11 = .ok (.iconst 0, 1) := by decide +kernel
theorem dX11_layLeft_12 : decode cX11_layLeft 12 = .ok (.istore_n 2, 1) := by decide +kernel
theorem dX11_layLeft_13 : decode cX11_layLeft 13 = .ok (.iload_n 2, 1) := by decide +kernel
theorem dX11_layLeft_14 : decode cX11_layLeft 14 = .ok (.aload_n 0, 1) := by decide +kernel
theorem dX11_layLeft_15 : decode cX11_layLeft 15 = .ok (.getfield 7, 3) := by decide +kernel
theorem dX11_layLeft_18 : decode cX11_layLeft 18 = .ok (.iconst 3, 1) := by decide +kernel
theorem dX11_layLeft_19 : decode cX11_layLeft 19 = .ok (.iaload, 1) := by decide +kernel
theorem dX11_layLeft_20 : decode cX11_layLeft 20 = .ok (.if_icmp .gt 133, 3) := by decide +kernel
theorem dX11_layLeft_23 : decode cX11_layLeft 23 = .ok (.iload_n 2, 1) := by decide +kernel
theorem dX11_layLeft_24 : decode cX11_layLeft 24 = .ok (.aload_n 0, 1) := by decide +kernel
theorem dX11_layLeft_25 : decode cX11_layLeft 25 = .ok (.getfield 7, 3) := by decide +kernel
theorem dX11_layLeft_28 : decode cX11_layLeft 28 = .ok (.iconst 3, 1) := by decide +kernel
theorem dX11_layLeft_29 : decode cX11_layLeft 29 = .ok (.iaload, 1) := by decide +kernel
theorem dX11_layLeft_30 : decode cX11_layLeft 30 = .ok (.if_icmp .ne 7, 3) := by decide +kernel
theorem dX11_layLeft_33 : decode cX11_layLeft 33 = .ok (.iconst 0, 1) := by decide +kernel
theorem dX11_layLeft_34 : decode cX11_layLeft 34 = .ok (.goto 6, 3) := by decide +kernel
theorem dX11_layLeft_37 : decode cX11_layLeft 37 = .ok (.sipush 1000, 3) := by decide +kernel
theorem dX11_layLeft_40 : decode cX11_layLeft 40 = .ok (.istore_n 3, 1) := by decide +kernel
theorem dX11_layLeft_41 : decode cX11_layLeft 41 = .ok (.aload_n 0, 1) := by decide +kernel
theorem dX11_layLeft_42 : decode cX11_layLeft 42 = .ok (.iload_n 1, 1) := by decide +kernel
theorem dX11_layLeft_43 : decode cX11_layLeft 43 = .ok (.invokevirtual 96, 3) := by decide +kernel
theorem dX11_layLeft_46 : decode cX11_layLeft 46 = .ok (.istore 4, 2) := by decide +kernel
theorem dX11_layLeft_48 : decode cX11_layLeft 48 = .ok (.iconst 0, 1) := by decide +kernel
theorem dX11_layLeft_49 : decode cX11_layLeft 49 = .ok (.istore 5, 2) := by decide +kernel
theorem dX11_layLeft_51 : decode cX11_layLeft 51 = .ok (.iload 5, 2) := by decide +kernel
theorem dX11_layLeft_53 : decode cX11_layLeft 53 = .ok (.aload_n 0, 1) := by decide +kernel
theorem dX11_layLeft_54 : decode cX11_layLeft 54 = .ok (.getfield 7, 3) := by decide +kernel
theorem dX11_layLeft_57 : decode cX11_layLeft 57 = .ok (.bipush 28, 2) := by decide +kernel
theorem dX11_layLeft_59 : decode cX11_layLeft 59 = .ok (.iload 4, 2) := by decide +kernel
theorem dX11_layLeft_61 : decode cX11_layLeft 61 = .ok (.iadd, 1) := by decide +kernel
theorem dX11_layLeft_62 : decode cX11_layLeft 62 = .ok (.iaload, 1) := by decide +kernel
theorem dX11_layLeft_63 : decode cX11_layLeft 63 = .ok (.if_icmp .ge 72, 3) := by decide +kernel
theorem dX11_layLeft_66 : decode cX11_layLeft 66 = .ok (.iload_n 2, 1) := by decide +kernel
theorem dX11_layLeft_67 : decode cX11_layLeft 67 = .ok (.aload_n 0, 1) := by decide +kernel
theorem dX11_layLeft_68 : decode cX11_layLeft 68 = .ok (.getfield 7, 3) := by decide +kernel
theorem dX11_layLeft_71 : decode cX11_layLeft 71 = .ok (.iconst 3, 1) := by decide +kernel
theorem dX11_layLeft_72 : decode cX11_layLeft 72 = .ok (.iaload, 1) := by decide +kernel
theorem dX11_layLeft_73 : decode cX11_layLeft 73 = .ok (.if_icmp .ge 62, 3) := by decide +kernel
theorem dX11_layLeft_76 : decode cX11_layLeft 76 = .ok (.iload_n 1, 1) := by decide +kernel
theorem dX11_layLeft_77 : decode cX11_layLeft 77 = .ok (.bipush 40, 2) := by decide +kernel
theorem dX11_layLeft_79 : decode cX11_layLeft 79 = .ok (.if_icmp .ge 56, 3) := by decide +kernel
theorem dX11_layLeft_82 : decode cX11_layLeft 82 = .ok (.iconst 1, 1) := by decide +kernel
theorem dX11_layLeft_83 : decode cX11_layLeft 83 = .ok (.aload_n 0, 1) := by decide +kernel
theorem dX11_layLeft_84 : decode cX11_layLeft 84 = .ok (.getfield 52, 3) := by decide +kernel
theorem dX11_layLeft_87 : decode cX11_layLeft 87 = .ok (.bipush 41, 2) := by decide +kernel
theorem dX11_layLeft_89 : decode cX11_layLeft 89 = .ok (.iload_n 1, 1) := by decide +kernel
theorem dX11_layLeft_90 : decode cX11_layLeft 90 = .ok (.iconst 1, 1) := by decide +kernel
theorem dX11_layLeft_91 : decode cX11_layLeft 91 = .ok (.iadd, 1) := by decide +kernel
theorem dX11_layLeft_92 : decode cX11_layLeft 92 = .ok (.imul, 1) := by decide +kernel
theorem dX11_layLeft_93 : decode cX11_layLeft 93 = .ok (.aload_n 0, 1) := by decide +kernel
theorem dX11_layLeft_94 : decode cX11_layLeft 94 = .ok (.getfield 37, 3) := by decide +kernel
theorem dX11_layLeft_97 : decode cX11_layLeft 97 = .ok (.bipush 10, 2) := by decide +kernel
theorem dX11_layLeft_99 : decode cX11_layLeft 99 = .ok (.iload_n 2, 1) := by decide +kernel
theorem dX11_layLeft_100 : decode cX11_layLeft 100 = .ok (.imul, 1) := by decide +kernel
theorem dX11_layLeft_101 : decode cX11_layLeft 101 = .ok (.aload_n 0, 1) := by decide +kernel
theorem dX11_layLeft_102 : decode cX11_layLeft 102 = .ok (.iload 4, 2) := by decide +kernel
theorem dX11_layLeft_104 : decode cX11_layLeft 104 = .ok (.iload 5, 2) := by decide +kernel
theorem dX11_layLeft_106 : decode cX11_layLeft 106 = .ok (.invokevirtual 84, 3) := by decide +kernel
theorem dX11_layLeft_109 : decode cX11_layLeft 109 = .ok (.iadd, 1) := by decide +kernel
theorem dX11_layLeft_110 : decode cX11_layLeft 110 = .ok (.iaload, 1) := by decide +kernel
theorem dX11_layLeft_111 : decode cX11_layLeft 111 = .ok (.iadd, 1) := by decide +kernel
theorem dX11_layLeft_112 : decode cX11_layLeft 112 = .ok (.iaload, 1) := by decide +kernel
theorem dX11_layLeft_113 : decode cX11_layLeft 113 = .ok (.iadd, 1) := by decide +kernel
theorem dX11_layLeft_114 : decode cX11_layLeft 114 = .ok (.istore 6, 2) := by decide +kernel
theorem dX11_layLeft_116 : decode cX11_layLeft 116 = .ok (.iload 6, 2) := by decide +kernel
theorem dX11_layLeft_118 : decode cX11_layLeft 118 = .ok (.iload_n 3, 1) := by decide +kernel
theorem dX11_layLeft_119 : decode cX11_layLeft 119 = .ok (.if_icmp .ge 8, 3) := by decide +kernel
theorem dX11_layLeft_122 : decode cX11_layLeft 122 = .ok (.iload 6, 2) := by decide +kernel
theorem dX11_layLeft_124 : decode cX11_layLeft 124 = .ok (.goto 4, 3) := by decide +kernel
theorem dX11_layLeft_127 : decode cX11_layLeft 127 = .ok (.iload_n 3, 1) := by decide +kernel
theorem dX11_layLeft_128 : decode cX11_layLeft 128 = .ok (.istore_n 3, 1) := by decide +kernel
theorem dX11_layLeft_129 : decode cX11_layLeft 129 = .ok (.iinc 5 1, 3) := by decide +kernel
theorem dX11_layLeft_132 : decode cX11_layLeft 132 = .ok (.goto (-81), 3) := by decide +kernel
theorem dX11_layLeft_135 : decode cX11_layLeft 135 = .ok (.aload_n 0, 1) := by decide +kernel
theorem dX11_layLeft_136 : decode cX11_layLeft 136 = .ok (.getfield 52, 3) := by decide +kernel
theorem dX11_layLeft_139 : decode cX11_layLeft 139 = .ok (.bipush 41, 2) := by decide +kernel
theorem dX11_layLeft_141 : decode cX11_layLeft 141 = .ok (.iload_n 1, 1) := by decide +kernel
theorem dX11_layLeft_142 : decode cX11_layLeft 142 = .ok (.imul, 1) := by decide +kernel
theorem dX11_layLeft_143 : decode cX11_layLeft 143 = .ok (.iload_n 2, 1) := by decide +kernel
theorem dX11_layLeft_144 : decode cX11_layLeft 144 = .ok (.iadd, 1) := by decide +kernel
theorem dX11_layLeft_145 : decode cX11_layLeft 145 = .ok (.iload_n 3, 1) := by decide +kernel
theorem dX11_layLeft_146 : decode cX11_layLeft 146 = .ok (.iastore, 1) := by decide +kernel
theorem dX11_layLeft_147 : decode cX11_layLeft 147 = .ok (.iinc 2 1, 3) := by decide +kernel
theorem dX11_layLeft_150 : decode cX11_layLeft 150 = .ok (.goto (-137), 3) := by decide +kernel
theorem dX11_layLeft_153 : decode cX11_layLeft 153 = .ok (.iinc 1 (-1), 3) := by decide +kernel
theorem dX11_layLeft_156 : decode cX11_layLeft 156 = .ok (.goto (-149), 3) := by decide +kernel
theorem dX11_layLeft_159 : decode cX11_layLeft 159 = .ok (.return_, 1) := by decide +kernel
theorem dX11_shortestNow_0 : decode cX11_shortestNow 0 = .ok (.aload_n 0, 1) := by decide +kernel
theorem dX11_shortestNow_1 : decode cX11_shortestNow 1 = .ok (.getfield 52, 3) := by decide +kernel
theorem dX11_shortestNow_4 : decode cX11_shortestNow 4 = .ok (.iload_n 1, 1) := by decide +kernel
theorem dX11_shortestNow_5 : decode cX11_shortestNow 5 = .ok (.iaload, 1) := by decide +kernel
theorem dX11_shortestNow_6 : decode cX11_shortestNow 6 = .ok (.istore_n 3, 1) := by decide +kernel
theorem dX11_shortestNow_7 : decode cX11_shortestNow 7 = .ok (.iload_n 3, 1) := by decide +kernel
theorem dX11_shortestNow_8 : decode cX11_shortestNow 8 = .ok (.bipush 40, 2) := by decide +kernel
theorem dX11_shortestNow_10 : decode cX11_shortestNow 10 = .ok (.if_icmp .gt 8, 3) := by decide +kernel
theorem dX11_shortestNow_13 : decode cX11_shortestNow 13 = .ok (.iload_n 2, 1) := by decide +kernel
theorem dX11_shortestNow_14 : decode cX11_shortestNow 14 = .ok (.iload_n 3, 1) := by decide +kernel
theorem dX11_shortestNow_15 : decode cX11_shortestNow 15 = .ok (.if_icmp .lt 5, 3) := by decide +kernel
theorem dX11_shortestNow_18 : decode cX11_shortestNow 18 = .ok (.iconst (-1), 1) := by decide +kernel
theorem dX11_shortestNow_19 : decode cX11_shortestNow 19 = .ok (.ireturn, 1) := by decide +kernel
theorem dX11_shortestNow_20 : decode cX11_shortestNow 20 = .ok (.iload_n 1, 1) := by decide +kernel
theorem dX11_shortestNow_21 : decode cX11_shortestNow 21 = .ok (.istore 4, 2) := by decide +kernel
theorem dX11_shortestNow_23 : decode cX11_shortestNow 23 = .ok (.iload_n 3, 1) := by decide +kernel
theorem dX11_shortestNow_24 : decode cX11_shortestNow 24 = .ok (.istore 5, 2) := by decide +kernel
theorem dX11_shortestNow_26 : decode cX11_shortestNow 26 = .ok (.iconst 0, 1) := by decide +kernel
theorem dX11_shortestNow_27 : decode cX11_shortestNow 27 = .ok (.istore 6, 2) := by decide +kernel
theorem dX11_shortestNow_29 : decode cX11_shortestNow 29 = .ok (.iload 6, 2) := by decide +kernel
theorem dX11_shortestNow_31 : decode cX11_shortestNow 31 = .ok (.iload_n 2, 1) := by decide +kernel
theorem dX11_shortestNow_32 : decode cX11_shortestNow 32 = .ok (.if_icmp .gt 142, 3) := by decide +kernel
theorem dX11_shortestNow_35 : decode cX11_shortestNow 35 = .ok (.aload_n 0, 1) := by decide +kernel
theorem dX11_shortestNow_36 : decode cX11_shortestNow 36 = .ok (.iload 6, 2) := by decide +kernel
theorem dX11_shortestNow_38 : decode cX11_shortestNow 38 = .ok (.invokevirtual 96, 3) := by decide +kernel
theorem dX11_shortestNow_41 : decode cX11_shortestNow 41 = .ok (.istore 7, 2) := by decide +kernel
theorem dX11_shortestNow_43 : decode cX11_shortestNow 43 = .ok (.bipush 10, 2) := by decide +kernel
theorem dX11_shortestNow_45 : decode cX11_shortestNow 45 = .ok (.istore 5, 2) := by decide +kernel
theorem dX11_shortestNow_47 : decode cX11_shortestNow 47 = .ok (.iconst 0, 1) := by decide +kernel
theorem dX11_shortestNow_48 : decode cX11_shortestNow 48 = .ok (.istore 8, 2) := by decide +kernel
theorem dX11_shortestNow_50 : decode cX11_shortestNow 50 = .ok (.iload 8, 2) := by decide +kernel
theorem dX11_shortestNow_52 : decode cX11_shortestNow 52 = .ok (.aload_n 0, 1) := by decide +kernel
theorem dX11_shortestNow_53 : decode cX11_shortestNow 53 = .ok (.getfield 7, 3) := by decide +kernel
theorem dX11_shortestNow_56 : decode cX11_shortestNow 56 = .ok (.bipush 28, 2) := by decide +kernel
theorem dX11_shortestNow_58 : decode cX11_shortestNow 58 = .ok (.iload 7, 2) := by decide +kernel
theorem dX11_shortestNow_60 : decode cX11_shortestNow 60 = .ok (.iadd, 1) := by decide +kernel
theorem dX11_shortestNow_61 : decode cX11_shortestNow 61 = .ok (.iaload, 1) := by decide +kernel
theorem dX11_shortestNow_62 : decode cX11_shortestNow 62 = .ok (.if_icmp .ge 91, 3) := by decide +kernel
theorem dX11_shortestNow_65 : decode cX11_shortestNow 65 = .ok (.aload_n 0, 1) := by decide +kernel
theorem dX11_shortestNow_66 : decode cX11_shortestNow 66 = .ok (.iload 7, 2) := by decide +kernel
theorem dX11_shortestNow_68 : decode cX11_shortestNow 68 = .ok (.iload 8, 2) := by decide +kernel
theorem dX11_shortestNow_70 : decode cX11_shortestNow 70 = .ok (.invokevirtual 84, 3) := by decide +kernel
theorem dX11_shortestNow_73 : decode cX11_shortestNow 73 = .ok (.istore 9, 2) := by decide +kernel
theorem dX11_shortestNow_75 : decode cX11_shortestNow 75 = .ok (.aload_n 0, 1) := by decide +kernel
theorem dX11_shortestNow_76 : decode cX11_shortestNow 76 = .ok (.getfield 52, 3) := by decide +kernel
theorem dX11_shortestNow_79 : decode cX11_shortestNow 79 = .ok (.bipush 41, 2) := by decide +kernel
theorem dX11_shortestNow_81 : decode cX11_shortestNow 81 = .ok (.iload 6, 2) := by decide +kernel
theorem dX11_shortestNow_83 : decode cX11_shortestNow 83 = .ok (.iconst 1, 1) := by decide +kernel
theorem dX11_shortestNow_84 : decode cX11_shortestNow 84 = .ok (.iadd, 1) := by decide +kernel
theorem dX11_shortestNow_85 : decode cX11_shortestNow 85 = .ok (.imul, 1) := by decide +kernel
theorem dX11_shortestNow_86 : decode cX11_shortestNow 86 = .ok (.aload_n 0, 1) := by decide +kernel
theorem dX11_shortestNow_87 : decode cX11_shortestNow 87 = .ok (.getfield 37, 3) := by decide +kernel
theorem dX11_shortestNow_90 : decode cX11_shortestNow 90 = .ok (.bipush 10, 2) := by decide +kernel
theorem dX11_shortestNow_92 : decode cX11_shortestNow 92 = .ok (.iload 4, 2) := by decide +kernel
theorem dX11_shortestNow_94 : decode cX11_shortestNow 94 = .ok (.imul, 1) := by decide +kernel
theorem dX11_shortestNow_95 : decode cX11_shortestNow 95 = .ok (.iload 9, 2) := by decide +kernel
theorem dX11_shortestNow_97 : decode cX11_shortestNow 97 = .ok (.iadd, 1) := by decide +kernel
theorem dX11_shortestNow_98 : decode cX11_shortestNow 98 = .ok (.iaload, 1) := by decide +kernel
theorem dX11_shortestNow_99 : decode cX11_shortestNow 99 = .ok (.iadd, 1) := by decide +kernel
theorem dX11_shortestNow_100 : decode cX11_shortestNow 100 = .ok (.iaload, 1) := by decide +kernel
theorem dX11_shortestNow_101 : decode cX11_shortestNow 101 = .ok (.aload_n 0, 1) := by decide +kernel
theorem dX11_shortestNow_102 : decode cX11_shortestNow 102 = .ok (.getfield 52, 3) := by decide +kernel
theorem dX11_shortestNow_105 : decode cX11_shortestNow 105 = .ok (.bipush 41, 2) := by decide +kernel
theorem dX11_shortestNow_107 : decode cX11_shortestNow 107 = .ok (.iload 6, 2) := by decide +kernel
theorem dX11_shortestNow_109 : decode cX11_shortestNow 109 = .ok (.imul, 1) := by decide +kernel
theorem dX11_shortestNow_110 : decode cX11_shortestNow 110 = .ok (.iload 4, 2) := by decide +kernel
theorem dX11_shortestNow_112 : decode cX11_shortestNow 112 = .ok (.iadd, 1) := by decide +kernel
theorem dX11_shortestNow_113 : decode cX11_shortestNow 113 = .ok (.iaload, 1) := by decide +kernel
theorem dX11_shortestNow_114 : decode cX11_shortestNow 114 = .ok (.iconst 1, 1) := by decide +kernel
theorem dX11_shortestNow_115 : decode cX11_shortestNow 115 = .ok (.isub, 1) := by decide +kernel
theorem dX11_shortestNow_116 : decode cX11_shortestNow 116 = .ok (.if_icmp .ne 7, 3) := by decide +kernel
theorem dX11_shortestNow_119 : decode cX11_shortestNow 119 = .ok (.iconst 1, 1) := by decide +kernel
theorem dX11_shortestNow_120 : decode cX11_shortestNow 120 = .ok (.goto 4, 3) := by decide +kernel
theorem dX11_shortestNow_123 : decode cX11_shortestNow 123 = .ok (.iconst 0, 1) := by decide +kernel
theorem dX11_shortestNow_124 : decode cX11_shortestNow 124 = .ok (.istore 10, 2) := by decide +kernel
theorem dX11_shortestNow_126 : decode cX11_shortestNow 126 = .ok (.iload 10, 2) := by decide +kernel
theorem dX11_shortestNow_128 : decode cX11_shortestNow 128 = .ok (.ifCond .eq 15, 3) := by decide +kernel
theorem dX11_shortestNow_131 : decode cX11_shortestNow 131 = .ok (.iload 9, 2) := by decide +kernel
theorem dX11_shortestNow_133 : decode cX11_shortestNow 133 = .ok (.iload 5, 2) := by decide +kernel
theorem dX11_shortestNow_135 : decode cX11_shortestNow 135 = .ok (.if_icmp .ge 8, 3) := by decide +kernel
theorem dX11_shortestNow_138 : decode cX11_shortestNow 138 = .ok (.iload 9, 2) := by decide +kernel
theorem dX11_shortestNow_140 : decode cX11_shortestNow 140 = .ok (.goto 5, 3) := by decide +kernel
theorem dX11_shortestNow_143 : decode cX11_shortestNow 143 = .ok (.iload 5, 2) := by decide +kernel
theorem dX11_shortestNow_145 : decode cX11_shortestNow 145 = .ok (.istore 5, 2) := by decide +kernel
theorem dX11_shortestNow_147 : decode cX11_shortestNow 147 = .ok (.iinc 8 1, 3) := by decide +kernel
theorem dX11_shortestNow_150 : decode cX11_shortestNow 150 = .ok (.goto (-100), 3) := by decide +kernel
theorem dX11_shortestNow_153 : decode cX11_shortestNow 153 = .ok (.aload_n 0, 1) := by decide +kernel
theorem dX11_shortestNow_154 : decode cX11_shortestNow 154 = .ok (.getfield 37, 3) := by decide +kernel
theorem dX11_shortestNow_157 : decode cX11_shortestNow 157 = .ok (.bipush 10, 2) := by decide +kernel
theorem dX11_shortestNow_159 : decode cX11_shortestNow 159 = .ok (.iload 4, 2) := by decide +kernel
theorem dX11_shortestNow_161 : decode cX11_shortestNow 161 = .ok (.imul, 1) := by decide +kernel
theorem dX11_shortestNow_162 : decode cX11_shortestNow 162 = .ok (.iload 5, 2) := by decide +kernel
theorem dX11_shortestNow_164 : decode cX11_shortestNow 164 = .ok (.iadd, 1) := by decide +kernel
theorem dX11_shortestNow_165 : decode cX11_shortestNow 165 = .ok (.iaload, 1) := by decide +kernel
theorem dX11_shortestNow_166 : decode cX11_shortestNow 166 = .ok (.istore 4, 2) := by decide +kernel
theorem dX11_shortestNow_168 : decode cX11_shortestNow 168 = .ok (.iinc 6 1, 3) := by decide +kernel
theorem dX11_shortestNow_171 : decode cX11_shortestNow 171 = .ok (.goto (-142), 3) := by decide +kernel
theorem dX11_shortestNow_174 : decode cX11_shortestNow 174 = .ok (.iload 5, 2) := by decide +kernel
theorem dX11_shortestNow_176 : decode cX11_shortestNow 176 = .ok (.ireturn, 1) := by decide +kernel
theorem dX11_shortest_0 : decode cX11_shortest 0 = .ok (.aload_n 0, 1) := by decide +kernel
theorem dX11_shortest_1 : decode cX11_shortest 1 = .ok (.aload_n 0, 1) := by decide +kernel
theorem dX11_shortest_2 : decode cX11_shortest 2 = .ok (.iload_n 1, 1) := by decide +kernel
theorem dX11_shortest_3 : decode cX11_shortest 3 = .ok (.invokevirtual 72, 3) := by decide +kernel
theorem dX11_shortest_6 : decode cX11_shortest 6 = .ok (.ifCond .ne 7, 3) := by decide +kernel
theorem dX11_shortest_9 : decode cX11_shortest 9 = .ok (.iconst 1, 1) := by decide +kernel
theorem dX11_shortest_10 : decode cX11_shortest 10 = .ok (.goto 18, 3) := by decide +kernel
theorem dX11_shortest_13 : decode cX11_shortest 13 = .ok (.iload_n 2, 1) := by decide +kernel
theorem dX11_shortest_14 : decode cX11_shortest 14 = .ok (.iconst (-1), 1) := by decide +kernel
theorem dX11_shortest_15 : decode cX11_shortest 15 = .ok (.bipush 39, 2) := by decide +kernel
theorem dX11_shortest_17 : decode cX11_shortest 17 = .ok (.invokestatic 68, 3) := by decide +kernel
theorem dX11_shortest_20 : decode cX11_shortest 20 = .ok (.ifCond .eq 7, 3) := by decide +kernel
theorem dX11_shortest_23 : decode cX11_shortest 23 = .ok (.iconst 0, 1) := by decide +kernel
theorem dX11_shortest_24 : decode cX11_shortest 24 = .ok (.goto 4, 3) := by decide +kernel
theorem dX11_shortest_27 : decode cX11_shortest 27 = .ok (.iconst 2, 1) := by decide +kernel
theorem dX11_shortest_28 : decode cX11_shortest 28 = .ok (.putfield 55, 3) := by decide +kernel
theorem dX11_shortest_31 : decode cX11_shortest 31 = .ok (.aload_n 0, 1) := by decide +kernel
theorem dX11_shortest_32 : decode cX11_shortest 32 = .ok (.getfield 55, 3) := by decide +kernel
theorem dX11_shortest_35 : decode cX11_shortest 35 = .ok (.ifCond .le 5, 3) := by decide +kernel
theorem dX11_shortest_38 : decode cX11_shortest 38 = .ok (.iconst 0, 1) := by decide +kernel
theorem dX11_shortest_39 : decode cX11_shortest 39 = .ok (.ireturn, 1) := by decide +kernel
theorem dX11_shortest_40 : decode cX11_shortest 40 = .ok (.aload_n 0, 1) := by decide +kernel
theorem dX11_shortest_41 : decode cX11_shortest 41 = .ok (.invokevirtual 245, 3) := by decide +kernel
theorem dX11_shortest_44 : decode cX11_shortest 44 = .ok (.aload_n 0, 1) := by decide +kernel
theorem dX11_shortest_45 : decode cX11_shortest 45 = .ok (.iload_n 1, 1) := by decide +kernel
theorem dX11_shortest_46 : decode cX11_shortest 46 = .ok (.iload_n 2, 1) := by decide +kernel
theorem dX11_shortest_47 : decode cX11_shortest 47 = .ok (.invokevirtual 248, 3) := by decide +kernel
theorem dX11_shortest_50 : decode cX11_shortest 50 = .ok (.ireturn, 1) := by decide +kernel
theorem dX11_countLinked_0 : decode cX11_countLinked 0 = .ok (.aload_n 0, 1) := by decide +kernel
theorem dX11_countLinked_1 : decode cX11_countLinked 1 = .ok (.iload_n 1, 1) := by decide +kernel
theorem dX11_countLinked_2 : decode cX11_countLinked 2 = .ok (.putfield 30, 3) := by decide +kernel
theorem dX11_countLinked_5 : decode cX11_countLinked 5 = .ok (.aload_n 0, 1) := by decide +kernel
theorem dX11_countLinked_6 : decode cX11_countLinked 6 = .ok (.iload_n 2, 1) := by decide +kernel
theorem dX11_countLinked_7 : decode cX11_countLinked 7 = .ok (.putfield 34, 3) := by decide +kernel
theorem dX11_countLinked_10 : decode cX11_countLinked 10 = .ok (.aload_n 0, 1) := by decide +kernel
theorem dX11_countLinked_11 : decode cX11_countLinked 11 = .ok (.invokevirtual 111, 3) := by decide +kernel
theorem dX11_countLinked_14 : decode cX11_countLinked 14 = .ok (.aload_n 0, 1) := by decide +kernel
theorem dX11_countLinked_15 : decode cX11_countLinked 15 = .ok (.iconst 0, 1) := by decide +kernel
theorem dX11_countLinked_16 : decode cX11_countLinked 16 = .ok (.invokevirtual 114, 3) := by decide +kernel
theorem dX11_countLinked_19 : decode cX11_countLinked 19 = .ok (.aload_n 0, 1) := by decide +kernel
theorem dX11_countLinked_20 : decode cX11_countLinked 20 = .ok (.iconst (-1), 1) := by decide +kernel
theorem dX11_countLinked_21 : decode cX11_countLinked 21 = .ok (.putfield 30, 3) := by decide +kernel
theorem dX11_countLinked_24 : decode cX11_countLinked 24 = .ok (.aload_n 0, 1) := by decide +kernel
theorem dX11_countLinked_25 : decode cX11_countLinked 25 = .ok (.iconst (-1), 1) := by decide +kernel
theorem dX11_countLinked_26 : decode cX11_countLinked 26 = .ok (.putfield 34, 3) := by decide +kernel
theorem dX11_countLinked_29 : decode cX11_countLinked 29 = .ok (.return_, 1) := by decide +kernel
theorem dX11_ifLinked_0 : decode cX11_ifLinked 0 = .ok (.aload_n 0, 1) := by decide +kernel
theorem dX11_ifLinked_1 : decode cX11_ifLinked 1 = .ok (.aload_n 0, 1) := by decide +kernel
theorem dX11_ifLinked_2 : decode cX11_ifLinked 2 = .ok (.iload_n 1, 1) := by decide +kernel
theorem dX11_ifLinked_3 : decode cX11_ifLinked 3 = .ok (.invokevirtual 72, 3) := by decide +kernel
theorem dX11_ifLinked_6 : decode cX11_ifLinked 6 = .ok (.ifCond .eq 11, 3) := by decide +kernel
theorem dX11_ifLinked_9 : decode cX11_ifLinked 9 = .ok (.aload_n 0, 1) := by decide +kernel
theorem dX11_ifLinked_10 : decode cX11_ifLinked 10 = .ok (.iload_n 2, 1) := by decide +kernel
theorem dX11_ifLinked_11 : decode cX11_ifLinked 11 = .ok (.invokevirtual 72, 3) := by decide +kernel
theorem dX11_ifLinked_14 : decode cX11_ifLinked 14 = .ok (.ifCond .ne 7, 3) := by decide +kernel
theorem dX11_ifLinked_17 : decode cX11_ifLinked 17 = .ok (.iconst 1, 1) := by decide +kernel
theorem dX11_ifLinked_18 : decode cX11_ifLinked 18 = .ok (.goto 27, 3) := by decide +kernel
theorem dX11_ifLinked_21 : decode cX11_ifLinked 21 = .ok (.aload_n 0, 1) := by decide +kernel
theorem dX11_ifLinked_22 : decode cX11_ifLinked 22 = .ok (.iload_n 1, 1) := by decide +kernel
theorem dX11_ifLinked_23 : decode cX11_ifLinked 23 = .ok (.iload_n 2, 1) := by decide +kernel
theorem dX11_ifLinked_24 : decode cX11_ifLinked 24 = .ok (.iconst (-1), 1) := by decide +kernel
theorem dX11_ifLinked_25 : decode cX11_ifLinked 25 = .ok (.invokevirtual 144, 3) := by decide +kernel
theorem dX11_ifLinked_28 : decode cX11_ifLinked 28 = .ok (.ifCond .eq 16, 3) := by decide +kernel
theorem dX11_ifLinked_31 : decode cX11_ifLinked 31 = .ok (.iload_n 3, 1) := by decide +kernel
theorem dX11_ifLinked_32 : decode cX11_ifLinked 32 = .ok (.iconst 0, 1) := by decide +kernel
theorem dX11_ifLinked_33 : decode cX11_ifLinked 33 = .ok (.iconst 2, 1) := by decide +kernel
theorem dX11_ifLinked_34 : decode cX11_ifLinked 34 = .ok (.invokestatic 68, 3) := by decide +kernel
theorem dX11_ifLinked_37 : decode cX11_ifLinked 37 = .ok (.ifCond .eq 7, 3) := by decide +kernel
theorem dX11_ifLinked_40 : decode cX11_ifLinked 40 = .ok (.iconst 0, 1) := by decide +kernel
theorem dX11_ifLinked_41 : decode cX11_ifLinked 41 = .ok (.goto 4, 3) := by decide +kernel
theorem dX11_ifLinked_44 : decode cX11_ifLinked 44 = .ok (.iconst 2, 1) := by decide +kernel
theorem dX11_ifLinked_45 : decode cX11_ifLinked 45 = .ok (.putfield 55, 3) := by decide +kernel
theorem dX11_ifLinked_48 : decode cX11_ifLinked 48 = .ok (.aload_n 0, 1) := by decide +kernel
theorem dX11_ifLinked_49 : decode cX11_ifLinked 49 = .ok (.getfield 55, 3) := by decide +kernel
theorem dX11_ifLinked_52 : decode cX11_ifLinked 52 = .ok (.ifCond .le 5, 3) := by decide +kernel
theorem dX11_ifLinked_55 : decode cX11_ifLinked 55 = .ok (.lconst 0, 1) := by decide +kernel
theorem dX11_ifLinked_56 : decode cX11_ifLinked 56 = .ok (.lreturn, 1) := by decide +kernel
theorem dX11_ifLinked_57 : decode cX11_ifLinked 57 = .ok (.iload_n 3, 1) := by decide +kernel
theorem dX11_ifLinked_58 : decode cX11_ifLinked 58 = .ok (.iconst 2, 1) := by decide +kernel
theorem dX11_ifLinked_59 : decode cX11_ifLinked 59 = .ok (.if_icmp .ne 18, 3) := by decide +kernel
theorem dX11_ifLinked_62 : decode cX11_ifLinked 62 = .ok (.aload_n 0, 1) := by decide +kernel
theorem dX11_ifLinked_63 : decode cX11_ifLinked 63 = .ok (.iload_n 1, 1) := by decide +kernel
theorem dX11_ifLinked_64 : decode cX11_ifLinked 64 = .ok (.iload_n 2, 1) := by decide +kernel
theorem dX11_ifLinked_65 : decode cX11_ifLinked 65 = .ok (.invokevirtual 167, 3) := by decide +kernel
theorem dX11_ifLinked_68 : decode cX11_ifLinked 68 = .ok (.ifCond .ne 7, 3) := by decide +kernel
theorem dX11_ifLinked_71 : decode cX11_ifLinked 71 = .ok (.lconst 1, 1) := by decide +kernel
theorem dX11_ifLinked_72 : decode cX11_ifLinked 72 = .ok (.goto 4, 3) := by decide +kernel
theorem dX11_ifLinked_75 : decode cX11_ifLinked 75 = .ok (.lconst 0, 1) := by decide +kernel
theorem dX11_ifLinked_76 : decode cX11_ifLinked 76 = .ok (.lreturn, 1) := by decide +kernel
theorem dX11_ifLinked_77 : decode cX11_ifLinked 77 = .ok (.aload_n 0, 1) := by decide +kernel
theorem dX11_ifLinked_78 : decode cX11_ifLinked 78 = .ok (.iload_n 1, 1) := by decide +kernel
theorem dX11_ifLinked_79 : decode cX11_ifLinked 79 = .ok (.iload_n 2, 1) := by decide +kernel
theorem dX11_ifLinked_80 : decode cX11_ifLinked 80 = .ok (.invokevirtual 251, 3) := by decide +kernel
theorem dX11_ifLinked_83 : decode cX11_ifLinked 83 = .ok (.aload_n 0, 1) := by decide +kernel
theorem dX11_ifLinked_84 : decode cX11_ifLinked 84 = .ok (.getfield 90, 3) := by decide +kernel
theorem dX11_ifLinked_87 : decode cX11_ifLinked 87 = .ok (.aload_n 0, 1) := by decide +kernel
theorem dX11_ifLinked_88 : decode cX11_ifLinked 88 = .ok (.getfield 87, 3) := by decide +kernel
theorem dX11_ifLinked_91 : decode cX11_ifLinked 91 = .ok (.iload_n 3, 1) := by decide +kernel
theorem dX11_ifLinked_92 : decode cX11_ifLinked 92 = .ok (.invokestatic 118, 3) := by decide +kernel
theorem dX11_ifLinked_95 : decode cX11_ifLinked 95 = .ok (.lreturn, 1) := by decide +kernel
theorem dX11_linkFor_0 : decode cX11_linkFor 0 = .ok (.aload_n 0, 1) := by decide +kernel
theorem dX11_linkFor_1 : decode cX11_linkFor 1 = .ok (.getfield 7, 3) := by decide +kernel
theorem dX11_linkFor_4 : decode cX11_linkFor 4 = .ok (.iconst 4, 1) := by decide +kernel
theorem dX11_linkFor_5 : decode cX11_linkFor 5 = .ok (.iaload, 1) := by decide +kernel
theorem dX11_linkFor_6 : decode cX11_linkFor 6 = .ok (.bipush 10, 2) := by decide +kernel
theorem dX11_linkFor_8 : decode cX11_linkFor 8 = .ok (.if_icmp .ne 5, 3) := by decide +kernel
theorem dX11_linkFor_11 : decode cX11_linkFor 11 = .ok (.iconst (-1), 1) := by decide +kernel
theorem dX11_linkFor_12 : decode cX11_linkFor 12 = .ok (.ireturn, 1) := by decide +kernel
theorem dX11_linkFor_13 : decode cX11_linkFor 13 = .ok (.iconst (-1), 1) := by decide +kernel
theorem dX11_linkFor_14 : decode cX11_linkFor 14 = .ok (.istore_n 3, 1) := by decide +kernel
theorem dX11_linkFor_15 : decode cX11_linkFor 15 = .ok (.lconst 0, 1) := by decide +kernel
theorem dX11_linkFor_16 : decode cX11_linkFor 16 = .ok (.lstore 4, 2) := by decide +kernel
theorem dX11_linkFor_18 : decode cX11_linkFor 18 = .ok (.iconst 0, 1) := by decide +kernel
theorem dX11_linkFor_19 : decode cX11_linkFor 19 = .ok (.istore 6, 2) := by decide +kernel
theorem dX11_linkFor_21 : decode cX11_linkFor 21 = .ok (.iload 6, 2) := by decide +kernel
theorem dX11_linkFor_23 : decode cX11_linkFor 23 = .ok (.bipush 41, 2) := by decide +kernel
theorem dX11_linkFor_25 : decode cX11_linkFor 25 = .ok (.aload_n 0, 1) := by decide +kernel
theorem dX11_linkFor_26 : decode cX11_linkFor 26 = .ok (.getfield 7, 3) := by decide +kernel
theorem dX11_linkFor_29 : decode cX11_linkFor 29 = .ok (.iconst 3, 1) := by decide +kernel
theorem dX11_linkFor_30 : decode cX11_linkFor 30 = .ok (.iaload, 1) := by decide +kernel
theorem dX11_linkFor_31 : decode cX11_linkFor 31 = .ok (.imul, 1) := by decide +kernel
theorem dX11_linkFor_32 : decode cX11_linkFor 32 = .ok (.if_icmp .ge 122, 3) := by decide +kernel
theorem dX11_linkFor_35 : decode cX11_linkFor 35 = .ok (.aload_n 0, 1) := by decide +kernel
theorem dX11_linkFor_36 : decode cX11_linkFor 36 = .ok (.iload 6, 2) := by decide +kernel
theorem dX11_linkFor_38 : decode cX11_linkFor 38 = .ok (.bipush 41, 2) := by decide +kernel
theorem dX11_linkFor_40 : decode cX11_linkFor 40 = .ok (.idiv, 1) := by decide +kernel
theorem dX11_linkFor_41 : decode cX11_linkFor 41 = .ok (.iload 6, 2) := by decide +kernel
theorem dX11_linkFor_43 : decode cX11_linkFor 43 = .ok (.bipush 41, 2) := by decide +kernel
theorem dX11_linkFor_45 : decode cX11_linkFor 45 = .ok (.irem, 1) := by decide +kernel
theorem dX11_linkFor_46 : decode cX11_linkFor 46 = .ok (.iconst (-1), 1) := by decide +kernel
theorem dX11_linkFor_47 : decode cX11_linkFor 47 = .ok (.invokevirtual 144, 3) := by decide +kernel
theorem dX11_linkFor_50 : decode cX11_linkFor 50 = .ok (.ifCond .eq 98, 3) := by decide +kernel
theorem dX11_linkFor_53 : decode cX11_linkFor 53 = .ok (.aload_n 0, 1) := by decide +kernel
theorem dX11_linkFor_54 : decode cX11_linkFor 54 = .ok (.iload 6, 2) := by decide +kernel
theorem dX11_linkFor_56 : decode cX11_linkFor 56 = .ok (.bipush 41, 2) := by decide +kernel
theorem dX11_linkFor_58 : decode cX11_linkFor 58 = .ok (.idiv, 1) := by decide +kernel
theorem dX11_linkFor_59 : decode cX11_linkFor 59 = .ok (.iload 6, 2) := by decide +kernel
theorem dX11_linkFor_61 : decode cX11_linkFor 61 = .ok (.bipush 41, 2) := by decide +kernel
theorem dX11_linkFor_63 : decode cX11_linkFor 63 = .ok (.irem, 1) := by decide +kernel
theorem dX11_linkFor_64 : decode cX11_linkFor 64 = .ok (.invokevirtual 251, 3) := by decide +kernel
theorem dX11_linkFor_67 : decode cX11_linkFor 67 = .ok (.ldc2_w 122, 3) := by decide +kernel
theorem dX11_linkFor_70 : decode cX11_linkFor 70 = .ok (.aload_n 0, 1) := by decide +kernel
theorem dX11_linkFor_71 : decode cX11_linkFor 71 = .ok (.getfield 90, 3) := by decide +kernel
theorem dX11_linkFor_74 : decode cX11_linkFor 74 = .ok (.lmul, 1) := by decide +kernel
theorem dX11_linkFor_75 : decode cX11_linkFor 75 = .ok (.iload_n 1, 1) := by decide +kernel
theorem dX11_linkFor_76 : decode cX11_linkFor 76 = .ok (.i2l, 1) := by decide +kernel
theorem dX11_linkFor_77 : decode cX11_linkFor 77 = .ok (.aload_n 0, 1) := by decide +kernel
theorem dX11_linkFor_78 : decode cX11_linkFor 78 = .ok (.getfield 87, 3) := by decide +kernel
theorem dX11_linkFor_81 : decode cX11_linkFor 81 = .ok (.lmul, 1) := by decide +kernel
theorem dX11_linkFor_82 : decode cX11_linkFor 82 = .ok (.lsub, 1) := by decide +kernel
theorem dX11_linkFor_83 : decode cX11_linkFor 83 = .ok (.lstore 7, 2) := by decide +kernel
theorem dX11_linkFor_85 : decode cX11_linkFor 85 = .ok (.lload 7, 2) := by decide +kernel
theorem dX11_linkFor_87 : decode cX11_linkFor 87 = .ok (.lconst 0, 1) := by decide +kernel
theorem dX11_linkFor_88 : decode cX11_linkFor 88 = .ok (.lcmp, 1) := by decide +kernel
theorem dX11_linkFor_89 : decode cX11_linkFor 89 = .ok (.ifCond .ge 9, 3) := by decide +kernel
theorem dX11_linkFor_92 : decode cX11_linkFor 92 = .ok (.lload 7, 2) := by decide +kernel
theorem dX11_linkFor_94 : decode cX11_linkFor 94 = .ok (.lneg, 1) := by decide +kernel
theorem dX11_linkFor_95 : decode cX11_linkFor 95 = .ok (.goto 5, 3) := by decide +kernel
theorem dX11_linkFor_98 : decode cX11_linkFor 98 = .ok (.lload 7, 2) := by decide +kernel
theorem dX11_linkFor_100 : decode cX11_linkFor 100 = .ok (.lstore 7, 2) := by decide +kernel
theorem dX11_linkFor_102 : decode cX11_linkFor 102 = .ok (.iload_n 3, 1) := by decide +kernel
theorem dX11_linkFor_103 : decode cX11_linkFor 103 = .ok (.iconst (-1), 1) := by decide +kernel
theorem dX11_linkFor_104 : decode cX11_linkFor 104 = .ok (.if_icmp .eq 11, 3) := by decide +kernel
theorem dX11_linkFor_107 : decode cX11_linkFor 107 = .ok (.lload 7, 2) := by decide +kernel
theorem dX11_linkFor_109 : decode cX11_linkFor 109 = .ok (.lload 4, 2) := by decide +kernel
theorem dX11_linkFor_111 : decode cX11_linkFor 111 = .ok (.lcmp, 1) := by decide +kernel
theorem dX11_linkFor_112 : decode cX11_linkFor 112 = .ok (.ifCond .ge 7, 3) := by decide +kernel
theorem dX11_linkFor_115 : decode cX11_linkFor 115 = .ok (.iconst 1, 1) := by decide +kernel
theorem dX11_linkFor_116 : decode cX11_linkFor 116 = .ok (.goto 4, 3) := by decide +kernel
theorem dX11_linkFor_119 : decode cX11_linkFor 119 = .ok (.iconst 0, 1) := by decide +kernel
theorem dX11_linkFor_120 : decode cX11_linkFor 120 = .ok (.istore 9, 2) := by decide +kernel
theorem dX11_linkFor_122 : decode cX11_linkFor 122 = .ok (.iload 9, 2) := by decide +kernel
theorem dX11_linkFor_124 : decode cX11_linkFor 124 = .ok (.ifCond .eq 8, 3) := by decide +kernel
theorem dX11_linkFor_127 : decode cX11_linkFor 127 = .ok (.iload 6, 2) := by decide +kernel
theorem dX11_linkFor_129 : decode cX11_linkFor 129 = .ok (.goto 4, 3) := by decide +kernel
theorem dX11_linkFor_132 : decode cX11_linkFor 132 = .ok (.iload_n 3, 1) := by decide +kernel
theorem dX11_linkFor_133 : decode cX11_linkFor 133 = .ok (.istore_n 3, 1) := by decide +kernel
theorem dX11_linkFor_134 : decode cX11_linkFor 134 = .ok (.iload 9, 2) := by decide +kernel
theorem dX11_linkFor_136 : decode cX11_linkFor 136 = .ok (.ifCond .eq 8, 3) := by decide +kernel
theorem dX11_linkFor_139 : decode cX11_linkFor 139 = .ok (.lload 7, 2) := by decide +kernel
theorem dX11_linkFor_141 : decode cX11_linkFor 141 = .ok (.goto 5, 3) := by decide +kernel
theorem dX11_linkFor_144 : decode cX11_linkFor 144 = .ok (.lload 4, 2) := by decide +kernel
theorem dX11_linkFor_146 : decode cX11_linkFor 146 = .ok (.lstore 4, 2) := by decide +kernel
theorem dX11_linkFor_148 : decode cX11_linkFor 148 = .ok (.iinc 6 1, 3) := by decide +kernel
theorem dX11_linkFor_151 : decode cX11_linkFor 151 = .ok (.goto (-130), 3) := by decide +kernel
theorem dX11_linkFor_154 : decode cX11_linkFor 154 = .ok (.iload_n 3, 1) := by decide +kernel
theorem dX11_linkFor_155 : decode cX11_linkFor 155 = .ok (.iconst (-1), 1) := by decide +kernel
theorem dX11_linkFor_156 : decode cX11_linkFor 156 = .ok (.if_icmp .ne 7, 3) := by decide +kernel
theorem dX11_linkFor_159 : decode cX11_linkFor 159 = .ok (.iconst (-1), 1) := by decide +kernel
theorem dX11_linkFor_160 : decode cX11_linkFor 160 = .ok (.goto 18, 3) := by decide +kernel
theorem dX11_linkFor_163 : decode cX11_linkFor 163 = .ok (.iload_n 2, 1) := by decide +kernel
theorem dX11_linkFor_164 : decode cX11_linkFor 164 = .ok (.ifCond .ne 10, 3) := by decide +kernel
theorem dX11_linkFor_167 : decode cX11_linkFor 167 = .ok (.iload_n 3, 1) := by decide +kernel
theorem dX11_linkFor_168 : decode cX11_linkFor 168 = .ok (.bipush 41, 2) := by decide +kernel
theorem dX11_linkFor_170 : decode cX11_linkFor 170 = .ok (.idiv, 1) := by decide +kernel
theorem dX11_linkFor_171 : decode cX11_linkFor 171 = .ok (.goto 7, 3) := by decide +kernel
theorem dX11_linkFor_174 : decode cX11_linkFor 174 = .ok (.iload_n 3, 1) := by decide +kernel
theorem dX11_linkFor_175 : decode cX11_linkFor 175 = .ok (.bipush 41, 2) := by decide +kernel
theorem dX11_linkFor_177 : decode cX11_linkFor 177 = .ok (.irem, 1) := by decide +kernel
theorem dX11_linkFor_178 : decode cX11_linkFor 178 = .ok (.ireturn, 1) := by decide +kernel
theorem dX11_bestLink_0 : decode cX11_bestLink 0 = .ok (.aload_n 0, 1) := by decide +kernel
theorem dX11_bestLink_1 : decode cX11_bestLink 1 = .ok (.iload_n 1, 1) := by decide +kernel
theorem dX11_bestLink_2 : decode cX11_bestLink 2 = .ok (.iconst 0, 1) := by decide +kernel
theorem dX11_bestLink_3 : decode cX11_bestLink 3 = .ok (.sipush 8000, 3) := by decide +kernel
theorem dX11_bestLink_6 : decode cX11_bestLink 6 = .ok (.invokestatic 68, 3) := by decide +kernel
theorem dX11_bestLink_9 : decode cX11_bestLink 9 = .ok (.ifCond .eq 16, 3) := by decide +kernel
theorem dX11_bestLink_12 : decode cX11_bestLink 12 = .ok (.iload_n 2, 1) := by decide +kernel
theorem dX11_bestLink_13 : decode cX11_bestLink 13 = .ok (.iconst 0, 1) := by decide +kernel
theorem dX11_bestLink_14 : decode cX11_bestLink 14 = .ok (.iconst 1, 1) := by decide +kernel
theorem dX11_bestLink_15 : decode cX11_bestLink 15 = .ok (.invokestatic 68, 3) := by decide +kernel
theorem dX11_bestLink_18 : decode cX11_bestLink 18 = .ok (.ifCond .eq 7, 3) := by decide +kernel
theorem dX11_bestLink_21 : decode cX11_bestLink 21 = .ok (.iconst 0, 1) := by decide +kernel
theorem dX11_bestLink_22 : decode cX11_bestLink 22 = .ok (.goto 4, 3) := by decide +kernel
theorem dX11_bestLink_25 : decode cX11_bestLink 25 = .ok (.iconst 1, 1) := by decide +kernel
theorem dX11_bestLink_26 : decode cX11_bestLink 26 = .ok (.putfield 55, 3) := by decide +kernel
theorem dX11_bestLink_29 : decode cX11_bestLink 29 = .ok (.aload_n 0, 1) := by decide +kernel
theorem dX11_bestLink_30 : decode cX11_bestLink 30 = .ok (.getfield 55, 3) := by decide +kernel
theorem dX11_bestLink_33 : decode cX11_bestLink 33 = .ok (.ifCond .le 7, 3) := by decide +kernel
theorem dX11_bestLink_36 : decode cX11_bestLink 36 = .ok (.iconst 0, 1) := by decide +kernel
theorem dX11_bestLink_37 : decode cX11_bestLink 37 = .ok (.goto 9, 3) := by decide +kernel
theorem dX11_bestLink_40 : decode cX11_bestLink 40 = .ok (.aload_n 0, 1) := by decide +kernel
theorem dX11_bestLink_41 : decode cX11_bestLink 41 = .ok (.iload_n 1, 1) := by decide +kernel
theorem dX11_bestLink_42 : decode cX11_bestLink 42 = .ok (.iload_n 2, 1) := by decide +kernel
theorem dX11_bestLink_43 : decode cX11_bestLink 43 = .ok (.invokevirtual 254, 3) := by decide +kernel
theorem dX11_bestLink_46 : decode cX11_bestLink 46 = .ok (.ireturn, 1) := by decide +kernel
theorem dX11_sideFor_0 : decode cX11_sideFor 0 = .ok (.aload_n 0, 1) := by decide +kernel
theorem dX11_sideFor_1 : decode cX11_sideFor 1 = .ok (.iload_n 1, 1) := by decide +kernel
theorem dX11_sideFor_2 : decode cX11_sideFor 2 = .ok (.invokevirtual 186, 3) := by decide +kernel
theorem dX11_sideFor_5 : decode cX11_sideFor 5 = .ok (.ifCond .eq 5, 3) := by decide +kernel
theorem dX11_sideFor_8 : decode cX11_sideFor 8 = .ok (.iconst (-1), 1) := by decide +kernel
theorem dX11_sideFor_9 : decode cX11_sideFor 9 = .ok (.ireturn, 1) := by decide +kernel
theorem dX11_sideFor_10 : decode cX11_sideFor 10 = .ok (.aload_n 0, 1) := by decide +kernel
theorem dX11_sideFor_11 : decode cX11_sideFor 11 = .ok (.invokevirtual 111, 3) := by decide +kernel
theorem dX11_sideFor_14 : decode cX11_sideFor 14 = .ok (.aload_n 0, 1) := by decide +kernel
theorem dX11_sideFor_15 : decode cX11_sideFor 15 = .ok (.aload_n 0, 1) := by decide +kernel
theorem dX11_sideFor_16 : decode cX11_sideFor 16 = .ok (.getfield 7, 3) := by decide +kernel
theorem dX11_sideFor_19 : decode cX11_sideFor 19 = .ok (.bipush 57, 2) := by decide +kernel
theorem dX11_sideFor_21 : decode cX11_sideFor 21 = .ok (.iload_n 1, 1) := by decide +kernel
theorem dX11_sideFor_22 : decode cX11_sideFor 22 = .ok (.iadd, 1) := by decide +kernel
theorem dX11_sideFor_23 : decode cX11_sideFor 23 = .ok (.iaload, 1) := by decide +kernel
theorem dX11_sideFor_24 : decode cX11_sideFor 24 = .ok (.invokevirtual 96, 3) := by decide +kernel
theorem dX11_sideFor_27 : decode cX11_sideFor 27 = .ok (.istore_n 2, 1) := by decide +kernel
theorem dX11_sideFor_28 : decode cX11_sideFor 28 = .ok (.iconst (-1), 1) := by decide +kernel
theorem dX11_sideFor_29 : decode cX11_sideFor 29 = .ok (.istore_n 3, 1) := by decide +kernel
theorem dX11_sideFor_30 : decode cX11_sideFor 30 = .ok (.lconst 0, 1) := by decide +kernel
theorem dX11_sideFor_31 : decode cX11_sideFor 31 = .ok (.lstore 4, 2) := by decide +kernel
theorem dX11_sideFor_33 : decode cX11_sideFor 33 = .ok (.iconst 0, 1) := by decide +kernel
theorem dX11_sideFor_34 : decode cX11_sideFor 34 = .ok (.istore 6, 2) := by decide +kernel
theorem dX11_sideFor_36 : decode cX11_sideFor 36 = .ok (.iload 6, 2) := by decide +kernel
theorem dX11_sideFor_38 : decode cX11_sideFor 38 = .ok (.aload_n 0, 1) := by decide +kernel
theorem dX11_sideFor_39 : decode cX11_sideFor 39 = .ok (.getfield 7, 3) := by decide +kernel
theorem dX11_sideFor_42 : decode cX11_sideFor 42 = .ok (.bipush 28, 2) := by decide +kernel
theorem dX11_sideFor_44 : decode cX11_sideFor 44 = .ok (.iload_n 2, 1) := by decide +kernel
theorem dX11_sideFor_45 : decode cX11_sideFor 45 = .ok (.iadd, 1) := by decide +kernel
theorem dX11_sideFor_46 : decode cX11_sideFor 46 = .ok (.iaload, 1) := by decide +kernel
theorem dX11_sideFor_47 : decode cX11_sideFor 47 = .ok (.if_icmp .ge 88, 3) := by decide +kernel
theorem dX11_sideFor_50 : decode cX11_sideFor 50 = .ok (.aload_n 0, 1) := by decide +kernel
theorem dX11_sideFor_51 : decode cX11_sideFor 51 = .ok (.aload_n 0, 1) := by decide +kernel
theorem dX11_sideFor_52 : decode cX11_sideFor 52 = .ok (.getfield 37, 3) := by decide +kernel
theorem dX11_sideFor_55 : decode cX11_sideFor 55 = .ok (.bipush 10, 2) := by decide +kernel
theorem dX11_sideFor_57 : decode cX11_sideFor 57 = .ok (.aload_n 0, 1) := by decide +kernel
theorem dX11_sideFor_58 : decode cX11_sideFor 58 = .ok (.getfield 7, 3) := by decide +kernel
theorem dX11_sideFor_61 : decode cX11_sideFor 61 = .ok (.bipush 53, 2) := by decide +kernel
theorem dX11_sideFor_63 : decode cX11_sideFor 63 = .ok (.iload_n 1, 1) := by decide +kernel
theorem dX11_sideFor_64 : decode cX11_sideFor 64 = .ok (.iadd, 1) := by decide +kernel
theorem dX11_sideFor_65 : decode cX11_sideFor 65 = .ok (.iaload, 1) := by decide +kernel
theorem dX11_sideFor_66 : decode cX11_sideFor 66 = .ok (.imul, 1) := by decide +kernel
theorem dX11_sideFor_67 : decode cX11_sideFor 67 = .ok (.aload_n 0, 1) := by decide +kernel
theorem dX11_sideFor_68 : decode cX11_sideFor 68 = .ok (.iload_n 2, 1) := by decide +kernel
theorem dX11_sideFor_69 : decode cX11_sideFor 69 = .ok (.iload 6, 2) := by decide +kernel
theorem dX11_sideFor_71 : decode cX11_sideFor 71 = .ok (.invokevirtual 84, 3) := by decide +kernel
theorem dX11_sideFor_74 : decode cX11_sideFor 74 = .ok (.iadd, 1) := by decide +kernel
theorem dX11_sideFor_75 : decode cX11_sideFor 75 = .ok (.iaload, 1) := by decide +kernel
theorem dX11_sideFor_76 : decode cX11_sideFor 76 = .ok (.invokevirtual 114, 3) := by decide +kernel
theorem dX11_sideFor_79 : decode cX11_sideFor 79 = .ok (.iload_n 3, 1) := by decide +kernel
theorem dX11_sideFor_80 : decode cX11_sideFor 80 = .ok (.iconst (-1), 1) := by decide +kernel
theorem dX11_sideFor_81 : decode cX11_sideFor 81 = .ok (.if_icmp .eq 13, 3) := by decide +kernel
theorem dX11_sideFor_84 : decode cX11_sideFor 84 = .ok (.aload_n 0, 1) := by decide +kernel
theorem dX11_sideFor_85 : decode cX11_sideFor 85 = .ok (.getfield 90, 3) := by decide +kernel
theorem dX11_sideFor_88 : decode cX11_sideFor 88 = .ok (.lload 4, 2) := by decide +kernel
theorem dX11_sideFor_90 : decode cX11_sideFor 90 = .ok (.lcmp, 1) := by decide +kernel
theorem dX11_sideFor_91 : decode cX11_sideFor 91 = .ok (.ifCond .ge 7, 3) := by decide +kernel
theorem dX11_sideFor_94 : decode cX11_sideFor 94 = .ok (.iconst 1, 1) := by decide +kernel
theorem dX11_sideFor_95 : decode cX11_sideFor 95 = .ok (.goto 4, 3) := by decide +kernel
theorem dX11_sideFor_98 : decode cX11_sideFor 98 = .ok (.iconst 0, 1) := by decide +kernel
theorem dX11_sideFor_99 : decode cX11_sideFor 99 = .ok (.istore 7, 2) := by decide +kernel
theorem dX11_sideFor_101 : decode cX11_sideFor 101 = .ok (.iload 7, 2) := by decide +kernel
theorem dX11_sideFor_103 : decode cX11_sideFor 103 = .ok (.ifCond .eq 8, 3) := by decide +kernel
theorem dX11_sideFor_106 : decode cX11_sideFor 106 = .ok (.iload 6, 2) := by decide +kernel
theorem dX11_sideFor_108 : decode cX11_sideFor 108 = .ok (.goto 4, 3) := by decide +kernel
theorem dX11_sideFor_111 : decode cX11_sideFor 111 = .ok (.iload_n 3, 1) := by decide +kernel
theorem dX11_sideFor_112 : decode cX11_sideFor 112 = .ok (.istore_n 3, 1) := by decide +kernel
theorem dX11_sideFor_113 : decode cX11_sideFor 113 = .ok (.iload 7, 2) := by decide +kernel
theorem dX11_sideFor_115 : decode cX11_sideFor 115 = .ok (.ifCond .eq 10, 3) := by decide +kernel
theorem dX11_sideFor_118 : decode cX11_sideFor 118 = .ok (.aload_n 0, 1) := by decide +kernel
theorem dX11_sideFor_119 : decode cX11_sideFor 119 = .ok (.getfield 90, 3) := by decide +kernel
theorem dX11_sideFor_122 : decode cX11_sideFor 122 = .ok (.goto 5, 3) := by decide +kernel
theorem dX11_sideFor_125 : decode cX11_sideFor 125 = .ok (.lload 4, 2) := by decide +kernel
theorem dX11_sideFor_127 : decode cX11_sideFor 127 = .ok (.lstore 4, 2) := by decide +kernel
theorem dX11_sideFor_129 : decode cX11_sideFor 129 = .ok (.iinc 6 1, 3) := by decide +kernel
theorem dX11_sideFor_132 : decode cX11_sideFor 132 = .ok (.goto (-96), 3) := by decide +kernel
theorem dX11_sideFor_135 : decode cX11_sideFor 135 = .ok (.iload_n 3, 1) := by decide +kernel
theorem dX11_sideFor_136 : decode cX11_sideFor 136 = .ok (.ireturn, 1) := by decide +kernel
theorem dX11_bestSide_0 : decode cX11_bestSide 0 = .ok (.aload_n 0, 1) := by decide +kernel
theorem dX11_bestSide_1 : decode cX11_bestSide 1 = .ok (.aload_n 0, 1) := by decide +kernel
theorem dX11_bestSide_2 : decode cX11_bestSide 2 = .ok (.iload_n 1, 1) := by decide +kernel
theorem dX11_bestSide_3 : decode cX11_bestSide 3 = .ok (.invokevirtual 183, 3) := by decide +kernel
theorem dX11_bestSide_6 : decode cX11_bestSide 6 = .ok (.ifCond .eq 7, 3) := by decide +kernel
theorem dX11_bestSide_9 : decode cX11_bestSide 9 = .ok (.iconst 0, 1) := by decide +kernel
theorem dX11_bestSide_10 : decode cX11_bestSide 10 = .ok (.goto 4, 3) := by decide +kernel
theorem dX11_bestSide_13 : decode cX11_bestSide 13 = .ok (.iconst 1, 1) := by decide +kernel
theorem dX11_bestSide_14 : decode cX11_bestSide 14 = .ok (.putfield 55, 3) := by decide +kernel
theorem dX11_bestSide_17 : decode cX11_bestSide 17 = .ok (.aload_n 0, 1) := by decide +kernel
theorem dX11_bestSide_18 : decode cX11_bestSide 18 = .ok (.getfield 55, 3) := by decide +kernel
theorem dX11_bestSide_21 : decode cX11_bestSide 21 = .ok (.ifCond .le 7, 3) := by decide +kernel
theorem dX11_bestSide_24 : decode cX11_bestSide 24 = .ok (.iconst 0, 1) := by decide +kernel
theorem dX11_bestSide_25 : decode cX11_bestSide 25 = .ok (.goto 8, 3) := by decide +kernel
theorem dX11_bestSide_28 : decode cX11_bestSide 28 = .ok (.aload_n 0, 1) := by decide +kernel
theorem dX11_bestSide_29 : decode cX11_bestSide 29 = .ok (.iload_n 1, 1) := by decide +kernel
theorem dX11_bestSide_30 : decode cX11_bestSide 30 = .ok (.invokevirtual 257, 3) := by decide +kernel
theorem dX11_bestSide_33 : decode cX11_bestSide 33 = .ok (.ireturn, 1) := by decide +kernel
theorem dX11_meanOf_0 : decode cX11_meanOf 0 = .ok (.aload_n 0, 1) := by decide +kernel
theorem dX11_meanOf_1 : decode cX11_meanOf 1 = .ok (.iconst 0, 1) := by decide +kernel
theorem dX11_meanOf_2 : decode cX11_meanOf 2 = .ok (.iconst 0, 1) := by decide +kernel
theorem dX11_meanOf_3 : decode cX11_meanOf 3 = .ok (.invokevirtual 237, 3) := by decide +kernel
theorem dX11_meanOf_6 : decode cX11_meanOf 6 = .ok (.lstore_n 1, 1) := by decide +kernel
theorem dX11_meanOf_7 : decode cX11_meanOf 7 = .ok (.lload_n 1, 1) := by decide +kernel
theorem dX11_meanOf_8 : decode cX11_meanOf 8 = .ok (.l2d, 1) := by decide +kernel
theorem dX11_meanOf_9 : decode cX11_meanOf 9 = .ok (.aload_n 0, 1) := by decide +kernel
theorem dX11_meanOf_10 : decode cX11_meanOf 10 = .ok (.iconst 0, 1) := by decide +kernel
theorem dX11_meanOf_11 : decode cX11_meanOf 11 = .ok (.iconst 1, 1) := by decide +kernel
theorem dX11_meanOf_12 : decode cX11_meanOf 12 = .ok (.invokevirtual 237, 3) := by decide +kernel
theorem dX11_meanOf_15 : decode cX11_meanOf 15 = .ok (.l2d, 1) := by decide +kernel
theorem dX11_meanOf_16 : decode cX11_meanOf 16 = .ok (.ddiv, 1) := by decide +kernel
theorem dX11_meanOf_17 : decode cX11_meanOf 17 = .ok (.dreturn, 1) := by decide +kernel
theorem dX11_meanLength_0 : decode cX11_meanLength 0 = .ok (.aload_n 0, 1) := by decide +kernel
theorem dX11_meanLength_1 : decode cX11_meanLength 1 = .ok (.iconst 0, 1) := by decide +kernel
theorem dX11_meanLength_2 : decode cX11_meanLength 2 = .ok (.putfield 55, 3) := by decide +kernel
theorem dX11_meanLength_5 : decode cX11_meanLength 5 = .ok (.aload_n 0, 1) := by decide +kernel
theorem dX11_meanLength_6 : decode cX11_meanLength 6 = .ok (.invokevirtual 260, 3) := by decide +kernel
theorem dX11_meanLength_9 : decode cX11_meanLength 9 = .ok (.dreturn, 1) := by decide +kernel
theorem dX11_mix_0 : decode cX11_mix 0 = .ok (.aload_n 0, 1) := by decide +kernel
theorem dX11_mix_1 : decode cX11_mix 1 = .ok (.ldc2_w 264, 3) := by decide +kernel
theorem dX11_mix_4 : decode cX11_mix 4 = .ok (.aload_n 0, 1) := by decide +kernel
theorem dX11_mix_5 : decode cX11_mix 5 = .ok (.getfield 266, 3) := by decide +kernel
theorem dX11_mix_8 : decode cX11_mix 8 = .ok (.lmul, 1) := by decide +kernel
theorem dX11_mix_9 : decode cX11_mix 9 = .ok (.lload_n 1, 1) := by decide +kernel
theorem dX11_mix_10 : decode cX11_mix 10 = .ok (.ladd, 1) := by decide +kernel
theorem dX11_mix_11 : decode cX11_mix 11 = .ok (.putfield 266, 3) := by decide +kernel
theorem dX11_mix_14 : decode cX11_mix 14 = .ok (.return_, 1) := by decide +kernel
theorem dX11_mixSquares_0 : decode cX11_mixSquares 0 = .ok (.iconst 0, 1) := by decide +kernel
theorem dX11_mixSquares_1 : decode cX11_mixSquares 1 = .ok (.istore_n 1, 1) := by decide +kernel
theorem dX11_mixSquares_2 : decode cX11_mixSquares 2 = .ok (.iload_n 1, 1) := by decide +kernel
theorem dX11_mixSquares_3 : decode cX11_mixSquares 3 = .ok (.aload_n 0, 1) := by decide +kernel
theorem dX11_mixSquares_4 : decode cX11_mixSquares 4 = .ok (.getfield 7, 3) := by decide +kernel
theorem dX11_mixSquares_7 : decode cX11_mixSquares 7 = .ok (.iconst 3, 1) := by decide +kernel
theorem dX11_mixSquares_8 : decode cX11_mixSquares 8 = .ok (.iaload, 1) := by decide +kernel
theorem dX11_mixSquares_9 : decode cX11_mixSquares 9 = .ok (.if_icmp .gt 64, 3) := by decide +kernel
theorem dX11_mixSquares_12 : decode cX11_mixSquares 12 = .ok (.iconst 0, 1) := by decide +kernel
theorem dX11_mixSquares_13 : decode cX11_mixSquares 13 = .ok (.istore_n 2, 1) := by decide +kernel
theorem dX11_mixSquares_14 : decode cX11_mixSquares 14 = .ok (.iload_n 2, 1) := by decide +kernel
theorem dX11_mixSquares_15 : decode cX11_mixSquares 15 = .ok (.iconst 4, 1) := by decide +kernel
theorem dX11_mixSquares_16 : decode cX11_mixSquares 16 = .ok (.if_icmp .ge 20, 3) := by decide +kernel
theorem dX11_mixSquares_19 : decode cX11_mixSquares 19 = .ok (.aload_n 0, 1) := by decide +kernel
theorem dX11_mixSquares_20 : decode cX11_mixSquares 20 = .ok (.aload_n 0, 1) := by decide +kernel
theorem dX11_mixSquares_21 : decode cX11_mixSquares 21 = .ok (.iload_n 1, 1) := by decide +kernel
theorem dX11_mixSquares_22 : decode cX11_mixSquares 22 = .ok (.iload_n 2, 1) := by decide +kernel
theorem dX11_mixSquares_23 : decode cX11_mixSquares 23 = .ok (.invokevirtual 216, 3) := by decide +kernel
theorem dX11_mixSquares_26 : decode cX11_mixSquares 26 = .ok (.i2l, 1) := by decide +kernel
theorem dX11_mixSquares_27 : decode cX11_mixSquares 27 = .ok (.invokevirtual 269, 3) := by decide +kernel
theorem dX11_mixSquares_30 : decode cX11_mixSquares 30 = .ok (.iinc 2 1, 3) := by decide +kernel
theorem dX11_mixSquares_33 : decode cX11_mixSquares 33 = .ok (.goto (-19), 3) := by decide +kernel
theorem dX11_mixSquares_36 : decode cX11_mixSquares 36 = .ok (.aload_n 0, 1) := by decide +kernel
theorem dX11_mixSquares_37 : decode cX11_mixSquares 37 = .ok (.aload_n 0, 1) := by decide +kernel
theorem dX11_mixSquares_38 : decode cX11_mixSquares 38 = .ok (.iload_n 1, 1) := by decide +kernel
theorem dX11_mixSquares_39 : decode cX11_mixSquares 39 = .ok (.iconst 0, 1) := by decide +kernel
theorem dX11_mixSquares_40 : decode cX11_mixSquares 40 = .ok (.invokevirtual 237, 3) := by decide +kernel
theorem dX11_mixSquares_43 : decode cX11_mixSquares 43 = .ok (.invokevirtual 269, 3) := by decide +kernel
theorem dX11_mixSquares_46 : decode cX11_mixSquares 46 = .ok (.aload_n 0, 1) := by decide +kernel
theorem dX11_mixSquares_47 : decode cX11_mixSquares 47 = .ok (.aload_n 0, 1) := by decide +kernel
theorem dX11_mixSquares_48 : decode cX11_mixSquares 48 = .ok (.iload_n 1, 1) := by decide +kernel
theorem dX11_mixSquares_49 : decode cX11_mixSquares 49 = .ok (.iconst 1, 1) := by decide +kernel
theorem dX11_mixSquares_50 : decode cX11_mixSquares 50 = .ok (.invokevirtual 237, 3) := by decide +kernel
theorem dX11_mixSquares_53 : decode cX11_mixSquares 53 = .ok (.invokevirtual 269, 3) := by decide +kernel
theorem dX11_mixSquares_56 : decode cX11_mixSquares 56 = .ok (.aload_n 0, 1) := by decide +kernel
theorem dX11_mixSquares_57 : decode cX11_mixSquares 57 = .ok (.aload_n 0, 1) := by decide +kernel
theorem dX11_mixSquares_58 : decode cX11_mixSquares 58 = .ok (.iload_n 1, 1) := by decide +kernel
theorem dX11_mixSquares_59 : decode cX11_mixSquares 59 = .ok (.iconst (-1), 1) := by decide +kernel
theorem dX11_mixSquares_60 : decode cX11_mixSquares 60 = .ok (.invokevirtual 248, 3) := by decide +kernel
theorem dX11_mixSquares_63 : decode cX11_mixSquares 63 = .ok (.i2l, 1) := by decide +kernel
theorem dX11_mixSquares_64 : decode cX11_mixSquares 64 = .ok (.invokevirtual 269, 3) := by decide +kernel
theorem dX11_mixSquares_67 : decode cX11_mixSquares 67 = .ok (.iinc 1 1, 3) := by decide +kernel
theorem dX11_mixSquares_70 : decode cX11_mixSquares 70 = .ok (.goto (-68), 3) := by decide +kernel
theorem dX11_mixSquares_73 : decode cX11_mixSquares 73 = .ok (.iconst 0, 1) := by decide +kernel
theorem dX11_mixSquares_74 : decode cX11_mixSquares 74 = .ok (.istore_n 1, 1) := by decide +kernel
theorem dX11_mixSquares_75 : decode cX11_mixSquares 75 = .ok (.iload_n 1, 1) := by decide +kernel
theorem dX11_mixSquares_76 : decode cX11_mixSquares 76 = .ok (.iconst 3, 1) := by decide +kernel
theorem dX11_mixSquares_77 : decode cX11_mixSquares 77 = .ok (.aload_n 0, 1) := by decide +kernel
theorem dX11_mixSquares_78 : decode cX11_mixSquares 78 = .ok (.getfield 7, 3) := by decide +kernel
theorem dX11_mixSquares_81 : decode cX11_mixSquares 81 = .ok (.iconst 4, 1) := by decide +kernel
theorem dX11_mixSquares_82 : decode cX11_mixSquares 82 = .ok (.iaload, 1) := by decide +kernel
theorem dX11_mixSquares_83 : decode cX11_mixSquares 83 = .ok (.imul, 1) := by decide +kernel
theorem dX11_mixSquares_84 : decode cX11_mixSquares 84 = .ok (.if_icmp .ge 24, 3) := by decide +kernel
theorem dX11_mixSquares_87 : decode cX11_mixSquares 87 = .ok (.aload_n 0, 1) := by decide +kernel
theorem dX11_mixSquares_88 : decode cX11_mixSquares 88 = .ok (.aload_n 0, 1) := by decide +kernel
theorem dX11_mixSquares_89 : decode cX11_mixSquares 89 = .ok (.iload_n 1, 1) := by decide +kernel
theorem dX11_mixSquares_90 : decode cX11_mixSquares 90 = .ok (.iconst 3, 1) := by decide +kernel
theorem dX11_mixSquares_91 : decode cX11_mixSquares 91 = .ok (.idiv, 1) := by decide +kernel
theorem dX11_mixSquares_92 : decode cX11_mixSquares 92 = .ok (.iload_n 1, 1) := by decide +kernel
theorem dX11_mixSquares_93 : decode cX11_mixSquares 93 = .ok (.iconst 3, 1) := by decide +kernel
theorem dX11_mixSquares_94 : decode cX11_mixSquares 94 = .ok (.irem, 1) := by decide +kernel
theorem dX11_mixSquares_95 : decode cX11_mixSquares 95 = .ok (.invokevirtual 219, 3) := by decide +kernel
theorem dX11_mixSquares_98 : decode cX11_mixSquares 98 = .ok (.i2l, 1) := by decide +kernel
theorem dX11_mixSquares_99 : decode cX11_mixSquares 99 = .ok (.invokevirtual 269, 3) := by decide +kernel
theorem dX11_mixSquares_102 : decode cX11_mixSquares 102 = .ok (.iinc 1 1, 3) := by decide +kernel
theorem dX11_mixSquares_105 : decode cX11_mixSquares 105 = .ok (.goto (-30), 3) := by decide +kernel
theorem dX11_mixSquares_108 : decode cX11_mixSquares 108 = .ok (.iconst 0, 1) := by decide +kernel
theorem dX11_mixSquares_109 : decode cX11_mixSquares 109 = .ok (.istore_n 1, 1) := by decide +kernel
theorem dX11_mixSquares_110 : decode cX11_mixSquares 110 = .ok (.iload_n 1, 1) := by decide +kernel
theorem dX11_mixSquares_111 : decode cX11_mixSquares 111 = .ok (.bipush 18, 2) := by decide +kernel
theorem dX11_mixSquares_113 : decode cX11_mixSquares 113 = .ok (.if_icmp .ge 26, 3) := by decide +kernel
theorem dX11_mixSquares_116 : decode cX11_mixSquares 116 = .ok (.aload_n 0, 1) := by decide +kernel
theorem dX11_mixSquares_117 : decode cX11_mixSquares 117 = .ok (.aload_n 0, 1) := by decide +kernel
theorem dX11_mixSquares_118 : decode cX11_mixSquares 118 = .ok (.iload_n 1, 1) := by decide +kernel
theorem dX11_mixSquares_119 : decode cX11_mixSquares 119 = .ok (.bipush 6, 2) := by decide +kernel
theorem dX11_mixSquares_121 : decode cX11_mixSquares 121 = .ok (.idiv, 1) := by decide +kernel
theorem dX11_mixSquares_122 : decode cX11_mixSquares 122 = .ok (.iload_n 1, 1) := by decide +kernel
theorem dX11_mixSquares_123 : decode cX11_mixSquares 123 = .ok (.bipush 6, 2) := by decide +kernel
theorem dX11_mixSquares_125 : decode cX11_mixSquares 125 = .ok (.irem, 1) := by decide +kernel
theorem dX11_mixSquares_126 : decode cX11_mixSquares 126 = .ok (.invokevirtual 222, 3) := by decide +kernel
theorem dX11_mixSquares_129 : decode cX11_mixSquares 129 = .ok (.i2l, 1) := by decide +kernel
theorem dX11_mixSquares_130 : decode cX11_mixSquares 130 = .ok (.invokevirtual 269, 3) := by decide +kernel
theorem dX11_mixSquares_133 : decode cX11_mixSquares 133 = .ok (.iinc 1 1, 3) := by decide +kernel
theorem dX11_mixSquares_136 : decode cX11_mixSquares 136 = .ok (.goto (-26), 3) := by decide +kernel
theorem dX11_mixSquares_139 : decode cX11_mixSquares 139 = .ok (.iconst 0, 1) := by decide +kernel
theorem dX11_mixSquares_140 : decode cX11_mixSquares 140 = .ok (.istore_n 1, 1) := by decide +kernel
theorem dX11_mixSquares_141 : decode cX11_mixSquares 141 = .ok (.iload_n 1, 1) := by decide +kernel
theorem dX11_mixSquares_142 : decode cX11_mixSquares 142 = .ok (.aload_n 0, 1) := by decide +kernel
theorem dX11_mixSquares_143 : decode cX11_mixSquares 143 = .ok (.getfield 7, 3) := by decide +kernel
theorem dX11_mixSquares_146 : decode cX11_mixSquares 146 = .ok (.iconst 5, 1) := by decide +kernel
theorem dX11_mixSquares_147 : decode cX11_mixSquares 147 = .ok (.iaload, 1) := by decide +kernel
theorem dX11_mixSquares_148 : decode cX11_mixSquares 148 = .ok (.if_icmp .ge 43, 3) := by decide +kernel
theorem dX11_mixSquares_151 : decode cX11_mixSquares 151 = .ok (.iconst 0, 1) := by decide +kernel
theorem dX11_mixSquares_152 : decode cX11_mixSquares 152 = .ok (.istore_n 2, 1) := by decide +kernel
theorem dX11_mixSquares_153 : decode cX11_mixSquares 153 = .ok (.iload_n 2, 1) := by decide +kernel
theorem dX11_mixSquares_154 : decode cX11_mixSquares 154 = .ok (.iconst 5, 1) := by decide +kernel
theorem dX11_mixSquares_155 : decode cX11_mixSquares 155 = .ok (.if_icmp .ge 20, 3) := by decide +kernel
theorem dX11_mixSquares_158 : decode cX11_mixSquares 158 = .ok (.aload_n 0, 1) := by decide +kernel
theorem dX11_mixSquares_159 : decode cX11_mixSquares 159 = .ok (.aload_n 0, 1) := by decide +kernel
theorem dX11_mixSquares_160 : decode cX11_mixSquares 160 = .ok (.iload_n 1, 1) := by decide +kernel
theorem dX11_mixSquares_161 : decode cX11_mixSquares 161 = .ok (.iload_n 2, 1) := by decide +kernel
theorem dX11_mixSquares_162 : decode cX11_mixSquares 162 = .ok (.invokevirtual 228, 3) := by decide +kernel
theorem dX11_mixSquares_165 : decode cX11_mixSquares 165 = .ok (.i2l, 1) := by decide +kernel
theorem dX11_mixSquares_166 : decode cX11_mixSquares 166 = .ok (.invokevirtual 269, 3) := by decide +kernel
theorem dX11_mixSquares_169 : decode cX11_mixSquares 169 = .ok (.iinc 2 1, 3) := by decide +kernel
theorem dX11_mixSquares_172 : decode cX11_mixSquares 172 = .ok (.goto (-19), 3) := by decide +kernel
theorem dX11_mixSquares_175 : decode cX11_mixSquares 175 = .ok (.aload_n 0, 1) := by decide +kernel
theorem dX11_mixSquares_176 : decode cX11_mixSquares 176 = .ok (.aload_n 0, 1) := by decide +kernel
theorem dX11_mixSquares_177 : decode cX11_mixSquares 177 = .ok (.iload_n 1, 1) := by decide +kernel
theorem dX11_mixSquares_178 : decode cX11_mixSquares 178 = .ok (.invokevirtual 257, 3) := by decide +kernel
theorem dX11_mixSquares_181 : decode cX11_mixSquares 181 = .ok (.i2l, 1) := by decide +kernel
theorem dX11_mixSquares_182 : decode cX11_mixSquares 182 = .ok (.invokevirtual 269, 3) := by decide +kernel
theorem dX11_mixSquares_185 : decode cX11_mixSquares 185 = .ok (.iinc 1 1, 3) := by decide +kernel
theorem dX11_mixSquares_188 : decode cX11_mixSquares 188 = .ok (.goto (-47), 3) := by decide +kernel
theorem dX11_mixSquares_191 : decode cX11_mixSquares 191 = .ok (.return_, 1) := by decide +kernel
theorem dX11_digest_0 : decode cX11_digest 0 = .ok (.aload_n 0, 1) := by decide +kernel
theorem dX11_digest_1 : decode cX11_digest 1 = .ok (.iconst 0, 1) := by decide +kernel
theorem dX11_digest_2 : decode cX11_digest 2 = .ok (.putfield 55, 3) := by decide +kernel
theorem dX11_digest_5 : decode cX11_digest 5 = .ok (.aload_n 0, 1) := by decide +kernel
theorem dX11_digest_6 : decode cX11_digest 6 = .ok (.ldc2_w 273, 3) := by decide +kernel
theorem dX11_digest_9 : decode cX11_digest 9 = .ok (.putfield 266, 3) := by decide +kernel
theorem dX11_digest_12 : decode cX11_digest 12 = .ok (.iconst 0, 1) := by decide +kernel
theorem dX11_digest_13 : decode cX11_digest 13 = .ok (.istore_n 1, 1) := by decide +kernel
theorem dX11_digest_14 : decode cX11_digest 14 = .ok (.iload_n 1, 1) := by decide +kernel
theorem dX11_digest_15 : decode cX11_digest 15 = .ok (.bipush 14, 2) := by decide +kernel
theorem dX11_digest_17 : decode cX11_digest 17 = .ok (.if_icmp .ge 19, 3) := by decide +kernel
theorem dX11_digest_20 : decode cX11_digest 20 = .ok (.aload_n 0, 1) := by decide +kernel
theorem dX11_digest_21 : decode cX11_digest 21 = .ok (.aload_n 0, 1) := by decide +kernel
theorem dX11_digest_22 : decode cX11_digest 22 = .ok (.iload_n 1, 1) := by decide +kernel
theorem dX11_digest_23 : decode cX11_digest 23 = .ok (.invokevirtual 234, 3) := by decide +kernel
theorem dX11_digest_26 : decode cX11_digest 26 = .ok (.i2l, 1) := by decide +kernel
theorem dX11_digest_27 : decode cX11_digest 27 = .ok (.invokevirtual 269, 3) := by decide +kernel
theorem dX11_digest_30 : decode cX11_digest 30 = .ok (.iinc 1 1, 3) := by decide +kernel
theorem dX11_digest_33 : decode cX11_digest 33 = .ok (.goto (-19), 3) := by decide +kernel
theorem dX11_digest_36 : decode cX11_digest 36 = .ok (.iconst 0, 1) := by decide +kernel
theorem dX11_digest_37 : decode cX11_digest 37 = .ok (.istore_n 1, 1) := by decide +kernel
theorem dX11_digest_38 : decode cX11_digest 38 = .ok (.iload_n 1, 1) := by decide +kernel
theorem dX11_digest_39 : decode cX11_digest 39 = .ok (.iconst 3, 1) := by decide +kernel
theorem dX11_digest_40 : decode cX11_digest 40 = .ok (.if_icmp .ge 22, 3) := by decide +kernel
theorem dX11_digest_43 : decode cX11_digest 43 = .ok (.aload_n 0, 1) := by decide +kernel
theorem dX11_digest_44 : decode cX11_digest 44 = .ok (.aload_n 0, 1) := by decide +kernel
theorem dX11_digest_45 : decode cX11_digest 45 = .ok (.getfield 7, 3) := by decide +kernel
theorem dX11_digest_48 : decode cX11_digest 48 = .ok (.iconst 0, 1) := by decide +kernel
theorem dX11_digest_49 : decode cX11_digest 49 = .ok (.iload_n 1, 1) := by decide +kernel
theorem dX11_digest_50 : decode cX11_digest 50 = .ok (.iadd, 1) := by decide +kernel
theorem dX11_digest_51 : decode cX11_digest 51 = .ok (.iaload, 1) := by decide +kernel
theorem dX11_digest_52 : decode cX11_digest 52 = .ok (.i2l, 1) := by decide +kernel
theorem dX11_digest_53 : decode cX11_digest 53 = .ok (.invokevirtual 269, 3) := by decide +kernel
theorem dX11_digest_56 : decode cX11_digest 56 = .ok (.iinc 1 1, 3) := by decide +kernel
theorem dX11_digest_59 : decode cX11_digest 59 = .ok (.goto (-21), 3) := by decide +kernel
theorem dX11_digest_62 : decode cX11_digest 62 = .ok (.aload_n 0, 1) := by decide +kernel
theorem dX11_digest_63 : decode cX11_digest 63 = .ok (.invokevirtual 245, 3) := by decide +kernel
theorem dX11_digest_66 : decode cX11_digest 66 = .ok (.aload_n 0, 1) := by decide +kernel
theorem dX11_digest_67 : decode cX11_digest 67 = .ok (.invokevirtual 275, 3) := by decide +kernel
theorem dX11_digest_70 : decode cX11_digest 70 = .ok (.aload_n 0, 1) := by decide +kernel
theorem dX11_digest_71 : decode cX11_digest 71 = .ok (.aload_n 0, 1) := by decide +kernel
theorem dX11_digest_72 : decode cX11_digest 72 = .ok (.iconst 0, 1) := by decide +kernel
theorem dX11_digest_73 : decode cX11_digest 73 = .ok (.iconst 3, 1) := by decide +kernel
theorem dX11_digest_74 : decode cX11_digest 74 = .ok (.iconst 0, 1) := by decide +kernel
theorem dX11_digest_75 : decode cX11_digest 75 = .ok (.invokevirtual 241, 3) := by decide +kernel
theorem dX11_digest_78 : decode cX11_digest 78 = .ok (.invokevirtual 269, 3) := by decide +kernel
theorem dX11_digest_81 : decode cX11_digest 81 = .ok (.aload_n 0, 1) := by decide +kernel
theorem dX11_digest_82 : decode cX11_digest 82 = .ok (.aload_n 0, 1) := by decide +kernel
theorem dX11_digest_83 : decode cX11_digest 83 = .ok (.iconst 0, 1) := by decide +kernel
theorem dX11_digest_84 : decode cX11_digest 84 = .ok (.iconst 3, 1) := by decide +kernel
theorem dX11_digest_85 : decode cX11_digest 85 = .ok (.iconst 1, 1) := by decide +kernel
theorem dX11_digest_86 : decode cX11_digest 86 = .ok (.invokevirtual 241, 3) := by decide +kernel
theorem dX11_digest_89 : decode cX11_digest 89 = .ok (.invokevirtual 269, 3) := by decide +kernel
theorem dX11_digest_92 : decode cX11_digest 92 = .ok (.iconst 0, 1) := by decide +kernel
theorem dX11_digest_93 : decode cX11_digest 93 = .ok (.istore_n 1, 1) := by decide +kernel
theorem dX11_digest_94 : decode cX11_digest 94 = .ok (.iload_n 1, 1) := by decide +kernel
theorem dX11_digest_95 : decode cX11_digest 95 = .ok (.bipush 8, 2) := by decide +kernel
theorem dX11_digest_97 : decode cX11_digest 97 = .ok (.if_icmp .ge 20, 3) := by decide +kernel
theorem dX11_digest_100 : decode cX11_digest 100 = .ok (.aload_n 0, 1) := by decide +kernel
theorem dX11_digest_101 : decode cX11_digest 101 = .ok (.aload_n 0, 1) := by decide +kernel
theorem dX11_digest_102 : decode cX11_digest 102 = .ok (.iconst 0, 1) := by decide +kernel
theorem dX11_digest_103 : decode cX11_digest 103 = .ok (.iload_n 1, 1) := by decide +kernel
theorem dX11_digest_104 : decode cX11_digest 104 = .ok (.invokevirtual 248, 3) := by decide +kernel
theorem dX11_digest_107 : decode cX11_digest 107 = .ok (.i2l, 1) := by decide +kernel
theorem dX11_digest_108 : decode cX11_digest 108 = .ok (.invokevirtual 269, 3) := by decide +kernel
theorem dX11_digest_111 : decode cX11_digest 111 = .ok (.iinc 1 1, 3) := by decide +kernel
theorem dX11_digest_114 : decode cX11_digest 114 = .ok (.goto (-20), 3) := by decide +kernel
theorem dX11_digest_117 : decode cX11_digest 117 = .ok (.aload_n 0, 1) := by decide +kernel
theorem dX11_digest_118 : decode cX11_digest 118 = .ok (.aload_n 0, 1) := by decide +kernel
theorem dX11_digest_119 : decode cX11_digest 119 = .ok (.sipush 3000, 3) := by decide +kernel
theorem dX11_digest_122 : decode cX11_digest 122 = .ok (.iconst 0, 1) := by decide +kernel
theorem dX11_digest_123 : decode cX11_digest 123 = .ok (.invokevirtual 254, 3) := by decide +kernel
theorem dX11_digest_126 : decode cX11_digest 126 = .ok (.i2l, 1) := by decide +kernel
theorem dX11_digest_127 : decode cX11_digest 127 = .ok (.invokevirtual 269, 3) := by decide +kernel
theorem dX11_digest_130 : decode cX11_digest 130 = .ok (.aload_n 0, 1) := by decide +kernel
theorem dX11_digest_131 : decode cX11_digest 131 = .ok (.aload_n 0, 1) := by decide +kernel
theorem dX11_digest_132 : decode cX11_digest 132 = .ok (.sipush 3000, 3) := by decide +kernel
theorem dX11_digest_135 : decode cX11_digest 135 = .ok (.iconst 1, 1) := by decide +kernel
theorem dX11_digest_136 : decode cX11_digest 136 = .ok (.invokevirtual 254, 3) := by decide +kernel
theorem dX11_digest_139 : decode cX11_digest 139 = .ok (.i2l, 1) := by decide +kernel
theorem dX11_digest_140 : decode cX11_digest 140 = .ok (.invokevirtual 269, 3) := by decide +kernel
theorem dX11_digest_143 : decode cX11_digest 143 = .ok (.aload_n 0, 1) := by decide +kernel
theorem dX11_digest_144 : decode cX11_digest 144 = .ok (.aload_n 0, 1) := by decide +kernel
theorem dX11_digest_145 : decode cX11_digest 145 = .ok (.invokevirtual 260, 3) := by decide +kernel
theorem dX11_digest_148 : decode cX11_digest 148 = .ok (.invokestatic 278, 3) := by decide +kernel
theorem dX11_digest_151 : decode cX11_digest 151 = .ok (.invokevirtual 269, 3) := by decide +kernel
theorem dX11_digest_154 : decode cX11_digest 154 = .ok (.aload_n 0, 1) := by decide +kernel
theorem dX11_digest_155 : decode cX11_digest 155 = .ok (.aload_n 0, 1) := by decide +kernel
theorem dX11_digest_156 : decode cX11_digest 156 = .ok (.getfield 128, 3) := by decide +kernel
theorem dX11_digest_159 : decode cX11_digest 159 = .ok (.i2l, 1) := by decide +kernel
theorem dX11_digest_160 : decode cX11_digest 160 = .ok (.invokevirtual 269, 3) := by decide +kernel
theorem dX11_digest_163 : decode cX11_digest 163 = .ok (.iconst 0, 1) := by decide +kernel
theorem dX11_digest_164 : decode cX11_digest 164 = .ok (.istore_n 1, 1) := by decide +kernel
theorem dX11_digest_165 : decode cX11_digest 165 = .ok (.iload_n 1, 1) := by decide +kernel
theorem dX11_digest_166 : decode cX11_digest 166 = .ok (.aload_n 0, 1) := by decide +kernel
theorem dX11_digest_167 : decode cX11_digest 167 = .ok (.getfield 128, 3) := by decide +kernel
theorem dX11_digest_170 : decode cX11_digest 170 = .ok (.if_icmp .ge 20, 3) := by decide +kernel
theorem dX11_digest_173 : decode cX11_digest 173 = .ok (.aload_n 0, 1) := by decide +kernel
theorem dX11_digest_174 : decode cX11_digest 174 = .ok (.aload_n 0, 1) := by decide +kernel
theorem dX11_digest_175 : decode cX11_digest 175 = .ok (.getfield 24, 3) := by decide +kernel
theorem dX11_digest_178 : decode cX11_digest 178 = .ok (.iload_n 1, 1) := by decide +kernel
theorem dX11_digest_179 : decode cX11_digest 179 = .ok (.iaload, 1) := by decide +kernel
theorem dX11_digest_180 : decode cX11_digest 180 = .ok (.i2l, 1) := by decide +kernel
theorem dX11_digest_181 : decode cX11_digest 181 = .ok (.invokevirtual 269, 3) := by decide +kernel
theorem dX11_digest_184 : decode cX11_digest 184 = .ok (.iinc 1 1, 3) := by decide +kernel
theorem dX11_digest_187 : decode cX11_digest 187 = .ok (.goto (-22), 3) := by decide +kernel
theorem dX11_digest_190 : decode cX11_digest 190 = .ok (.aload_n 0, 1) := by decide +kernel
theorem dX11_digest_191 : decode cX11_digest 191 = .ok (.getfield 266, 3) := by decide +kernel
theorem dX11_digest_194 : decode cX11_digest 194 = .ok (.lreturn, 1) := by decide +kernel
theorem dJxe99ae_isNaN_b9ae7_0 : decode cJxe99ae_isNaN_b9ae7 0 = .ok (.dload_n 0, 1) := by decide +kernel
theorem dJxe99ae_isNaN_b9ae7_1 : decode cJxe99ae_isNaN_b9ae7 1 = .ok (.dload_n 0, 1) := by decide +kernel
theorem dJxe99ae_isNaN_b9ae7_2 : decode cJxe99ae_isNaN_b9ae7 2 = .ok (.dcmp .l, 1) := by decide +kernel
theorem dJxe99ae_isNaN_b9ae7_3 : decode cJxe99ae_isNaN_b9ae7 3 = .ok (.ifCond .eq 7, 3) := by decide +kernel
theorem dJxe99ae_isNaN_b9ae7_6 : decode cJxe99ae_isNaN_b9ae7 6 = .ok (.iconst 1, 1) := by decide +kernel
theorem dJxe99ae_isNaN_b9ae7_7 : decode cJxe99ae_isNaN_b9ae7 7 = .ok (.goto 4, 3) := by decide +kernel
theorem dJxe99ae_isNaN_b9ae7_10 : decode cJxe99ae_isNaN_b9ae7 10 = .ok (.iconst 0, 1) := by decide +kernel
theorem dJxe99ae_isNaN_b9ae7_11 : decode cJxe99ae_isNaN_b9ae7 11 = .ok (.ireturn, 1) := by decide +kernel
theorem dJxe99ae_doubleToLongBits_ccdee_0 : decode cJxe99ae_doubleToLongBits_ccdee 0 = .ok (.dload_n 0, 1) := by decide +kernel
theorem dJxe99ae_doubleToLongBits_ccdee_1 : decode cJxe99ae_doubleToLongBits_ccdee 1 = .ok (.invokestatic 122, 3) := by decide +kernel
theorem dJxe99ae_doubleToLongBits_ccdee_4 : decode cJxe99ae_doubleToLongBits_ccdee 4 = .ok (.ifCond .ne 8, 3) := by decide +kernel
theorem dJxe99ae_doubleToLongBits_ccdee_7 : decode cJxe99ae_doubleToLongBits_ccdee 7 = .ok (.dload_n 0, 1) := by decide +kernel
theorem dJxe99ae_doubleToLongBits_ccdee_8 : decode cJxe99ae_doubleToLongBits_ccdee 8 = .ok (.invokestatic 134, 3) := by decide +kernel
theorem dJxe99ae_doubleToLongBits_ccdee_11 : decode cJxe99ae_doubleToLongBits_ccdee 11 = .ok (.lreturn, 1) := by decide +kernel
theorem dJxe99ae_doubleToLongBits_ccdee_12 : decode cJxe99ae_doubleToLongBits_ccdee 12 = .ok (.ldc2_w 137, 3) := by decide +kernel
theorem dJxe99ae_doubleToLongBits_ccdee_15 : decode cJxe99ae_doubleToLongBits_ccdee 15 = .ok (.lreturn, 1) := by decide +kernel
theorem dJ9_abs_067f4_0 : decode cJ9_abs_067f4 0 = .ok (.lload_n 0, 1) := by decide +kernel
theorem dJ9_abs_067f4_1 : decode cJ9_abs_067f4 1 = .ok (.lconst 0, 1) := by decide +kernel
theorem dJ9_abs_067f4_2 : decode cJ9_abs_067f4 2 = .ok (.lcmp, 1) := by decide +kernel
theorem dJ9_abs_067f4_3 : decode cJ9_abs_067f4 3 = .ok (.ifCond .ge 8, 3) := by decide +kernel
theorem dJ9_abs_067f4_6 : decode cJ9_abs_067f4 6 = .ok (.lload_n 0, 1) := by decide +kernel
theorem dJ9_abs_067f4_7 : decode cJ9_abs_067f4 7 = .ok (.lneg, 1) := by decide +kernel
theorem dJ9_abs_067f4_8 : decode cJ9_abs_067f4 8 = .ok (.goto 4, 3) := by decide +kernel
theorem dJ9_abs_067f4_11 : decode cJ9_abs_067f4 11 = .ok (.lload_n 0, 1) := by decide +kernel
theorem dJ9_abs_067f4_12 : decode cJ9_abs_067f4 12 = .ok (.lreturn, 1) := by decide +kernel
